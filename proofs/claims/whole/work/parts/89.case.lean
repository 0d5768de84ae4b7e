/-! the law's loop: the cases -/
theorem i_sub_nn {x y : Int32} (h : ¬ x < y) (hy : ¬ y < (-40000)) (hx : x ≤ 1000) : ¬ x - y < 0 := by
  have e0 : (0 : Int32).toInt = 0 := by decide
  have e1 : (1000 : Int32).toInt = 1000 := by decide
  have e2 : (-40000 : Int32).toInt = -40000 := by decide
  rw [i_tl] at h hy ⊢
  rw [i_ti] at hx
  rw [e0, Int32.toInt_sub]
  rw [e1] at hx
  rw [e2] at hy
  rw [Int.bmod_eq_of_le (by omega) (by omega)]
  omega
section ZSg
variable {S : ZS9}
theorem sgaSign (h : SGA S) (p i : Int32) : SGA (fSign S p i).2.2 := sga3 (fun _ => h) (fun _ => sga3 (fun _ => h) (fun _ => h))
theorem sgaFigure (h : SGA S) (p : Int32) : SGA (fFigure S p).2.2 := sga3 (fun _ => h) (fun _ => sga3 (fun _ => h) (fun _ => h))
theorem sgaFar (h : SGA S) (p q : Int32) : SGA (fFar S p q).2.2 := sga3 (fun _ => h) (fun _ => h)
theorem sgaJudge (h : SGA S) {L : List ZCLS} (p a b c d : Int32) : SGA (fJudge S L p a b c d).2.2 := sga3 (fun _ => h) (fun _ => sga3 (fun _ => h) (fun _ => sga3 (fun _ => h) (fun _ => h)))
theorem sgaUnits (h : SGA S) (p i : Int32) : SGA (fUnits S p i).2.2 := sga3 (fun _ => h) (fun _ => h)
theorem sgaLed (h : SGA S) (p i : Int32) : SGA (fLed S p i).2.2 := sga3 (fun _ => h) (fun _ => h)
theorem sgaQueue (h : SGA S) (p : Int32) : SGA (fQueue S p).2.2 := sga3 (fun _ => h) (fun _ => h)
theorem sgaAhead (h : SGA S) (p : Int32) : SGA (fAhead S p).2.2 := sga3 (fun _ => h) (fun _ => sga3 (fun _ => h) (fun _ => h))
theorem sgaBooklet (h : SGA S) (p i : Int32) : SGA (fBooklet S p i).2.2 := sga3 (fun _ => h) (fun _ => sga3 (fun _ => h) (fun _ => h))
theorem sgaValid (h : SGA S) (p i : Int32) : SGA (fValid S p i).2.2 := sga3 (fun _ => h) (fun _ => h)
theorem sgaWaits (h : SGA S) (p i : Int32) : SGA (fWaits S p i).2.2 := sga3 (fun _ => h) (fun _ => sga3 (fun _ => h) (fun _ => h))
end ZSg
theorem SI.sb {S : ZS9} (h : SI S) : ∀ p, p < nP S → ¬ S 416 1 - S 1129 p < 0 := fun p hp => i_sub_nn (h.2.1 p hp) (h.1.2.2.2.1 p hp) h.2.2.2.1.2
theorem QL_code {S S' : ZS9} {fr : Int32} {r : Option Value} (h : QL S fr r S') (h0 : ¬ S' 416 0 = 0) : S' 416 0 = 1 ∨ S' 416 0 = 2 := by
  obtain ⟨y, -, q1, q2⟩ := h
  by_cases c : inn fr (S 416 1) 1000
  · have q2 := q2 c
    cases hR : zLaw (wtape S) (nTp S) with
    | inl e => rw [hR] at q2; exact Or.inl q2.1
    | inr L =>
      rw [hR] at q2
      by_cases c2 : nL S = 12
      · exact Or.inr (q2.1 c2).1
      · exact absurd (q2.2 c2).1 h0
  · exact Or.inl (q1 c).1
theorem fMissed_S {S : ZS9} {x n : Int32} : (fMissed S x n).2.2 = S := by
  by_cases c : ¬ (inn x 0 2 ∧ inn n 0 60)
  · unfold fMissed; rw [f3t c]
  · unfold fMissed; rw [f3f c]
section ZCases
variable {E : ZE} {l : Launch} {G : ZG} {m n1 m1 st L d b k c : Nat} {S : ZS9} {xv : Nat → Int32} {G0 : ZG} {Q : ZQ} {x4 : Int32}
theorem cs_feed (htr : l.stackTraces = false) (hd : 60 ≤ d) (hst : zst4 st) (hv : LV x4 L) (hT : LH E l d b G0 Q st L xv x4 c) (hI : LI0 st L xv G S m n1 m1) (hk : zbud (c + 1) m n1 m1 ≤ k) : zWL E l mL_law_ d b G0 Q k 188 [some (.ref (zp st 0)), some (.ref (zp 384 0)), some (.ref (zp 416 0)), some (.ref zout), some (.int x4), none, none] [] G := by
  have hP := hI.2.1
  have hR := hP.of.ri
  have hG := hI.2.2.1
  have hL := hP.si.1.2.1
  obtain ⟨hrd, hln, hxs⟩ := hI.2.2.2.vs
  unfold zbud at hk
  refine wpt_L_law__188 ?_; unfold wp_L_law__188
  rw [hln, hxs]
  refine ⟨Or.inr hrd, hv.2.1, Or.inr hrd, hv.2.2.1, Or.inr hrd, hv.2.2.2.1, Or.inr hrd, hv.2.2.2.2.1, Or.inr hrd, hv.2.2.2.2.2.1, hP.o.1, cCls (p_feed hP _ _ _ _ _) (ocx (P := fun x => x = 0) rfl rfl) (by omega) (by omega) (fun G2 hp => ?_)⟩
  have hA := hI.cls hst hp
  obtain ⟨hrd2, hln2, hxs2⟩ := hA.2.1.vs
  rw [hln2, hxs2]
  refine ⟨Or.inr hrd2, hv.2.1, Or.inr hrd2, hv.2.2.1, Or.inr hrd2, hv.2.2.2.1, Or.inr hrd2, hv.2.2.2.2.1, Or.inr hrd2, hv.2.2.2.2.2.1, hA.2.1.mo, cRef (r_feed hP.si.1.1.1 _ _ _ _ _) hA.2.1.1 hA.1 (by omega) (fun y S' h1 h2 h3 => ⟨fun _ => hT _ _ _ _ _ _ (hA.fin hst (fun Y h => h.sim h3) (SGA.sim (sgaFeed hG (xv (x4 + 1).toNatClampNeg) (xv (x4 + 2).toNatClampNeg) (xv (x4 + 3).toNatClampNeg) (xv (x4 + 4).toNatClampNeg) (xv (x4 + 5).toNatClampNeg)) h3)) (by unfold zbud; omega), fun c => absurd (h1 (ocx (P := fun x => x = 0) rfl rfl)).symm c⟩)⟩
theorem cs_end (htr : l.stackTraces = false) (hd : 60 ≤ d) (hst : zst4 st) (hv : LV x4 L) (hT : LH E l d b G0 Q st L xv x4 c) (hI : LI0 st L xv G S m n1 m1) (hk : zbud (c + 1) m n1 m1 ≤ k) : zWL E l mL_law_ d b G0 Q k 261 [some (.ref (zp st 0)), some (.ref (zp 384 0)), some (.ref (zp 416 0)), some (.ref zout), some (.int x4), none, none] [] G := by
  have hP := hI.2.1
  have hR := hP.of.ri
  have hG := hI.2.2.1
  have hL := hP.si.1.2.1
  obtain ⟨hrd, hln, hxs⟩ := hI.2.2.2.vs
  unfold zbud at hk
  refine wpt_L_law__261 ?_; unfold wp_L_law__261
  rw [hln, hxs]
  refine ⟨Or.inr hrd, hv.2.1, hP.o.1, cCls (p_end htr hP _) (ocx (P := fun x => x = 0) rfl rfl) (by omega) (by omega) (fun G2 hp => ?_)⟩
  have hA := hI.cls hst hp
  obtain ⟨hrd2, hln2, hxs2⟩ := hA.2.1.vs
  rw [hln2, hxs2]
  refine ⟨Or.inr hrd2, hv.2.1, hA.2.1.mo, cRef (r_end  _) hA.2.1.1 hA.1 (by omega) (fun y S' h1 h2 h3 => ⟨fun _ => hT _ _ _ _ _ _ (hA.fin hst (fun Y h => h.sim h3) (SGA.sim (sgaEnd hG (xv (x4 + 1).toNatClampNeg)) h3)) (by unfold zbud; omega), fun c => absurd (h1 (ocx (P := fun x => x = 0) rfl rfl)).symm c⟩)⟩
theorem cs_law (htr : l.stackTraces = false) (hd : 60 ≤ d) (hst : zst4 st) (hv : LV x4 L) (hT : LH E l d b G0 Q st L xv x4 c) (hI : LI0 st L xv G S m n1 m1) (hk : zbud (c + 1) m n1 m1 ≤ k) : zWL E l mL_law_ d b G0 Q k 286 [some (.ref (zp st 0)), some (.ref (zp 384 0)), some (.ref (zp 416 0)), some (.ref zout), some (.int x4), none, none] [] G := by
  have hP := hI.2.1
  have hR := hP.of.ri
  have hG := hI.2.2.1
  have hL := hP.si.1.2.1
  obtain ⟨hrd, hln, hxs⟩ := hI.2.2.2.vs
  unfold zbud at hk
  refine wpt_L_law__286 ?_; unfold wp_L_law__286
  rw [hln, hxs]
  refine ⟨Or.inr hrd, hv.2.1, cWl (st := st) (L := L) (xv := xv) (S := S) (P := fun S1 G' => PO G S1 m n1 m1 G') (fr := (xv (x4 + 1).toNatClampNeg)) (w_law (p_law htr hP _) hP.o.1 (fun r G2 h => ?_) (fun Y G2 h => ?_)) (by omega) (by omega) (fun x G2 hA0 hw => ?_)⟩
  · obtain ⟨hf, hr, h⟩ := h
    have hz := hI.1.fr hf zrr_CT
    have hc := hI.2.2.2.cls hst hf
    rcases hr with ⟨y, hr⟩ | hr | hr
    · cases hr
      refine ⟨y, rfl, hc.2.1.1, hc.2.1.2, 0, rfl, ⟨hz.fr (T := [2560]) (zfr.si (by rw [zp_mod (by omega)]; simp)) zrr_out, hc.out hst⟩, fun y' S' hq => ?_⟩
      obtain ⟨⟨h0, h1⟩ | ⟨h0, h1⟩, hp⟩ := h y' S' hq
      · cases h1
        exact ⟨by rw [h0], Or.inr ⟨h0, G2, hp, rfl⟩⟩
      · cases h1
    · cases hr
    · cases hr
  · obtain ⟨hf, hr, h⟩ := h
    have hz := hI.1.fr hf zrr_CT
    have hc := hI.2.2.2.cls hst hf
    rcases hr with ⟨y, hr⟩ | hr | hr
    · cases hr
    · cases hr
      refine Or.inl ⟨rfl, 1, rfl, ⟨hz, hc⟩, fun y' S' hq => ?_⟩
      obtain ⟨⟨h0, h1⟩ | ⟨h0, h1⟩, hp⟩ := h y' S' hq
      · cases h1
      · rcases QL_code hq h0 with e | e
        · exact ⟨by rw [e], Or.inl ⟨h0, hp⟩⟩
        · rw [e] at h1; exact absurd (Sum.inr.inj h1) (by decide)
    · cases hr
      refine Or.inr ⟨rfl, 2, rfl, ⟨hz, hc⟩, fun y' S' hq => ?_⟩
      obtain ⟨⟨h0, h1⟩ | ⟨h0, h1⟩, hp⟩ := h y' S' hq
      · cases h1
      · rcases QL_code hq h0 with e | e
        · rw [e] at h1; exact absurd (Sum.inr.inj h1) (by decide)
        · exact ⟨by rw [e], Or.inl ⟨h0, hp⟩⟩
  have hc := hA0.2
  obtain ⟨hrd2, hln2, hxs2⟩ := hc.vs
  rw [hln2, hxs2]
  refine ⟨Or.inr hrd2, hv.2.1, hc.mo, cRefL (r_law hP.si.1.1 hL _) hc.1 hA0.1 (by omega) (fun y S' hq => ?_)⟩
  have hw1 := hw y S' hq
  have hx := hw1.1
  cases hx
  obtain ⟨hA, ho⟩ := wLA hst hI hw1
  exact aftY (o := (S' 416 0, y, S')) hc.1 hd rfl ho hc.2.1 (hT _ _ _ _ _ _ (hA.fin hst (fun Y h => h) (sgaLaw hG hq)) (by unfold zbud; omega))
theorem cs_fault (htr : l.stackTraces = false) (hd : 60 ≤ d) (hst : zst4 st) (hv : LV x4 L) (hT : LH E l d b G0 Q st L xv x4 c) (hI : LI0 st L xv G S m n1 m1) (hk : zbud (c + 1) m n1 m1 ≤ k) : zWL E l mL_law_ d b G0 Q k 342 [some (.ref (zp st 0)), some (.ref (zp 384 0)), some (.ref (zp 416 0)), some (.ref zout), some (.int x4), none, none] [] G := by
  have hP := hI.2.1
  have hR := hP.of.ri
  have hG := hI.2.2.1
  have hL := hP.si.1.2.1
  obtain ⟨hrd, hln, hxs⟩ := hI.2.2.2.vs
  unfold zbud at hk
  refine wpt_L_law__342 ?_; unfold wp_L_law__342
  refine ⟨hP.o.1, cCls (p_fault htr hP) rfl (by omega) (by omega) (fun G2 hp => ?_)⟩
  have hA := hI.cls hst hp
  obtain ⟨hrd2, hln2, hxs2⟩ := hA.2.1.vs
  refine ⟨hA.2.1.mo, cRef r_fault hA.2.1.1 hA.1 (by omega) (fun y S' h1 h2 h3 => ⟨fun _ => hT _ _ _ _ _ _ (hA.fin hst (fun Y h => h.sim h3) (SGA.sim hG h3)) (by unfold zbud; omega), fun c => absurd (h1 rfl).symm c⟩)⟩
theorem cs_person (htr : l.stackTraces = false) (hd : 60 ≤ d) (hst : zst4 st) (hv : LV x4 L) (hT : LH E l d b G0 Q st L xv x4 c) (hI : LI0 st L xv G S m n1 m1) (hk : zbud (c + 1) m n1 m1 ≤ k) : zWL E l mL_law_ d b G0 Q k 355 [some (.ref (zp st 0)), some (.ref (zp 384 0)), some (.ref (zp 416 0)), some (.ref zout), some (.int x4), none, none] [] G := by
  have hP := hI.2.1
  have hR := hP.of.ri
  have hG := hI.2.2.1
  have hL := hP.si.1.2.1
  obtain ⟨hrd, hln, hxs⟩ := hI.2.2.2.vs
  unfold zbud at hk
  have e1 : ∀ bv : Int32, (((xv (x4 + 2).toNatClampNeg) = 0 ∧ bv = 0) ∨ (¬ (xv (x4 + 2).toNatClampNeg) = 0 ∧ bv = 1)) → zWL E l mL_law_ d b G0 Q k 376 [some (.ref (zp st 0)), some (.ref (zp 384 0)), some (.ref (zp 416 0)), some (.ref zout), some (.int x4), none, none] [.int bv, .int (xv (x4 + 1).toNatClampNeg), .ref (zp 384 0)] G := by
    intro bv hbv
    have hbb : bv = 0 ∨ bv = 1 := hbv.imp And.right And.right
    refine wpt_L_law__376 ?_; unfold wp_L_law__376
    rw [hln, hxs]
    refine ⟨Or.inr hrd, hv.2.2.2.1, Or.inr hrd, hv.2.2.2.2.1, Or.inr hrd, hv.2.2.2.2.2.1, Or.inr hrd, hv.2.2.2.2.2.2.1, Or.inr hrd, hv.2.2.2.2.2.2.2, cWr (o := (fPerson S (xv (x4 + 1).toNatClampNeg) bv (xv (x4 + 3).toNatClampNeg) (xv (x4 + 4).toNatClampNeg) (xv (x4 + 5).toNatClampNeg) (xv (x4 + 6).toNatClampNeg) (xv (x4 + 7).toNatClampNeg))) (P := fun S1 G' => PO G S1 m n1 m1 G') (w_person (p_person htr hP _ _ _ _ _ _ _ hbb) hP.o.1 (fun r G2 h => exy (pOut hI) h) (fun Y G2 h => ex2 ocPerson h)) (by omega) (by omega) (fun G2 hw => ?_)⟩
    obtain ⟨hA, ho⟩ := wLA hst hI hw
    obtain ⟨hrd2, hln2, hxs2⟩ := hA.2.1.vs
    have e2 : zWL E l mL_law_ d b G0 Q (k - 280) 435 [some (.ref (zp st 0)), some (.ref (zp 384 0)), some (.ref (zp 416 0)), some (.ref zout), some (.int x4), some (.int (fPerson S (xv (x4 + 1).toNatClampNeg) bv (xv (x4 + 3).toNatClampNeg) (xv (x4 + 4).toNatClampNeg) (xv (x4 + 5).toNatClampNeg) (xv (x4 + 6).toNatClampNeg) (xv (x4 + 7).toNatClampNeg)).1), none] [.int bv, .int (xv (x4 + 1).toNatClampNeg), .ref (zp 416 0)] G2 := by
      refine wpt_L_law__435 ?_; unfold wp_L_law__435
      rw [hln2, hxs2]
      refine ⟨Or.inr hrd2, hv.2.2.2.1, Or.inr hrd2, hv.2.2.2.2.1, Or.inr hrd2, hv.2.2.2.2.2.1, Or.inr hrd2, hv.2.2.2.2.2.2.1, Or.inr hrd2, hv.2.2.2.2.2.2.2, hA.2.1.mo, cRef (r_person hR _ _ _ _ _ _ _ hbb) hA.2.1.1 hA.1 (by omega) (fun y S' h1 h2 h3 => ?_)⟩
      exact aftY hA.2.1.1 hd h2 (fun z => (ho z).trans (h1 z).symm) hA.2.1.2.1 (hT _ _ _ _ _ _ (hA.fin hst (fun Y h => h.sim h3) (SGA.sim (sgaPerson hG (xv (x4 + 1).toNatClampNeg) bv (xv (x4 + 3).toNatClampNeg) (xv (x4 + 4).toNatClampNeg) (xv (x4 + 5).toNatClampNeg) (xv (x4 + 6).toNatClampNeg) (xv (x4 + 7).toNatClampNeg)) h3)) (by unfold zbud; omega))
    rw [hln2, hxs2]
    refine ⟨Or.inr hrd2, hv.2.1, Or.inr hrd2, hv.2.2.1, fun c => ?_, fun c => ?_⟩
    · have hb0 : bv = 0 := hbv.elim And.right (fun z => absurd c z.1)
      rw [hb0] at e2 ⊢; exact e2
    · have hb1 : bv = 1 := hbv.elim (fun z => absurd z.1 c) And.right
      rw [hb1] at e2 ⊢; exact e2
  refine wpt_L_law__355 ?_; unfold wp_L_law__355
  rw [hln, hxs]
  exact ⟨Or.inr hrd, hv.2.1, Or.inr hrd, hv.2.2.1, fun c => e1 0 (Or.inl ⟨c, rfl⟩), fun c => e1 1 (Or.inr ⟨c, rfl⟩)⟩
theorem cs_name (htr : l.stackTraces = false) (hd : 60 ≤ d) (hst : zst4 st) (hv : LV x4 L) (hT : LH E l d b G0 Q st L xv x4 c) (hI : LI0 st L xv G S m n1 m1) (hk : zbud (c + 1) m n1 m1 ≤ k) : zWL E l mL_law_ d b G0 Q k 503 [some (.ref (zp st 0)), some (.ref (zp 384 0)), some (.ref (zp 416 0)), some (.ref zout), some (.int x4), none, none] [] G := by
  have hP := hI.2.1
  have hR := hP.of.ri
  have hG := hI.2.2.1
  have hL := hP.si.1.2.1
  obtain ⟨hrd, hln, hxs⟩ := hI.2.2.2.vs
  unfold zbud at hk
  refine wpt_L_law__503 ?_; unfold wp_L_law__503
  rw [hln, hxs]
  refine ⟨Or.inr hrd, hv.2.1, cWr (o := (fName S (xv (x4 + 1).toNatClampNeg))) (P := fun S1 G' => PO G S1 m n1 m1 G') (w_name (p_name htr hP _) hP.o.1 (fun r G2 h => exy (pOut hI) h) (fun Y G2 h => ex2 ocName h)) (by omega) (by omega) (fun G2 hw => ?_)⟩
  obtain ⟨hA, ho⟩ := wLA hst hI hw
  obtain ⟨hrd2, hln2, hxs2⟩ := hA.2.1.vs
  rw [hln2, hxs2]
  refine ⟨Or.inr hrd2, hv.2.1, hA.2.1.mo, cRef (r_name hR hP.si.1.1.1 _) hA.2.1.1 hA.1 (by omega) (fun y S' h1 h2 h3 => ?_)⟩
  exact aftY hA.2.1.1 hd h2 (fun z => (ho z).trans (h1 z).symm) hA.2.1.2.1 (hT _ _ _ _ _ _ (hA.fin hst (fun Y h => h.sim h3) (SGA.sim (sgaName hG (xv (x4 + 1).toNatClampNeg)) h3)) (by unfold zbud; omega))
theorem cs_sign (htr : l.stackTraces = false) (hd : 60 ≤ d) (hst : zst4 st) (hv : LV x4 L) (hT : LH E l d b G0 Q st L xv x4 c) (hI : LI0 st L xv G S m n1 m1) (hk : zbud (c + 1) m n1 m1 ≤ k) : zWL E l mL_law_ d b G0 Q k 559 [some (.ref (zp st 0)), some (.ref (zp 384 0)), some (.ref (zp 416 0)), some (.ref zout), some (.int x4), none, none] [] G := by
  have hP := hI.2.1
  have hR := hP.of.ri
  have hG := hI.2.2.1
  have hL := hP.si.1.2.1
  obtain ⟨hrd, hln, hxs⟩ := hI.2.2.2.vs
  unfold zbud at hk
  refine wpt_L_law__559 ?_; unfold wp_L_law__559
  rw [hln, hxs]
  refine ⟨Or.inr hrd, hv.2.1, Or.inr hrd, hv.2.2.1, cWr (o := (fSign S (xv (x4 + 1).toNatClampNeg) (xv (x4 + 2).toNatClampNeg))) (P := fun S1 G' => PO G S1 m n1 m1 G') (w_sign (p_sign htr hP _ _) hP.o.1 (fun r G2 h => exy (pOut hI) h) (fun Y G2 h => ex1 ocSign h)) (by omega) (by omega) (fun G2 hw => ?_)⟩
  obtain ⟨hA, ho⟩ := wLA hst hI hw
  obtain ⟨hrd2, hln2, hxs2⟩ := hA.2.1.vs
  rw [hln2, hxs2]
  refine ⟨Or.inr hrd2, hv.2.1, Or.inr hrd2, hv.2.2.1, hA.2.1.mo, cRef (r_sign hR _ _) hA.2.1.1 hA.1 (by omega) (fun y S' h1 h2 h3 => ?_)⟩
  exact aftY hA.2.1.1 hd h2 (fun z => (ho z).trans (h1 z).symm) hA.2.1.2.1 (hT _ _ _ _ _ _ (hA.fin hst (fun Y h => h.sim h3) (SGA.sim (sgaSign hG (xv (x4 + 1).toNatClampNeg) (xv (x4 + 2).toNatClampNeg)) h3)) (by unfold zbud; omega))
theorem cs_figure (htr : l.stackTraces = false) (hd : 60 ≤ d) (hst : zst4 st) (hv : LV x4 L) (hT : LH E l d b G0 Q st L xv x4 c) (hI : LI0 st L xv G S m n1 m1) (hk : zbud (c + 1) m n1 m1 ≤ k) : zWL E l mL_law_ d b G0 Q k 627 [some (.ref (zp st 0)), some (.ref (zp 384 0)), some (.ref (zp 416 0)), some (.ref zout), some (.int x4), none, none] [] G := by
  have hP := hI.2.1
  have hR := hP.of.ri
  have hG := hI.2.2.1
  have hL := hP.si.1.2.1
  obtain ⟨hrd, hln, hxs⟩ := hI.2.2.2.vs
  unfold zbud at hk
  refine wpt_L_law__627 ?_; unfold wp_L_law__627
  rw [hln, hxs]
  refine ⟨Or.inr hrd, hv.2.1, cWr (o := (fFigure S (xv (x4 + 1).toNatClampNeg))) (P := fun S1 G' => PO G S1 m n1 m1 G') (w_figure (p_figure htr hP _) hP.o.1 (fun r G2 h => exy (pOut hI) h) (fun Y G2 h => ex1 ocFigure h)) (by omega) (by omega) (fun G2 hw => ?_)⟩
  obtain ⟨hA, ho⟩ := wLA hst hI hw
  obtain ⟨hrd2, hln2, hxs2⟩ := hA.2.1.vs
  rw [hln2, hxs2]
  refine ⟨Or.inr hrd2, hv.2.1, hA.2.1.mo, cRef (r_figure hR _) hA.2.1.1 hA.1 (by omega) (fun y S' h1 h2 h3 => ?_)⟩
  exact aftY hA.2.1.1 hd h2 (fun z => (ho z).trans (h1 z).symm) hA.2.1.2.1 (hT _ _ _ _ _ _ (hA.fin hst (fun Y h => h.sim h3) (SGA.sim (sgaFigure hG (xv (x4 + 1).toNatClampNeg)) h3)) (by unfold zbud; omega))
theorem cs_far (htr : l.stackTraces = false) (hd : 60 ≤ d) (hst : zst4 st) (hv : LV x4 L) (hT : LH E l d b G0 Q st L xv x4 c) (hI : LI0 st L xv G S m n1 m1) (hk : zbud (c + 1) m n1 m1 ≤ k) : zWL E l mL_law_ d b G0 Q k 683 [some (.ref (zp st 0)), some (.ref (zp 384 0)), some (.ref (zp 416 0)), some (.ref zout), some (.int x4), none, none] [] G := by
  have hP := hI.2.1
  have hR := hP.of.ri
  have hG := hI.2.2.1
  have hL := hP.si.1.2.1
  obtain ⟨hrd, hln, hxs⟩ := hI.2.2.2.vs
  unfold zbud at hk
  refine wpt_L_law__683 ?_; unfold wp_L_law__683
  rw [hln, hxs]
  refine ⟨Or.inr hrd, hv.2.1, Or.inr hrd, hv.2.2.1, cWr (o := (fFar S (xv (x4 + 1).toNatClampNeg) (xv (x4 + 2).toNatClampNeg))) (P := fun S1 G' => PO G S1 m n1 m1 G') (w_far (p_far htr hP _ _) hP.o.1 (fun r G2 h => exy (pOut hI) h) (fun Y G2 h => ex1 ocFar h)) (by omega) (by omega) (fun G2 hw => ?_)⟩
  obtain ⟨hA, ho⟩ := wLA hst hI hw
  obtain ⟨hrd2, hln2, hxs2⟩ := hA.2.1.vs
  rw [hln2, hxs2]
  refine ⟨Or.inr hrd2, hv.2.1, Or.inr hrd2, hv.2.2.1, hA.2.1.mo, cRef (r_far hR _ _) hA.2.1.1 hA.1 (by omega) (fun y S' h1 h2 h3 => ?_)⟩
  exact aftY hA.2.1.1 hd h2 (fun z => (ho z).trans (h1 z).symm) hA.2.1.2.1 (hT _ _ _ _ _ _ (hA.fin hst (fun Y h => h.sim h3) (SGA.sim (sgaFar hG (xv (x4 + 1).toNatClampNeg) (xv (x4 + 2).toNatClampNeg)) h3)) (by unfold zbud; omega))
theorem cs_tell (htr : l.stackTraces = false) (hd : 60 ≤ d) (hst : zst4 st) (hv : LV x4 L) (hT : LH E l d b G0 Q st L xv x4 c) (hI : LI0 st L xv G S m n1 m1) (hk : zbud (c + 1) m n1 m1 ≤ k) : zWL E l mL_law_ d b G0 Q k 751 [some (.ref (zp st 0)), some (.ref (zp 384 0)), some (.ref (zp 416 0)), some (.ref zout), some (.int x4), none, none] [] G := by
  have hP := hI.2.1
  have hR := hP.of.ri
  have hG := hI.2.2.1
  have hL := hP.si.1.2.1
  obtain ⟨hrd, hln, hxs⟩ := hI.2.2.2.vs
  unfold zbud at hk
  have e1 : ∀ bv : Int32, (((xv (x4 + 3).toNatClampNeg) = 0 ∧ bv = 0) ∨ (¬ (xv (x4 + 3).toNatClampNeg) = 0 ∧ bv = 1)) → zWL E l mL_law_ d b G0 Q k 778 [some (.ref (zp st 0)), some (.ref (zp 384 0)), some (.ref (zp 416 0)), some (.ref zout), some (.int x4), none, none] [.int bv, .int (xv (x4 + 2).toNatClampNeg), .int (xv (x4 + 1).toNatClampNeg), .ref (zp 384 0)] G := by
    intro bv hbv
    have hbb : bv = 0 ∨ bv = 1 := hbv.imp And.right And.right
    refine wpt_L_law__778 ?_; unfold wp_L_law__778
    refine cWr (o := (fTell S (xv (x4 + 1).toNatClampNeg) (xv (x4 + 2).toNatClampNeg) bv)) (P := fun S1 G' => PO G S1 m n1 m1 G') (w_tell (p_tell htr hP _ _ _) hP.o.1 (fun r G2 h => exy (pOut hI) h) (fun Y G2 h => ex2 ocTell h)) (by omega) (by omega) (fun G2 hw => ?_)
    obtain ⟨hA, ho⟩ := wLA hst hI hw
    obtain ⟨hrd2, hln2, hxs2⟩ := hA.2.1.vs
    have e2 : zWL E l mL_law_ d b G0 Q (k - 7) 811 [some (.ref (zp st 0)), some (.ref (zp 384 0)), some (.ref (zp 416 0)), some (.ref zout), some (.int x4), some (.int (fTell S (xv (x4 + 1).toNatClampNeg) (xv (x4 + 2).toNatClampNeg) bv).1), none] [.int bv, .int (xv (x4 + 2).toNatClampNeg), .int (xv (x4 + 1).toNatClampNeg), .ref (zp 416 0)] G2 := by
      refine wpt_L_law__811 ?_; unfold wp_L_law__811
      refine ⟨hA.2.1.mo, cRef (r_tell hR _ _ _) hA.2.1.1 hA.1 (by omega) (fun y S' h1 h2 h3 => ?_)⟩
      exact aftY hA.2.1.1 hd h2 (fun z => (ho z).trans (h1 z).symm) hA.2.1.2.1 (hT _ _ _ _ _ _ (hA.fin hst (fun Y h => h.sim h3) (SGA.sim (sgaTell hG (xv (x4 + 1).toNatClampNeg) (xv (x4 + 2).toNatClampNeg) bv) h3)) (by unfold zbud; omega))
    rw [hln2, hxs2]
    refine ⟨Or.inr hrd2, hv.2.1, Or.inr hrd2, hv.2.2.1, Or.inr hrd2, hv.2.2.2.1, fun c => ?_, fun c => ?_⟩
    · have hb0 : bv = 0 := hbv.elim And.right (fun z => absurd c z.1)
      rw [hb0] at e2 ⊢; exact e2
    · have hb1 : bv = 1 := hbv.elim (fun z => absurd z.1 c) And.right
      rw [hb1] at e2 ⊢; exact e2
  refine wpt_L_law__751 ?_; unfold wp_L_law__751
  rw [hln, hxs]
  exact ⟨Or.inr hrd, hv.2.1, Or.inr hrd, hv.2.2.1, Or.inr hrd, hv.2.2.2.1, fun c => e1 0 (Or.inl ⟨c, rfl⟩), fun c => e1 1 (Or.inr ⟨c, rfl⟩)⟩
theorem cs_judge (htr : l.stackTraces = false) (hd : 60 ≤ d) (hst : zst4 st) (hv : LV x4 L) (hT : LH E l d b G0 Q st L xv x4 c) (hI : LI0 st L xv G S m n1 m1) (hk : zbud (c + 1) m n1 m1 ≤ k) : zWL E l mL_law_ d b G0 Q k 847 [some (.ref (zp st 0)), some (.ref (zp 384 0)), some (.ref (zp 416 0)), some (.ref zout), some (.int x4), none, none] [] G := by
  have hP := hI.2.1
  have hR := hP.of.ri
  have hG := hI.2.2.1
  have hL := hP.si.1.2.1
  obtain ⟨hrd, hln, hxs⟩ := hI.2.2.2.vs
  unfold zbud at hk
  have hsb := hP.si.sb
  obtain ⟨Lw, hLW, hjd⟩ := p_judge htr hP
  have e1 : ∀ bv : Int32, (((xv (x4 + 4).toNatClampNeg) = 0 ∧ bv = 0) ∨ (¬ (xv (x4 + 4).toNatClampNeg) = 0 ∧ bv = 1)) → zWL E l mL_law_ d b G0 Q k 880 [some (.ref (zp st 0)), some (.ref (zp 384 0)), some (.ref (zp 416 0)), some (.ref zout), some (.int x4), none, none] [.int bv, .int (xv (x4 + 3).toNatClampNeg), .int (xv (x4 + 2).toNatClampNeg), .int (xv (x4 + 1).toNatClampNeg), .ref (zp 384 0)] G := by
    intro bv hbv
    have hbb : bv = 0 ∨ bv = 1 := hbv.imp And.right And.right
    refine wpt_L_law__880 ?_; unfold wp_L_law__880
    rw [hln, hxs]
    refine ⟨Or.inr hrd, hv.2.2.2.2.2.1, cWr (o := (fJudge S Lw (xv (x4 + 1).toNatClampNeg) (xv (x4 + 2).toNatClampNeg) (xv (x4 + 3).toNatClampNeg) bv (xv (x4 + 5).toNatClampNeg))) (P := fun S1 G' => PO G S1 m n1 m1 G') (w_judge (hjd E _ _ _ _ _) hP.o.1 (fun r G2 h => exy (pOut hI) h) (fun Y G2 h => ex3 ocJudge h)) (by omega) (by omega) (fun G2 hw => ?_)⟩
    obtain ⟨hA, ho⟩ := wLA hst hI hw
    obtain ⟨hrd2, hln2, hxs2⟩ := hA.2.1.vs
    have e2 : zWL E l mL_law_ d b G0 Q (k - 24) 925 [some (.ref (zp st 0)), some (.ref (zp 384 0)), some (.ref (zp 416 0)), some (.ref zout), some (.int x4), some (.int (fJudge S Lw (xv (x4 + 1).toNatClampNeg) (xv (x4 + 2).toNatClampNeg) (xv (x4 + 3).toNatClampNeg) bv (xv (x4 + 5).toNatClampNeg)).1), none] [.int bv, .int (xv (x4 + 3).toNatClampNeg), .int (xv (x4 + 2).toNatClampNeg), .int (xv (x4 + 1).toNatClampNeg), .ref (zp 416 0)] G2 := by
      refine wpt_L_law__925 ?_; unfold wp_L_law__925
      rw [hln2, hxs2]
      refine ⟨Or.inr hrd2, hv.2.2.2.2.2.1, hA.2.1.mo, cRef (r_judge hR hL hsb hLW _ _ _ _ _) hA.2.1.1 hA.1 (by omega) (fun y S' h1 h2 h3 => ?_)⟩
      exact aftY hA.2.1.1 hd h2 (fun z => (ho z).trans (h1 z).symm) hA.2.1.2.1 (hT _ _ _ _ _ _ (hA.fin hst (fun Y h => h.sim h3) (SGA.sim (sgaJudge hG (xv (x4 + 1).toNatClampNeg) (xv (x4 + 2).toNatClampNeg) (xv (x4 + 3).toNatClampNeg) bv (xv (x4 + 5).toNatClampNeg)) h3)) (by unfold zbud; omega))
    rw [hln2, hxs2]
    refine ⟨Or.inr hrd2, hv.2.1, Or.inr hrd2, hv.2.2.1, Or.inr hrd2, hv.2.2.2.1, Or.inr hrd2, hv.2.2.2.2.1, fun c => ?_, fun c => ?_⟩
    · have hb0 : bv = 0 := hbv.elim And.right (fun z => absurd c z.1)
      rw [hb0] at e2 ⊢; exact e2
    · have hb1 : bv = 1 := hbv.elim (fun z => absurd z.1 c) And.right
      rw [hb1] at e2 ⊢; exact e2
  refine wpt_L_law__847 ?_; unfold wp_L_law__847
  rw [hln, hxs]
  exact ⟨Or.inr hrd, hv.2.1, Or.inr hrd, hv.2.2.1, Or.inr hrd, hv.2.2.2.1, Or.inr hrd, hv.2.2.2.2.1, fun c => e1 0 (Or.inl ⟨c, rfl⟩), fun c => e1 1 (Or.inr ⟨c, rfl⟩)⟩
theorem cs_ask (htr : l.stackTraces = false) (hd : 60 ≤ d) (hst : zst4 st) (hv : LV x4 L) (hT : LH E l d b G0 Q st L xv x4 c) (hI : LI0 st L xv G S m n1 m1) (hk : zbud (c + 1) m n1 m1 ≤ k) : zWL E l mL_law_ d b G0 Q k 967 [some (.ref (zp st 0)), some (.ref (zp 384 0)), some (.ref (zp 416 0)), some (.ref zout), some (.int x4), none, none] [] G := by
  have hP := hI.2.1
  have hR := hP.of.ri
  have hG := hI.2.2.1
  have hL := hP.si.1.2.1
  obtain ⟨hrd, hln, hxs⟩ := hI.2.2.2.vs
  unfold zbud at hk
  have hsb := hP.si.sb
  obtain ⟨Lw, hLW, hjd⟩ := p_ask htr hP
  have e1 : ∀ bv : Int32, (((xv (x4 + 5).toNatClampNeg) = 0 ∧ bv = 0) ∨ (¬ (xv (x4 + 5).toNatClampNeg) = 0 ∧ bv = 1)) → zWL E l mL_law_ d b G0 Q k 1006 [some (.ref (zp st 0)), some (.ref (zp 384 0)), some (.ref (zp 416 0)), some (.ref zout), some (.int x4), none, none] [.int bv, .int (xv (x4 + 4).toNatClampNeg), .int (xv (x4 + 3).toNatClampNeg), .int (xv (x4 + 2).toNatClampNeg), .int (xv (x4 + 1).toNatClampNeg), .ref (zp 384 0)] G := by
    intro bv hbv
    have hbb : bv = 0 ∨ bv = 1 := hbv.imp And.right And.right
    refine wpt_L_law__1006 ?_; unfold wp_L_law__1006
    refine cWr (o := (fAsk S Lw (xv (x4 + 1).toNatClampNeg) (xv (x4 + 2).toNatClampNeg) (xv (x4 + 3).toNatClampNeg) (xv (x4 + 4).toNatClampNeg) bv)) (P := fun S1 G' => PO G S1 m n1 m1 G') (w_ask (hjd E _ _ _ _ _ hbb) hP.o.1 (fun r G2 h => exy (pOut hI) h) (fun Y G2 h => ex3 ocAsk h)) (by omega) (by omega) (fun G2 hw => ?_)
    obtain ⟨hA, ho⟩ := wLA hst hI hw
    obtain ⟨hrd2, hln2, hxs2⟩ := hA.2.1.vs
    have e2 : zWL E l mL_law_ d b G0 Q (k - 300) 1051 [some (.ref (zp st 0)), some (.ref (zp 384 0)), some (.ref (zp 416 0)), some (.ref zout), some (.int x4), some (.int (fAsk S Lw (xv (x4 + 1).toNatClampNeg) (xv (x4 + 2).toNatClampNeg) (xv (x4 + 3).toNatClampNeg) (xv (x4 + 4).toNatClampNeg) bv).1), none] [.int bv, .int (xv (x4 + 4).toNatClampNeg), .int (xv (x4 + 3).toNatClampNeg), .int (xv (x4 + 2).toNatClampNeg), .int (xv (x4 + 1).toNatClampNeg), .ref (zp 416 0)] G2 := by
      refine wpt_L_law__1051 ?_; unfold wp_L_law__1051
      refine ⟨hA.2.1.mo, cRef (r_ask hR hL hsb hLW _ _ _ _ _ hbb) hA.2.1.1 hA.1 (by omega) (fun y S' h1 h2 h3 => ?_)⟩
      exact aftY hA.2.1.1 hd h2 (fun z => (ho z).trans (h1 z).symm) hA.2.1.2.1 (hT _ _ _ _ _ _ (hA.fin hst (fun Y h => h.sim h3) (SGA.sim (sgaAsk hG hP.si.2.2.2.1 hR.1 (xv (x4 + 1).toNatClampNeg) (xv (x4 + 2).toNatClampNeg) (xv (x4 + 3).toNatClampNeg) (xv (x4 + 4).toNatClampNeg) bv) h3)) (by unfold zbud; omega))
    rw [hln2, hxs2]
    refine ⟨Or.inr hrd2, hv.2.1, Or.inr hrd2, hv.2.2.1, Or.inr hrd2, hv.2.2.2.1, Or.inr hrd2, hv.2.2.2.2.1, Or.inr hrd2, hv.2.2.2.2.2.1, fun c => ?_, fun c => ?_⟩
    · have hb0 : bv = 0 := hbv.elim And.right (fun z => absurd c z.1)
      rw [hb0] at e2 ⊢; exact e2
    · have hb1 : bv = 1 := hbv.elim (fun z => absurd z.1 c) And.right
      rw [hb1] at e2 ⊢; exact e2
  refine wpt_L_law__967 ?_; unfold wp_L_law__967
  rw [hln, hxs]
  exact ⟨Or.inr hrd, hv.2.1, Or.inr hrd, hv.2.2.1, Or.inr hrd, hv.2.2.2.1, Or.inr hrd, hv.2.2.2.2.1, Or.inr hrd, hv.2.2.2.2.2.1, fun c => e1 0 (Or.inl ⟨c, rfl⟩), fun c => e1 1 (Or.inr ⟨c, rfl⟩)⟩
theorem cs_give (htr : l.stackTraces = false) (hd : 60 ≤ d) (hst : zst4 st) (hv : LV x4 L) (hT : LH E l d b G0 Q st L xv x4 c) (hI : LI0 st L xv G S m n1 m1) (hk : zbud (c + 1) m n1 m1 ≤ k) : zWL E l mL_law_ d b G0 Q k 1087 [some (.ref (zp st 0)), some (.ref (zp 384 0)), some (.ref (zp 416 0)), some (.ref zout), some (.int x4), none, none] [] G := by
  have hP := hI.2.1
  have hR := hP.of.ri
  have hG := hI.2.2.1
  have hL := hP.si.1.2.1
  obtain ⟨hrd, hln, hxs⟩ := hI.2.2.2.vs
  unfold zbud at hk
  refine wpt_L_law__1087 ?_; unfold wp_L_law__1087
  rw [hln, hxs]
  refine ⟨Or.inr hrd, hv.2.1, Or.inr hrd, hv.2.2.1, cWr (o := (fGive S (xv (x4 + 1).toNatClampNeg) (xv (x4 + 2).toNatClampNeg))) (P := fun S1 G' => PO G S1 m n1 m1 G') (w_give (p_give htr hP _ _) hP.o.1 (fun r G2 h => exy (pOut hI) h) (fun Y G2 h => ex3 ocGive h)) (by omega) (by omega) (fun G2 hw => ?_)⟩
  obtain ⟨hA, ho⟩ := wLA hst hI hw
  obtain ⟨hrd2, hln2, hxs2⟩ := hA.2.1.vs
  rw [hln2, hxs2]
  refine ⟨Or.inr hrd2, hv.2.1, Or.inr hrd2, hv.2.2.1, hA.2.1.mo, cRef (r_give hR _ _) hA.2.1.1 hA.1 (by omega) (fun y S' h1 h2 h3 => ?_)⟩
  exact aftY hA.2.1.1 hd h2 (fun z => (ho z).trans (h1 z).symm) hA.2.1.2.1 (hT _ _ _ _ _ _ (hA.fin hst (fun Y h => h.sim h3) (SGA.sim (sgaGive hG (xv (x4 + 1).toNatClampNeg) (xv (x4 + 2).toNatClampNeg)) h3)) (by unfold zbud; omega))
theorem cs_hands (htr : l.stackTraces = false) (hd : 60 ≤ d) (hst : zst4 st) (hv : LV x4 L) (hT : LH E l d b G0 Q st L xv x4 c) (hI : LI0 st L xv G S m n1 m1) (hk : zbud (c + 1) m n1 m1 ≤ k) : zWL E l mL_law_ d b G0 Q k 1155 [some (.ref (zp st 0)), some (.ref (zp 384 0)), some (.ref (zp 416 0)), some (.ref zout), some (.int x4), none, none] [] G := by
  have hP := hI.2.1
  have hR := hP.of.ri
  have hG := hI.2.2.1
  have hL := hP.si.1.2.1
  obtain ⟨hrd, hln, hxs⟩ := hI.2.2.2.vs
  unfold zbud at hk
  refine wpt_L_law__1155 ?_; unfold wp_L_law__1155
  rw [hln, hxs]
  refine ⟨Or.inr hrd, hv.2.1, Or.inr hrd, hv.2.2.1, cWn (o := (fHands S (xv (x4 + 1).toNatClampNeg) (xv (x4 + 2).toNatClampNeg))) (P := fun S1 G' => PO G S1 m n1 m1 G') (w_hands (p_hands htr hP _ _) hP.o.1 (fun r G2 h => eyn h) (fun Y G2 h => ey2 ocHands h)) (by omega) (by omega) (fun G2 hp => ?_)⟩
  have hA := hI.cls hst hp
  obtain ⟨hrd2, hln2, hxs2⟩ := hA.2.1.vs
  rw [hln2, hxs2]
  refine ⟨Or.inr hrd2, hv.2.1, Or.inr hrd2, hv.2.2.1, hA.2.1.mo, cRefN (r_hands  _ _) hA.2.1.1 hA.1 (by omega) (fun S' h2 h3 => ?_)⟩
  exact aftN hA.2.1.1 hd h2 (hT _ _ _ _ _ _ (hA.fin hst (fun Y h => h.sim h3) (SGA.sim (sgaHands hG (xv (x4 + 1).toNatClampNeg) (xv (x4 + 2).toNatClampNeg)) h3)) (by unfold zbud; omega))
theorem cs_lend (htr : l.stackTraces = false) (hd : 60 ≤ d) (hst : zst4 st) (hv : LV x4 L) (hT : LH E l d b G0 Q st L xv x4 c) (hI : LI0 st L xv G S m n1 m1) (hk : zbud (c + 1) m n1 m1 ≤ k) : zWL E l mL_law_ d b G0 Q k 1203 [some (.ref (zp st 0)), some (.ref (zp 384 0)), some (.ref (zp 416 0)), some (.ref zout), some (.int x4), none, none] [] G := by
  have hP := hI.2.1
  have hR := hP.of.ri
  have hG := hI.2.2.1
  have hL := hP.si.1.2.1
  obtain ⟨hrd, hln, hxs⟩ := hI.2.2.2.vs
  unfold zbud at hk
  refine wpt_L_law__1203 ?_; unfold wp_L_law__1203
  rw [hln, hxs]
  refine ⟨Or.inr hrd, hv.2.1, Or.inr hrd, hv.2.2.1, Or.inr hrd, hv.2.2.2.1, Or.inr hrd, hv.2.2.2.2.1, Or.inr hrd, hv.2.2.2.2.2.1, cWr (o := (fLend S (xv (x4 + 1).toNatClampNeg) (xv (x4 + 2).toNatClampNeg) (xv (x4 + 3).toNatClampNeg) (xv (x4 + 4).toNatClampNeg) (xv (x4 + 5).toNatClampNeg))) (P := fun S1 G' => PO G S1 m n1 m1 G') (w_lend (p_lend htr hP _ _ _ _ _) hP.o.1 (fun r G2 h => exy (pOut hI) h) (fun Y G2 h => ex2 ocLend h)) (by omega) (by omega) (fun G2 hw => ?_)⟩
  obtain ⟨hA, ho⟩ := wLA hst hI hw
  obtain ⟨hrd2, hln2, hxs2⟩ := hA.2.1.vs
  rw [hln2, hxs2]
  refine ⟨Or.inr hrd2, hv.2.1, Or.inr hrd2, hv.2.2.1, Or.inr hrd2, hv.2.2.2.1, Or.inr hrd2, hv.2.2.2.2.1, Or.inr hrd2, hv.2.2.2.2.2.1, hA.2.1.mo, cRef (r_lend hR _ _ _ _ _) hA.2.1.1 hA.1 (by omega) (fun y S' h1 h2 h3 => ?_)⟩
  exact aftY hA.2.1.1 hd h2 (fun z => (ho z).trans (h1 z).symm) hA.2.1.2.1 (hT _ _ _ _ _ _ (hA.fin hst (fun Y h => h.sim h3) (SGA.sim (sgaLend hG (xv (x4 + 1).toNatClampNeg) (xv (x4 + 2).toNatClampNeg) (xv (x4 + 3).toNatClampNeg) (xv (x4 + 4).toNatClampNeg) (xv (x4 + 5).toNatClampNeg)) h3)) (by unfold zbud; omega))
theorem cs_units (htr : l.stackTraces = false) (hd : 60 ≤ d) (hst : zst4 st) (hv : LV x4 L) (hT : LH E l d b G0 Q st L xv x4 c) (hI : LI0 st L xv G S m n1 m1) (hk : zbud (c + 1) m n1 m1 ≤ k) : zWL E l mL_law_ d b G0 Q k 1307 [some (.ref (zp st 0)), some (.ref (zp 384 0)), some (.ref (zp 416 0)), some (.ref zout), some (.int x4), none, none] [] G := by
  have hP := hI.2.1
  have hR := hP.of.ri
  have hG := hI.2.2.1
  have hL := hP.si.1.2.1
  obtain ⟨hrd, hln, hxs⟩ := hI.2.2.2.vs
  unfold zbud at hk
  refine wpt_L_law__1307 ?_; unfold wp_L_law__1307
  rw [hln, hxs]
  refine ⟨Or.inr hrd, hv.2.1, Or.inr hrd, hv.2.2.1, cWr (o := (fUnits S (xv (x4 + 1).toNatClampNeg) (xv (x4 + 2).toNatClampNeg))) (P := fun S1 G' => PO G S1 m n1 m1 G') (w_units (p_units htr hP _ _) hP.o.1 (fun r G2 h => exy (pOut hI) h) (fun Y G2 h => ex1 ocUnits h)) (by omega) (by omega) (fun G2 hw => ?_)⟩
  obtain ⟨hA, ho⟩ := wLA hst hI hw
  obtain ⟨hrd2, hln2, hxs2⟩ := hA.2.1.vs
  rw [hln2, hxs2]
  refine ⟨Or.inr hrd2, hv.2.1, Or.inr hrd2, hv.2.2.1, hA.2.1.mo, cRef (r_units hR _ _) hA.2.1.1 hA.1 (by omega) (fun y S' h1 h2 h3 => ?_)⟩
  exact aftY hA.2.1.1 hd h2 (fun z => (ho z).trans (h1 z).symm) hA.2.1.2.1 (hT _ _ _ _ _ _ (hA.fin hst (fun Y h => h.sim h3) (SGA.sim (sgaUnits hG (xv (x4 + 1).toNatClampNeg) (xv (x4 + 2).toNatClampNeg)) h3)) (by unfold zbud; omega))
theorem cs_rules (htr : l.stackTraces = false) (hd : 60 ≤ d) (hst : zst4 st) (hv : LV x4 L) (hT : LH E l d b G0 Q st L xv x4 c) (hI : LI0 st L xv G S m n1 m1) (hk : zbud (c + 1) m n1 m1 ≤ k) : zWL E l mL_law_ d b G0 Q k 1375 [some (.ref (zp st 0)), some (.ref (zp 384 0)), some (.ref (zp 416 0)), some (.ref zout), some (.int x4), none, none] [] G := by
  have hP := hI.2.1
  have hR := hP.of.ri
  have hG := hI.2.2.1
  have hL := hP.si.1.2.1
  obtain ⟨hrd, hln, hxs⟩ := hI.2.2.2.vs
  unfold zbud at hk
  refine wpt_L_law__1375 ?_; unfold wp_L_law__1375
  rw [hln, hxs]
  refine ⟨Or.inr hrd, hv.2.1, Or.inr hrd, hv.2.2.1, Or.inr hrd, hv.2.2.2.1, Or.inr hrd, hv.2.2.2.2.1, Or.inr hrd, hv.2.2.2.2.2.1, cWn (o := (fRules S (xv (x4 + 1).toNatClampNeg) (xv (x4 + 2).toNatClampNeg) (xv (x4 + 3).toNatClampNeg) (xv (x4 + 4).toNatClampNeg) (xv (x4 + 5).toNatClampNeg))) (P := fun S1 G' => PO G S1 m n1 m1 G') (w_rules (p_rules htr hP _ _ _ _ _) hP.o.1 (fun r G2 h => eyn h) (fun Y G2 h => ey1 ocRules h)) (by omega) (by omega) (fun G2 hp => ?_)⟩
  have hA := hI.cls hst hp
  obtain ⟨hrd2, hln2, hxs2⟩ := hA.2.1.vs
  rw [hln2, hxs2]
  refine ⟨Or.inr hrd2, hv.2.1, Or.inr hrd2, hv.2.2.1, Or.inr hrd2, hv.2.2.2.1, Or.inr hrd2, hv.2.2.2.2.1, Or.inr hrd2, hv.2.2.2.2.2.1, hA.2.1.mo, cRefN (r_rules  _ _ _ _ _) hA.2.1.1 hA.1 (by omega) (fun S' h2 h3 => ?_)⟩
  exact aftN hA.2.1.1 hd h2 (hT _ _ _ _ _ _ (hA.fin hst (fun Y h => h.sim h3) (SGA.sim (sgaRules hG (xv (x4 + 1).toNatClampNeg) (xv (x4 + 2).toNatClampNeg) (xv (x4 + 3).toNatClampNeg) (xv (x4 + 4).toNatClampNeg) (xv (x4 + 5).toNatClampNeg)) h3)) (by unfold zbud; omega))
theorem cs_order (htr : l.stackTraces = false) (hd : 60 ≤ d) (hst : zst4 st) (hv : LV x4 L) (hT : LH E l d b G0 Q st L xv x4 c) (hI : LI0 st L xv G S m n1 m1) (hk : zbud (c + 1) m n1 m1 ≤ k) : zWL E l mL_law_ d b G0 Q k 1459 [some (.ref (zp st 0)), some (.ref (zp 384 0)), some (.ref (zp 416 0)), some (.ref zout), some (.int x4), none, none] [] G := by
  have hP := hI.2.1
  have hR := hP.of.ri
  have hG := hI.2.2.1
  have hL := hP.si.1.2.1
  obtain ⟨hrd, hln, hxs⟩ := hI.2.2.2.vs
  unfold zbud at hk
  refine wpt_L_law__1459 ?_; unfold wp_L_law__1459
  rw [hln, hxs]
  refine ⟨Or.inr hrd, hv.2.1, cWn (o := (fOrder S (xv (x4 + 1).toNatClampNeg))) (P := fun S1 G' => PO G S1 m n1 m1 G') (w_order (p_order htr hP _) hP.o.1 (fun r G2 h => eyn h) (fun Y G2 h => ey1 ocOrder h)) (by omega) (by omega) (fun G2 hp => ?_)⟩
  have hA := hI.cls hst hp
  obtain ⟨hrd2, hln2, hxs2⟩ := hA.2.1.vs
  rw [hln2, hxs2]
  refine ⟨Or.inr hrd2, hv.2.1, hA.2.1.mo, cRefN (r_order  _) hA.2.1.1 hA.1 (by omega) (fun S' h2 h3 => ?_)⟩
  exact aftN hA.2.1.1 hd h2 (hT _ _ _ _ _ _ (hA.fin hst (fun Y h => h.sim h3) (SGA.sim (sgaOrder hG (xv (x4 + 1).toNatClampNeg)) h3)) (by unfold zbud; omega))
theorem cs_blanks (htr : l.stackTraces = false) (hd : 60 ≤ d) (hst : zst4 st) (hv : LV x4 L) (hT : LH E l d b G0 Q st L xv x4 c) (hI : LI0 st L xv G S m n1 m1) (hk : zbud (c + 1) m n1 m1 ≤ k) : zWL E l mL_law_ d b G0 Q k 1495 [some (.ref (zp st 0)), some (.ref (zp 384 0)), some (.ref (zp 416 0)), some (.ref zout), some (.int x4), none, none] [] G := by
  have hP := hI.2.1
  have hR := hP.of.ri
  have hG := hI.2.2.1
  have hL := hP.si.1.2.1
  obtain ⟨hrd, hln, hxs⟩ := hI.2.2.2.vs
  unfold zbud at hk
  refine wpt_L_law__1495 ?_; unfold wp_L_law__1495
  rw [hln, hxs]
  refine ⟨Or.inr hrd, hv.2.1, cWr (o := (fBlanks S (xv (x4 + 1).toNatClampNeg))) (P := fun S1 G' => PO G S1 m n1 m1 G') (w_blanks (p_blanks htr hP _) hP.o.1 (fun r G2 h => exy (pOut hI) h) (fun Y G2 h => ex1 ocBlanks h)) (by omega) (by omega) (fun G2 hw => ?_)⟩
  obtain ⟨hA, ho⟩ := wLA hst hI hw
  obtain ⟨hrd2, hln2, hxs2⟩ := hA.2.1.vs
  rw [hln2, hxs2]
  refine ⟨Or.inr hrd2, hv.2.1, hA.2.1.mo, cRef (r_blanks  _) hA.2.1.1 hA.1 (by omega) (fun y S' h1 h2 h3 => ?_)⟩
  exact aftY hA.2.1.1 hd h2 (fun z => (ho z).trans (h1 z).symm) hA.2.1.2.1 (hT _ _ _ _ _ _ (hA.fin hst (fun Y h => h.sim h3) (SGA.sim (sgaBlanks hG (xv (x4 + 1).toNatClampNeg)) h3)) (by unfold zbud; omega))
theorem cs_broken (htr : l.stackTraces = false) (hd : 60 ≤ d) (hst : zst4 st) (hv : LV x4 L) (hT : LH E l d b G0 Q st L xv x4 c) (hI : LI0 st L xv G S m n1 m1) (hk : zbud (c + 1) m n1 m1 ≤ k) : zWL E l mL_law_ d b G0 Q k 1551 [some (.ref (zp st 0)), some (.ref (zp 384 0)), some (.ref (zp 416 0)), some (.ref zout), some (.int x4), none, none] [] G := by
  have hP := hI.2.1
  have hR := hP.of.ri
  have hG := hI.2.2.1
  have hL := hP.si.1.2.1
  obtain ⟨hrd, hln, hxs⟩ := hI.2.2.2.vs
  unfold zbud at hk
  refine wpt_L_law__1551 ?_; unfold wp_L_law__1551
  rw [hln, hxs]
  refine ⟨Or.inr hrd, hv.2.1, Or.inr hrd, hv.2.2.1, cWn (o := (fBroken S (xv (x4 + 1).toNatClampNeg) (xv (x4 + 2).toNatClampNeg))) (P := fun S1 G' => PO G S1 m n1 m1 G') (w_broken (p_broken htr hP _ _) hP.o.1 (fun r G2 h => eyn h) (fun Y G2 h => ey1 ocBroken h)) (by omega) (by omega) (fun G2 hp => ?_)⟩
  have hA := hI.cls hst hp
  obtain ⟨hrd2, hln2, hxs2⟩ := hA.2.1.vs
  rw [hln2, hxs2]
  refine ⟨Or.inr hrd2, hv.2.1, Or.inr hrd2, hv.2.2.1, hA.2.1.mo, cRefN (r_broken  _ _) hA.2.1.1 hA.1 (by omega) (fun S' h2 h3 => ?_)⟩
  exact aftN hA.2.1.1 hd h2 (hT _ _ _ _ _ _ (hA.fin hst (fun Y h => h.sim h3) (SGA.sim (sgaBroken hG (xv (x4 + 1).toNatClampNeg) (xv (x4 + 2).toNatClampNeg)) h3)) (by unfold zbud; omega))
theorem cs_days (htr : l.stackTraces = false) (hd : 60 ≤ d) (hst : zst4 st) (hv : LV x4 L) (hT : LH E l d b G0 Q st L xv x4 c) (hI : LI0 st L xv G S m n1 m1) (hk : zbud (c + 1) m n1 m1 ≤ k) : zWL E l mL_law_ d b G0 Q k 1599 [some (.ref (zp st 0)), some (.ref (zp 384 0)), some (.ref (zp 416 0)), some (.ref zout), some (.int x4), none, none] [] G := by
  have hP := hI.2.1
  have hR := hP.of.ri
  have hG := hI.2.2.1
  have hL := hP.si.1.2.1
  obtain ⟨hrd, hln, hxs⟩ := hI.2.2.2.vs
  unfold zbud at hk
  have hB150 : nB (fDays S (xv (x4 + 1).toNatClampNeg)).2.2 ≤ 150 := by
    have : RI (fDays S (xv (x4 + 1).toNatClampNeg)).2.2 := by
      unfold fDays
      by_cases cc : ¬ inn (xv (x4 + 1).toNatClampNeg) 0 60
      · rw [f3t cc]; exact hR
      · rw [f3f cc]; exact zdaysT_RI (hR.cg (fun t k hc => by show zup S 416 0 0 t k = _; rw [zup_ne (by omega)]))
    exact this.2.2.1.2
  have hm150 := hP.of.mB.2
  refine wpt_L_law__1599 ?_; unfold wp_L_law__1599
  rw [hln, hxs]
  refine ⟨Or.inr hrd, hv.2.1, cWr (o := (fDays S (xv (x4 + 1).toNatClampNeg))) (P := fun S1 G' => PO G S1 (max m (nB (fDays S (xv (x4 + 1).toNatClampNeg)).2.2)) n1 m1 G') (w_days (p_days htr hP _) hP.o.1 (fun r G2 h => exy (pOut hI) h) (fun Y G2 h => ex1 ocDays h)) (by omega) (by omega) (fun G2 hw => ?_)⟩
  obtain ⟨hA, ho⟩ := wLA hst hI hw
  obtain ⟨hrd2, hln2, hxs2⟩ := hA.2.1.vs
  rw [hln2, hxs2]
  refine ⟨Or.inr hrd2, hv.2.1, hA.2.1.mo, cRef (r_days hR hP.or _) hA.2.1.1 hA.1 (by omega) (fun y S' h1 h2 h3 => ?_)⟩
  exact aftY hA.2.1.1 hd h2 (fun z => (ho z).trans (h1 z).symm) hA.2.1.2.1 (hT _ _ _ _ _ _ (hA.fin hst (fun Y h => h.sim h3) (SGA.sim (sgaDays hG hP.si.2.2.2.1 (xv (x4 + 1).toNatClampNeg)) h3)) (by unfold zbud; omega))
theorem cs_refuse (htr : l.stackTraces = false) (hd : 60 ≤ d) (hst : zst4 st) (hv : LV x4 L) (hT : LH E l d b G0 Q st L xv x4 c) (hI : LI0 st L xv G S m n1 m1) (hk : zbud (c + 1) m n1 m1 ≤ k) : zWL E l mL_law_ d b G0 Q k 1655 [some (.ref (zp st 0)), some (.ref (zp 384 0)), some (.ref (zp 416 0)), some (.ref zout), some (.int x4), none, none] [] G := by
  have hP := hI.2.1
  have hR := hP.of.ri
  have hG := hI.2.2.1
  have hL := hP.si.1.2.1
  obtain ⟨hrd, hln, hxs⟩ := hI.2.2.2.vs
  unfold zbud at hk
  refine wpt_L_law__1655 ?_; unfold wp_L_law__1655
  rw [hln, hxs]
  refine ⟨Or.inr hrd, hv.2.1, cWn (o := (fRefuse S (xv (x4 + 1).toNatClampNeg))) (P := fun S1 G' => PO G S1 m n1 m1 G') (w_refuse (p_refuse htr hP _) hP.o.1 (fun r G2 h => eyn h) (fun Y G2 h => ey2 ocRefuse h)) (by omega) (by omega) (fun G2 hp => ?_)⟩
  have hA := hI.cls hst hp
  obtain ⟨hrd2, hln2, hxs2⟩ := hA.2.1.vs
  rw [hln2, hxs2]
  refine ⟨Or.inr hrd2, hv.2.1, hA.2.1.mo, cRefN (r_refuse hR _) hA.2.1.1 hA.1 (by omega) (fun S' h2 h3 => ?_)⟩
  exact aftN hA.2.1.1 hd h2 (hT _ _ _ _ _ _ (hA.fin hst (fun Y h => h.sim h3) (SGA.sim (sgaRefuse hG (xv (x4 + 1).toNatClampNeg)) h3)) (by unfold zbud; omega))
theorem cs_lose (htr : l.stackTraces = false) (hd : 60 ≤ d) (hst : zst4 st) (hv : LV x4 L) (hT : LH E l d b G0 Q st L xv x4 c) (hI : LI0 st L xv G S m n1 m1) (hk : zbud (c + 1) m n1 m1 ≤ k) : zWL E l mL_law_ d b G0 Q k 1691 [some (.ref (zp st 0)), some (.ref (zp 384 0)), some (.ref (zp 416 0)), some (.ref zout), some (.int x4), none, none] [] G := by
  have hP := hI.2.1
  have hR := hP.of.ri
  have hG := hI.2.2.1
  have hL := hP.si.1.2.1
  obtain ⟨hrd, hln, hxs⟩ := hI.2.2.2.vs
  unfold zbud at hk
  refine wpt_L_law__1691 ?_; unfold wp_L_law__1691
  rw [hln, hxs]
  refine ⟨Or.inr hrd, hv.2.1, cWn (o := (fLose S (xv (x4 + 1).toNatClampNeg))) (P := fun S1 G' => PO G S1 m n1 m1 G') (w_lose (p_lose htr hP _) hP.o.1 (fun r G2 h => eyn h) (fun Y G2 h => ey2 ocLose h)) (by omega) (by omega) (fun G2 hp => ?_)⟩
  have hA := hI.cls hst hp
  obtain ⟨hrd2, hln2, hxs2⟩ := hA.2.1.vs
  rw [hln2, hxs2]
  refine ⟨Or.inr hrd2, hv.2.1, hA.2.1.mo, cRefN (r_lose hR (fun a _ => hP.si.2.2.1.2.1 a) _) hA.2.1.1 hA.1 (by omega) (fun S' h2 h3 => ?_)⟩
  exact aftN hA.2.1.1 hd h2 (hT _ _ _ _ _ _ (hA.fin hst (fun Y h => h.sim h3) (SGA.sim (sgaLose hG (xv (x4 + 1).toNatClampNeg)) h3)) (by unfold zbud; omega))
theorem cs_again (htr : l.stackTraces = false) (hd : 60 ≤ d) (hst : zst4 st) (hv : LV x4 L) (hT : LH E l d b G0 Q st L xv x4 c) (hI : LI0 st L xv G S m n1 m1) (hk : zbud (c + 1) m n1 m1 ≤ k) : zWL E l mL_law_ d b G0 Q k 1727 [some (.ref (zp st 0)), some (.ref (zp 384 0)), some (.ref (zp 416 0)), some (.ref zout), some (.int x4), none, none] [] G := by
  have hP := hI.2.1
  have hR := hP.of.ri
  have hG := hI.2.2.1
  have hL := hP.si.1.2.1
  obtain ⟨hrd, hln, hxs⟩ := hI.2.2.2.vs
  unfold zbud at hk
  refine wpt_L_law__1727 ?_; unfold wp_L_law__1727
  rw [hln, hxs]
  refine ⟨Or.inr hrd, hv.2.1, cWn (o := (fAgain S (xv (x4 + 1).toNatClampNeg))) (P := fun S1 G' => PO G S1 m n1 m1 G') (w_again (p_again htr hP _) hP.o.1 (fun r G2 h => eyn h) (fun Y G2 h => ey2 ocAgain h)) (by omega) (by omega) (fun G2 hp => ?_)⟩
  have hA := hI.cls hst hp
  obtain ⟨hrd2, hln2, hxs2⟩ := hA.2.1.vs
  rw [hln2, hxs2]
  refine ⟨Or.inr hrd2, hv.2.1, hA.2.1.mo, cRefN (r_again hR _) hA.2.1.1 hA.1 (by omega) (fun S' h2 h3 => ?_)⟩
  exact aftN hA.2.1.1 hd h2 (hT _ _ _ _ _ _ (hA.fin hst (fun Y h => h.sim h3) (SGA.sim (sgaAgain hG (xv (x4 + 1).toNatClampNeg)) h3)) (by unfold zbud; omega))
theorem cs_led (htr : l.stackTraces = false) (hd : 60 ≤ d) (hst : zst4 st) (hv : LV x4 L) (hT : LH E l d b G0 Q st L xv x4 c) (hI : LI0 st L xv G S m n1 m1) (hk : zbud (c + 1) m n1 m1 ≤ k) : zWL E l mL_law_ d b G0 Q k 1763 [some (.ref (zp st 0)), some (.ref (zp 384 0)), some (.ref (zp 416 0)), some (.ref zout), some (.int x4), none, none] [] G := by
  have hP := hI.2.1
  have hR := hP.of.ri
  have hG := hI.2.2.1
  have hL := hP.si.1.2.1
  obtain ⟨hrd, hln, hxs⟩ := hI.2.2.2.vs
  unfold zbud at hk
  refine wpt_L_law__1763 ?_; unfold wp_L_law__1763
  rw [hln, hxs]
  refine ⟨Or.inr hrd, hv.2.1, Or.inr hrd, hv.2.2.1, cWr (o := (fLed S (xv (x4 + 1).toNatClampNeg) (xv (x4 + 2).toNatClampNeg))) (P := fun S1 G' => PO G S1 m n1 m1 G') (w_led (p_led htr hP _ _) hP.o.1 (fun r G2 h => exy (pOut hI) h) (fun Y G2 h => ex2 ocLed h)) (by omega) (by omega) (fun G2 hw => ?_)⟩
  obtain ⟨hA, ho⟩ := wLA hst hI hw
  obtain ⟨hrd2, hln2, hxs2⟩ := hA.2.1.vs
  rw [hln2, hxs2]
  refine ⟨Or.inr hrd2, hv.2.1, Or.inr hrd2, hv.2.2.1, hA.2.1.mo, cRef (r_led hR _ _) hA.2.1.1 hA.1 (by omega) (fun y S' h1 h2 h3 => ?_)⟩
  exact aftY hA.2.1.1 hd h2 (fun z => (ho z).trans (h1 z).symm) hA.2.1.2.1 (hT _ _ _ _ _ _ (hA.fin hst (fun Y h => h.sim h3) (SGA.sim (sgaLed hG (xv (x4 + 1).toNatClampNeg) (xv (x4 + 2).toNatClampNeg)) h3)) (by unfold zbud; omega))
theorem cs_queue (htr : l.stackTraces = false) (hd : 60 ≤ d) (hst : zst4 st) (hv : LV x4 L) (hT : LH E l d b G0 Q st L xv x4 c) (hI : LI0 st L xv G S m n1 m1) (hk : zbud (c + 1) m n1 m1 ≤ k) : zWL E l mL_law_ d b G0 Q k 1831 [some (.ref (zp st 0)), some (.ref (zp 384 0)), some (.ref (zp 416 0)), some (.ref zout), some (.int x4), none, none] [] G := by
  have hP := hI.2.1
  have hR := hP.of.ri
  have hG := hI.2.2.1
  have hL := hP.si.1.2.1
  obtain ⟨hrd, hln, hxs⟩ := hI.2.2.2.vs
  unfold zbud at hk
  refine wpt_L_law__1831 ?_; unfold wp_L_law__1831
  rw [hln, hxs]
  refine ⟨Or.inr hrd, hv.2.1, cWr (o := (fQueue S (xv (x4 + 1).toNatClampNeg))) (P := fun S1 G' => PO G S1 m n1 m1 G') (w_queue (p_queue htr hP _) hP.o.1 (fun r G2 h => exy (pOut hI) h) (fun Y G2 h => ex1 ocQueue h)) (by omega) (by omega) (fun G2 hw => ?_)⟩
  obtain ⟨hA, ho⟩ := wLA hst hI hw
  obtain ⟨hrd2, hln2, hxs2⟩ := hA.2.1.vs
  rw [hln2, hxs2]
  refine ⟨Or.inr hrd2, hv.2.1, hA.2.1.mo, cRef (r_queue hR hP.or _) hA.2.1.1 hA.1 (by omega) (fun y S' h1 h2 h3 => ?_)⟩
  exact aftY hA.2.1.1 hd h2 (fun z => (ho z).trans (h1 z).symm) hA.2.1.2.1 (hT _ _ _ _ _ _ (hA.fin hst (fun Y h => h.sim h3) (SGA.sim (sgaQueue hG (xv (x4 + 1).toNatClampNeg)) h3)) (by unfold zbud; omega))
theorem cs_ahead (htr : l.stackTraces = false) (hd : 60 ≤ d) (hst : zst4 st) (hv : LV x4 L) (hT : LH E l d b G0 Q st L xv x4 c) (hI : LI0 st L xv G S m n1 m1) (hk : zbud (c + 1) m n1 m1 ≤ k) : zWL E l mL_law_ d b G0 Q k 1887 [some (.ref (zp st 0)), some (.ref (zp 384 0)), some (.ref (zp 416 0)), some (.ref zout), some (.int x4), none, none] [] G := by
  have hP := hI.2.1
  have hR := hP.of.ri
  have hG := hI.2.2.1
  have hL := hP.si.1.2.1
  obtain ⟨hrd, hln, hxs⟩ := hI.2.2.2.vs
  unfold zbud at hk
  refine wpt_L_law__1887 ?_; unfold wp_L_law__1887
  rw [hln, hxs]
  refine ⟨Or.inr hrd, hv.2.1, cWr (o := (fAhead S (xv (x4 + 1).toNatClampNeg))) (P := fun S1 G' => PO G S1 m n1 m1 G') (w_ahead (p_ahead htr hP _) hP.o.1 (fun r G2 h => exy (pOut hI) h) (fun Y G2 h => ex1 ocAhead h)) (by omega) (by omega) (fun G2 hw => ?_)⟩
  obtain ⟨hA, ho⟩ := wLA hst hI hw
  obtain ⟨hrd2, hln2, hxs2⟩ := hA.2.1.vs
  rw [hln2, hxs2]
  refine ⟨Or.inr hrd2, hv.2.1, hA.2.1.mo, cRef (r_ahead hR hP.or _) hA.2.1.1 hA.1 (by omega) (fun y S' h1 h2 h3 => ?_)⟩
  exact aftY hA.2.1.1 hd h2 (fun z => (ho z).trans (h1 z).symm) hA.2.1.2.1 (hT _ _ _ _ _ _ (hA.fin hst (fun Y h => h.sim h3) (SGA.sim (sgaAhead hG (xv (x4 + 1).toNatClampNeg)) h3)) (by unfold zbud; omega))
theorem cs_booklet (htr : l.stackTraces = false) (hd : 60 ≤ d) (hst : zst4 st) (hv : LV x4 L) (hT : LH E l d b G0 Q st L xv x4 c) (hI : LI0 st L xv G S m n1 m1) (hk : zbud (c + 1) m n1 m1 ≤ k) : zWL E l mL_law_ d b G0 Q k 1943 [some (.ref (zp st 0)), some (.ref (zp 384 0)), some (.ref (zp 416 0)), some (.ref zout), some (.int x4), none, none] [] G := by
  have hP := hI.2.1
  have hR := hP.of.ri
  have hG := hI.2.2.1
  have hL := hP.si.1.2.1
  obtain ⟨hrd, hln, hxs⟩ := hI.2.2.2.vs
  unfold zbud at hk
  refine wpt_L_law__1943 ?_; unfold wp_L_law__1943
  rw [hln, hxs]
  refine ⟨Or.inr hrd, hv.2.1, Or.inr hrd, hv.2.2.1, cWr (o := (fBooklet S (xv (x4 + 1).toNatClampNeg) (xv (x4 + 2).toNatClampNeg))) (P := fun S1 G' => PO G S1 m n1 m1 G') (w_booklet (p_booklet htr hP _ _) hP.o.1 (fun r G2 h => exy (pOut hI) h) (fun Y G2 h => ex2 ocBooklet h)) (by omega) (by omega) (fun G2 hw => ?_)⟩
  obtain ⟨hA, ho⟩ := wLA hst hI hw
  obtain ⟨hrd2, hln2, hxs2⟩ := hA.2.1.vs
  rw [hln2, hxs2]
  refine ⟨Or.inr hrd2, hv.2.1, Or.inr hrd2, hv.2.2.1, hA.2.1.mo, cRef (r_booklet hR _ _) hA.2.1.1 hA.1 (by omega) (fun y S' h1 h2 h3 => ?_)⟩
  exact aftY hA.2.1.1 hd h2 (fun z => (ho z).trans (h1 z).symm) hA.2.1.2.1 (hT _ _ _ _ _ _ (hA.fin hst (fun Y h => h.sim h3) (SGA.sim (sgaBooklet hG (xv (x4 + 1).toNatClampNeg) (xv (x4 + 2).toNatClampNeg)) h3)) (by unfold zbud; omega))
theorem cs_valid (htr : l.stackTraces = false) (hd : 60 ≤ d) (hst : zst4 st) (hv : LV x4 L) (hT : LH E l d b G0 Q st L xv x4 c) (hI : LI0 st L xv G S m n1 m1) (hk : zbud (c + 1) m n1 m1 ≤ k) : zWL E l mL_law_ d b G0 Q k 2011 [some (.ref (zp st 0)), some (.ref (zp 384 0)), some (.ref (zp 416 0)), some (.ref zout), some (.int x4), none, none] [] G := by
  have hP := hI.2.1
  have hR := hP.of.ri
  have hG := hI.2.2.1
  have hL := hP.si.1.2.1
  obtain ⟨hrd, hln, hxs⟩ := hI.2.2.2.vs
  unfold zbud at hk
  refine wpt_L_law__2011 ?_; unfold wp_L_law__2011
  rw [hln, hxs]
  refine ⟨Or.inr hrd, hv.2.1, Or.inr hrd, hv.2.2.1, cWr (o := (fValid S (xv (x4 + 1).toNatClampNeg) (xv (x4 + 2).toNatClampNeg))) (P := fun S1 G' => PO G S1 m n1 m1 G') (w_valid (p_valid htr hP _ _) hP.o.1 (fun r G2 h => exy (pOut hI) h) (fun Y G2 h => ex1 ocValid h)) (by omega) (by omega) (fun G2 hw => ?_)⟩
  obtain ⟨hA, ho⟩ := wLA hst hI hw
  obtain ⟨hrd2, hln2, hxs2⟩ := hA.2.1.vs
  rw [hln2, hxs2]
  refine ⟨Or.inr hrd2, hv.2.1, Or.inr hrd2, hv.2.2.1, hA.2.1.mo, cRef (r_valid hR _ _) hA.2.1.1 hA.1 (by omega) (fun y S' h1 h2 h3 => ?_)⟩
  exact aftY hA.2.1.1 hd h2 (fun z => (ho z).trans (h1 z).symm) hA.2.1.2.1 (hT _ _ _ _ _ _ (hA.fin hst (fun Y h => h.sim h3) (SGA.sim (sgaValid hG (xv (x4 + 1).toNatClampNeg) (xv (x4 + 2).toNatClampNeg)) h3)) (by unfold zbud; omega))
theorem cs_missed (htr : l.stackTraces = false) (hd : 60 ≤ d) (hst : zst4 st) (hv : LV x4 L) (hT : LH E l d b G0 Q st L xv x4 c) (hI : LI0 st L xv G S m n1 m1) (hk : zbud (c + 1) m n1 m1 ≤ k) : zWL E l mL_law_ d b G0 Q k 2079 [some (.ref (zp st 0)), some (.ref (zp 384 0)), some (.ref (zp 416 0)), some (.ref zout), some (.int x4), none, none] [] G := by
  have hP := hI.2.1
  have hR := hP.of.ri
  have hG := hI.2.2.1
  have hL := hP.si.1.2.1
  obtain ⟨hrd, hln, hxs⟩ := hI.2.2.2.vs
  unfold zbud at hk
  by_cases hgd : inn (xv (x4 + 1).toNatClampNeg) 0 2 ∧ inn (xv (x4 + 2).toNatClampNeg) 0 60
  · obtain ⟨nd, hnd, end_⟩ := inn_nat (n := 60) (by omega) hgd.2
    have hB150 : nB (zmiss S (xv (x4 + 1).toNatClampNeg) nd) ≤ 150 := by
      have : RI (zmiss S (xv (x4 + 1).toNatClampNeg) nd) := zdays_RI (hR.cg (fun t k hc => zkeep_sim _ _ (by unfold zscr; omega)))
      exact this.2.2.1.2
    have hn1 := hP.2.2.2.2.2.2.1.2.1.2.2.1
    have hm150 := hP.2.2.2.2.2.2.1.2.2.2.2
    have hA120 := hR.1.2
    have hpm := p_missed1 (E := E) htr hP hG.1 hgd.1 (n := nd) (by omega)
    rw [← end_] at hpm
    refine wpt_L_law__2079 ?_; unfold wp_L_law__2079
    rw [hln, hxs]
    refine ⟨Or.inr hrd, hv.2.1, Or.inr hrd, hv.2.2.1, cWr (o := (fMissed S (xv (x4 + 1).toNatClampNeg) (xv (x4 + 2).toNatClampNeg))) (P := fun S1 G' => PO G S1 m (nA S) (max m1 (nB (zmiss S (xv (x4 + 1).toNatClampNeg) nd))) G') (w_missed hpm hP.o.1 (fun r G2 h => exy (pOut hI) h) (fun Y G2 h => ex1 ocMissed h)) (by omega) (by omega) (fun G2 hw => ?_)⟩
    obtain ⟨hA, ho⟩ := wLA hst hI hw
    obtain ⟨hrd2, hln2, hxs2⟩ := hA.2.1.vs
    rw [hln2, hxs2]
    refine ⟨Or.inr hrd2, hv.2.1, Or.inr hrd2, hv.2.2.1, hA.2.1.mo, cRefB (r_missed hR _ _) hA.2.1.1 hA.1 (by omega) (fun y S' h1 h2 h3 => ?_)⟩
    have e3 : (fMissed S (xv (x4 + 1).toNatClampNeg) (xv (x4 + 2).toNatClampNeg)).2.2 = S := fMissed_S
    rw [e3] at hA
    exact aftY (o := (fMissed S (xv (x4 + 1).toNatClampNeg) (xv (x4 + 2).toNatClampNeg))) hA.2.1.1 hd h2 (fun z => (ho z).trans (h1 z).symm) hA.2.1.2.1 (hT _ _ _ _ _ _ (hA.fin hst (fun Y h => h.simB h3) (SGA.simB hG h3)) (by unfold zbud; omega))
  · skip
    refine wpt_L_law__2079 ?_; unfold wp_L_law__2079
    rw [hln, hxs]
    refine ⟨Or.inr hrd, hv.2.1, Or.inr hrd, hv.2.2.1, cWr (o := (fMissed S (xv (x4 + 1).toNatClampNeg) (xv (x4 + 2).toNatClampNeg))) (P := fun S1 G' => PO G S1 m n1 m1 G') (w_missed (p_missed0 htr hP _ _ hgd) hP.o.1 (fun r G2 h => exy (pOut hI) h) (fun Y G2 h => ex1 ocMissed h)) (by omega) (by omega) (fun G2 hw => ?_)⟩
    obtain ⟨hA, ho⟩ := wLA hst hI hw
    obtain ⟨hrd2, hln2, hxs2⟩ := hA.2.1.vs
    rw [hln2, hxs2]
    refine ⟨Or.inr hrd2, hv.2.1, Or.inr hrd2, hv.2.2.1, hA.2.1.mo, cRefB (r_missed hR _ _) hA.2.1.1 hA.1 (by omega) (fun y S' h1 h2 h3 => ?_)⟩
    have e3 : (fMissed S (xv (x4 + 1).toNatClampNeg) (xv (x4 + 2).toNatClampNeg)).2.2 = S := fMissed_S
    rw [e3] at hA
    exact aftY (o := (fMissed S (xv (x4 + 1).toNatClampNeg) (xv (x4 + 2).toNatClampNeg))) hA.2.1.1 hd h2 (fun z => (ho z).trans (h1 z).symm) hA.2.1.2.1 (hT _ _ _ _ _ _ (hA.fin hst (fun Y h => h.simB h3) (SGA.simB hG h3)) (by unfold zbud; omega))
theorem cs_waits (htr : l.stackTraces = false) (hd : 60 ≤ d) (hst : zst4 st) (hv : LV x4 L) (hT : LH E l d b G0 Q st L xv x4 c) (hI : LI0 st L xv G S m n1 m1) (hk : zbud (c + 1) m n1 m1 ≤ k) : zWL E l mL_law_ d b G0 Q k 2147 [some (.ref (zp st 0)), some (.ref (zp 384 0)), some (.ref (zp 416 0)), some (.ref zout), some (.int x4), none, none] [] G := by
  have hP := hI.2.1
  have hR := hP.of.ri
  have hG := hI.2.2.1
  have hL := hP.si.1.2.1
  obtain ⟨hrd, hln, hxs⟩ := hI.2.2.2.vs
  unfold zbud at hk
  have e1 : ∀ bv : Int32, (((xv (x4 + 2).toNatClampNeg) = 0 ∧ bv = 0) ∨ (¬ (xv (x4 + 2).toNatClampNeg) = 0 ∧ bv = 1)) → zWL E l mL_law_ d b G0 Q k 2168 [some (.ref (zp st 0)), some (.ref (zp 384 0)), some (.ref (zp 416 0)), some (.ref zout), some (.int x4), none, none] [.int bv, .int (xv (x4 + 1).toNatClampNeg), .ref (zp 384 0)] G := by
    intro bv hbv
    have hbb : bv = 0 ∨ bv = 1 := hbv.imp And.right And.right
    refine wpt_L_law__2168 ?_; unfold wp_L_law__2168
    refine cWr (o := (fWaits S (xv (x4 + 1).toNatClampNeg) bv)) (P := fun S1 G' => PO G S1 m n1 m1 G') (w_waits (p_waits htr hP hG.2 _ _) hP.o.1 (fun r G2 h => exy (pOut hI) h) (fun Y G2 h => ex1 ocWaits h)) (by omega) (by omega) (fun G2 hw => ?_)
    obtain ⟨hA, ho⟩ := wLA hst hI hw
    obtain ⟨hrd2, hln2, hxs2⟩ := hA.2.1.vs
    have e2 : zWL E l mL_law_ d b G0 Q (k - 150) 2195 [some (.ref (zp st 0)), some (.ref (zp 384 0)), some (.ref (zp 416 0)), some (.ref zout), some (.int x4), some (.int (fWaits S (xv (x4 + 1).toNatClampNeg) bv).1), none] [.int bv, .int (xv (x4 + 1).toNatClampNeg), .ref (zp 416 0)] G2 := by
      refine wpt_L_law__2195 ?_; unfold wp_L_law__2195
      refine ⟨hA.2.1.mo, cRef (r_waits hR _ _) hA.2.1.1 hA.1 (by omega) (fun y S' h1 h2 h3 => ?_)⟩
      exact aftY hA.2.1.1 hd h2 (fun z => (ho z).trans (h1 z).symm) hA.2.1.2.1 (hT _ _ _ _ _ _ (hA.fin hst (fun Y h => h.sim h3) (SGA.sim (sgaWaits hG (xv (x4 + 1).toNatClampNeg) bv) h3)) (by unfold zbud; omega))
    rw [hln2, hxs2]
    refine ⟨Or.inr hrd2, hv.2.1, Or.inr hrd2, hv.2.2.1, fun c => ?_, fun c => ?_⟩
    · have hb0 : bv = 0 := hbv.elim And.right (fun z => absurd c z.1)
      rw [hb0] at e2 ⊢; exact e2
    · have hb1 : bv = 1 := hbv.elim (fun z => absurd z.1 c) And.right
      rw [hb1] at e2 ⊢; exact e2
  refine wpt_L_law__2147 ?_; unfold wp_L_law__2147
  rw [hln, hxs]
  exact ⟨Or.inr hrd, hv.2.1, Or.inr hrd, hv.2.2.1, fun c => e1 0 (Or.inl ⟨c, rfl⟩), fun c => e1 1 (Or.inr ⟨c, rfl⟩)⟩
theorem cs_ends (htr : l.stackTraces = false) (hd : 60 ≤ d) (hst : zst4 st) (hv : LV x4 L) (hT : LH E l d b G0 Q st L xv x4 c) (hI : LI0 st L xv G S m n1 m1) (hk : zbud (c + 1) m n1 m1 ≤ k) : zWL E l mL_law_ d b G0 Q k 2231 [some (.ref (zp st 0)), some (.ref (zp 384 0)), some (.ref (zp 416 0)), some (.ref zout), some (.int x4), none, none] [] G := by
  have hP := hI.2.1
  have hR := hP.of.ri
  have hG := hI.2.2.1
  have hL := hP.si.1.2.1
  obtain ⟨hrd, hln, hxs⟩ := hI.2.2.2.vs
  unfold zbud at hk
  refine wpt_L_law__2231 ?_; unfold wp_L_law__2231
  rw [hln, hxs]
  refine ⟨Or.inr hrd, hv.2.1, Or.inr hrd, hv.2.2.1, hP.o.1, cCls (p_ends htr hP _ _) rfl (by omega) (by omega) (fun G2 hp => ?_)⟩
  have hA := hI.cls hst hp
  obtain ⟨hrd2, hln2, hxs2⟩ := hA.2.1.vs
  rw [hln2, hxs2]
  refine ⟨Or.inr hrd2, hv.2.1, Or.inr hrd2, hv.2.2.1, hA.2.1.mo, cRefI (r_ends hR.2.2.1.1 hR.2.2.1.2) hA.2.1.1 hA.1 (by omega) ⟨fun _ => hT _ _ _ _ _ _ (hA.fin hst (fun Y h => h.sim (zs0 zsim.rf)) (SGA.sim hG (zs0 zsim.rf))) (by unfold zbud; omega), fun c => absurd rfl c⟩⟩
theorem cs_count (htr : l.stackTraces = false) (hd : 60 ≤ d) (hst : zst4 st) (hv : LV x4 L) (hT : LH E l d b G0 Q st L xv x4 c) (hI : LI0 st L xv G S m n1 m1) (hk : zbud (c + 1) m n1 m1 ≤ k) : zWL E l mL_law_ d b G0 Q k 2268 [some (.ref (zp st 0)), some (.ref (zp 384 0)), some (.ref (zp 416 0)), some (.ref zout), some (.int x4), none, none] [] G := by
  have hP := hI.2.1
  have hR := hP.of.ri
  have hG := hI.2.2.1
  have hL := hP.si.1.2.1
  obtain ⟨hrd, hln, hxs⟩ := hI.2.2.2.vs
  unfold zbud at hk
  refine wpt_L_law__2268 ?_; unfold wp_L_law__2268
  rw [hln, hxs]
  refine ⟨Or.inr hrd, hv.2.1, hP.o.1, cCls (p_count hP _) rfl (by omega) (by omega) (fun G2 hp => ?_)⟩
  have hA := hI.cls hst hp
  obtain ⟨hrd2, hln2, hxs2⟩ := hA.2.1.vs
  rw [hln2, hxs2]
  refine ⟨Or.inr hrd2, hv.2.1, hA.2.1.mo, cRef (r_count hR hL _) hA.2.1.1 hA.1 (by omega) (fun y S' h1 h2 h3 => ⟨fun _ => hT _ _ _ _ _ _ (hA.fin hst (fun Y h => h.sim h3) (SGA.sim hG h3)) (by unfold zbud; omega), fun c => absurd (h1 rfl).symm c⟩)⟩
end ZCases
