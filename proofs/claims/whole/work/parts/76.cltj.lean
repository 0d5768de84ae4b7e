/-! the class's reader of laws: a whole law -/
/-- what judging leaves: the verdict is a new thing of tag 352 -/
def VQ (X X' : ZG) (q n : Nat) (v F : Nat → Int32) (Fa : Nat) (R : Nat ⊕ List ZCLS) (y : Nat) : Prop :=
  y = zp 352 (zcn X 352) ∧ (∀ t, t ≠ 352 → zcn X' t = zcn X t) ∧ zcn X' 352 = zcn X 352 + 1 ∧ (∀ a, a ≠ y → zln X' a = zln X a) ∧ (∀ a, a ≠ q → a ≠ y → ziv X' a = ziv X a ∧ zrv X' a = zrv X a) ∧ ziv X' q 0 = ziv X q 0 ∧ zrv X' q 3 = zrv X q 3 ∧ zob X' y 11 ∧
  match R with
  | .inl e => e ≤ n ∧ ziv X' q 2 = Int32.ofNat e
  | .inr L => ziv X' q 2 = -1 ∧ ziv X' q 1 = Int32.ofNat L.length ∧ VJ X' y (jall F L j0) ∧ okb (jall F L j0)
/-- what is left when all has been read -/
def VM (X1 : ZG) (q n vq : Nat) (F : Nat → Int32) (R : Nat ⊕ List ZCLS) : Prop := match R with
  | .inl e => FL X1 q n e
  | .inr L => ziv X1 q 2 = -1 ∧ ziv X1 q 1 = Int32.ofNat L.length ∧ VJ X1 vq (jall F L j0) ∧ okb (jall F L j0)
section ZDj
variable {E : ZE} {l : Launch} {X X' X2 : ZG} {q T Fa n vq : Nat} {v F : Nat → Int32} {p e : Nat}
theorem c_initV (ho : zob X q 11) : zMet E l mX10_init 1 0 [.ref q] X (zVx (fun X' => zIn X X' q ∧ zrv X' = zrv X ∧ VJ X' q j0)) := by
  refine z_meth (by decide) (Nat.le_of_ble_eq_true rfl) (by simp [Value.category]) (wpt_X10_init_0 ?_); unfold wp_X10_init_0
  refine ⟨ho.1, by decide, ho, fun G1 e1 => ?_⟩
  have i1 : zIn X G1 q := by rw [e1]; exact zIn.rf.si
  refine ⟨i1.ob ho, fun G2 e2 => ?_⟩
  have i2 : zIn X G2 q := by rw [e2]; exact i1.si
  refine ⟨i2.ob ho, fun G3 e3 => ?_⟩
  have i3 : zIn X G3 q := by rw [e3]; exact i2.si
  refine ⟨i3.ob ho, fun G4 e4 => ?_⟩
  have i4 : zIn X G4 q := by rw [e4]; exact i3.si
  refine ⟨i4.ob ho, fun G5 e5 => ?_⟩
  have i5 : zIn X G5 q := by rw [e5]; exact i4.si
  refine ⟨i5.ob ho, fun G6 e6 => ⟨rfl, by rw [e6]; exact i5.si, by rw [e6, e5, e4, e3, e2, e1]; rfl, ?_, ?_, ?_, ?_, ?_, ?_⟩⟩
  · rw [e6, iv_k (by decide), e5, iv_k (by decide), e4, iv_k (by decide), e3, iv_k (by decide), e2, iv_k (by decide), e1, iv_s]; rfl
  · rw [e6, iv_k (by decide), e5, iv_k (by decide), e4, iv_k (by decide), e3, iv_k (by decide), e2, iv_s]; rfl
  · rw [e6, iv_k (by decide), e5, iv_k (by decide), e4, iv_k (by decide), e3, iv_s]; rfl
  · rw [e6, iv_k (by decide), e5, iv_k (by decide), e4, iv_s]; rfl
  · rw [e6, iv_k (by decide), e5, iv_s]; rfl
  · rw [e6, iv_s]; rfl
theorem zLw_0 : zLw v n 0 p = .inl (skp v n p) := rfl
theorem zLw_s {r : Nat} : zLw v n (r + 1) p = (match zCl v n p with
    | .inl e => .inl e
    | .inr (p1, cl) => if skp v n p1 = n then .inr [cl] else @ite _ (sgat v n p1 59) (Classical.propDecidable _) (match zLw v n r (skp v n p1 + 1) with
      | .inl e => .inl e
      | .inr L => .inr (cl :: L)) (.inl (skp v n p1))) := rfl
/-- the store when the reading begins, and one while it goes on -/
def VS (X0 X : ZG) (q vq : Nat) : Prop := zcn X = zcn X0 ∧ zln X = zln X0 ∧ zrv X = zrv X0 ∧ (∀ a, a ≠ q → a ≠ vq → ziv X a = ziv X0 a) ∧ ziv X q 0 = ziv X0 q 0
theorem VS.r (h : VS X X' q vq) (hf : RFr X' X2 q vq) : VS X X2 q vq := ⟨hf.1.trans h.1, hf.2.1.trans h.2.1, hf.2.2.1.trans h.2.2.1, fun a ha hb => (hf.2.2.2.1 a ha hb).trans (h.2.2.2.1 a ha hb), (hf.2.2.2.2 0 (by decide) (by decide) (by decide) (by decide)).trans h.2.2.2.2⟩
theorem VS.si {k : Nat} {x : Int32} (h : VS X X' q vq) (hk : k ≠ 0) : VS X (zsi X' q k x) q vq := ⟨h.1, h.2.1, h.2.2.1, fun a ha hb => by rw [← h.2.2.2.1 a ha hb]; funext j; rw [iv_n ha], by rw [iv_k (by omega)]; exact h.2.2.2.2⟩
theorem LE2.si {k : Nat} {x : Int32} (h : LE2 X q T Fa n v F vq) : LE2 (zsi X q k x) q T Fa n v F vq := by
  obtain ⟨⟨a1, a2, ⟨t1, t2, t3, t4, t5⟩, a4, ⟨a5, a6, a7⟩, a8, a9, a10⟩, h2, h3, h4, h5, h6, h7⟩ := h
  refine ⟨⟨a1, a2, ⟨t1, t2, t3, fun j hj => by rw [iv_n (Ne.symm a8)]; exact t4 j hj, t5⟩, a4, ⟨a5, a6, fun i hi => by rw [iv_n (Ne.symm a9)]; exact a7 i hi⟩, a8, a9, fun c hc => ?_⟩, h2, h3, h4, h5, h6, h7⟩
  obtain ⟨⟨s1, s2, s3⟩, s4⟩ := a10 c hc
  exact ⟨⟨s1, s2, fun j hj => by rw [iv_n (Ne.symm s4)]; exact s3 j hj⟩, s4⟩
theorem AT.si1 {x : Int32} (h : AT X q n v p) : AT (zsi X q 1 x) q n v p := by
  unfold AT at *
  rw [iv_k (by decide), iv_k (by decide), iv_k (by decide), iv_k (by decide)]; exact h
theorem FL.si1 {x : Int32} (h : FL X q n e) : FL (zsi X q 1 x) q n e := by
  unfold FL at *
  rw [iv_k (by decide), iv_k (by decide)]; exact h
theorem VJ.si {a : ZJ} {k : Nat} {x : Int32} (h : VJ X vq a) (hne : vq ≠ q) : VJ (zsi X q k x) vq a := by
  unfold VJ at *
  rw [iv_n hne, iv_n hne, iv_n hne, iv_n hne, iv_n hne, iv_n hne]; exact h
/-- all clauses, one after the other -/
theorem l_verdict (X0 : ZG) {R : Nat ⊕ List ZCLS} {Q : ZQ} (hfin : ∀ X1, VS X0 X1 q vq → LE2 X1 q T Fa n v F vq → VM X1 q n vq F R → Q (.inl (some (.ref vq))) X1) {G : ZG} {b : Nat} :
    ∀ r i, i + r = 16 → ∀ (A : List ZCLS) p X1 k, A.length = i → VS X0 X1 q vq → LE2 X1 q T Fa n v F vq → AT X1 q n v p → ziv X1 q 1 = Int32.ofNat i → VJ X1 vq (jall F A j0) → okb (jall F A j0) → R = lbind A (zLw v n r p) →
      zW E l mX3_verdictOn 38 b G Q k 50 [some (.ref q), none, some (.int 1), some (.int (Int32.ofNat i))] [] X1 := by
  intro r
  induction r with
  | zero =>
    intro i hi A p X1 k hA hS hE hT h1 hV hb hR
    have hn := hE.1.n4
    refine wpt_X3_verdictOn_50 ?_; unfold wp_X3_verdictOn_50
    refine ie (by decide) (it (by rw [show (16 : Int32) = Int32.ofNat 16 from rfl, n_le (by omega) (by omega)]; omega) ?_)
    refine wpt_X3_verdictOn_95 ?_; unfold wp_X3_verdictOn_95
    refine it (by decide) ⟨hE.1.o, cVx (c_fail (n := n) hE.1.o (skp_le hT.1) hT.2.2.1 hT.2.1) (by decide) (Nat.zero_le _) (fun G1 h1 => ?_)⟩
    have e1 := hE.go h1.2.r
    rw [e1.2.1]
    refine ⟨e1.1.o, hfin G1 (hS.r h1.2.r) e1 ?_⟩
    rw [hR]; exact h1.1
  | succ r ih =>
    intro i hi A p X1 k hA hS hE hT h1 hV hb hR
    have hn := hE.1.n4
    rw [zLw_s] at hR
    refine wpt_X3_verdictOn_50 ?_; unfold wp_X3_verdictOn_50
    refine ie (by decide) (ie (by rw [show (16 : Int32) = Int32.ofNat 16 from rfl, n_le (by omega) (by omega)]; omega) ⟨hE.1.o, cVx (c_readClause hE hT) (by decide) (Nat.zero_le _) (fun G1 g1 => ?_)⟩)
    obtain ⟨f1, g1⟩ := g1
    have e1 := hE.go f1
    have h11 : ziv G1 q 1 = Int32.ofNat i := by rw [f1.2.2.2.2 1 (by decide) (by decide) (by decide) (by decide)]; exact h1
    refine ⟨e1.1.o, e1.1.o, fun G3 e3 => ?_⟩
    rw [h11, n_p1] at e3
    have s3 : VS X0 G3 q vq := by rw [e3]; exact (hS.r f1).si (by decide)
    have E3 : LE2 G3 q T Fa n v F vq := by rw [e3]; exact e1.si
    cases hz : zCl v n p with
    | inl e0 =>
      rw [hz] at hR g1
      have hR : R = .inl e0 := hR
      have g3 : FL G3 q n e0 := by rw [e3]; exact FL.si1 g1
      refine ⟨E3.1.o, cI (c_isSignF E3.1.o g3) (by decide) (it rfl ?_)⟩
      refine wpt_X3_verdictOn_50 ?_; unfold wp_X3_verdictOn_50
      refine it rfl ?_
      refine wpt_X3_verdictOn_95 ?_; unfold wp_X3_verdictOn_95
      rw [g3.2.2]
      refine ie (nn rfl) ⟨E3.1.o, ie (by decide) ⟨E3.1.o, cVx (c_failF E3.1.o hn g3) (by decide) (Nat.zero_le _) (fun G4 h4 => ?_)⟩⟩
      have e4 := E3.go h4.2.r
      rw [e4.2.1]
      refine ⟨e4.1.o, hfin G4 (s3.r h4.2.r) e4 ?_⟩
      rw [hR]; exact h4.1
    | inr r1 =>
      obtain ⟨p1, cl⟩ := r1
      rw [hz] at hR g1
      obtain ⟨g1, gv⟩ := g1
      obtain ⟨gv1, gv2⟩ := gv _ hV hb
      have g3 : AT G3 q n v p1 := by rw [e3]; exact g1.si1
      have hj : jall F (A ++ [cl]) j0 = @ite _ (hv F cl.2.2) (Classical.propDecidable _) (jst cl (jall F A j0)) (jall F A j0) := by rw [jall_app]; rfl
      rw [← hj] at gv1 gv2
      have v3 : VJ G3 vq (jall F (A ++ [cl]) j0) := by rw [e3]; exact gv1.si hE.2.2.2.1
      have k3 : ziv G3 q 1 = Int32.ofNat (i + 1) := by rw [e3, iv_s]
      have hl : (A ++ [cl]).length = i + 1 := by rw [List.length_append, hA]; rfl
      have a2 := skp_le (w := v) g3.1
      rw [n_p1]
      refine ⟨E3.1.o, cI (c_isSign E3.1 g3 t59) (by decide) ⟨fun d => ?_, fun d => ?_⟩⟩
      · have d := zb_0.mp d
        rw [zbz d]
        have hR : R = lbind A (if skp v n p1 = n then .inr [cl] else .inl (skp v n p1)) := by
          rw [hR]
          show lbind A (if skp v n p1 = n then _ else _) = _
          by_cases c : skp v n p1 = n
          · rw [if_pos c, if_pos c]
          · rw [if_neg c, if_neg c, if_neg d]
        refine wpt_X3_verdictOn_50 ?_; unfold wp_X3_verdictOn_50
        refine it rfl ?_
        refine wpt_X3_verdictOn_95 ?_; unfold wp_X3_verdictOn_95
        rw [g3.2.2.2.2]
        refine ie (nn rfl) ⟨E3.1.o, fun c => ⟨E3.1.o, ?_⟩, fun c => ⟨E3.1.o, cVx (c_fail (n := n) E3.1.o a2 g3.2.2.1 g3.2.1) (by decide) (Nat.zero_le _) (fun G4 h4 => ?_)⟩⟩
        · have hc : skp v n p1 = n := Classical.byContradiction fun z => by
            rw [if_neg z] at c
            have : ∀ y, tof y ≠ 0 := fun y => by
              unfold tof
              split
              · decide
              · split <;> decide
            exact this _ c
          rw [if_pos hc] at hR
          rw [E3.2.1]
          refine hfin G3 s3 E3 ?_
          rw [hR]
          exact ⟨g3.2.1, by rw [k3, ← hl], v3, gv2⟩
        · have hc : ¬ skp v n p1 = n := fun z => c (by rw [if_pos z])
          rw [if_neg hc] at hR
          have e4 := E3.go h4.2.r
          rw [e4.2.1]
          refine ⟨e4.1.o, hfin G4 (s3.r h4.2.r) e4 ?_⟩
          rw [hR]; exact h4.1
      · have d : sgat v n p1 59 := Classical.byContradiction fun z => d (zbz z)
        have hne : ¬ skp v n p1 = n := by have := d.1; omega
        have hR : R = lbind (A ++ [cl]) (zLw v n r (skp v n p1 + 1)) := by
          rw [hR]
          show lbind A (if skp v n p1 = n then _ else _) = _
          rw [if_neg hne, if_pos d]
          cases zLw v n r (skp v n p1 + 1) with
          | inl e => rfl
          | inr L =>
            show (Sum.inr (A ++ cl :: L) : Nat ⊕ List ZCLS) = Sum.inr (A ++ [cl] ++ L)
            simp
        have ca := c_advT (E := E) (l := l) E3.1 g3
        rw [tnx_sg d t59] at ca
        rw [zb_t d]
        refine ⟨E3.1.o, cVx ca (by decide) (Nat.zero_le _) (fun G7 h7 => ?_)⟩
        exact ih (i + 1) (by omega) (A ++ [cl]) (skp v n p1 + 1) G7 _ hl (s3.r h7.2.r) (E3.go h7.2.r) h7.1 (by rw [h7.2.2.2.2.2 1 (by decide) (by decide) (by decide) (by decide)]; exact k3) (v3.lf h7.2 hE.2.2.2.1) gv2 hR
theorem c_verdictOn {i x f : Nat} (ho : zob X (zp 128 i) 4) (h3 : zrv X (zp 128 i) 3 = zp 1035 x) (hX : TXc X (zp 1035 x) n v) (hF : zar X (zp 1036 f) 0 ∧ zln X (zp 1036 f) = 9 ∧ ∀ j, j < 9 → ziv X (zp 1036 f) j = F j) (hs : ∀ c, c < 32 → zstr X c) : zMet E l mX3_verdictOn 38 7 [.ref (zp 128 i), .ref (zp 1036 f)] X (zRx (fun y X' => VQ X X' (zp 128 i) n v F (zp 1036 f) (zLaw v n) y)) := by
  have hn : n ≤ 400 := hX.2.2.1
  generalize hR : zLaw v n = R
  generalize hQ : (zRx (fun y X' => VQ X X' (zp 128 i) n v F (zp 1036 f) R y)) = Q
  have nqt : zp 128 i ≠ zp 1035 x := zp_ne (by omega) (by omega) (by omega)
  have nqf : zp 128 i ≠ zp 1036 f := zp_ne (by omega) (by omega) (by omega)
  have nvq : zp 352 (zcn X 352) ≠ zp 128 i := zp_ne (by omega) (by omega) (by omega)
  refine z_meth (by decide) (Nat.le_of_ble_eq_true rfl) (by simp [Value.category]) (wpt_X3_verdictOn_0 ?_); unfold wp_X3_verdictOn_0
  refine ⟨ho, fun G1 e1 => ⟨by decide, 352, by decide, by decide, by decide, fun q3 eq3 G4 e4 k5 e5 => ?_⟩⟩
  have c1 : zcn G1 = zcn X := by rw [e1]; rfl
  rw [c1] at eq3
  subst eq3
  have c4 : ∀ t, zcn G4 t = if t = 352 then zcn X 352 + 1 else zcn X t := fun t => by rw [e4, zcn_nw, c1]
  have al4 : zal G4 (zp 352 (zcn X 352)) := by rw [e4, ← c1]; exact (zal_nw (by omega) _).mpr (Or.inr rfl)
  have o4 : zob G4 (zp 352 (zcn X 352)) 11 := ⟨al4, by rw [zp_mod (by omega)]; omega, by rw [zp_mod (by omega)]⟩
  have up : ∀ a, zal X a → zal G4 a := fun a ha => by
    rw [e4]
    exact (zal_nw (by omega) _).mpr (Or.inl (by unfold zal; rw [c1]; exact ha))
  have iv4 : ∀ a, a ≠ zp 352 (zcn X 352) → ziv G4 a = ziv X a := fun a ha => by
    funext j; rw [e4, ziv_nw, c1, if_neg ha, e1, ziv_sr]
  have ln4 : ∀ a, a ≠ zp 352 (zcn X 352) → zln G4 a = zln X a := fun a ha => by
    rw [e4, zln_nw, c1, if_neg ha, e1, zln_sr]
  have rv4 : ∀ a, a ≠ zp 352 (zcn X 352) → ∀ j, zrv G4 a j = if a = zp 128 i ∧ j = 4 then zp 1036 f else zrv X a j := fun a ha j => by
    rw [e4, zrv_nw, c1, if_neg ha, e1, zrv_sr]
  refine ⟨al4, cVx (c_initV o4) (by decide) (Nat.zero_le _) (fun G6 h6 => ?_)⟩
  obtain ⟨i6, r6, v6⟩ := h6
  have o6 : zob G6 (zp 128 i) 4 := ⟨by unfold zal; rw [i6.1]; exact up _ ho.1, ho.2⟩
  refine ⟨o6, fun G8 e8 => ⟨by rw [e8]; exact o6, fun G9 e9 => ⟨by rw [e9, e8]; exact o6, fun G10 e10 => ⟨by rw [e10, e9, e8]; exact o6, fun G11 e11 => ?_⟩⟩⟩⟩
  have c11 : zcn G11 = zcn G4 := by rw [e11, e10, e9, e8, ← i6.1]; rfl
  have l11 : zln G11 = zln G4 := by rw [e11, e10, e9, e8, ← i6.2.1]; rfl
  have r11 : ∀ a j, zrv G11 a j = if a = zp 128 i ∧ j = 5 then zp 352 (zcn X 352) else zrv G4 a j := fun a j => by
    rw [e11, zrv_si, e10, zrv_si, e9, zrv_si, e8, zrv_sr, r6]
  have v11 : ∀ a, a ≠ zp 128 i → ziv G11 a = ziv G6 a := fun a ha => by
    funext j; rw [e11, iv_n ha, e10, iv_n ha, e9, iv_n ha, e8, ziv_sr]
  have v11b : ∀ a, a ≠ zp 128 i → a ≠ zp 352 (zcn X 352) → ziv G11 a = ziv X a := fun a ha hb => by
    rw [v11 a ha, (i6.2.2 a hb).1, iv4 a hb]
  have q0 : ziv G11 (zp 128 i) 0 = ziv X (zp 128 i) 0 := by
    rw [e11, iv_k (by decide), e10, iv_k (by decide), e9, iv_k (by decide), e8, ziv_sr, (i6.2.2 _ (Ne.symm nvq)).1, iv4 _ (Ne.symm nvq)]
  have q2 : ziv G11 (zp 128 i) 2 = -1 := by rw [e11, iv_k (by decide), e10, iv_s]
  have q8 : ziv G11 (zp 128 i) 8 = 0 := by rw [e11, iv_s]
  have q1 : ziv G11 (zp 128 i) 1 = 0 := by rw [e11, iv_k (by decide), e10, iv_k (by decide), e9, iv_s]
  have nvt : zp 352 (zcn X 352) ≠ zp 1035 x := zp_ne (by omega) (by omega) (by omega)
  have nvf : zp 352 (zcn X 352) ≠ zp 1036 f := zp_ne (by omega) (by omega) (by omega)
  have nvs : ∀ c, c < 32 → zp 352 (zcn X 352) ≠ zp (3840 + c) 0 := fun c hc => zp_ne (by omega) (by omega) (by omega)
  have nqs : ∀ c, c < 32 → zp 128 i ≠ zp (3840 + c) 0 := fun c hc => zp_ne (by omega) (by omega) (by omega)
  have al11 : ∀ a, zal X a → zal G11 a := fun a ha => by
    have := up a ha
    unfold zal at *; rw [c11]; exact this
  have E11 : LE2 G11 (zp 128 i) (zp 1035 x) (zp 1036 f) n v F (zp 352 (zcn X 352)) := by
    obtain ⟨t1, t2, t3, t4, t5⟩ := hX
    obtain ⟨f1, f2, f3⟩ := hF
    refine ⟨⟨⟨al11 _ ho.1, ho.2⟩, ?_, ⟨⟨al11 _ t1.1, t1.2⟩, by rw [l11, ln4 _ (Ne.symm nvt)]; exact t2, t3, fun j hj => by rw [v11b _ (Ne.symm nqt) (Ne.symm nvt)]; exact t4 j hj, t5⟩, ?_, ⟨⟨al11 _ f1.1, f1.2⟩, by rw [l11, ln4 _ (Ne.symm nvf)]; exact f2, fun j hj => by rw [v11b _ (Ne.symm nqf) (Ne.symm nvf)]; exact f3 j hj⟩, nqt, nqf, fun c hc => ?_⟩, ?_, ?_, nvq, nvt, nvf, nvs⟩
    · rw [r11, if_neg (fun z => nomatch z.2), rv4 _ (Ne.symm nvq), if_neg (fun z => nomatch z.2)]; exact h3
    · rw [r11, if_neg (fun z => nomatch z.2), rv4 _ (Ne.symm nvq), if_pos ⟨rfl, rfl⟩]
    · obtain ⟨s1, s2, s3⟩ := hs c hc
      exact ⟨⟨al11 _ s1, by rw [l11, ln4 _ (Ne.symm (nvs c hc))]; exact s2, fun j hj => by rw [v11b _ (Ne.symm (nqs c hc)) (Ne.symm (nvs c hc))]; exact s3 j hj⟩, nqs c hc⟩
    · rw [r11, if_pos ⟨rfl, rfl⟩]
    · refine ⟨?_, o4.2⟩
      unfold zal; rw [c11]; exact al4
  have V11 : VJ G11 (zp 352 (zcn X 352)) j0 := by
    unfold VJ at *
    rw [v11 _ nvq]; exact v6
  refine ⟨by rw [e11, e10, e9, e8]; exact o6, cVx (c_advance E11.1 (p := 0) (Nat.zero_le _) q2 q8) (by decide) (Nat.zero_le _) (fun G12 h12 => ?_)⟩
  have E12 := E11.go h12.2.r
  have S12 : VS G11 G12 (zp 128 i) (zp 352 (zcn X 352)) := (show VS G11 G11 _ _ from ⟨rfl, rfl, rfl, fun _ _ _ => rfl, rfl⟩).r h12.2.r
  have V12 := V11.lf h12.2 nvq
  have k12 : ziv G12 (zp 128 i) 1 = Int32.ofNat 0 := by rw [h12.2.2.2.2.2 1 (by decide) (by decide) (by decide) (by decide)]; exact q1
  have a2 := skp_le (w := v) (Nat.zero_le n)
  have fin : ∀ X1, VS G11 X1 (zp 128 i) (zp 352 (zcn X 352)) → LE2 X1 (zp 128 i) (zp 1035 x) (zp 1036 f) n v F (zp 352 (zcn X 352)) → VM X1 (zp 128 i) n (zp 352 (zcn X 352)) F R → Q (.inl (some (.ref (zp 352 (zcn X 352))))) X1 := by
    intro X1 hS hE hm
    rw [← hQ]
    refine ⟨_, rfl, rfl, fun t ht => ?_, ?_, fun a ha => ?_, fun a ha hb => ⟨?_, ?_⟩, ?_, ?_, hE.2.2.1, ?_⟩
    · rw [hS.1, c11, c4, if_neg ht]
    · rw [hS.1, c11, c4, if_pos rfl]
    · rw [hS.2.1, l11, ln4 a ha]
    · rw [hS.2.2.2.1 a ha hb, v11b a ha hb]
    · funext j
      rw [hS.2.2.1, r11, if_neg (fun z => ha z.1), rv4 a hb, if_neg (fun z => ha z.1)]
    · rw [hS.2.2.2.2, q0]
    · rw [hE.1.2.1, h3]
    · cases R with
      | inl e => exact ⟨hm.1, hm.2.1⟩
      | inr L => exact hm
  unfold zLaw at hR
  rw [h12.1.2.2.2.2]
  refine ⟨E12.1.o, fun d => ?_, fun d => ?_⟩
  · have hc : skp v n 0 = n := Classical.byContradiction fun z => by
      rw [if_neg z] at d
      have : ∀ y, tof y ≠ 0 := fun y => by
        unfold tof
        split
        · decide
        · split <;> decide
      exact this _ d
    rw [if_pos hc] at hR
    refine wpt_X3_verdictOn_50 ?_; unfold wp_X3_verdictOn_50
    refine it rfl ?_
    refine wpt_X3_verdictOn_95 ?_; unfold wp_X3_verdictOn_95
    rw [h12.1.2.2.2.2, if_pos hc]
    refine ie (nn rfl) ⟨E12.1.o, it rfl ⟨E12.1.o, ?_⟩⟩
    rw [E12.2.1]
    refine fin G12 S12 E12 ?_
    rw [← hR]
    exact ⟨h12.1.2.1, k12, V12, Or.inl rfl, Or.inl rfl⟩
  · have hc : ¬ skp v n 0 = n := fun z => d (by rw [if_pos z])
    rw [if_neg hc] at hR
    refine l_verdict G11 fin 16 0 rfl [] (skp v n 0) G12 _ rfl S12 E12 h12.1.sk k12 V12 ⟨Or.inl rfl, Or.inl rfl⟩ ?_
    rw [← hR]
    cases zLw v n 16 (skp v n 0) <;> rfl
end ZDj
