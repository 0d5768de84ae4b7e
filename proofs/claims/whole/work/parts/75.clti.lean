/-! the class's reader of laws: clauses, a whole law -/
theorem zfi_is {W : Nat → Prop} {k : Nat} : ∀ {m i : Nat}, W k → i ≤ k → k < i + m → (∀ j, i ≤ j → j < k → ¬ W j) → zfi W m i = k
  | 0, i, _, h1, h2, _ => by omega
  | m + 1, i, hw, h1, h2, hno => by
    by_cases e : i = k
    · rw [e]; exact zfi_t hw
    · rw [zfi_f (hno i (Nat.le_refl _) (by omega))]
      exact zfi_is hw (by omega) (by omega) (fun j a b => hno j (by omega) b)
theorem wds_ne : ∀ c, c < 6 → ∀ d, d < 6 → c ≠ d → zstl (9 + c) = zstl (9 + d) → ∃ j, j < zstl (9 + c) ∧ zstc (9 + c) j ≠ zstc (9 + d) j := by decide +kernel
theorem wof_cl : ∀ k, k < 6 → ∃ s, s < 6 ∧ wof 0 k = 9 + s ∧ k = cix s := by decide
theorem wof_cix : ∀ s, s < 6 → cix s < 6 ∧ wof 0 (cix s) = 9 + s := by decide
theorem shl_nn : ∀ i, i < 8 → ¬ ((1 : Int32) <<< (Int32.ofNat i &&& 31)) < 0 := by decide
/-- the reader's place and a verdict have changed -/
def RFr (X X' : ZG) (q vq : Nat) : Prop := zcn X' = zcn X ∧ zln X' = zln X ∧ zrv X' = zrv X ∧ (∀ a, a ≠ q → a ≠ vq → ziv X' a = ziv X a) ∧ ∀ k, k ≠ 2 → k ≠ 6 → k ≠ 7 → k ≠ 8 → ziv X' q k = ziv X q k
def LE2 (X : ZG) (q T Fa n : Nat) (v F : Nat → Int32) (vq : Nat) : Prop := LE X q T Fa n v F ∧ zrv X q 5 = vq ∧ zob X vq 11 ∧ vq ≠ q ∧ vq ≠ T ∧ vq ≠ Fa ∧ ∀ c, c < 32 → vq ≠ zp (3840 + c) 0
def PC (X X' : ZG) (q n : Nat) (v F : Nat → Int32) (vq : Nat) (r : Nat ⊕ (Nat × ZCLS)) : Prop := RFr X X' q vq ∧ match r with
  | .inl e => FL X' q n e
  | .inr (p1, cl) => AT X' q n v p1 ∧ ∀ a, VJ X vq a → okb a → VJ X' vq (@ite _ (hv F cl.2.2) (Classical.propDecidable _) (jst cl a) a) ∧ okb (@ite _ (hv F cl.2.2) (Classical.propDecidable _) (jst cl a) a)
section ZDi
variable {E : ZE} {l : Launch} {X X' X2 : ZG} {q T Fa n vq : Nat} {v F : Nat → Int32} {p e : Nat}
theorem RFr.rf : RFr X X q vq := ⟨rfl, rfl, rfl, fun _ _ _ => rfl, fun _ _ _ _ _ => rfl⟩
theorem RFr.trans (h : RFr X X' q vq) (h2 : RFr X' X2 q vq) : RFr X X2 q vq := ⟨h2.1.trans h.1, h2.2.1.trans h.2.1, h2.2.2.1.trans h.2.2.1, fun a ha hb => (h2.2.2.2.1 a ha hb).trans (h.2.2.2.1 a ha hb), fun k a b c d => (h2.2.2.2.2 k a b c d).trans (h.2.2.2.2 k a b c d)⟩
theorem LFr.r (h : LFr X X' q) : RFr X X' q vq := ⟨h.1, h.2.1, h.2.2.1, fun a ha _ => h.2.2.2.1 a ha, h.2.2.2.2⟩
theorem LE.gr (h : LE X q T Fa n v F) (hf : RFr X X' q vq) (h1 : vq ≠ T) (h2 : vq ≠ Fa) (h3 : ∀ c, c < 32 → vq ≠ zp (3840 + c) 0) : LE X' q T Fa n v F := by
  obtain ⟨a1, a2, ⟨t1, t2, t3, t4, t5⟩, a4, ⟨a5, a6, a7⟩, a8, a9, a10⟩ := h
  refine ⟨⟨by unfold zal; rw [hf.1]; exact a1.1, a1.2⟩, by rw [hf.2.2.1]; exact a2, ⟨⟨by unfold zal; rw [hf.1]; exact t1.1, t1.2⟩, by rw [hf.2.1]; exact t2, t3, fun j hj => by rw [hf.2.2.2.1 _ (Ne.symm a8) (Ne.symm h1)]; exact t4 j hj, t5⟩, by rw [hf.2.2.1]; exact a4, ⟨⟨by unfold zal; rw [hf.1]; exact a5.1, a5.2⟩, by rw [hf.2.1]; exact a6, fun i hi => by rw [hf.2.2.2.1 _ (Ne.symm a9) (Ne.symm h2)]; exact a7 i hi⟩, a8, a9, fun c hc => ?_⟩
  obtain ⟨⟨s1, s2, s3⟩, s4⟩ := a10 c hc
  exact ⟨⟨by unfold zal; rw [hf.1]; exact s1, by rw [hf.2.1]; exact s2, fun j hj => by rw [hf.2.2.2.1 _ (Ne.symm s4) (Ne.symm (h3 c hc))]; exact s3 j hj⟩, s4⟩
theorem LE2.go (h : LE2 X q T Fa n v F vq) (hf : RFr X X' q vq) : LE2 X' q T Fa n v F vq := by
  obtain ⟨h1, h2, h3, h4, h5, h6, h7⟩ := h
  exact ⟨h1.gr hf h5 h6 h7, by rw [hf.2.2.1]; exact h2, ⟨by unfold zal; rw [hf.1]; exact h3.1, h3.2⟩, h4, h5, h6, h7⟩
theorem VJ.lf {a : ZJ} (h : VJ X vq a) (hf : LFr X X' q) (hne : vq ≠ q) : VJ X' vq a := by
  unfold VJ at *
  rw [hf.2.2.2.1 _ hne]; exact h
/-- what the verdict takes is nothing to the reader -/
theorem zIn.r (h : zIn X X' vq) (hr : zrv X' = zrv X) (hne : vq ≠ q) : RFr X X' q vq := ⟨h.1, h.2.1, hr, fun a _ hb => (h.2.2 a hb).1, fun k _ _ _ _ => by rw [(h.2.2 q (Ne.symm hne)).1]⟩
theorem AT.gr (h : AT X q n v p) (hi : ziv X' q = ziv X q) : AT X' q n v p := by unfold AT at *; rw [hi]; exact h
theorem FL.gr (h : FL X q n e) (hi : ziv X' q = ziv X q) : FL X' q n e := by unfold FL at *; rw [hi]; exact h
theorem nam_cl (hp : p ≤ n) : namI v n p 0 = if zsrt v n p = 6 then -1 else Int32.ofNat (cix (zsrt v n p)) := by
  have hle := (zfi_le (W := fun i => wdat v n p (9 + i)) (m := 6) (i := 0)).2
  have e6 : (wls 0).length = 6 := by decide
  by_cases h : zsrt v n p = 6
  · rw [if_pos h]
    have hn : nam v n p 0 = 0 + (wls 0).length := zfi_all (fun k _ hk hw => by
      rw [e6] at hk
      obtain ⟨s, hs, hws, -⟩ := wof_cl k (by omega)
      rw [hws] at hw
      exact zfi_no (W := fun i => wdat v n p (9 + i)) (m := 6) (i := 0) (Nat.zero_le s) (by unfold zsrt at h; omega) hw)
    unfold namI
    rw [hn, if_pos (by omega)]
  · rw [if_neg h]
    have hs : zsrt v n p < 6 := by unfold zsrt at *; omega
    have hw := zfi_W (W := fun i => wdat v n p (9 + i)) (m := 6) (i := 0) (by unfold zsrt at hs; omega)
    have hw : wdat v n p (9 + zsrt v n p) := hw
    obtain ⟨c1, c2⟩ := wof_cix _ hs
    have hn : nam v n p 0 = cix (zsrt v n p) := zfi_is (W := fun k => wdat v n p (wof 0 k)) (by rw [c2]; exact hw) (Nat.zero_le _) (by rw [e6]; omega) (fun j _ hj hwj => by
      obtain ⟨s, hs2, hws, hjs⟩ := wof_cl j (by omega)
      rw [hws] at hwj
      have hne : s ≠ zsrt v n p := fun z => by rw [hjs, z] at hj; omega
      obtain ⟨j', h1, h2⟩ := wds_ne s hs2 _ hs hne (hwj.1.symm.trans hw.1)
      exact h2 ((hwj.2 j' h1).symm.trans (hw.2 j' (by rw [← hw.1, hwj.1]; exact h1))))
    unfold namI
    rw [hn, if_neg (by rw [e6]; omega)]
theorem hvs_1 {b : Bool} : hvs [b] ↔ b = true := Iff.rfl
/-- the rest of a clause -/
theorem l_clause (hE : LE2 X q T Fa n v F vq) {X0 : ZG} (hf0 : RFr X0 X q vq) (hv0 : ∀ a, VJ X0 vq a → VJ X vq a) {s : Nat} (hs : s < 6) {amt : Int32} (hamt : ¬ amt < 0) (hT : AT X q n v p) {r : Nat ⊕ (Nat × ZCLS)} (hr : r = zClif v n p (Int32.ofNat s) amt) (k : Nat) :
    zW E l mX3_readClause 37 0 X0 (zVx (fun X' => PC X0 X' q n v F vq r)) k 45 [some (.ref q), some (.int (Int32.ofNat (cix s))), some (.int amt), none] [] X := by
  have hn := hE.1.n4
  have hp := hT.1
  have a3 := wen_le (w := v) hp
  unfold zClif at hr
  refine wpt_X3_readClause_45 ?_; unfold wp_X3_readClause_45
  refine ⟨hE.1.o, cI (c_isWordL hE.1 hT (c := 2) (by omega)) (by decide) ⟨fun d => ie (by decide) ⟨hE.1.o, by rw [hE.2.1]; exact hE.2.2.1, ?_⟩, fun d => ⟨hE.1.o, ?_⟩⟩⟩
  · rw [if_neg (zb_0.mp d)] at hr
    rw [hE.2.1]
    refine cVx (c_take hE.2.2.1 _ amt) (by decide) (Nat.zero_le _) (fun G4 h4 => ⟨rfl, ?_⟩)
    obtain ⟨i4, r4, t0, t1, t2, t3, t4, t5⟩ := h4
    rw [hr]
    have hi : ziv G4 q = ziv X q := (i4.2.2 q (Ne.symm hE.2.2.2.1)).1
    refine ⟨hf0.trans (i4.r r4 hE.2.2.2.1), hT.sk.gr hi, fun a ha hb => ?_⟩
    have hh : hv F (Int32.ofNat s, amt, ([] : List ZCD)).2.2 := trivial
    rw [if_pos hh]
    exact take_jst hs hamt (hv0 a ha) hb t0 t1 t2 t3 t4 t5
  · have hw : wdat v n p 2 := Classical.byContradiction fun z => d (zbz z)
    rw [if_pos hw] at hr
    have ca := c_advT (E := E) (l := l) hE.1 hT
    rw [tnx_wd (by omega) hp hw] at ca
    refine cVx ca (by decide) (Nat.zero_le _) (fun G6 h6 => ?_)
    have e6 := hE.go h6.2.r
    refine ⟨e6.1.o, cIx ((CB_all (4 * n + 3)).2.2 0 (wen v n p) G6 (by omega) e6.1 h6.1 (by omega)) (by decide) (Nat.zero_le _) (fun y G9 h9 => ?_)⟩
    obtain ⟨f9, hy, h9⟩ := h9
    have e9 := e6.go f9.r
    have f09 : RFr X0 G9 q vq := (hf0.trans h6.2.r).trans f9.r
    have v9 : ∀ a, VJ X0 vq a → VJ G9 vq a := fun a ha => ((hv0 a ha).lf h6.2 hE.2.2.2.1).lf f9 hE.2.2.2.1
    rw [e9.2.1]
    cases hz : zP v n (4 * n + 3) 3 0 (wen v n p) with
    | inl e0 =>
      rw [hz] at hr h9
      have hr : r = .inl e0 := hr
      have h9 : FL G9 q n e0 := h9
      refine ⟨fun d2 => ⟨rfl, ?_⟩, fun d2 => ⟨e9.1.o, e9.2.2.1, cVx (c_take e9.2.2.1 _ amt) (by decide) (Nat.zero_le _) (fun G11 h11 => ⟨rfl, ?_⟩)⟩⟩
      · rw [hr]; exact ⟨f09, h9⟩
      · rw [hr]
        obtain ⟨i4, r4, -⟩ := h11
        exact ⟨f09.trans (i4.r r4 hE.2.2.2.1), h9.gr (i4.2.2 q (Ne.symm hE.2.2.2.1)).1⟩
    | inr r1 =>
      obtain ⟨p1, c1⟩ := r1
      rw [hz] at hr h9
      obtain ⟨h9, hc1⟩ := h9
      have hr : r = .inr (p1, (Int32.ofNat s, amt, c1)) := hr
      have hhv : hv F c1 ↔ y = 1 := by
        unfold hv
        rw [hc1, hvs_1, decide_eq_true_eq]
      refine ⟨fun d2 => ⟨rfl, ?_⟩, fun d2 => ⟨e9.1.o, e9.2.2.1, cVx (c_take e9.2.2.1 _ amt) (by decide) (Nat.zero_le _) (fun G11 h11 => ⟨rfl, ?_⟩)⟩⟩
      · rw [hr]
        refine ⟨f09, h9, fun a ha hb => ?_⟩
        have hh : ¬ hv F (Int32.ofNat s, amt, c1).2.2 := fun z => by rw [hhv.mp z] at d2; exact absurd d2 (by decide)
        rw [if_neg hh]
        exact ⟨v9 a ha, hb⟩
      · rw [hr]
        obtain ⟨i4, r4, t0, t1, t2, t3, t4, t5⟩ := h11
        refine ⟨f09.trans (i4.r r4 hE.2.2.2.1), h9.gr (i4.2.2 q (Ne.symm hE.2.2.2.1)).1, fun a ha hb => ?_⟩
        have hh : hv F (Int32.ofNat s, amt, c1).2.2 := hhv.mpr (hy.resolve_left d2)
        rw [if_pos hh]
        exact take_jst hs hamt (v9 a ha) hb t0 t1 t2 t3 t4 t5
/-- when the clause's amount has failed -/
theorem l_clauseF (hE : LE2 X q T Fa n v F vq) {X0 : ZG} (hf0 : RFr X0 X q vq) (hF : FL X q n e) {x amt : Int32} {r : Nat ⊕ (Nat × ZCLS)} (hr : r = .inl e) (k : Nat) :
    zW E l mX3_readClause 37 0 X0 (zVx (fun X' => PC X0 X' q n v F vq r)) k 45 [some (.ref q), some (.int x), some (.int amt), none] [] X := by
  refine wpt_X3_readClause_45 ?_; unfold wp_X3_readClause_45
  refine ⟨hE.1.o, cI (c_isWordF hE.1.o hF) (by decide) (it rfl (ie (by decide) ⟨hE.1.o, by rw [hE.2.1]; exact hE.2.2.1, ?_⟩))⟩
  rw [hE.2.1]
  refine cVx (c_take hE.2.2.1 _ amt) (by decide) (Nat.zero_le _) (fun G4 h4 => ⟨rfl, ?_⟩)
  obtain ⟨i4, r4, -⟩ := h4
  rw [hr]
  exact ⟨hf0.trans (i4.r r4 hE.2.2.2.1), hF.gr (i4.2.2 q (Ne.symm hE.2.2.2.1)).1⟩
theorem c_readClause (hE : LE2 X q T Fa n v F vq) (hT : AT X q n v p) : zMet E l mX3_readClause 37 0 [.ref q] X (zVx (fun X' => PC X X' q n v F vq (zCl v n p))) := by
  have hn := hE.1.n4
  have hp := hT.1
  have a2 := skp_le (w := v) hp
  have a3 := wen_le (w := v) hp
  have hle := (zfi_le (W := fun i => wdat v n p (9 + i)) (m := 6) (i := 0)).2
  generalize hR : zCl v n p = R
  unfold zCl at hR
  generalize hQ : (zVx (fun X' => PC X X' q n v F vq R)) = Q
  have lc : ∀ {X1 s amt p1 k}, RFr X X1 q vq → (∀ a, VJ X vq a → VJ X1 vq a) → s < 6 → ¬ amt < 0 → AT X1 q n v p1 → R = zClif v n p1 (Int32.ofNat s) amt → zW E l mX3_readClause 37 0 X Q k 45 [some (.ref q), some (.int (Int32.ofNat (cix s))), some (.int amt), none] [] X1 := fun f hv0 hs ha hT1 hr => by
    rw [← hQ]; exact l_clause (hE.go f) f hv0 hs ha hT1 hr _
  have lf : ∀ {X1 x amt e k}, RFr X X1 q vq → FL X1 q n e → R = .inl e → zW E l mX3_readClause 37 0 X Q k 45 [some (.ref q), some (.int x), some (.int amt), none] [] X1 := fun f hF hr => by
    rw [← hQ]; exact l_clauseF (hE.go f) f hF hr _
  refine z_meth (by decide) (Nat.le_of_ble_eq_true rfl) (by simp [Value.category]) (wpt_X3_readClause_0 ?_); unfold wp_X3_readClause_0
  refine ⟨hE.1.o, cI (c_numAmong hE.1 hT (by decide)) (by decide) ?_⟩
  rw [nam_cl hp]
  by_cases h6 : zsrt v n p = 6
  · rw [if_pos h6] at hR ⊢
    refine ⟨fun z => absurd rfl z, fun _ => ⟨hE.1.o, cVx (c_fail (n := n) hE.1.o a2 hT.2.2.1 hT.2.1) (by decide) (Nat.zero_le _) (fun G12 h12 => ?_)⟩⟩
    rw [← hQ, ← hR]
    exact ⟨rfl, h12.2.r, h12.1⟩
  · have hs : zsrt v n p < 6 := by unfold zsrt at *; omega
    have hw : wdat v n p (9 + zsrt v n p) := zfi_W (W := fun i => wdat v n p (9 + i)) (m := 6) (i := 0) (by unfold zsrt at hs; omega)
    rw [if_neg h6] at hR ⊢
    have hcx := (wof_cix _ hs).1
    have ca := c_advT (E := E) (l := l) hE.1 hT
    rw [tnx_wd (by omega) hp hw] at ca
    refine ⟨fun _ => ⟨hE.1.o, cVx ca (by decide) (Nat.zero_le _) (fun G4 h4 => ?_)⟩, fun z => absurd (Classical.not_not.mp z) (e_nn (by omega))⟩
    have f4 : RFr X G4 q vq := h4.2.r
    have e4 := hE.go f4
    have v4 : ∀ a, VJ X vq a → VJ G4 vq a := fun a ha => ha.lf h4.2 hE.2.2.2.1
    have c0 : Int32.ofNat (cix (zsrt v n p)) = 0 ↔ zsrt v n p = 0 := by
      have : ∀ s, s < 6 → (Int32.ofNat (cix s) = 0 ↔ s = 0) := by decide
      exact this _ hs
    have c5 : Int32.ofNat (cix (zsrt v n p)) = 5 ↔ zsrt v n p = 4 := by
      have : ∀ s, s < 6 → (Int32.ofNat (cix s) = 5 ↔ s = 4) := by decide
      exact this _ hs
    refine ⟨fun d => ⟨fun d5 => ?_, fun d5 => ⟨e4.1.o, cIx (c_readNumber e4.1 h4.1) (by decide) (Nat.zero_le _) (fun y G7 h7 => ?_)⟩⟩, fun d => ⟨e4.1.o, cIx (c_readItem e4.1 h4.1) (by decide) (Nat.zero_le _) (fun y G10 h10 => ?_)⟩⟩
    · have e0 : ¬ zsrt v n p = 0 := fun z => d (c0.mpr z)
      have e5 := c5.mp d5
      rw [if_neg e0, if_pos e5] at hR
      exact lc f4 v4 hs (by decide) h4.1 (by rw [← hR, e5]; rfl)
    · have e0 : ¬ zsrt v n p = 0 := fun z => d (c0.mpr z)
      have e5 : ¬ zsrt v n p = 4 := fun z => d5 (c5.mpr z)
      rw [if_neg e0, if_neg e5] at hR
      obtain ⟨f7, h7⟩ := h7
      rcases h7 with ⟨g1, g2, g3⟩ | ⟨g1, g2, g3⟩
      · rw [if_pos g1] at hR
        exact lc (f4.trans f7.r) (fun a ha => (v4 a ha).lf f7 hE.2.2.2.1) hs (by rw [g2]; exact i_nlt.mpr (nmv_ge a3 g1)) g3 (by rw [← hR, g2])
      · rw [if_neg g1] at hR
        exact lf (f4.trans f7.r) g3 hR.symm
    · have e0 := c0.mp (Classical.not_not.mp d)
      rw [if_pos e0] at hR
      obtain ⟨f10, h10⟩ := h10
      rcases h10 with ⟨g1, g2, g3⟩ | ⟨g1, g2, g3⟩
      · rw [if_neg (by omega)] at hR
        exact lc (f4.trans f10.r) (fun a ha => (v4 a ha).lf f10 hE.2.2.2.1) hs (by rw [g2]; exact shl_nn _ g1) g3 (by rw [← hR, g2, e0]; rfl)
      · rw [if_pos g1] at hR
        exact lf (f4.trans f10.r) g3 hR.symm
end ZDi
