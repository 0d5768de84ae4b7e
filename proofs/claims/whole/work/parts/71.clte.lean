/-! the class's reader of laws: things, going on, failing -/
noncomputable def tof (c : Int32) : Int32 := @ite _ (islo c) (Classical.propDecidable _) 1 (@ite _ (isdg c) (Classical.propDecidable _) 2 3)
noncomputable def tnd (v : Nat → Int32) (n p : Nat) : Nat := @ite _ (islo (v (skp v n p))) (Classical.propDecidable _) (wen v n p) (@ite _ (isdg (v (skp v n p))) (Classical.propDecidable _) (den v n p) (skp v n p + 1))
/-- where the thing ends that comes first from p on -/
noncomputable def tnx (v : Nat → Int32) (n p : Nat) : Nat := if skp v n p = n then n else tnd v n p
/-- what the reader of laws stands on: object, text, facts -/
def LE (X : ZG) (q T Fa n : Nat) (v F : Nat → Int32) : Prop := zob X q 4 ∧ zrv X q 3 = T ∧ TXc X T n v ∧ zrv X q 4 = Fa ∧ (zar X Fa 0 ∧ zln X Fa = 9 ∧ ∀ i, i < 9 → ziv X Fa i = F i) ∧ q ≠ T ∧ q ≠ Fa ∧ ∀ c, c < 32 → zstr X c ∧ q ≠ zp (3840 + c) 0
/-- only the place where it reads has changed -/
def LFr (X X' : ZG) (q : Nat) : Prop := zcn X' = zcn X ∧ zln X' = zln X ∧ zrv X' = zrv X ∧ (∀ a, a ≠ q → ziv X' a = ziv X a) ∧ ∀ k, k ≠ 2 → k ≠ 6 → k ≠ 7 → k ≠ 8 → ziv X' q k = ziv X q k
/-- it looks at the first thing from p on -/
def AT (X : ZG) (q n : Nat) (v : Nat → Int32) (p : Nat) : Prop := p ≤ n ∧ ziv X q 2 = -1 ∧ ziv X q 7 = Int32.ofNat (skp v n p) ∧ ziv X q 8 = Int32.ofNat (tnx v n p) ∧ ziv X q 6 = if skp v n p = n then 0 else tof (v (skp v n p))
/-- it has failed at e -/
def FL (X : ZG) (q n e : Nat) : Prop := e ≤ n ∧ ziv X q 2 = Int32.ofNat e ∧ ziv X q 6 = 4
section ZDe
variable {E : ZE} {l : Launch} {X X' X2 : ZG} {q T Fa n : Nat} {v F : Nat → Int32} {p e : Nat}
theorem LFr.rf : LFr X X q := ⟨rfl, rfl, rfl, fun _ _ => rfl, fun _ _ _ _ _ => rfl⟩
theorem LFr.trans (h : LFr X X' q) (h2 : LFr X' X2 q) : LFr X X2 q := ⟨h2.1.trans h.1, h2.2.1.trans h.2.1, h2.2.2.1.trans h.2.2.1, fun a ha => (h2.2.2.2.1 a ha).trans (h.2.2.2.1 a ha), fun k a b c d => (h2.2.2.2.2 k a b c d).trans (h.2.2.2.2 k a b c d)⟩
theorem LFr.si {k : Nat} {x : Int32} (h : LFr X X' q) (hk : k = 2 ∨ k = 6 ∨ k = 7 ∨ k = 8) : LFr X (zsi X' q k x) q := ⟨h.1, h.2.1, h.2.2.1, fun a ha => by rw [← h.2.2.2.1 a ha]; funext j; rw [iv_n ha], fun j a b c d => by rw [iv_k (by omega)]; exact h.2.2.2.2 j a b c d⟩
theorem LFr.ob {c : Nat} {a : Nat} (h : LFr X X' q) (ho : zob X a c) : zob X' a c := ⟨by unfold zal; rw [h.1]; exact ho.1, ho.2⟩
theorem TXc.lf (h : TXc X T n v) (hf : LFr X X' q) (hq : q ≠ T) : TXc X' T n v := by
  obtain ⟨h1, h2, h3, h4, h5⟩ := h
  exact ⟨⟨by unfold zal; rw [hf.1]; exact h1.1, h1.2⟩, by rw [hf.2.1]; exact h2, h3, fun j hj => by rw [hf.2.2.2.1 _ (Ne.symm hq)]; exact h4 j hj, h5⟩
theorem LE.go (h : LE X q T Fa n v F) (hf : LFr X X' q) : LE X' q T Fa n v F := by
  obtain ⟨h1, h2, h3, h4, ⟨h5, h6, h7⟩, h8, h9, h10⟩ := h
  refine ⟨hf.ob h1, by rw [hf.2.2.1]; exact h2, h3.lf hf h8, by rw [hf.2.2.1]; exact h4, ⟨⟨by unfold zal; rw [hf.1]; exact h5.1, h5.2⟩, by rw [hf.2.1]; exact h6, fun i hi => by rw [hf.2.2.2.1 _ (Ne.symm h9)]; exact h7 i hi⟩, h8, h9, fun c hc => ?_⟩
  obtain ⟨⟨s1, s2, s3⟩, s4⟩ := h10 c hc
  exact ⟨⟨by unfold zal; rw [hf.1]; exact s1, by rw [hf.2.1]; exact s2, fun j hj => by rw [hf.2.2.2.1 _ (Ne.symm s4)]; exact s3 j hj⟩, s4⟩
theorem LE.n4 (h : LE X q T Fa n v F) : n ≤ 400 := h.2.2.1.2.2.1
theorem LE.ta (h : LE X q T Fa n v F) : zar X T 0 := h.2.2.1.1
theorem LE.tn (h : LE X q T Fa n v F) : zln X T = n := h.2.2.1.2.1
theorem LE.tv (h : LE X q T Fa n v F) {j : Nat} (hj : j < n) : ziv X T j = v j := h.2.2.1.2.2.2.1 j hj
theorem LE.t3 (h : LE X q T Fa n v F) : zrv X q 3 = T := h.2.1
theorem LE.o (h : LE X q T Fa n v F) : zob X q 4 := h.1
theorem LE.str (h : LE X q T Fa n v F) {c : Nat} (hc : c < 32) : zstr X c := (h.2.2.2.2.2.2.2 c hc).1
theorem LE.b (h : LE X q T Fa n v F) {j : Nat} (hj : j < n) : ∃ m, m < 256 ∧ v j = Int32.ofNat m := h.2.2.1.2.2.2.2 j hj
theorem c_thingOf (c : Int32) : zMet E l mX3_thingOf 0 0 [.int c] X (zI (tof c) X) := by
  have hi : ∀ {c : Int32}, islo c → tof c = 1 := fun h => by unfold tof; rw [if_pos h]
  have hd : ∀ {c : Int32}, ¬ islo c → isdg c → tof c = 2 := fun h h2 => by unfold tof; rw [if_neg h, if_pos h2]
  have hs : ∀ {c : Int32}, ¬ islo c → ¬ isdg c → tof c = 3 := fun h h2 => by unfold tof; rw [if_neg h, if_neg h2]
  refine z_meth (by decide) (Nat.le_of_ble_eq_true rfl) (by simp [Value.category]) (wpt_X3_thingOf_0 ?_); unfold wp_X3_thingOf_0
  refine ⟨fun a => ⟨fun b => ⟨?_, rfl⟩, fun b => ⟨fun d => ⟨?_, rfl⟩, fun d => ⟨?_, rfl⟩⟩⟩, fun a => ⟨fun b => ⟨fun d => ⟨?_, rfl⟩, fun d => ⟨fun e => ⟨?_, rfl⟩, fun e => ⟨?_, rfl⟩⟩⟩, fun b => ⟨?_, rfl⟩⟩⟩
  · rw [hs (fun z => z.1 a) (fun z => z.1 b)]
  · rw [hs (fun z => z.1 a) (fun z => z.2 d)]
  · rw [hd (fun z => z.1 a) ⟨b, d⟩]
  · rw [hs (fun z => z.2 b) (fun z => z.1 d)]
  · rw [hs (fun z => z.2 b) (fun z => z.2 e)]
  · rw [hd (fun z => z.2 b) ⟨d, e⟩]
  · rw [hi ⟨a, b⟩]
theorem tof_1 {c : Int32} : tof c = 1 ↔ islo c := by
  unfold tof
  by_cases h : islo c
  · rw [if_pos h]; exact ⟨fun _ => h, fun _ => rfl⟩
  · rw [if_neg h]
    by_cases h2 : isdg c
    · rw [if_pos h2]; exact ⟨fun z => absurd z (by decide), fun z => absurd z h⟩
    · rw [if_neg h2]; exact ⟨fun z => absurd z (by decide), fun z => absurd z h⟩
theorem lo_dg {c : Int32} (h : islo c) (h2 : isdg c) : False := by
  have a := h.1
  have b := h2.2
  have e1 : (97 : Int32).toInt = 97 := by decide
  have e2 : (57 : Int32).toInt = 57 := by decide
  rw [i_tl, e1] at a
  rw [i_tl, e2] at b
  omega
theorem tof_2 {c : Int32} : tof c = 2 ↔ isdg c := by
  unfold tof
  by_cases h : islo c
  · rw [if_pos h]; exact ⟨fun z => absurd z (by decide), fun z => (lo_dg h z).elim⟩
  · rw [if_neg h]
    by_cases h2 : isdg c
    · rw [if_pos h2]; exact ⟨fun _ => h2, fun _ => rfl⟩
    · rw [if_neg h2]; exact ⟨fun z => absurd z (by decide), fun z => absurd z h2⟩
theorem tof_3 {c : Int32} : tof c = 3 ↔ ¬ islo c ∧ ¬ isdg c := by
  unfold tof
  by_cases h : islo c
  · rw [if_pos h]; exact ⟨fun z => absurd z (by decide), fun z => absurd h z.1⟩
  · rw [if_neg h]
    by_cases h2 : isdg c
    · rw [if_pos h2]; exact ⟨fun z => absurd z (by decide), fun z => absurd h2 z.2⟩
    · rw [if_neg h2]; exact ⟨fun _ => ⟨h, h2⟩, fun _ => rfl⟩
theorem isbl_eq {c : Int32} : isbl c ↔ c = 32 := by
  unfold isbl inn
  rw [i_tl, i_tl, i_te]
  omega
theorem tnd_le (hp : p ≤ n) (h : skp v n p ≠ n) : skp v n p ≤ tnd v n p ∧ tnd v n p ≤ n := by
  have a1 := skp_le (w := v) hp
  have a2 := wen_ge (w := v) hp
  have a3 := wen_le (w := v) hp
  have a4 := den_ge (w := v) hp
  have a5 := den_le (w := v) hp
  unfold tnd
  split
  · omega
  · split
    · omega
    · omega
theorem tnx_le (hp : p ≤ n) : skp v n p ≤ tnx v n p ∧ tnx v n p ≤ n := by
  have a1 := skp_le (w := v) hp
  unfold tnx
  by_cases h : skp v n p = n
  · rw [if_pos h]; omega
  · rw [if_neg h]; exact tnd_le hp h
theorem c_fail (h : zob X q 4) {b : Nat} (hb : b ≤ n) (h7 : ziv X q 7 = Int32.ofNat b) (h2 : ziv X q 2 = -1) : zMet E l mX3_fail 0 0 [.ref q] X (zVx (fun X' => FL X' q n b ∧ LFr X X' q)) := by
  refine z_meth (by decide) (Nat.le_of_ble_eq_true rfl) (by simp [Value.category]) (wpt_X3_fail_0 ?_); unfold wp_X3_fail_0
  rw [h2, h7]
  refine ⟨h, fun z => absurd rfl z, fun _ => ⟨h, h, fun G2 e2 => ⟨by rw [e2]; exact h, fun G3 e3 => ⟨rfl, ⟨hb, ?_, ?_⟩, ?_⟩⟩⟩⟩
  · rw [e3, iv_k (by decide), e2, iv_s]
  · rw [e3, iv_s]
  · rw [e3, e2]; exact (LFr.rf.si (Or.inl rfl)).si (Or.inr (Or.inl rfl))
theorem e_nn {a : Nat} (h : a ≤ 400) : ¬ Int32.ofNat a = -1 := fun z => by
  have := n_neg (a := a) (by omega)
  rw [z] at this
  exact this (by decide)
/-- one that has failed stays so -/
theorem c_failF (h : zob X q 4) (hn : n ≤ 400) (hF : FL X q n e) : zMet E l mX3_fail 0 0 [.ref q] X (zVx (fun X' => FL X' q n e ∧ LFr X X' q)) := by
  have hne := e_nn (show e ≤ 400 from Nat.le_trans hF.1 hn)
  refine z_meth (by decide) (Nat.le_of_ble_eq_true rfl) (by simp [Value.category]) (wpt_X3_fail_0 ?_); unfold wp_X3_fail_0
  rw [hF.2.1]
  refine ⟨h, fun _ => ⟨h, fun G1 e1 => ⟨rfl, ⟨hF.1, ?_, ?_⟩, ?_⟩⟩, fun z => absurd hne z⟩
  · rw [e1, iv_k (by decide)]; exact hF.2.1
  · rw [e1, iv_s]
  · rw [e1]; exact LFr.rf.si (Or.inr (Or.inl rfl))
theorem c_advF (h : zob X q 4) (hn : n ≤ 400) (hF : FL X q n e) : zMet E l mX3_advance 1 0 [.ref q] X (zVd X) := by
  refine z_meth (by decide) (Nat.le_of_ble_eq_true rfl) (by simp [Value.category]) (wpt_X3_advance_0 ?_); unfold wp_X3_advance_0
  rw [hF.2.1]
  exact ⟨h, fun z => absurd z (e_nn (Nat.le_trans hF.1 hn)), fun _ => ⟨rfl, rfl⟩⟩
theorem c_advance (h : LE X q T Fa n v F) (hp : p ≤ n) (h2 : ziv X q 2 = -1) (h8 : ziv X q 8 = Int32.ofNat p) : zMet E l mX3_advance 1 0 [.ref q] X (zVx (fun X' => AT X' q n v p ∧ LFr X X' q)) := by
  have hn := h.n4
  have a1 := skp_ge (w := v) hp
  have a2 := skp_le (w := v) hp
  generalize hQ : (zVx (fun X' => AT X' q n v p ∧ LFr X X' q)) = Q
  have run : ∀ (P : Int32 → Prop) (th : Int32), (∀ c, tof c = th ↔ P c) → skp v n p < n → P (v (skp v n p)) → tnd v n p = zrn P v n (skp v n p) → ∀ m a, n - a = m → a ≤ n → zrn P v n a = zrn P v n (skp v n p) → ∀ X1 k, LFr X X1 q → ziv X1 q 2 = -1 → ziv X1 q 6 = th → ziv X1 q 7 = Int32.ofNat (skp v n p) → ziv X1 q 8 = Int32.ofNat a → zW E l mX3_advance 1 0 X Q k 117 [some (.ref q)] [] X1 := by
    intro P th hth hsn hP0 htn m
    induction m with
    | zero =>
      intro a hm ha hz X1 k f1 i2 i6 i7 i8
      have h1 := h.go f1
      refine wpt_X3_advance_117 ?_; unfold wp_X3_advance_117
      rw [h1.t3, h1.tn, i8]
      refine ⟨h1.o, h1.o, Or.inl h1.ta, it (by rw [n_le (by omega) (by omega)]; omega) ?_⟩
      rw [← hQ]
      have hf : zrn P v n a = a := zrn_f (fun z => by have := z.1; omega)
      refine ⟨rfl, ⟨hp, i2, i7, ?_, ?_⟩, f1⟩
      · rw [i8]; unfold tnx; rw [if_neg (by omega), htn, ← hz, hf]
      · rw [i6, if_neg (by omega)]; exact ((hth _).mpr hP0).symm
    | succ m ih =>
      intro a hm ha hz X1 k f1 i2 i6 i7 i8
      have h1 := h.go f1
      refine wpt_X3_advance_117 ?_; unfold wp_X3_advance_117
      rw [h1.t3, h1.tn, i8, n_nn (by omega), h1.tv (show a < n by omega)]
      refine ⟨h1.o, h1.o, Or.inl h1.ta, ie (by rw [n_le (by omega) (by omega)]; omega) ⟨h1.o, h1.o, Or.inl h1.ta, n_in (by omega) (by omega), cI (c_thingOf _) (by decide) ⟨h1.o, ?_⟩⟩⟩
      rw [i6]
      refine ⟨fun c => ?_, fun c => ⟨h1.o, h1.o, fun G4 e4 => ?_⟩⟩
      · rw [← hQ]
        have hf : zrn P v n a = a := zrn_f (fun z => c ((hth _).mpr z.2))
        refine ⟨rfl, ⟨hp, i2, i7, ?_, ?_⟩, f1⟩
        · rw [i8]; unfold tnx; rw [if_neg (by omega), htn, ← hz, hf]
        · rw [i6, if_neg (by omega)]; exact ((hth _).mpr hP0).symm
      · have c := (hth _).mp (Classical.not_not.mp c)
        rw [i8, n_p1] at e4
        refine ih (a + 1) (by omega) (by omega) (by rw [← hz, zrn_t ⟨by omega, c⟩]) G4 _ (by rw [e4]; exact f1.si (by omega)) ?_ ?_ ?_ ?_
        · rw [e4, iv_k (by decide)]; exact i2
        · rw [e4, iv_k (by decide)]; exact i6
        · rw [e4, iv_k (by decide)]; exact i7
        · rw [e4, iv_s]
  have i56 : ∀ X1 k, LFr X X1 q → ziv X1 q 2 = -1 → ziv X1 q 7 = Int32.ofNat (skp v n p) → zW E l mX3_advance 1 0 X Q k 56 [some (.ref q)] [] X1 := by
    intro X1 k f1 i2 i7
    have h1 := h.go f1
    refine wpt_X3_advance_56 ?_; unfold wp_X3_advance_56
    rw [i7]
    refine ⟨h1.o, h1.o, fun G1 e1 => ?_⟩
    have f2 : LFr X G1 q := by rw [e1]; exact f1.si (by omega)
    have h2 := h.go f2
    have j7 : ziv G1 q 7 = Int32.ofNat (skp v n p) := by rw [e1, iv_k (by decide)]; exact i7
    have j2 : ziv G1 q 2 = -1 := by rw [e1, iv_k (by decide)]; exact i2
    rw [h2.t3, h2.tn, j7]
    refine ⟨h2.o, h2.o, Or.inl h2.ta, fun c => ?_, fun c => ?_⟩
    · rw [n_lt (by omega) (by omega)] at c
      rw [n_nn (by omega), h2.tv c]
      refine ⟨h2.o, h2.o, Or.inl h2.ta, n_in c (by omega), cI (c_thingOf _) (by decide) ⟨h2.o, fun G5 e5 => ⟨by rw [e5]; exact h2.o, by rw [e5]; exact h2.o, fun G6 e6 => ?_⟩⟩⟩
      have f6 : LFr X G6 q := by rw [e6, e5]; exact (f2.si (by omega)).si (by omega)
      have k8 : ziv G6 q 8 = Int32.ofNat (skp v n p + 1) := by rw [e6, iv_s, e5, iv_k (by decide), e1, iv_s, n_p1]
      have k7 : ziv G6 q 7 = Int32.ofNat (skp v n p) := by rw [e6, iv_k (by decide), e5, iv_k (by decide)]; exact j7
      have k6 : ziv G6 q 6 = tof (v (skp v n p)) := by rw [e6, iv_k (by decide), e5, iv_s]
      have k2 : ziv G6 q 2 = -1 := by rw [e6, iv_k (by decide), e5, iv_k (by decide)]; exact j2
      rw [k6]
      refine ⟨(h.go f6).o, fun c3 => ?_, fun c3 => ?_⟩
      · by_cases hlo : islo (v (skp v n p))
        · have et : tnd v n p = zrn islo v n (skp v n p) := by unfold tnd; rw [if_pos hlo]; rfl
          exact run islo 1 (fun c => tof_1) c hlo et _ (skp v n p + 1) rfl (by omega) (zrn_t ⟨c, hlo⟩).symm G6 _ f6 k2 (by rw [k6]; exact tof_1.mpr hlo) k7 k8
        · by_cases hdg : isdg (v (skp v n p))
          · have et : tnd v n p = zrn isdg v n (skp v n p) := by unfold tnd; rw [if_neg hlo, if_pos hdg]; rfl
            exact run isdg 2 (fun c => tof_2) c hdg et _ (skp v n p + 1) rfl (by omega) (zrn_t ⟨c, hdg⟩).symm G6 _ f6 k2 (by rw [k6]; exact tof_2.mpr hdg) k7 k8
          · exact absurd (tof_3.mpr ⟨hlo, hdg⟩) c3
      · have c3 := tof_3.mp (Classical.not_not.mp c3)
        rw [← hQ]
        refine ⟨rfl, ⟨hp, k2, k7, ?_, by rw [if_neg (by omega)]; exact k6⟩, f6⟩
        rw [k8]; unfold tnx tnd; rw [if_neg (by omega), if_neg c3.1, if_neg c3.2]
    · rw [n_lt (by omega) (by omega)] at c
      refine ⟨h2.o, fun G7 e7 => ?_⟩
      rw [← hQ]
      have es : skp v n p = n := by omega
      refine ⟨rfl, ⟨hp, ?_, ?_, ?_, ?_⟩, by rw [e7]; exact f2.si (by omega)⟩
      · rw [e7, iv_k (by decide)]; exact j2
      · rw [e7, iv_k (by decide)]; exact j7
      · rw [e7, iv_k (by decide), e1, iv_s]; unfold tnx; rw [if_pos es, es]
      · rw [e7, iv_s, if_pos es]
  have i17 : ∀ m a, n - a = m → a ≤ n → skp v n a = skp v n p → ∀ X1 k, LFr X X1 q → ziv X1 q 2 = -1 → ziv X1 q 7 = Int32.ofNat a → zW E l mX3_advance 1 0 X Q k 17 [some (.ref q)] [] X1 := by
    intro m
    induction m with
    | zero =>
      intro a hm ha hz X1 k f1 i2 i7
      have h1 := h.go f1
      have hf : skp v n a = a := zrn_f (fun z => by have := z.1; omega)
      refine wpt_X3_advance_17 ?_; unfold wp_X3_advance_17
      rw [h1.t3, h1.tn, i7]
      refine ⟨h1.o, h1.o, Or.inl h1.ta, it (by rw [n_le (by omega) (by omega)]; omega) (i56 X1 _ f1 i2 ?_)⟩
      rw [i7, ← hz, hf]
    | succ m ih =>
      intro a hm ha hz X1 k f1 i2 i7
      have h1 := h.go f1
      refine wpt_X3_advance_17 ?_; unfold wp_X3_advance_17
      rw [h1.t3, h1.tn, i7, n_nn (by omega), h1.tv (show a < n by omega), n_p1]
      refine ⟨h1.o, h1.o, Or.inl h1.ta, ie (by rw [n_le (by omega) (by omega)]; omega) ⟨h1.o, h1.o, Or.inl h1.ta, n_in (by omega) (by omega), fun c => i56 X1 _ f1 i2 ?_, fun c => ⟨h1.o, h1.o, fun G1 e1 => ?_⟩⟩⟩
      · have hf : skp v n a = a := zrn_f (fun z => c (isbl_eq.mp z.2))
        rw [i7, ← hz, hf]
      · refine ih (a + 1) (by omega) (by omega) ?_ G1 _ (by rw [e1]; exact f1.si (by omega)) (by rw [e1, iv_k (by decide)]; exact i2) (by rw [e1, iv_s])
        rw [← hz]
        exact (zrn_t ⟨by omega, isbl_eq.mpr (Classical.not_not.mp c)⟩).symm
  refine z_meth (by decide) (Nat.le_of_ble_eq_true rfl) (by simp [Value.category]) (wpt_X3_advance_0 ?_); unfold wp_X3_advance_0
  rw [h2, h8]
  refine ⟨h.o, fun _ => ⟨h.o, h.o, fun G1 e1 => ?_⟩, fun z => absurd rfl z⟩
  exact i17 _ p rfl hp rfl G1 _ (by rw [e1]; exact LFr.rf.si (by omega)) (by rw [e1, iv_k (by decide)]; exact h2) (by rw [e1, iv_s])
/-- from the thing at p to the next -/
theorem c_advT (h : LE X q T Fa n v F) (hA : AT X q n v p) : zMet E l mX3_advance 1 0 [.ref q] X (zVx (fun X' => AT X' q n v (tnx v n p) ∧ LFr X X' q)) := c_advance h (tnx_le hA.1).2 hA.2.1 hA.2.2.2.1
theorem sgat_eq {c : Int32} : sgat v n p c ↔ skp v n p < n ∧ v (skp v n p) = c := by
  unfold sgat
  rw [inn_one]
theorem c_isSign (h : LE X q T Fa n v F) (hA : AT X q n v p) {c : Int32} (hc : tof c = 3) : zMet E l mX3_isSign 0 0 [.ref q, .int c] X (zI (zb (sgat v n p c)) X) := by
  have hn := h.n4
  have a2 := skp_le (w := v) hA.1
  obtain ⟨hp, i2, i7, i8, i6⟩ := hA
  refine z_meth (by decide) (Nat.le_of_ble_eq_true rfl) (by simp [Value.category]) (wpt_X3_isSign_0 ?_); unfold wp_X3_isSign_0
  rw [i6, i7, h.t3, h.tn]
  refine ⟨h.o, fun d => ⟨?_, rfl⟩, fun d => ⟨h.o, h.o, Or.inl h.ta, fun d2 => ⟨?_, rfl⟩, fun d2 => ?_⟩⟩
  · rw [zbz (fun z => ?_)]
    obtain ⟨z1, z2⟩ := sgat_eq.mp z
    rw [if_neg (by omega), z2] at d
    exact d hc
  · rw [n_le (by omega) (by omega)] at d2
    rw [zbz (fun z => by have := z.1; omega)]
  · rw [n_le (by omega) (by omega)] at d2
    rw [n_nn (by omega), h.tv (show skp v n p < n by omega)]
    refine ⟨h.o, h.o, Or.inl h.ta, n_in (by omega) (by omega), fun d3 => ⟨?_, rfl⟩, fun d3 => ⟨?_, rfl⟩⟩
    · rw [zbz (fun z => d3 (sgat_eq.mp z).2)]
    · rw [zb_t (sgat_eq.mpr ⟨by omega, Classical.not_not.mp d3⟩)]
theorem c_isSignF (h : zob X q 4) (hF : FL X q n e) {c : Int32} : zMet E l mX3_isSign 0 0 [.ref q, .int c] X (zI 0 X) := by
  refine z_meth (by decide) (Nat.le_of_ble_eq_true rfl) (by simp [Value.category]) (wpt_X3_isSign_0 ?_); unfold wp_X3_isSign_0
  rw [hF.2.2]
  exact ⟨h, fun _ => ⟨rfl, rfl⟩, fun z => absurd (by decide) z⟩
theorem tnx_sg {c : Int32} (h : sgat v n p c) (hc : tof c = 3) : tnx v n p = skp v n p + 1 := by
  obtain ⟨h1, h2⟩ := sgat_eq.mp h
  have h3 := tof_3.mp hc
  unfold tnx tnd
  rw [if_neg (by omega), h2, if_neg h3.1, if_neg h3.2]
end ZDe
