/-! what the days do to the reference's numbers -/
def znear (S : ZS9) (p q : Nat) : Prop := q ≠ p ∧ zfar S p q ≤ S 416 38
/-- somebody near p among the first i, of whom v is told -/
def zsm (S : ZS9) (p : Nat) (v : Int32) (i : Nat) : Prop := ∃ q, q < i ∧ znear S p q ∧ S 1135 (80 * p + q) = v
noncomputable def zst (S : ZS9) (a : Nat) : Int32 :=
  @ite _ (zsm S (pn S a) 2 (nP S)) (Classical.propDecidable _) 9 (@ite _ (zsm S (pn S a) 0 (nP S)) (Classical.propDecidable _) 3 (if ¬ S 2163 a = 0 ∨ ¬ S 1162 a ≤ S 416 39 then 4 else 5))
noncomputable def zchk (S : ZS9) (a : Nat) : ZS9 := zup S 1165 (7 * a + 0) (zst S a)
def zgets2 (S : ZS9) (a : Nat) : ZS9 := zup (zup S 1165 (7 * a + 0) 7) 1165 (7 * a + 3) (S 416 1)
def zgets (S : ZS9) (a : Nat) : ZS9 := if S 1164 a < 0 ∨ ¬ S 1164 a < S 416 1 - S 1156 a then zgets2 S a else zup (zup (zgets2 S a) 1165 (7 * a + 6) 1) 416 73 (S 416 73 + S 1160 a)
/-- the valid ones of p end, among the first i -/
def zendc (S : ZS9) (p : Nat) (i t b : Nat) : Prop := t = 1169 ∧ b < i ∧ S 1167 b = Int32.ofNat p ∧ ¬ S 416 1 < S 1168 b ∧ ¬ S 1169 b ≤ S 416 1
noncomputable def zend (S : ZS9) (p i : Nat) : ZS9 := fun t b => @ite _ (zendc S p i t b) (Classical.propDecidable _) (S 416 1) (S t b)
noncomputable def zprint1 (S : ZS9) (a : Nat) : ZS9 := if S 1154 a = 3 then S else zend S (pn S a) (nB S)
/-- the new booklet's row, and the counts -/
def zprint2 (S : ZS9) (a : Nat) : ZS9 := zup (zup (zup (zup (zup (zup (zup S 1167 (nB S) (S 1153 a)) 1168 (nB S) (S 416 1)) 1169 (nB S) (S 416 1 + 365 * S 1161 a)) 1170 (nB S) (Int32.ofNat a)) 1165 (7 * a + 1) (S 416 71)) 416 71 (S 416 71 + 1)) 416 43 (S 416 43 - 1)
def zway (S : ZS9) (a : Nat) : Int32 := if S 2130 (pn S a) = 0 then S 416 40 else S 416 41
def zprint3 (S : ZS9) (a : Nat) : ZS9 := if zway S a = 0 then zgets (zup S 1165 (7 * a + 4) (S 416 1 + zway S a)) a else zup (zup S 1165 (7 * a + 4) (S 416 1 + zway S a)) 1165 (7 * a + 0) 6
noncomputable def zprints (S : ZS9) (a : Nat) : ZS9 := zprint3 (zprint2 (zprint1 S a) a) a
def zread (S : ZS9) (a : Nat) : ZS9 := zup (zup (zup S 1165 (7 * a + 2) (S 416 1)) 1165 (7 * a + 0) (if rLacks S a = 0 then 2 else 1)) 1165 (7 * a + 5) (S 1165 (7 * a + 5) + (if rLacks S a = 0 then 0 else 1))
noncomputable def zdoes (S : ZS9) (d a : Nat) : ZS9 := if d = 0 then zread S a else if d = 1 then zchk S a else if d = 2 then zup S 1165 (7 * a + 0) 5 else zprints S a
noncomputable def zsrv (d : Nat) : List Nat → Int32 → ZS9 → Int32 × ZS9
  | [], u, S => (u, S)
  | a :: L, u, S => @ite _ (u < ztakes S d a ∨ (d = 3 ∧ ¬ zcan S)) (Classical.propDecidable _) (u, S) (zsrv d L (u - ztakes S d a) (zdoes S d a))
noncomputable def zunits0 (S : ZS9) (d : Nat) : Int32 := if d = 0 then (if 0 < zunits S d (S 416 1) (nT S) - S 416 74 then zunits S d (S 416 1) (nT S) - S 416 74 else 0) else zunits S d (S 416 1) (nT S)
noncomputable def zwork0 (S : ZS9) (d : Nat) (r : Int32) : ZS9 := zrw S (zline S r (rSt d) (nA S))
noncomputable def zwork1 (S : ZS9) (d : Nat) (r : Int32) : Int32 × ZS9 := zsrv d (zline S r (rSt d) (nA S)) (zunits0 S d) (zwork0 S d r)
noncomputable def zworks (S : ZS9) (d : Nat) (r : Int32) : ZS9 := zup (zwork1 S d r).2 416 76 ((zwork1 S d r).2 416 76 + (zwork1 S d r).1)
noncomputable def zpost (S : ZS9) : Nat → ZS9
  | 0 => S
  | i + 1 => if zpost S i 1165 (7 * i + 0) = 6 ∧ ¬ zpost S i 416 1 < zpost S i 1165 (7 * i + 4) then zgets (zpost S i) i else zpost S i
def zimp (S : ZS9) (a : Nat) : Prop := ¬ 5 < S 1165 (7 * a + 0) ∧ ¬ (S 416 1 - S 1155 a) ≤ S 416 37
noncomputable def zcalls (S : ZS9) : ZS9 := zup (zup (zup S 416 74 (zcnt (zimp S) (nA S) / 3)) 416 75 (S 416 75 + zcnt (zimp S) (nA S) / 3)) 416 76 0
noncomputable def zday0 (S : ZS9) : ZS9 := zcalls (zpost (zup S 416 1 (S 416 1 + 1)) (nA S))
noncomputable def zday (S : ZS9) (r : Int32) : ZS9 := zworks (zworks (zworks (zworks (zday0 S) 0 r) 1 r) 2 r) 3 r
noncomputable def zdays (r : Int32) : Nat → ZS9 → ZS9
  | 0, S => S
  | n + 1, S => zday (zdays r n S) r
/-! what stays the same -/
/-- the cells that RI speaks of, the booklets' count aside -/
def zk0 (S S' : ZS9) : Prop := S' 416 66 = S 416 66 ∧ S' 416 34 = S 416 34 ∧ S' 416 52 = S 416 52 ∧ (∀ a, S' 1153 a = S 1153 a) ∧ (∀ a, S' 2158 a = S 2158 a)
theorem zk0.rf {S : ZS9} : zk0 S S := ⟨rfl, rfl, rfl, fun _ => rfl, fun _ => rfl⟩
theorem zk0.tr {S S1 S2 : ZS9} (h : zk0 S S1) (h2 : zk0 S1 S2) : zk0 S S2 := ⟨h2.1.trans h.1, h2.2.1.trans h.2.1, h2.2.2.1.trans h.2.2.1, fun a => (h2.2.2.2.1 a).trans (h.2.2.2.1 a), fun a => (h2.2.2.2.2 a).trans (h.2.2.2.2 a)⟩
theorem RI.k0 {S S' : ZS9} (h : RI S) (hk : zk0 S S') (hb : S' 416 71 = Int32.ofNat (nB S') ∧ nB S' ≤ 150) : RI S' := by
  obtain ⟨h1, h2, h3, h4, h5, h6⟩ := h
  obtain ⟨k1, k2, k3, k4, k5⟩ := hk
  unfold RI nA nP nT pn
  rw [k1, k2, k3]
  exact ⟨h1, h2, hb, h4, fun a ha => by rw [k4]; exact h5 a ha, fun a => by rw [k5]; exact h6 a⟩
theorem zk0.up {S : ZS9} {t k : Nat} {x : Int32} (h : t ≠ 1153 ∧ t ≠ 2158 ∧ (t ≠ 416 ∨ (k ≠ 66 ∧ k ≠ 34 ∧ k ≠ 52))) : zk0 S (zup S t k x) :=
  ⟨by rw [zup_at, if_neg (by omega)], by rw [zup_at, if_neg (by omega)], by rw [zup_at, if_neg (by omega)], fun a => by rw [zup_at, if_neg (by omega)], fun a => by rw [zup_at, if_neg (by omega)]⟩
theorem RI.up {S : ZS9} {t k : Nat} {x : Int32} (hR : RI S) (h : t ≠ 1153 ∧ t ≠ 2158 ∧ (t ≠ 416 ∨ (k ≠ 66 ∧ k ≠ 34 ∧ k ≠ 52 ∧ k ≠ 71))) : RI (zup S t k x) := by
  refine hR.k0 (zk0.up ⟨h.1, h.2.1, by omega⟩) ?_
  unfold nB
  rw [zup_at, if_neg (by omega)]
  exact hR.2.2.1
theorem RI.rw {S : ZS9} (hR : RI S) (L : List Nat) : RI (zrw S L) := by
  refine hR.k0 ⟨zrw_st _ _ (by decide) (by decide), zrw_st _ _ (by decide) (by decide), zrw_st _ _ (by decide) (by decide), fun a => zrw_st _ _ (by decide) (by omega), fun a => zrw_st _ _ (by decide) (by omega)⟩ ?_
  unfold nB
  rw [zrw_st _ _ (by decide) (by decide)]
  exact hR.2.2.1
/-- the days change nothing but these -/
def zdc (t k : Nat) : Prop := t = 1165 ∨ t = 1167 ∨ t = 1168 ∨ t = 1169 ∨ t = 1170 ∨ t = 1177 ∨ (t = 416 ∧ (k = 1 ∨ k = 43 ∨ k = 71 ∨ k = 73 ∨ k = 74 ∨ k = 75 ∨ k = 76 ∨ k = 78))
def zdk (S S' : ZS9) : Prop := ∀ t k, ¬ zdc t k → S' t k = S t k
theorem zdk.rf {S : ZS9} : zdk S S := fun _ _ _ => rfl
theorem zdk.tr {S S1 S2 : ZS9} (h : zdk S S1) (h2 : zdk S1 S2) : zdk S S2 := fun t k hc => (h2 t k hc).trans (h t k hc)
theorem zdk.up {S : ZS9} {t k : Nat} {x : Int32} (h : zdc t k) : zdk S (zup S t k x) := fun a j hc => by
  rw [zup_at, if_neg]
  rintro ⟨rfl, rfl⟩
  exact hc h
theorem zdk.rw {S : ZS9} {L : List Nat} : zdk S (zrw S L) := fun t k hc => zrw_st _ _ (fun e => hc (by unfold zdc; omega)) (fun e => hc (by unfold zdc; omega))
theorem zdk.k0 {S S' : ZS9} (h : zdk S S') : zk0 S S' := ⟨h _ _ (by unfold zdc; omega), h _ _ (by unfold zdc; omega), h _ _ (by unfold zdc; omega), fun a => h _ _ (by unfold zdc; omega), fun a => h _ _ (by unfold zdc; omega)⟩
theorem zdk.gets {S : ZS9} {a : Nat} : zdk S (zgets S a) := by
  have h2 : zdk S (zgets2 S a) := (zdk.up (by unfold zdc; omega)).tr (zdk.up (by unfold zdc; omega))
  unfold zgets
  split
  · exact h2
  · exact (h2.tr (zdk.up (by unfold zdc; omega))).tr (zdk.up (by unfold zdc; omega))
theorem zdk.chk {S : ZS9} {a : Nat} : zdk S (zchk S a) := zdk.up (by unfold zdc; omega)
theorem zdk.end {S : ZS9} {p i : Nat} : zdk S (zend S p i) := fun t k hc => by
  unfold zend
  rw [if_neg]
  rintro ⟨rfl, -⟩
  exact hc (by unfold zdc; omega)
theorem zdk.p1 {S : ZS9} {a : Nat} : zdk S (zprint1 S a) := by
  unfold zprint1
  split
  · exact zdk.rf
  · exact zdk.end
theorem zdk.p2 {S : ZS9} {a : Nat} : zdk S (zprint2 S a) := by
  unfold zprint2
  exact ((((((zdk.up (by unfold zdc; omega)).tr (zdk.up (by unfold zdc; omega))).tr (zdk.up (by unfold zdc; omega))).tr (zdk.up (by unfold zdc; omega))).tr (zdk.up (by unfold zdc; omega))).tr (zdk.up (by unfold zdc; omega))).tr (zdk.up (by unfold zdc; omega))
theorem zdk.p3 {S : ZS9} {a : Nat} : zdk S (zprint3 S a) := by
  have h2 : zdk S (zup S 1165 (7 * a + 4) (S 416 1 + zway S a)) := zdk.up (by unfold zdc; omega)
  unfold zprint3
  split
  · exact h2.tr zdk.gets
  · exact h2.tr (zdk.up (by unfold zdc; omega))
theorem zdk.prints {S : ZS9} {a : Nat} : zdk S (zprints S a) := (zdk.p1.tr zdk.p2).tr zdk.p3
theorem zdk.read {S : ZS9} {a : Nat} : zdk S (zread S a) := ((zdk.up (by unfold zdc; omega)).tr (zdk.up (by unfold zdc; omega))).tr (zdk.up (by unfold zdc; omega))
theorem zdk.does {S : ZS9} {d a : Nat} : zdk S (zdoes S d a) := by
  unfold zdoes
  split
  · exact zdk.read
  · split
    · exact zdk.chk
    · split
      · exact zdk.up (by unfold zdc; omega)
      · exact zdk.prints
/-! the booklets' count -/
theorem nb_gets {S : ZS9} {a : Nat} : zgets S a 416 71 = S 416 71 := by
  unfold zgets zgets2
  split <;> simp only [zup_at] <;> simp
theorem nb_p1 {S : ZS9} {a : Nat} : zprint1 S a 416 71 = S 416 71 := by
  unfold zprint1
  split
  · rfl
  · unfold zend; rw [if_neg (fun z => nomatch z.1)]
theorem nb_p2 {S : ZS9} {a : Nat} : zprint2 S a 416 71 = S 416 71 + 1 := by
  unfold zprint2
  simp only [zup_at]; simp
theorem nb_p3 {S : ZS9} {a : Nat} : zprint3 S a 416 71 = S 416 71 := by
  unfold zprint3
  split
  · rw [nb_gets, zup_at, if_neg (by omega)]
  · rw [zup_at, if_neg (by omega), zup_at, if_neg (by omega)]
theorem nb_prints {S : ZS9} {a : Nat} : zprints S a 416 71 = S 416 71 + 1 := by
  unfold zprints
  rw [nb_p3, nb_p2, nb_p1]
theorem RI.nb {S S' : ZS9} (hR : RI S) (h : zdk S S') (hb : S' 416 71 = S 416 71) : RI S' := by
  refine hR.k0 h.k0 ?_
  unfold nB
  rw [hb]
  exact hR.2.2.1
theorem RI.prints {S : ZS9} {a : Nat} (hR : RI S) (hb : nB S < 150) : RI (zprints S a) := by
  refine hR.k0 zdk.prints.k0 ?_
  unfold nB
  rw [nb_prints, hR.2.2.1.1, n_p1, n_nn (by omega)]
  exact ⟨rfl, by omega⟩
theorem zcan_nb {S : ZS9} (hR : RI S) (h : zcan S) : nB S < 150 := by
  have h1 := h.2.2
  rw [hR.2.2.1.1, show (150 : Int32) = Int32.ofNat 150 from rfl, n_le (by omega) (by have := hR.2.2.1.2; omega)] at h1
  omega
theorem RI.does {S : ZS9} {d a : Nat} (hR : RI S) (hb : d = 3 → zcan S) (hd : d < 4) : RI (zdoes S d a) := by
  unfold zdoes
  split
  · exact hR.nb zdk.read (by unfold zread; simp only [zup_at]; simp)
  · split
    · exact hR.nb zdk.chk (by unfold zchk; rw [zup_at, if_neg (by omega)])
    · split
      · exact hR.up (by omega)
      · exact hR.prints (zcan_nb hR (hb (by omega)))
section ZRe
variable {E : ZE} {l : Launch} {S : ZS9}
theorem r_checks {a : Nat} (hR : RI S) (ha : a < nA S) : rMet E l mX12_checks 1 0 [.int (Int32.ofNat a)] S (rV (zchk S a)) := by
  obtain ⟨⟨a1, a2⟩, ⟨p1, p2⟩, -, -, hp, -⟩ := hR
  obtain ⟨hp1, hp2⟩ := hp a ha
  refine r_meth (by decide) (Nat.le_of_ble_eq_true rfl) (by simp [Value.category]) (fun G hK => rwpt_X12_checks_0 hK ?_); unfold rwp_X12_checks_0
  rw [n_nn (by omega), hp1]
  refine ⟨n_in (by omega) (by omega), ?_⟩
  generalize hp9 : pn S a = p at *
  have key : ∀ i, i ≤ nP S → ∀ k, zW E l mX12_checks 1 0 (zput G S) (rQ G (rV (zchk S a))) k 15 [some (.ref (zp 416 0)), some (.int (Int32.ofNat a)), some (.int (Int32.ofNat p)), some (.int (zb (zsm S p 2 i))), some (.int (zb (zsm S p 0 i))), some (.int (Int32.ofNat i))] [] (zput G S) := by
    refine zdown (fun k => ?_) (fun i hi ih k => ?_)
    · refine rwpt_X12_checks_15 hK ?_; unfold rwp_X12_checks_15
      rw [n_nn (by omega)]
      have e1 : zst S a = @ite _ (zsm S p 2 (nP S)) (Classical.propDecidable _) 9 (@ite _ (zsm S p 0 (nP S)) (Classical.propDecidable _) 3 (if ¬ S 2163 a = 0 ∨ ¬ S 1162 a ≤ S 416 39 then 4 else 5)) := by unfold zst; rw [hp9]
      refine it (by rw [p1, n_le (by omega) (by omega)]; omega) ⟨fun h => ?_, fun h => ?_⟩
      · rw [zb_0] at h
        rw [if_neg h] at e1
        refine ⟨fun h2 => ⟨n_in (by omega) (by omega), ?_⟩, fun h2 => ?_⟩
        · rw [zb_0] at h2
          rw [if_neg h2] at e1
          refine ⟨fun h3 => ?_, fun h3 => ⟨n_in (by omega) (by omega), fun h4 => ?_, fun h4 => ?_⟩⟩
          · rw [if_pos (Or.inl h3)] at e1
            exact gV (r_sets (a := a) (w := 0) (by omega)) (by decide) ⟨rfl, by unfold zchk; rw [e1]⟩
          · rw [if_neg (by rintro (z | z); exact h3 z; exact z h4)] at e1
            exact gV (r_sets (a := a) (w := 0) (by omega)) (by decide) ⟨rfl, by unfold zchk; rw [e1]⟩
          · rw [if_pos (Or.inr h4)] at e1
            exact gV (r_sets (a := a) (w := 0) (by omega)) (by decide) ⟨rfl, by unfold zchk; rw [e1]⟩
        · rw [zb_0, Classical.not_not] at h2
          rw [if_pos h2] at e1
          exact gV (r_sets (a := a) (w := 0) (by omega)) (by decide) ⟨rfl, by unfold zchk; rw [e1]⟩
      · rw [zb_0, Classical.not_not] at h
        rw [if_pos h] at e1
        exact gV (r_sets (a := a) (w := 0) (by omega)) (by decide) ⟨rfl, by unfold zchk; rw [e1]⟩
    · have ih := ih k
      have stay : ∀ v, ¬ (znear S p i ∧ S 1135 (80 * p + i) = v) → zb (zsm S p v (i + 1)) = zb (zsm S p v i) := fun v hv => zb_if ⟨fun ⟨q, h1, h2, h3⟩ => by
          by_cases e : q = i
          · subst e; exact absurd ⟨h2, h3⟩ hv
          · exact ⟨q, by omega, h2, h3⟩, fun ⟨q, h1, h2, h3⟩ => ⟨q, by omega, h2, h3⟩⟩
      have new : ∀ v, znear S p i → S 1135 (80 * p + i) = v → zb (zsm S p v (i + 1)) = 1 := fun v h2 h3 => zb_t ⟨i, by omega, h2, h3⟩
      have old : ∀ v, zsm S p v i → zb (zsm S p v (i + 1)) = 1 := fun v ⟨q, h1, h2, h3⟩ => zb_t ⟨q, by omega, h2, h3⟩
      refine rwpt_X12_checks_15 hK ?_; unfold rwp_X12_checks_15
      rw [n_p1]
      refine ie (by rw [p1, n_le (by omega) (by omega)]; omega) ⟨fun h => ?_, fun h => gI (r_farOf (by omega) (by omega)) (by decide) ⟨fun h2 => ?_, fun h2 => ?_⟩⟩
      · rw [n_inj (by omega) (by omega)] at h
        rw [stay 2 (fun z => z.1.1 h), stay 0 (fun z => z.1.1 h)] at ih
        exact ih
      · rw [n_inj (by omega) (by omega)] at h
        have hn : znear S p i := ⟨h, h2⟩
        have i72 : ∀ s0, s0 = zb (zsm S p 2 (i + 1)) → zW E l mX12_checks 1 0 (zput G S) (rQ G (rV (zchk S a))) k 72 [some (.ref (zp 416 0)), some (.int (Int32.ofNat a)), some (.int (Int32.ofNat p)), none, some (.int (zb (zsm S p 0 i))), some (.int (Int32.ofNat i))] [.int s0] (zput G S) := by
          intro s0 hs
          refine rwpt_X12_checks_72 hK ?_; unfold rwp_X12_checks_72
          rw [n_p1, hs, show (80 : Int32) = Int32.ofNat 80 from rfl, n_mul, n_add, n_nn (by omega)]
          refine ⟨fun h3 => ?_, fun h3 => ⟨n_in (by omega) (by omega), fun h4 => ?_, fun h4 => ?_⟩⟩
          · rw [zb_0, Classical.not_not] at h3
            rw [old 0 h3] at ih; exact ih
          · rw [Classical.not_not] at h3
            rw [stay 0 (fun z => h4 z.2), h3] at ih; exact ih
          · rw [new 0 hn (Classical.not_not.mp h4)] at ih; exact ih
        rw [show (80 : Int32) = Int32.ofNat 80 from rfl, n_mul, n_add, n_nn (by omega)]
        refine ⟨fun h3 => ?_, fun h3 => ⟨n_in (by omega) (by omega), fun h4 => ?_, fun h4 => ?_⟩⟩
        · rw [zb_0, Classical.not_not] at h3
          exact i72 1 (old 2 h3).symm
        · rw [Classical.not_not] at h3
          exact i72 0 (by rw [stay 2 (fun z => h4 z.2), h3])
        · exact i72 1 (new 2 hn (Classical.not_not.mp h4)).symm
      · rw [stay 2 (fun z => h2 z.1.2), stay 0 (fun z => h2 z.1.2)] at ih
        exact ih
  have e0 : ∀ v, zb (zsm S p v 0) = 0 := fun v => zbz (fun ⟨q, h, _⟩ => nomatch h)
  have := key 0 (by omega) 0
  rw [e0, e0] at this
  exact this
theorem r_gets {a : Nat} (ha : a < 120) : rMet E l mX12_gets 1 0 [.int (Int32.ofNat a)] S (rV (zgets S a)) := by
  refine r_meth (by decide) (Nat.le_of_ble_eq_true rfl) (by simp [Value.category]) (fun G hK => rwpt_X12_gets_0 hK ?_); unfold rwp_X12_gets_0
  refine gV (r_sets (a := a) (w := 0) (by omega)) (by decide) (gV (r_sets (a := a) (w := 3) (by omega)) (by decide) ⟨n_in ha (by omega), ?_⟩)
  rw [n_nn (by omega)]
  have e1 : zup (zup S 1165 (7 * a + 0) 7) 1165 (7 * a + 3) (zup S 1165 (7 * a + 0) 7 416 1) = zgets2 S a := by
    unfold zgets2
    rw [zup_at S 1165 (7 * a + 0) 7 416 1, if_neg (by omega)]
  rw [e1]
  have e2 : ∀ t k, t ≠ 1165 → zgets2 S a t k = S t k := fun t k h => by unfold zgets2; rw [zup_at, if_neg (by omega), zup_at, if_neg (by omega)]
  rw [e2 1164 _ (by decide), e2 1156 _ (by decide), e2 416 _ (by decide)]
  refine ⟨fun h => ⟨rfl, ?_⟩, fun h => ⟨n_in ha (by omega), n_in ha (by omega), fun h2 => gV (r_sets (a := a) (w := 6) (by omega)) (by decide) ⟨n_in ha (by omega), fun S7 e7 => ⟨rfl, ?_⟩⟩, fun h2 => ⟨rfl, ?_⟩⟩⟩
  · unfold zgets; rw [if_pos (Or.inl h)]
  · rw [e7]
    unfold zgets
    rw [if_neg (by rintro (z | z); exact h z; exact z h2), zup_at _ _ _ _ 416, if_neg (by omega), zup_at _ _ _ _ 1160, if_neg (by omega), e2 416 _ (by decide), e2 1160 _ (by decide)]
  · unfold zgets; rw [if_pos (Or.inr h2)]
end ZRe
