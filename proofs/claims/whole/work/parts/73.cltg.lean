/-! the class's reader of laws: numbers, items, facts; what a verdict takes -/
theorem ev_app {F : Nat → Int32} : ∀ {a b : List ZCD} {st : List Bool}, ev F (a ++ b) st = ev F b (ev F a st)
  | [], _, _ => rfl
  | c :: a, b, st => by
    show ev F (a ++ b) (evs F c st) = ev F b (ev F a (evs F c st))
    exact ev_app
/-- what reading a condition leaves, and its value -/
def RB (X X' : ZG) (q n : Nat) (v F : Nat → Int32) (r : ZPR) (y : Int32) : Prop := LFr X X' q ∧ (y = 0 ∨ y = 1) ∧ match r with
  | .inl e => FL X' q n e
  | .inr (p1, c) => AT X' q n v p1 ∧ ∀ st, ev F c st = decide (y = 1) :: st
/-- a verdict's numbers -/
def VJ (X : ZG) (vq : Nat) (a : ZJ) : Prop := ziv X vq 0 = a.1 ∧ ziv X vq 1 = a.2.1 ∧ ziv X vq 2 = a.2.2.2.1 ∧ ziv X vq 3 = a.2.2.2.2.1 ∧ ziv X vq 4 = a.2.2.2.2.2 ∧ ziv X vq 5 = a.2.2.1
def okb (a : ZJ) : Prop := (a.2.2.2.2.1 = -1 ∨ ¬ a.2.2.2.2.1 < 0) ∧ (a.2.2.1 = -1 ∨ ¬ a.2.2.1 < 0)
def cix (s : Nat) : Nat := if s = 0 then 0 else if s = 1 then 1 else if s = 2 then 3 else if s = 3 then 4 else if s = 4 then 5 else 2
section ZDg
variable {E : ZE} {l : Launch} {X X' X2 : ZG} {q T Fa n : Nat} {v F : Nat → Int32} {p e : Nat}
theorem tnx_sk (hp : p ≤ n) : tnx v n (skp v n p) = tnx v n p := by
  have e3 : den v n (skp v n p) = den v n p := by unfold den; rw [skp_id hp]
  unfold tnx tnd
  rw [skp_id hp, wen_skp hp, e3]
theorem AT.sk (h : AT X q n v p) : AT X q n v (skp v n p) := by
  obtain ⟨h1, h2, h3, h4, h5⟩ := h
  refine ⟨skp_le h1, h2, ?_, ?_, ?_⟩
  · rw [skp_id h1]; exact h3
  · rw [tnx_sk h1]; exact h4
  · rw [skp_id h1]; exact h5
theorem c_readNumber (h : LE X q T Fa n v F) (hA : AT X q n v p) : zMet E l mX3_readNumber 2 0 [.ref q] X (zIx (fun y X' => LFr X X' q ∧ ((nmok v n p ∧ y = nmv v n p ∧ AT X' q n v (den v n p)) ∨ (¬ nmok v n p ∧ y = 0 ∧ FL X' q n (skp v n p))))) := by
  have hn := h.n4
  have hA0 := hA
  obtain ⟨hp, i2, i7, i8, i6⟩ := hA
  have a2 := skp_le (w := v) hp
  have a3 := den_ge (w := v) hp
  have a4 := den_le (w := v) hp
  generalize hQ : (zIx (fun y X' => LFr X X' q ∧ ((nmok v n p ∧ y = nmv v n p ∧ AT X' q n v (den v n p)) ∨ (¬ nmok v n p ∧ y = 0 ∧ FL X' q n (skp v n p))))) = Q
  have bad : ¬ nmok v n p → ∀ k, xcV E l mX3_fail 2 [.ref q] X k (fun X G9 => Q (.inr X) G9) (fun G1 k2 => Q (.inl (some (.int 0))) G1) := fun hb k => cVx (c_fail (n := n) h.o a2 i7 i2) (by decide) (Nat.zero_le _) (fun G1 h1 => by
    rw [← hQ]; exact ⟨_, rfl, h1.2, Or.inr ⟨hb, rfl, h1.1⟩⟩)
  have hth : (skp v n p < n ∧ isdg (v (skp v n p))) ↔ skp v n p < den v n p := by
    constructor
    · intro z
      have : den v n p = zrn isdg v n (skp v n p + 1) := zrn_t z
      have := zrn_ge (P := isdg) (w := v) (n := n) (p := skp v n p + 1) (by omega)
      omega
    · intro z
      refine Classical.byContradiction fun y => ?_
      have : den v n p = skp v n p := zrn_f y
      omega
  refine z_meth (by decide) (Nat.le_of_ble_eq_true rfl) (by simp [Value.category]) (wpt_X3_readNumber_0 ?_); unfold wp_X3_readNumber_0
  rw [i6, i7, i8]
  refine ⟨h.o, fun d => ⟨h.o, bad (fun z => d ?_) _⟩, fun d => ?_⟩
  · obtain ⟨z1, z2⟩ := hth.mpr z.1
    rw [if_neg (by omega)]; exact tof_2.mpr z2
  · have d := Classical.not_not.mp d
    have hsn : skp v n p ≠ n := fun z => by rw [if_pos z] at d; exact absurd d (by decide)
    rw [if_neg hsn] at d
    have hdg := tof_2.mp d
    have hlt := hth.mp ⟨by omega, hdg⟩
    have etn : tnx v n p = den v n p := by
      unfold tnx tnd
      rw [if_neg hsn, if_neg (fun z => lo_dg z hdg), if_pos hdg]
    rw [etn, n_sub a3, show (4 : Int32) = Int32.ofNat 4 from rfl, n_le (by omega) (by omega)]
    refine ⟨h.o, h.o, fun d2 => ⟨h.o, ?_⟩, fun d2 => ⟨h.o, bad (fun z => d2 (by have := z.2; omega)) _⟩⟩
    have hok : nmok v n p := ⟨hlt, by omega⟩
    have ca := c_advT (E := E) (l := l) h hA0
    rw [etn] at ca
    have key : ∀ j, j ≤ den v n p - skp v n p → ∀ k, zW E l mX3_readNumber 2 0 X Q k 34 [some (.ref q), some (.int (nval v (skp v n p) j)), some (.int (Int32.ofNat (skp v n p + j)))] [] X := by
      refine zdown (fun k => ?_) (fun j hj ih k => ?_)
      · refine wpt_X3_readNumber_34 ?_; unfold wp_X3_readNumber_34
        rw [i8, etn]
        refine ⟨h.o, it (by rw [n_le (by omega) (by omega)]; omega) ⟨h.o, cVx ca (by decide) (Nat.zero_le _) (fun G1 h1 => ?_)⟩⟩
        rw [← hQ]
        exact ⟨_, rfl, h1.2, Or.inl ⟨hok, rfl, h1.1⟩⟩
      · have ih := ih k
        rw [nval_s] at ih
        refine wpt_X3_readNumber_34 ?_; unfold wp_X3_readNumber_34
        rw [i8, etn, h.t3, h.tn, n_nn (by omega), h.tv (show skp v n p + j < n by omega), n_p1]
        refine ⟨h.o, ie (by rw [n_le (by omega) (by omega)]; omega) ⟨h.o, Or.inl h.ta, ie (by rw [n_le (by omega) (by omega)]; omega) ⟨h.o, Or.inl h.ta, n_in (by omega) (by omega), ?_⟩⟩⟩
        rw [Int32.mul_comm]; exact ih
    exact key 0 (by omega) _
theorem wof_it : ∀ k, k < 8 → wof 1 k = 15 + k := by decide
theorem wof_fa : ∀ k, k < 9 → wof 4 k = 23 + k := by decide
theorem c_readItem (h : LE X q T Fa n v F) (hA : AT X q n v p) : zMet E l mX3_readItem 7 0 [.ref q] X (zIx (fun y X' => LFr X X' q ∧ ((zitem v n p < 8 ∧ y = 1 <<< (Int32.ofNat (zitem v n p) &&& 31) ∧ AT X' q n v (wen v n p)) ∨ (zitem v n p = 8 ∧ y = 0 ∧ FL X' q n (skp v n p))))) := by
  have hn := h.n4
  have a2 := skp_le (w := v) hA.1
  have en : nam v n p 1 = zitem v n p := zfi_cg (m := 8) (fun j _ hj => by rw [wof_it j (by omega)])
  have hle := (zfi_le (W := fun i => wdat v n p (15 + i)) (m := 8) (i := 0)).2
  have ei : namI v n p 1 = if zitem v n p = 8 then -1 else Int32.ofNat (zitem v n p) := by unfold namI; rw [en]; rfl
  refine z_meth (by decide) (Nat.le_of_ble_eq_true rfl) (by simp [Value.category]) (wpt_X3_readItem_0 ?_); unfold wp_X3_readItem_0
  refine ⟨h.o, cI (c_numAmong h hA (by decide)) (by decide) ?_⟩
  rw [ei]
  refine ⟨fun d => ⟨h.o, cVx (c_advT h hA) (by decide) (Nat.zero_le _) (fun G4 h4 => ?_)⟩, fun d => ⟨h.o, cVx (c_fail (n := n) h.o a2 hA.2.2.1 hA.2.1) (by decide) (Nat.zero_le _) (fun G6 h6 => ?_)⟩⟩
  · have hne : zitem v n p ≠ 8 := fun z => d (by rw [if_pos z])
    have hlt : zitem v n p < 8 := by unfold zitem at *; omega
    have hw : wdat v n p (15 + zitem v n p) := zfi_W (W := fun i => wdat v n p (15 + i)) (m := 8) (i := 0) (by unfold zitem at hlt; omega)
    rw [tnx_wd (by omega) hA.1 hw] at h4
    rw [if_neg hne]
    exact ⟨_, rfl, h4.2, Or.inl ⟨hlt, rfl, h4.1⟩⟩
  · have he : zitem v n p = 8 := Classical.byContradiction fun z => by
      rw [if_neg z] at d
      exact e_nn (a := zitem v n p) (by unfold zitem; omega) (Classical.not_not.mp d)
    exact ⟨_, rfl, h6.2, Or.inr ⟨he, rfl, h6.1⟩⟩
theorem evs_f {f : Nat} {x y : Int32} (hf : f < 9) {st : List Bool} : evs F (Int32.ofNat f, x, y) st = (if x = 0 then decide (F f ≠ 0) else if x = 1 then decide (F f < y) else decide (y < F f)) :: st := by
  obtain ⟨h1, h2, h3, h4⟩ := f_small hf
  unfold evs
  rw [if_neg h1, if_neg h3, if_neg h4, n_nn (by omega)]
theorem c_readFact (h : LE X q T Fa n v F) (hA : AT X q n v p) : zMet E l mX3_readFact 7 0 [.ref q] X (zIx (fun y X' => RB X X' q n v F (zPfact v n p) y)) := by
  have hn := h.n4
  have a2 := skp_le (w := v) hA.1
  have a5 := wen_le (w := v) hA.1
  have a6 := skp_le (w := v) a5
  have en : nam v n p 4 = zfactN v n p := zfi_cg (m := 9) (fun j _ hj => by rw [wof_fa j (by omega)])
  have hle := (zfi_le (W := fun i => wdat v n p (23 + i)) (m := 9) (i := 0)).2
  have ei : namI v n p 4 = if zfactN v n p = 9 then -1 else Int32.ofNat (zfactN v n p) := by unfold namI; rw [en]; rfl
  generalize hQ : (zIx (fun y X' => RB X X' q n v F (zPfact v n p) y)) = Q
  refine z_meth (by decide) (Nat.le_of_ble_eq_true rfl) (by simp [Value.category]) (wpt_X3_readFact_0 ?_); unfold wp_X3_readFact_0
  refine ⟨h.o, cI (c_numAmong h hA (by decide)) (by decide) ?_⟩
  rw [ei]
  by_cases he : zfactN v n p = 9
  · rw [if_pos he]
    refine it (by decide) ⟨h.o, cVx (c_fail (n := n) h.o a2 hA.2.2.1 hA.2.1) (by decide) (Nat.zero_le _) (fun G4 h4 => ?_)⟩
    rw [← hQ]
    refine ⟨_, rfl, h4.2, Or.inl rfl, ?_⟩
    unfold zPfact
    rw [if_pos he]
    exact h4.1
  · rw [if_neg he]
    have hlt : zfactN v n p < 9 := by unfold zfactN at *; omega
    have hw : wdat v n p (23 + zfactN v n p) := zfi_W (W := fun i => wdat v n p (23 + i)) (m := 9) (i := 0) (by unfold zfactN at hlt; omega)
    have etn := tnx_wd (by omega) hA.1 hw
    obtain ⟨f1, f2, f3⟩ := h.2.2.2.2.1
    have ca := c_advT (E := E) (l := l) h hA
    rw [etn] at ca
    rw [h.2.2.2.1, f2, n_nn (by omega), f3 _ hlt]
    have ez : zPfact v n p = (@ite _ (sgat v n (wen v n p) 60) (Classical.propDecidable _) (@ite _ (nmok v n (skp v n (wen v n p) + 1)) (Classical.propDecidable _) (.inr (den v n (skp v n (wen v n p) + 1), [(Int32.ofNat (zfactN v n p), 1, nmv v n (skp v n (wen v n p) + 1))])) (.inl (skp v n (skp v n (wen v n p) + 1))))
      (@ite _ (sgat v n (wen v n p) 62) (Classical.propDecidable _) (@ite _ (nmok v n (skp v n (wen v n p) + 1)) (Classical.propDecidable _) (.inr (den v n (skp v n (wen v n p) + 1), [(Int32.ofNat (zfactN v n p), 2, nmv v n (skp v n (wen v n p) + 1))])) (.inl (skp v n (skp v n (wen v n p) + 1))))
        (.inr (skp v n (wen v n p), [(Int32.ofNat (zfactN v n p), 0, 0)])))) := by unfold zPfact; rw [if_neg he]
    refine ie (n_neg (by omega)) ⟨h.o, Or.inl f1, it (by rw [n_lt (by omega) (by omega)]; exact hlt) ⟨h.o, Or.inl f1, n_in hlt (by omega), h.o, cVx ca (by decide) (Nat.zero_le _) (fun G6 h6 => ?_)⟩⟩
    have e6 := h.go h6.2
    -- behind a comparison
    have cmp : ∀ s x, (s = 60 ∨ s = 62) → sgat v n (wen v n p) s → ((x = 0 ∧ s = 62) ∨ (¬ x = 0 ∧ s = 60)) → zPfact v n p = (@ite ZPR (nmok v n (skp v n (wen v n p) + 1)) (Classical.propDecidable _) (.inr (den v n (skp v n (wen v n p) + 1), [(Int32.ofNat (zfactN v n p), (if s = 60 then 1 else 2), nmv v n (skp v n (wen v n p) + 1))])) (.inl (skp v n (skp v n (wen v n p) + 1)))) → ∀ k, zW E l mX3_readFact 7 0 X Q k 67 [some (.ref q), none, some (.int (F (zfactN v n p))), some (.int x), none] [] G6 := by
      intro s x hs hsg hx hz k
      have h3 : tof s = 3 := by
        rcases hs with rfl | rfl
        · exact tof_3.mpr ⟨fun z => z.1 (by decide), fun z => z.2 (by decide)⟩
        · exact tof_3.mpr ⟨fun z => z.1 (by decide), fun z => z.2 (by decide)⟩
      have cb := c_advT (E := E) (l := l) e6 h6.1
      rw [tnx_sg hsg h3] at cb
      have hsn := hsg.1
      refine wpt_X3_readFact_67 ?_; unfold wp_X3_readFact_67
      refine ⟨e6.o, cVx cb (by decide) (Nat.zero_le _) (fun G1 h1 => ⟨(e6.go h1.2).o, cIx (c_readNumber (e6.go h1.2) h1.1) (by decide) (Nat.zero_le _) (fun y G4 h4 => ?_)⟩)⟩
      obtain ⟨f4, h4⟩ := h4
      have fr := (h6.2.trans h1.2).trans f4
      have fin : ∀ b : Int32, (b = 0 ∨ b = 1) → (nmok v n (skp v n (wen v n p) + 1) → y = nmv v n (skp v n (wen v n p) + 1) → (if s = 60 then decide (F (zfactN v n p) < y) else decide (y < F (zfactN v n p))) = decide (b = 1)) → Q (.inl (some (.int b))) G4 := by
        intro b hb hv
        rw [← hQ]
        refine ⟨b, rfl, fr, hb, ?_⟩
        rw [hz]
        rcases h4 with ⟨g1, g2, g3⟩ | ⟨g1, g2, g3⟩
        · rw [if_pos g1]
          refine ⟨g3, fun st => ?_⟩
          show evs F _ st = _
          have hv := hv g1 g2
          rw [evs_f hlt]
          rw [g2] at hv
          rcases hs with rfl | rfl
          · rw [if_pos rfl] at hv ⊢
            rw [if_neg (by decide), if_pos rfl, hv]
          · rw [if_neg (by decide)] at hv ⊢
            rw [if_neg (by decide), hv]
        · rw [if_neg g1]; exact g3
      refine ⟨fun d => ⟨fun d2 => fin 0 (Or.inl rfl) (fun _ _ => ?_), fun d2 => fin 1 (Or.inr rfl) (fun _ _ => ?_)⟩, fun d => ⟨fun d2 => fin 0 (Or.inl rfl) (fun _ _ => ?_), fun d2 => fin 1 (Or.inr rfl) (fun _ _ => ?_)⟩⟩
      · have es : s = 62 := (hx.resolve_right (fun z => z.1 d)).2
        rw [es, if_neg (by decide), decide_eq_false (i_nlt.mpr d2)]; rfl
      · have es : s = 62 := (hx.resolve_right (fun z => z.1 d)).2
        rw [es, if_neg (by decide), decide_eq_true (i_nle.mp d2)]; rfl
      · have es : s = 60 := (hx.resolve_left (fun z => d z.1)).2
        rw [es, if_pos rfl, decide_eq_false (i_nlt.mpr d2)]; rfl
      · have es : s = 60 := (hx.resolve_left (fun z => d z.1)).2
        rw [es, if_pos rfl, decide_eq_true (i_nle.mp d2)]; rfl
    have t60 : tof 60 = 3 := tof_3.mpr ⟨fun z => z.1 (by decide), fun z => z.2 (by decide)⟩
    have t62 : tof 62 = 3 := tof_3.mpr ⟨fun z => z.1 (by decide), fun z => z.2 (by decide)⟩
    refine ⟨e6.o, cI (c_isSign e6 h6.1 t60) (by decide) ⟨fun d => ?_, fun d => ⟨e6.o, cI (c_isSign e6 h6.1 t62) (by decide) ⟨fun d2 => ?_, fun d2 => ?_⟩⟩⟩⟩
    · have d9 : sgat v n (wen v n p) 60 := Classical.byContradiction fun z => d (zbz z)
      exact cmp 60 _ (Or.inl rfl) d9 (Or.inr ⟨d, rfl⟩) (by rw [ez, if_pos d9, if_pos rfl]) _
    · have d9 : ¬ sgat v n (wen v n p) 60 := zb_0.mp (Classical.not_not.mp d)
      have d8 : sgat v n (wen v n p) 62 := Classical.byContradiction fun z => d2 (zbz z)
      exact cmp 62 _ (Or.inr rfl) d8 (Or.inl ⟨Classical.not_not.mp d, rfl⟩) (by rw [ez, if_neg d9, if_pos d8, if_neg (show ¬ (62 : Int32) = 60 by decide)]) _
    · have d9 : ¬ sgat v n (wen v n p) 60 := zb_0.mp (Classical.not_not.mp d)
      have d8 : ¬ sgat v n (wen v n p) 62 := zb_0.mp (Classical.not_not.mp d2)
      have fin : ∀ b : Int32, (b = 0 ∨ b = 1) → decide (F (zfactN v n p) ≠ 0) = decide (b = 1) → Q (.inl (some (.int b))) G6 := by
        intro b hb hv
        rw [← hQ]
        refine ⟨b, rfl, h6.2, hb, ?_⟩
        rw [ez, if_neg d9, if_neg d8]
        refine ⟨h6.1.sk, fun st => ?_⟩
        show evs F _ st = _
        rw [evs_f hlt, if_pos rfl, hv]
      exact ⟨fun d => fin 0 (Or.inl rfl) (by rw [decide_eq_false (fun z => z d)]; rfl), fun d => fin 1 (Or.inr rfl) (by rw [decide_eq_true d]; rfl)⟩
theorem c_take {vq : Nat} (ho : zob X vq 11) (x amt : Int32) : zMet E l mX10_take 1 0 [.ref vq, .int x, .int amt] X (zVx (fun X' => zIn X X' vq ∧ zrv X' = zrv X ∧ ziv X' vq 0 = (if x = 0 then ziv X vq 0 ||| amt else ziv X vq 0) ∧ ziv X' vq 1 = (if x = 1 then ziv X vq 1 + amt else ziv X vq 1) ∧ ziv X' vq 2 = (if x = 4 then ziv X vq 2 + amt else ziv X vq 2) ∧ ziv X' vq 3 = (if x = 2 ∧ (ziv X vq 3 = -1 ∨ amt < ziv X vq 3) then amt else ziv X vq 3) ∧ ziv X' vq 4 = (if x = 5 then 1 else ziv X vq 4) ∧ ziv X' vq 5 = (if x = 3 then (if ziv X vq 5 < amt then amt else ziv X vq 5) else ziv X vq 5))) := by
  generalize hQ : (zVx (fun X' => zIn X X' vq ∧ zrv X' = zrv X ∧ ziv X' vq 0 = (if x = 0 then ziv X vq 0 ||| amt else ziv X vq 0) ∧ ziv X' vq 1 = (if x = 1 then ziv X vq 1 + amt else ziv X vq 1) ∧ ziv X' vq 2 = (if x = 4 then ziv X vq 2 + amt else ziv X vq 2) ∧ ziv X' vq 3 = (if x = 2 ∧ (ziv X vq 3 = -1 ∨ amt < ziv X vq 3) then amt else ziv X vq 3) ∧ ziv X' vq 4 = (if x = 5 then 1 else ziv X vq 4) ∧ ziv X' vq 5 = (if x = 3 then (if ziv X vq 5 < amt then amt else ziv X vq 5) else ziv X vq 5))) = Q
  have i72 : ∀ X1 k, zIn X X1 vq → zrv X1 = zrv X → ziv X1 vq 0 = (if x = 0 then ziv X vq 0 ||| amt else ziv X vq 0) → ziv X1 vq 1 = (if x = 1 then ziv X vq 1 + amt else ziv X vq 1) → ziv X1 vq 2 = ziv X vq 2 → ziv X1 vq 3 = (if x = 2 ∧ (ziv X vq 3 = -1 ∨ amt < ziv X vq 3) then amt else ziv X vq 3) → ziv X1 vq 4 = ziv X vq 4 → ziv X1 vq 5 = (if x = 3 then (if ziv X vq 5 < amt then amt else ziv X vq 5) else ziv X vq 5) → zW E l mX10_take 1 0 X Q k 72 [some (.ref vq), some (.int x), some (.int amt)] [] X1 := by
    intro X1 k i1 r1 j0 j1 j2 j3 j4 j5
    refine wpt_X10_take_72 ?_; unfold wp_X10_take_72
    rw [← hQ]
    refine ⟨fun d => ⟨fun d2 => ⟨rfl, i1, r1, j0, j1, by rw [if_neg d]; exact j2, j3, by rw [if_neg d2]; exact j4, j5⟩, fun d2 => ⟨i1.ob ho, fun G1 e1 => ⟨rfl, by rw [e1]; exact i1.si, by rw [e1]; exact r1, ?_, ?_, ?_, ?_, ?_, ?_⟩⟩⟩, fun d => ⟨i1.ob ho, i1.ob ho, fun G2 e2 => ⟨fun d2 => ⟨rfl, by rw [e2]; exact i1.si, by rw [e2]; exact r1, ?_, ?_, ?_, ?_, ?_, ?_⟩, fun d2 => ?_⟩⟩⟩
    · rw [e1, iv_k (by decide)]; exact j0
    · rw [e1, iv_k (by decide)]; exact j1
    · rw [e1, iv_k (by decide), if_neg d]; exact j2
    · rw [e1, iv_k (by decide)]; exact j3
    · rw [e1, iv_s, if_pos (Classical.not_not.mp d2)]
    · rw [e1, iv_k (by decide)]; exact j5
    · rw [e2, iv_k (by decide)]; exact j0
    · rw [e2, iv_k (by decide)]; exact j1
    · rw [e2, iv_s, if_pos (Classical.not_not.mp d), j2]
    · rw [e2, iv_k (by decide)]; exact j3
    · rw [e2, iv_k (by decide), if_neg d2]; exact j4
    · rw [e2, iv_k (by decide)]; exact j5
    · have := (Classical.not_not.mp d).symm.trans (Classical.not_not.mp d2)
      exact absurd this (by decide)
  have i29 : ∀ X1 k, zIn X X1 vq → zrv X1 = zrv X → ziv X1 vq 0 = (if x = 0 then ziv X vq 0 ||| amt else ziv X vq 0) → ziv X1 vq 1 = (if x = 1 then ziv X vq 1 + amt else ziv X vq 1) → ziv X1 vq 2 = ziv X vq 2 → ziv X1 vq 3 = ziv X vq 3 → ziv X1 vq 4 = ziv X vq 4 → ziv X1 vq 5 = ziv X vq 5 → zW E l mX10_take 1 0 X Q k 29 [some (.ref vq), some (.int x), some (.int amt)] [] X1 := by
    intro X1 k i1 r1 j0 j1 j2 j3 j4 j5
    have c23 : ¬ ¬ x = 2 → ¬ ¬ x = 3 → False := fun a b => absurd ((Classical.not_not.mp a).symm.trans (Classical.not_not.mp b)) (by decide)
    refine wpt_X10_take_29 ?_; unfold wp_X10_take_29
    rw [j3, j5]
    refine ⟨fun d => ⟨fun d3 => i72 X1 _ i1 r1 j0 j1 j2 ?_ j4 ?_, fun d3 => ⟨i1.ob ho, cmax (by decide) ⟨i1.ob ho, fun G4 e4 => i72 G4 _ (by rw [e4]; exact i1.si) (by rw [e4]; exact r1) ?_ ?_ ?_ ?_ ?_ ?_⟩⟩⟩, fun d => ⟨i1.ob ho, fun d4 => ⟨i1.ob ho, fun G5 e5 => ⟨fun d3 => i72 G5 _ (by rw [e5]; exact i1.si) (by rw [e5]; exact r1) ?_ ?_ ?_ ?_ ?_ ?_, fun d3 => (c23 d d3).elim⟩⟩, fun d4 => ⟨i1.ob ho, fun d5 => ⟨fun d3 => i72 X1 _ i1 r1 j0 j1 j2 ?_ j4 ?_, fun d3 => (c23 d d3).elim⟩, fun d5 => ⟨i1.ob ho, fun G14 e14 => ⟨fun d3 => i72 G14 _ (by rw [e14]; exact i1.si) (by rw [e14]; exact r1) ?_ ?_ ?_ ?_ ?_ ?_, fun d3 => (c23 d d3).elim⟩⟩⟩⟩⟩
    · rw [if_neg (fun z => d z.1)]; exact j3
    · rw [if_neg d3]; exact j5
    · rw [e4, iv_k (by decide)]; exact j0
    · rw [e4, iv_k (by decide)]; exact j1
    · rw [e4, iv_k (by decide)]; exact j2
    · rw [e4, iv_k (by decide), if_neg (fun z => d z.1)]; exact j3
    · rw [e4, iv_k (by decide)]; exact j4
    · rw [e4, iv_s, if_pos (Classical.not_not.mp d3)]
    · rw [e5, iv_k (by decide)]; exact j0
    · rw [e5, iv_k (by decide)]; exact j1
    · rw [e5, iv_k (by decide)]; exact j2
    · rw [e5, iv_s, if_pos ⟨Classical.not_not.mp d, Or.inl d4⟩]
    · rw [e5, iv_k (by decide)]; exact j4
    · rw [e5, iv_k (by decide), if_neg d3]; exact j5
    · rw [if_neg (fun z => z.2.elim d4 (fun y => (i_nlt.mpr d5) y))]; exact j3
    · rw [if_neg d3]; exact j5
    · rw [e14, iv_k (by decide)]; exact j0
    · rw [e14, iv_k (by decide)]; exact j1
    · rw [e14, iv_k (by decide)]; exact j2
    · rw [e14, iv_s, if_pos ⟨Classical.not_not.mp d, Or.inr (i_nle.mp d5)⟩]
    · rw [e14, iv_k (by decide)]; exact j4
    · rw [e14, iv_k (by decide), if_neg d3]; exact j5
  refine z_meth (by decide) (Nat.le_of_ble_eq_true rfl) (by simp [Value.category]) (wpt_X10_take_0 ?_); unfold wp_X10_take_0
  refine ⟨fun d => ⟨fun d2 => i29 X _ zIn.rf rfl (by rw [if_neg d]) (by rw [if_neg d2]) rfl rfl rfl rfl, fun d2 => ⟨ho, ho, fun G1 e1 => i29 G1 _ (by rw [e1]; exact zIn.rf.si) (by rw [e1]; rfl) ?_ ?_ ?_ ?_ ?_ ?_⟩⟩, fun d => ⟨ho, ho, fun G2 e2 => ⟨fun d2 => i29 G2 _ (by rw [e2]; exact zIn.rf.si) (by rw [e2]; rfl) ?_ ?_ ?_ ?_ ?_ ?_, fun d2 => ?_⟩⟩⟩
  · rw [e1, iv_k (by decide), if_neg d]
  · rw [e1, iv_s, if_pos (Classical.not_not.mp d2)]
  · rw [e1, iv_k (by decide)]
  · rw [e1, iv_k (by decide)]
  · rw [e1, iv_k (by decide)]
  · rw [e1, iv_k (by decide)]
  · rw [e2, iv_s, if_pos (Classical.not_not.mp d)]
  · rw [e2, iv_k (by decide), if_neg d2]
  · rw [e2, iv_k (by decide)]
  · rw [e2, iv_k (by decide)]
  · rw [e2, iv_k (by decide)]
  · rw [e2, iv_k (by decide)]
  · exact absurd ((Classical.not_not.mp d).symm.trans (Classical.not_not.mp d2)) (by decide)
theorem take_jst {vq s : Nat} {amt : Int32} {c : List ZCD} {a : ZJ} (hs : s < 6) (hamt : ¬ amt < 0) (hv : VJ X vq a) (hb : okb a) (t0 : ziv X' vq 0 = (if Int32.ofNat (cix s) = 0 then ziv X vq 0 ||| amt else ziv X vq 0)) (t1 : ziv X' vq 1 = (if Int32.ofNat (cix s) = 1 then ziv X vq 1 + amt else ziv X vq 1)) (t2 : ziv X' vq 2 = (if Int32.ofNat (cix s) = 4 then ziv X vq 2 + amt else ziv X vq 2)) (t3 : ziv X' vq 3 = (if Int32.ofNat (cix s) = 2 ∧ (ziv X vq 3 = -1 ∨ amt < ziv X vq 3) then amt else ziv X vq 3)) (t4 : ziv X' vq 4 = (if Int32.ofNat (cix s) = 5 then 1 else ziv X vq 4)) (t5 : ziv X' vq 5 = (if Int32.ofNat (cix s) = 3 then (if ziv X vq 5 < amt then amt else ziv X vq 5) else ziv X vq 5)) : VJ X' vq (jst (Int32.ofNat s, amt, c) a) ∧ okb (jst (Int32.ofNat s, amt, c) a) := by
  obtain ⟨v0, v1, v2, v3, v4, v5⟩ := hv
  rw [v0] at t0; rw [v1] at t1; rw [v2] at t2; rw [v3] at t3; rw [v4] at t4; rw [v5] at t5
  have ej : jst (Int32.ofNat s, amt, c) a = if Int32.ofNat s = 0 then (a.1 ||| amt, a.2) else if Int32.ofNat s = 1 then (a.1, a.2.1 + amt, a.2.2) else if Int32.ofNat s = 2 then (a.1, a.2.1, (if a.2.2.1 < amt then amt else a.2.2.1), a.2.2.2) else if Int32.ofNat s = 3 then (a.1, a.2.1, a.2.2.1, a.2.2.2.1 + amt, a.2.2.2.2) else if Int32.ofNat s = 4 then (a.1, a.2.1, a.2.2.1, a.2.2.2.1, a.2.2.2.2.1, 1)
    else (a.1, a.2.1, a.2.2.1, a.2.2.2.1, (if 0 ≤ a.2.2.2.2.1 then (if amt < a.2.2.2.2.1 then amt else a.2.2.2.2.1) else amt), a.2.2.2.2.2) := rfl
  rw [ej]
  match s, hs with
  | 0, _ => exact ⟨⟨t0, t1, t2, by rw [t3, if_neg (fun z => absurd z.1 (by decide))]; rfl, t4, t5⟩, hb⟩
  | 1, _ => exact ⟨⟨t0, t1, t2, by rw [t3, if_neg (fun z => absurd z.1 (by decide))]; rfl, t4, t5⟩, hb⟩
  | 2, _ =>
    refine ⟨⟨t0, t1, t2, by rw [t3, if_neg (fun z => absurd z.1 (by decide))]; rfl, t4, t5⟩, hb.1, ?_⟩
    show (if a.2.2.1 < amt then amt else a.2.2.1) = -1 ∨ ¬ (if a.2.2.1 < amt then amt else a.2.2.1) < 0
    by_cases c2 : a.2.2.1 < amt
    · rw [if_pos c2]; exact Or.inr hamt
    · rw [if_neg c2]; exact hb.2
  | 3, _ => exact ⟨⟨t0, t1, t2, by rw [t3, if_neg (fun z => absurd z.1 (by decide))]; rfl, t4, t5⟩, hb⟩
  | 4, _ => exact ⟨⟨t0, t1, t2, by rw [t3, if_neg (fun z => absurd z.1 (by decide))]; rfl, t4, t5⟩, hb⟩
  | 5, _ =>
    rw [if_neg (by decide), if_neg (by decide), if_neg (by decide), if_neg (by decide), if_neg (by decide)]
    have h0 : (0 ≤ a.2.2.2.2.1) ↔ ¬ a.2.2.2.2.1 < 0 := i_nlt.symm
    obtain ⟨hb, hy⟩ := hb
    rcases hb with hb | hb
    · have hn : ¬ 0 ≤ a.2.2.2.2.1 := by rw [hb]; decide
      rw [if_neg hn]
      exact ⟨⟨t0, t1, t2, by rw [t3, if_pos ⟨rfl, Or.inl hb⟩], t4, t5⟩, Or.inr hamt, hy⟩
    · rw [if_pos (h0.mpr hb)]
      by_cases hlt : amt < a.2.2.2.2.1
      · rw [if_pos hlt]
        exact ⟨⟨t0, t1, t2, by rw [t3, if_pos ⟨rfl, Or.inr hlt⟩], t4, t5⟩, Or.inr hamt, hy⟩
      · rw [if_neg hlt]
        refine ⟨⟨t0, t1, t2, ?_, t4, t5⟩, Or.inr hb, hy⟩
        rw [t3, if_neg (fun z => z.2.elim (fun y => hb (by rw [y]; decide)) hlt)]
end ZDg
