/-! judge, ask -/
noncomputable def zJ (S : ZS9) (L : List ZCLS) (p : Nat) (kind wanted urgent : Int32) : ZJ := jfin (jall (zfacts S p kind wanted urgent) L j0)
def jpick (a : ZJ) (w : Int32) : Int32 := if w = 0 then a.1 else if w = 1 then a.2.1 else if w = 2 then a.2.2.1 else if w = 3 then a.2.2.2.1 else if w = 4 then (if a.2.2.2.2.2 = 0 then 0 else 1) else a.2.2.2.2.1
noncomputable def fJudge (S : ZS9) (L : List ZCLS) (p kind wanted urgent w : Int32) : ZO := fCalls3 (¬ zin p (nP S)) (1, 0, S) (fCalls3 (¬ (inn kind 0 3 ∧ inn wanted (S 416 1) 1000)) (2, 0, S) (fCalls3 (¬ inn w 0 5) (3, 0, S) (0, jpick (zJ S L p.toNatClampNeg kind wanted urgent) w, S)))
def zask (S : ZS9) (J : ZJ) (p kind wanted items urgent : Int32) : ZS9 :=
  zup (zup (zup (zup (zup (zup (zup (zup (zup (zup (zup (zup (zup (zup (zup (zup (zup (zup (zup S 416 66 (S 416 66 + 1)) 1153 (nA S) p) 1154 (nA S) kind) 1155 (nA S) (S 416 1)) 1156 (nA S) wanted) 1157 (nA S) items) 2158 (nA S) urgent) 1159 (nA S) J.1) 1160 (nA S) J.2.1) 1161 (nA S) J.2.2.1) 1162 (nA S) J.2.2.2.1) 2163 (nA S) J.2.2.2.2.2) 1164 (nA S) J.2.2.2.2.1) 1165 (7 * nA S + 0) 0) 1165 (7 * nA S + 1) (-1)) 1165 (7 * nA S + 2) (-1)) 1165 (7 * nA S + 3) (-1)) 1165 (7 * nA S + 4) (-1)) 416 72 (S 416 72 + J.2.1)
noncomputable def fAsk (S : ZS9) (L : List ZCLS) (p kind wanted items urgent : Int32) : ZO := fCalls3 (¬ zin p (nP S)) (1, 0, S) (fCalls3 (¬ (inn kind 0 3 ∧ inn wanted (S 416 1) 1000 ∧ inn items 0 255)) (2, 0, S) (fCalls3 (nA S = 120) (3, 0, S) (0, Int32.ofNat (nA S), zask S (zJ S L p.toNatClampNeg kind wanted urgent) p kind wanted items urgent)))
theorem zfacts_cg {S S1 : ZS9} (h : ∀ t k, ¬ (t = 416 ∧ k = 0) → S1 t k = S t k) (p : Nat) (kind wanted urgent : Int32) : zfacts S1 p kind wanted urgent = zfacts S p kind wanted urgent := by
  have hn : nB S1 = nB S := by unfold nB; rw [h _ _ (by omega)]
  have hv := zval_cg (S := S) (S' := S1) (fun t k ht => h t k (by omega)) (Int32.ofNat p) (S 416 1) (nB S)
  funext i
  unfold zfacts
  rw [h 416 1 (by omega), h 1129 p (by omega), h 2130 p (by omega), hn, hv]
theorem zrow_cg {S S1 : ZS9} {L : List ZCLS} {o m : Nat} (h : ∀ t k, ¬ (t = 416 ∧ k = 0) → S1 t k = S t k) (hr : zrow S L o m) : zrow S1 L o m := by
  unfold zrow at *
  rw [h _ _ (by omega), h _ _ (by omega), h _ _ (by omega), h _ _ (by omega)]; exact hr
theorem LW_cg {S S1 : ZS9} {L : List ZCLS} (h : ∀ t k, ¬ (t = 416 ∧ k = 0) → S1 t k = S t k) (hL : LW S L) : LW S1 L := by
  have hn : nL S1 = nL S := by unfold nL; rw [h _ _ (by omega)]
  have hz : zlaw S1 (S1 416 1) (nL S1) = zlaw S (S 416 1) (nL S) := by rw [h 416 1 (by omega), hn]; exact zlaw_cg (fun j _ => h _ _ (by omega))
  unfold LW at *
  rw [hz]
  cases hj : zlaw S (S 416 1) (nL S) with
  | none => rw [hj] at hL; exact hL
  | some j =>
    rw [hj] at hL
    obtain ⟨⟨s1, s2, s3, s4, s5⟩, o⟩ := hL
    exact ⟨⟨by rw [h _ _ (by omega)]; exact s1, s2, s3, fun m hm => zrow_cg h (s4 m hm), fun i hi => by rw [h _ _ (by omega), h _ _ (by omega), h _ _ (by omega)]; exact s5 i hi⟩, o⟩
theorem jst_see {c : ZCLS} {a : ZJ} (h : a.2.2.2.2.2 = 0 ∨ a.2.2.2.2.2 = 1) : (jst c a).2.2.2.2.2 = 0 ∨ (jst c a).2.2.2.2.2 = 1 := by
  unfold jst
  by_cases h0 : c.1 = 0
  · rw [if_pos h0]; exact h
  rw [if_neg h0]
  by_cases h1 : c.1 = 1
  · rw [if_pos h1]; exact h
  rw [if_neg h1]
  by_cases h2 : c.1 = 2
  · rw [if_pos h2]; exact h
  rw [if_neg h2]
  by_cases h3 : c.1 = 3
  · rw [if_pos h3]; exact h
  rw [if_neg h3]
  by_cases h4 : c.1 = 4
  · rw [if_pos h4]; exact Or.inr rfl
  rw [if_neg h4]; exact h
theorem jall_see {F : Nat → Int32} : ∀ {L : List ZCLS} {a : ZJ}, (a.2.2.2.2.2 = 0 ∨ a.2.2.2.2.2 = 1) → ((jall F L a).2.2.2.2.2 = 0 ∨ (jall F L a).2.2.2.2.2 = 1)
  | [], a, h => h
  | c :: L, a, h => by
    show (jall F L _).2.2.2.2.2 = 0 ∨ (jall F L _).2.2.2.2.2 = 1
    refine jall_see ?_
    split
    · exact jst_see h
    · exact h
theorem zJ_see {S : ZS9} {L : List ZCLS} {p : Nat} {k w u : Int32} : (zJ S L p k w u).2.2.2.2.2 = 0 ∨ (zJ S L p k w u).2.2.2.2.2 = 1 := jall_see (F := zfacts S p k w u) (L := L) (a := j0) (Or.inl rfl)
section ZRw
variable {E : ZE} {l : Launch} {S : ZS9}
theorem r_judge (hR : RI S) (hL : S 416 19 = Int32.ofNat (nL S) ∧ nL S ≤ 12) (hb : ∀ p, p < nP S → ¬ S 416 1 - S 1129 p < 0) {L : List ZCLS} (hLW : LW S L) (x kind wanted urgent w : Int32) :
    rMet E l mX12_judge 2 0 [.int x, .int kind, .int wanted, .int urgent, .int w] S (rR (fJudge S L x kind wanted urgent w)) := by
  have hP := hR.2.1
  refine r_meth (by decide) (Nat.le_of_ble_eq_true rfl) (by simp [Value.category]) (fun G hK => rwpt_X12_judge_0 hK ?_); unfold rwp_X12_judge_0
  intro S1 e1; have z1 : ∀ t k, ¬ (t = 416 ∧ k = 0) → S1 t k = S t k := fun t k h => by rw [e1, zup_at, if_neg h]
  have s1 : zsim S S1 := by rw [e1]; exact zs0 zsim.rf
  have t1 : S1 416 0 = 0 := by rw [e1]; exact zup_s _ _ _ _
  refine gI (r_nobody (n := nP S) x (by rw [z1 _ _ (by omega), hP.1]) (by omega)) (by decide) (gT (by decide) (fun h => it (by decide) ?_) (fun h => ie (by decide) ?_))
  · unfold fJudge; rw [f3t h]; exact rR1 s1 (by decide)
  · obtain ⟨p, hp, rfl⟩ := zin_of (Classical.not_not.mp h) (by omega)
    refine gI (r_noAsk _ _) (by decide) (gT (by decide) (fun h2 => it (by decide) ?_) (fun h2 => ie (by decide) ?_))
    · rw [z1 416 1 (by omega)] at h2
      unfold fJudge; rw [f3f h, f3t h2]; exact rR1 s1 (by decide)
    · rw [z1 416 1 (by omega)] at h2
      have ef : fJudge S L (Int32.ofNat p) kind wanted urgent w = fCalls3 (¬ inn w 0 5) (3, 0, S) (0, jpick (zJ S L p kind wanted urgent) w, S) := by unfold fJudge; rw [f3f h, f3f h2, n_nn (by omega)]
      rw [ef]
      have h2 := Classical.not_not.mp h2
      have cut : ∀ s0, s0 = zb (¬ inn w 0 5) → ∀ k, zW E l mX12_judge 2 0 (zput G S) (rQ G (rR (fCalls3 (¬ inn w 0 5) (3, 0, S) (0, jpick (zJ S L p kind wanted urgent) w, S)))) k 48 [some (.ref (zp 416 0)), some (.int (Int32.ofNat p)), some (.int kind), some (.int wanted), some (.int urgent), some (.int w)] [.int s0, .ref (zp 416 0)] (zput G S1) := by
        intro s0 hs k
        refine rwpt_X12_judge_48 hK ?_; unfold rwp_X12_judge_48
        rw [hs]
        refine gT (by decide) (fun h3 => ie (by decide) ?_) (fun h3 => it rfl (gW (r_judges (nS1 z1 hR) ?_ ?_ h2.1 ?_ (LW_cg z1 hLW)) (by decide) ?_))
        · rw [f3t h3]; exact rR1 s1 (by decide)
        · unfold nL; rw [z1 _ _ (by omega)]; exact hL
        · unfold nP; rw [z1 _ _ (by omega)]; exact hp
        · rw [z1 _ _ (by omega), z1 _ _ (by omega)]; exact hb p hp
        · rintro U ⟨⟨j1, j2, j3, j4, j5, j6⟩, hU⟩
          rw [f3f h3]
          have sU : zsim S U := fun t k hc => by rw [hU t k (fun z => hc (zjx_scr z))]; exact s1 t k hc
          have tU : U 416 0 = 0 := by rw [hU _ _ (by unfold zjx; omega), t1]
          rw [zfacts_cg z1] at j1 j2 j3 j4 j5 j6
          have ok : ∀ y, y = jpick (zJ S L p kind wanted urgent) w → rR (0, jpick (zJ S L p kind wanted urgent) w, S) (some (.int y)) U := fun y hy => rR0 sU tU hy
          unfold zJ at *
          rw [j6]
          refine ⟨fun c => ok _ (by subst c; rw [j1]; rfl), fun c => ok _ (by subst c; rw [j2]; rfl), fun c => ok _ (by subst c; rw [j3]; rfl), fun c => ok _ (by subst c; rw [j4]; rfl), fun c => ⟨fun c2 => ok _ ?_, fun c2 => ok _ ?_⟩, fun n0 n1 n2 n3 n4 => ok _ ?_⟩
          · subst c; unfold jpick; rw [if_pos c2]; rfl
          · subst c; unfold jpick; rw [if_neg c2]; rfl
          · unfold jpick; rw [if_neg n0, if_neg n1, if_neg n2, if_neg n3, if_neg n4, j5]
      exact sI (fun _ => s_in _ _ _) (by decide) ⟨fun h3 => cut 0 (zbz (nn (Classical.not_not.mp (fun z => h3 (zbz z))))).symm _, fun h3 => cut 1 (zb_t (zb_0.mp (Classical.not_not.mp h3))).symm _⟩
theorem r_ask (hR : RI S) (hL : S 416 19 = Int32.ofNat (nL S) ∧ nL S ≤ 12) (hb : ∀ p, p < nP S → ¬ S 416 1 - S 1129 p < 0) {L : List ZCLS} (hLW : LW S L) (x kind wanted items urgent : Int32) (hu : urgent = 0 ∨ urgent = 1) :
    rMet E l mX12_ask 2 0 [.int x, .int kind, .int wanted, .int items, .int urgent] S (rR (fAsk S L x kind wanted items urgent)) := by
  have hP := hR.2.1
  have hA := hR.1
  refine r_meth (by decide) (Nat.le_of_ble_eq_true rfl) (by simp [Value.category]) (fun G hK => rwpt_X12_ask_0 hK ?_); unfold rwp_X12_ask_0
  intro S1 e1; have z1 : ∀ t k, ¬ (t = 416 ∧ k = 0) → S1 t k = S t k := fun t k h => by rw [e1, zup_at, if_neg h]
  have s1 : zsim S S1 := by rw [e1]; exact zs0 zsim.rf
  have t1 : S1 416 0 = 0 := by rw [e1]; exact zup_s _ _ _ _
  refine gI (r_nobody (n := nP S) x (by rw [z1 _ _ (by omega), hP.1]) (by omega)) (by decide) (gT (by decide) (fun h => it (by decide) ?_) (fun h => ie (by decide) ?_))
  · unfold fAsk; rw [f3t h]; exact rR1 s1 (by decide)
  · obtain ⟨p, hp, rfl⟩ := zin_of (Classical.not_not.mp h) (by omega)
    have ef : fAsk S L (Int32.ofNat p) kind wanted items urgent = fCalls3 (¬ (inn kind 0 3 ∧ inn wanted (S 416 1) 1000 ∧ inn items 0 255)) (2, 0, S) (fCalls3 (nA S = 120) (3, 0, S) (0, Int32.ofNat (nA S), zask S (zJ S L p kind wanted urgent) (Int32.ofNat p) kind wanted items urgent)) := by unfold fAsk; rw [f3f h, n_nn (by omega)]
    rw [ef]
    generalize hF : fCalls3 (¬ (inn kind 0 3 ∧ inn wanted (S 416 1) 1000 ∧ inn items 0 255)) (2, 0, S) (fCalls3 (nA S = 120) (3, 0, S) (0, Int32.ofNat (nA S), zask S (zJ S L p kind wanted urgent) (Int32.ofNat p) kind wanted items urgent)) = F
    have cut2 : (inn kind 0 3 ∧ inn wanted (S 416 1) 1000 ∧ inn items 0 255) → ∀ s0, s0 = zb (nA S = 120) → ∀ k, zW E l mX12_ask 2 0 (zput G S) (rQ G (rR F)) k 67 [some (.ref (zp 416 0)), some (.int (Int32.ofNat p)), some (.int kind), some (.int wanted), some (.int items), some (.int urgent), none] [.int s0, .ref (zp 416 0)] (zput G S1) := by
      intro h2 s0 hs k
      refine rwpt_X12_ask_67 hK ?_; unfold rwp_X12_ask_67
      rw [hs]
      refine gT (by decide) (fun h3 => ie (by decide) ?_) (fun h3 => it rfl (gW (r_judges (nS1 z1 hR) ?_ ?_ h2.1 ?_ (LW_cg z1 hLW)) (by decide) ?_))
      · rw [← hF, f3f (nn h2), f3t h3]; exact rR1 s1 (by decide)
      · unfold nL; rw [z1 _ _ (by omega)]; exact hL
      · unfold nP; rw [z1 _ _ (by omega)]; exact hp
      · rw [z1 _ _ (by omega), z1 _ _ (by omega)]; exact hb p hp
      · rintro U ⟨⟨j1, j2, j3, j4, j5, j6⟩, hU⟩
        rw [f3f (nn h2), f3f h3] at hF
        rw [← hF]
        have sU : zsim S U := fun t k hc => by rw [hU t k (fun z => hc (zjx_scr z))]; exact s1 t k hc
        have tU : U 416 0 = 0 := by rw [hU _ _ (by unfold zjx; omega), t1]
        rw [zfacts_cg z1] at j1 j2 j3 j4 j5 j6
        have hsee := zJ_see (S := S) (L := L) (p := p) (k := kind) (w := wanted) (u := urgent)
        have e66 : U 416 66 = Int32.ofNat (nA S) := by rw [hU _ _ (by unfold zjx; omega), z1 _ _ (by omega), hA.1]
        have e72 : U 416 72 = S 416 72 := by rw [hU _ _ (by unfold zjx; omega), z1 _ _ (by omega)]
        have eT : U 416 1 = S 416 1 := by rw [hU _ _ (by unfold zjx; omega), z1 _ _ (by omega)]
        have hJe : jfin (jall (zfacts S p kind wanted urgent) L j0) = zJ S L p kind wanted urgent := rfl
        rw [hJe] at j1 j2 j3 j4 j5 j6
        generalize zJ S L p kind wanted urgent = J at *
        have vv : vp_in (Int32.ofNat (nA S)) 120 := n_in (by omega) (by omega)
        rw [e66, n_nn (by omega), n_p1]
        intro S6 q6
        refine ⟨vv, fun S7 q7 => ⟨vv, fun S8 q8 => ⟨vv, fun S9 q9 => ?_⟩⟩⟩
        rw [show S8 416 1 = S 416 1 by rw [q8, zup_ne (by omega), q7, zup_ne (by omega), q6, zup_ne (by omega), eT]] at q9
        refine ⟨vv, fun S10 q10 => ⟨vv, fun S11 q11 => ⟨vv, by rcases hu with c | c <;> rw [c] <;> first | exact zok_0 | exact zok_1, fun S12 q12 => ?_⟩⟩⟩
        have f12 : ∀ k, k ≠ 66 → S12 416 k = U 416 k := fun k hk => by rw [q12, zup_ne (by omega), q11, zup_ne (by omega), q10, zup_ne (by omega), q9, zup_ne (by omega), q8, zup_ne (by omega), q7, zup_ne (by omega), q6, zup_ne (by omega)]
        rw [f12 23 (by decide), j1]
        refine ⟨vv, fun S13 q13 => ?_⟩
        rw [show S13 416 24 = J.2.1 by rw [q13, zup_ne (by omega), f12 24 (by decide), j2]]
        refine ⟨vv, fun S14 q14 => ?_⟩
        rw [show S14 416 25 = J.2.2.1 by rw [q14, zup_ne (by omega), q13, zup_ne (by omega), f12 25 (by decide), j3]]
        refine ⟨vv, fun S15 q15 => ?_⟩
        rw [show S15 416 26 = J.2.2.2.1 by rw [q15, zup_ne (by omega), q14, zup_ne (by omega), q13, zup_ne (by omega), f12 26 (by decide), j4]]
        refine ⟨vv, fun S16 q16 => ?_⟩
        rw [show S16 416 28 = J.2.2.2.2.2 by rw [q16, zup_ne (by omega), q15, zup_ne (by omega), q14, zup_ne (by omega), q13, zup_ne (by omega), f12 28 (by decide), j6]]
        refine ⟨vv, by rcases hsee with c | c <;> rw [c] <;> first | exact zok_0 | exact zok_1, fun S17 q17 => ?_⟩
        rw [show S17 416 27 = J.2.2.2.2.1 by rw [q17, zup_ne (by omega), q16, zup_ne (by omega), q15, zup_ne (by omega), q14, zup_ne (by omega), q13, zup_ne (by omega), f12 27 (by decide), j5]]
        refine ⟨vv, fun S18 q18 => ?_⟩
        have f18 : ∀ k, k ≠ 66 → S18 416 k = U 416 k := fun k hk => by rw [q18, zup_ne (by omega), q17, zup_ne (by omega), q16, zup_ne (by omega), q15, zup_ne (by omega), q14, zup_ne (by omega), q13, zup_ne (by omega), f12 k hk]
        refine gV (r_sets (a := nA S) (w := 0) (by omega)) (by decide) (gV (r_sets (a := nA S) (w := 1) (by omega)) (by decide) (gV (r_sets (a := nA S) (w := 2) (by omega)) (by decide) (gV (r_sets (a := nA S) (w := 3) (by omega)) (by decide) (gV (r_sets (a := nA S) (w := 4) (by omega)) (by decide) (fun S29 q29 => ?_)))))
        rw [zup_ne (a := 416) (j := 72) (by omega), zup_ne (a := 416) (j := 72) (by omega), zup_ne (a := 416) (j := 72) (by omega), zup_ne (a := 416) (j := 72) (by omega), zup_ne (a := 416) (j := 72) (by omega), zup_ne (a := 416) (j := 24) (by omega), zup_ne (a := 416) (j := 24) (by omega), zup_ne (a := 416) (j := 24) (by omega), zup_ne (a := 416) (j := 24) (by omega), zup_ne (a := 416) (j := 24) (by omega), f18 72 (by decide), f18 24 (by decide), e72, j2] at q29
        rw [q29, q18, q17, q16, q15, q14, q13, q12, q11, q10, q9, q8, q7, q6]
        unfold zask
        rw [hA.1, n_p1]
        refine rR0 sU.cg.cg.cg.cg.cg.cg.cg.cg.cg.cg.cg.cg.cg.cg.cg.cg.cg.cg.cg ?_ rfl
        rw [zup_ne (by omega), zup_ne (by omega), zup_ne (by omega), zup_ne (by omega), zup_ne (by omega), zup_ne (by omega), zup_ne (by omega), zup_ne (by omega), zup_ne (by omega), zup_ne (by omega), zup_ne (by omega), zup_ne (by omega), zup_ne (by omega), zup_ne (by omega), zup_ne (by omega), zup_ne (by omega), zup_ne (by omega), zup_ne (by omega), zup_ne (by omega), tU]
    have cut : ∀ s0, s0 = zb (¬ (inn kind 0 3 ∧ inn wanted (S 416 1) 1000 ∧ inn items 0 255)) → ∀ k, zW E l mX12_ask 2 0 (zput G S) (rQ G (rR F)) k 45 [some (.ref (zp 416 0)), some (.int (Int32.ofNat p)), some (.int kind), some (.int wanted), some (.int items), some (.int urgent), none] [.int s0, .ref (zp 416 0)] (zput G S1) := by
      intro s0 hs k
      refine rwpt_X12_ask_45 hK ?_; unfold rwp_X12_ask_45
      rw [hs]
      refine gT (by decide) (fun h2 => it (by decide) ?_) (fun h2 => ie (by decide) ?_)
      · rw [← hF, f3t h2]; exact rR1 s1 (by decide)
      · rw [z1 416 66 (by omega), hA.1, show (120 : Int32) = Int32.ofNat 120 from rfl, n_inj (by omega) (by omega)]
        exact ⟨fun h3 => cut2 (Classical.not_not.mp h2) 0 (zbz h3).symm _, fun h3 => cut2 (Classical.not_not.mp h2) 1 (zb_t (Classical.not_not.mp h3)).symm _⟩
    refine gI (r_noAsk _ _) (by decide) ?_
    rw [z1 416 1 (by omega)]
    refine ⟨fun h2 => cut 1 (zb_t (fun z => h2 (zbz (nn ⟨z.1, z.2.1⟩)))).symm _, fun h2 => sI (fun _ => s_in _ _ _) (by decide) ?_⟩
    have h2 := Classical.not_not.mp (zb_0.mp (Classical.not_not.mp h2))
    exact ⟨fun h3 => cut 0 (zbz (nn ⟨h2.1, h2.2, Classical.not_not.mp (fun z => h3 (zbz z))⟩)).symm _, fun h3 => cut 1 (zb_t (fun z => (zb_0.mp (Classical.not_not.mp h3)) z.2.2)).symm _⟩
end ZRw
