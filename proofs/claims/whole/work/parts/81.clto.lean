/-! public methods: ask -/
section ZDo
variable {E : ZE} {l : Launch} {K : ZG} {m n1 m1 i : Nat} {S S' : ZS9} {X X' G : ZG} {r : Int32} {F : Nat → Int32}
/-- a new row -/
def zaN (S : ZS9) (t k : Nat) : Prop := (t = 416 ∧ (k = 66 ∨ k = 72)) ∨ (((1153 ≤ t ∧ t ≤ 1164) ∨ t = 2158 ∨ t = 2163) ∧ k = nA S) ∨ (t = 1165 ∧ 7 * nA S ≤ k ∧ k < 7 * nA S + 5)
theorem zask_o {J : ZJ} {p kind wanted items urgent : Int32} {t k : Nat} (h : ¬ zaN S t k) : zask S J p kind wanted items urgent t k = S t k := by
  unfold zaN at h
  unfold zask
  rw [zup_ne (by omega), zup_ne (by omega), zup_ne (by omega), zup_ne (by omega), zup_ne (by omega), zup_ne (by omega), zup_ne (by omega), zup_ne (by omega), zup_ne (by omega), zup_ne (by omega), zup_ne (by omega), zup_ne (by omega), zup_ne (by omega), zup_ne (by omega), zup_ne (by omega), zup_ne (by omega), zup_ne (by omega), zup_ne (by omega), zup_ne (by omega)]
/-- what the new row holds -/
theorem zask_n {J : ZJ} {p kind wanted items urgent : Int32} : ∀ S', S' = zask S J p kind wanted items urgent → S' 416 66 = S 416 66 + 1 ∧ S' 416 72 = S 416 72 + J.2.1 ∧ S' 1153 (nA S) = p ∧ S' 1154 (nA S) = kind ∧ S' 1155 (nA S) = S 416 1 ∧ S' 1156 (nA S) = wanted ∧ S' 1157 (nA S) = items ∧ S' 2158 (nA S) = urgent ∧ (S' 1159 (nA S) = J.1 ∧ S' 1160 (nA S) = J.2.1 ∧ S' 1161 (nA S) = J.2.2.1 ∧ S' 1162 (nA S) = J.2.2.2.1 ∧ S' 2163 (nA S) = J.2.2.2.2.2 ∧ S' 1164 (nA S) = J.2.2.2.2.1) ∧ S' 1165 (7 * nA S + 0) = 0 ∧ S' 1165 (7 * nA S + 1) = -1 ∧ S' 1165 (7 * nA S + 2) = -1 ∧ S' 1165 (7 * nA S + 3) = -1 ∧ S' 1165 (7 * nA S + 4) = -1 := by
  intro S' h
  rw [h]
  unfold zask
  refine ⟨?_, zup_s _ _ _ _, ?_, ?_, ?_, ?_, ?_, ?_, ⟨?_, ?_, ?_, ?_, ?_, ?_⟩, ?_, ?_, ?_, ?_, ?_⟩
  · iterate 18 rw [zup_ne (by omega)]
    exact zup_s _ _ _ _
  · iterate 17 rw [zup_ne (by omega)]
    exact zup_s _ _ _ _
  · iterate 16 rw [zup_ne (by omega)]
    exact zup_s _ _ _ _
  · iterate 15 rw [zup_ne (by omega)]
    exact zup_s _ _ _ _
  · iterate 14 rw [zup_ne (by omega)]
    exact zup_s _ _ _ _
  · iterate 13 rw [zup_ne (by omega)]
    exact zup_s _ _ _ _
  · iterate 12 rw [zup_ne (by omega)]
    exact zup_s _ _ _ _
  · iterate 11 rw [zup_ne (by omega)]
    exact zup_s _ _ _ _
  · iterate 10 rw [zup_ne (by omega)]
    exact zup_s _ _ _ _
  · iterate 9 rw [zup_ne (by omega)]
    exact zup_s _ _ _ _
  · iterate 8 rw [zup_ne (by omega)]
    exact zup_s _ _ _ _
  · iterate 7 rw [zup_ne (by omega)]
    exact zup_s _ _ _ _
  · iterate 6 rw [zup_ne (by omega)]
    exact zup_s _ _ _ _
  · iterate 5 rw [zup_ne (by omega)]
    exact zup_s _ _ _ _
  · iterate 4 rw [zup_ne (by omega)]
    exact zup_s _ _ _ _
  · iterate 3 rw [zup_ne (by omega)]
    exact zup_s _ _ _ _
  · iterate 2 rw [zup_ne (by omega)]
    exact zup_s _ _ _ _
  · rw [zup_ne (by omega)]
    exact zup_s _ _ _ _
theorem PO.ask {a : ZJ} {p v : Nat} {kind wanted items urgent : Int32} (h : PO K S m n1 m1 X) (hA : nA S < 120) (hp : p < nP S) (hu : urgent = 0 ∨ urgent = 1) (hv : v < zcn X 352) (hV : VJ X (zp 352 v) a) (hb : okb a) (hf : zfr [32, 4, 3076, 224] X X') (hl : zAL X' 4 (nA S + 1) (zp 32)) (hc : zcn X' 32 = nA S + 1)
    (ho : ∀ i, i < nA S → ziv X' (zp 32 i) = ziv X (zp 32 i) ∧ zrv X' (zp 32 i) = zrv X (zp 32 i))
    (hr : zrv X' (zp 32 (nA S)) 1 = zp 288 p ∧ zrv X' (zp 32 (nA S)) 6 = zp 352 v ∧ ∀ k, k < 15 → k ≠ 1 → k ≠ 6 → ziv X' (zp 32 (nA S)) k = if k = 8 then items else iniA (Int32.ofNat (nA S)) kind (S 416 1) wanted urgent k)
    (h9 : ∀ k, ziv X' (zp 224 0) k = if k = 9 then ziv X (zp 224 0) 9 + a.2.1 else ziv X (zp 224 0) k) (h224 : zrv X' (zp 224 0) = zrv X (zp 224 0)) : PO K (zask S (jfin a) (Int32.ofNat p) kind wanted items urgent) m n1 m1 X' := by
  have no : ∀ t, t ≠ 32 ∧ t ≠ 4 ∧ t ≠ 3076 ∧ t ≠ 224 → t ∉ [32, 4, 3076, 224] := fun t h => by simp [h]
  generalize hS' : zask S (jfin a) (Int32.ofNat p) kind wanted items urgent = S'
  obtain ⟨z66, z72, z53, z54, z55, z56, z57, z58, ⟨z59, z60, z61, z62, z63, z64⟩, y0, y1, y2, y3, y4⟩ := zask_n S' hS'.symm
  have ks : ∀ t k, ¬ zaN S t k → S' t k = S t k := fun t k h => by rw [← hS']; exact zask_o h
  have o := h.of
  have hI := h.si
  have hPt := h.2.2.2.2.2.2.1
  have p1 := h.o
  have p2 := h.2.1
  have p3 := h.2.2.1
  have p4 := h.2.2.2.1
  have p5 := h.wm
  obtain ⟨⟨x1a, x1b⟩, x2, x3, x4, x5, x6⟩ := o.ri
  have e66 : S' 416 66 = Int32.ofNat (nA S + 1) := by rw [z66, x1a, n_p1]
  have eA : nA S' = nA S + 1 := by
    show (S' 416 66).toNatClampNeg = _
    rw [e66, n_nn (by omega)]
  have eP : nP S' = nP S := by unfold nP; rw [ks _ _ (by unfold zaN; omega)]
  have eB : nB S' = nB S := by unfold nB; rw [ks _ _ (by unfold zaN; omega)]
  have eT : nT S' = nT S := by unfold nT; rw [ks _ _ (by unfold zaN; omega)]
  have ko : ∀ t k, (t < 1153 ∨ (1165 < t ∧ t ≠ 2158 ∧ t ≠ 2163)) ∧ ¬ (t = 416 ∧ (k = 66 ∨ k = 72)) → S' t k = S t k := fun t k hc => ks t k (by unfold zaN; omega)
  have kr : ∀ t x, ((1153 ≤ t ∧ t ≤ 1164) ∨ t = 2158 ∨ t = 2163) → x < nA S → S' t x = S t x := fun t x ht hx => ks t x (by unfold zaN; omega)
  have k65 : ∀ x j, j < 7 → x ≠ nA S ∨ 5 ≤ j → S' 1165 (7 * x + j) = S 1165 (7 * x + j) := fun x j hj hx => ks _ _ (by unfold zaN; omega)
  have epn : ∀ x, x < nA S → pn S' x = pn S x := fun x hx => by unfold pn; rw [kr 1153 x (by omega) hx]
  have eN : pn S' (nA S) = p := by
    show (S' 1153 (nA S)).toNatClampNeg = _
    rw [z53, n_nn (by have := x2.2; omega)]
  have hRI : RI S' := by
    unfold RI
    rw [eA, eP, eB, eT, e66, ko 416 34 (by omega), ko 416 71 (by omega), ko 416 52 (by omega)]
    refine ⟨⟨rfl, by omega⟩, x2, x3, x4, fun x hx => ?_, fun x => ?_⟩
    · by_cases c : x = nA S
      · rw [c, eN, z53]; exact ⟨rfl, hp⟩
      · rw [epn x (by omega), kr 1153 x (by omega) (by omega)]; exact x5 x (by omega)
    · by_cases c : x = nA S
      · rw [c, z58]; exact hu
      · rw [ks 2158 x (by unfold zaN; omega)]; exact x6 x
  have hRJ : RJ S' := by
    obtain ⟨⟨r1, r1'⟩, r2, r3, r4⟩ := o.rj
    refine ⟨⟨fun p q => by rw [ko _ _ (by omega)]; exact r1 p q, fun p q hp hq => by rw [ko _ _ (by omega), ko _ _ (by omega)]; exact r1' p q hp hq⟩, fun x => ?_, fun x => ?_, by rw [ko _ _ (by omega)]; exact r4⟩
    · by_cases c : x = nA S
      · rw [c, y2]; exact Or.inl rfl
      · rw [k65 x 2 (by omega) (Or.inl c)]; exact r2 x
    · by_cases c : x = nA S
      · rw [c, z64]; exact hb.1
      · rw [ks 1164 x (by unfold zaN; omega)]; exact r3 x
  have hVD : VD S' X' (nA S) v := by
    obtain ⟨v0, v1, v2, v3, v4, v5⟩ := hV
    unfold VD
    rw [hf.iv (by omega) (no _ (by omega)), z59, z60, z61, z62, z63, z64, v0, v1, v2, v3, v4, v5]
    refine ⟨rfl, rfl, rfl, rfl, rfl, ?_⟩
    show _ = (if 0 ≤ a.2.2.1 then a.2.2.1 else 10)
    rcases hb.2 with c5 | c5
    · rw [if_pos c5, if_neg (by rw [c5]; decide)]
    · rw [if_neg (fun z => c5 (by rw [z]; decide)), if_pos (i_nlt.mp c5)]
  have hOld : ∀ x w, x < nA S → VD S X x w → VD S' X' x w := fun x w hx hd => by
    unfold VD at *
    rw [hf.iv (by omega) (no _ (by omega)), kr 1159 x (by omega) hx, kr 1160 x (by omega) hx, kr 1162 x (by omega) hx, kr 1164 x (by omega) hx, kr 2163 x (by omega) hx, kr 1161 x (by omega) hx]
    exact hd
  have hAF : ∀ x k, x < nA S → k < 15 → aFld S' x k = aFld S x k := fun x k hx hk => by
    unfold aFld
    rw [kr 1154 x (by omega) hx, kr 1155 x (by omega) hx, kr 1156 x (by omega) hx, kr 2158 x (by omega) hx, kr 1157 x (by omega) hx, k65 x 0 (by omega) (by omega), k65 x 1 (by omega) (by omega), k65 x 2 (by omega) (by omega), k65 x 3 (by omega) (by omega), k65 x 4 (by omega) (by omega), k65 x 5 (by omega) (by omega), k65 x 6 (by omega) (by omega)]
  have hSN := hI.2.2.2.2 (nA S) (Nat.le_refl _)
  have hSO : SO 0 S' (S 416 42) m X' := by
    obtain ⟨⟨o1, o2, o3, o4, o5, o6, o7⟩, ⟨a1, a2, a3⟩, ⟨b1, b2, b3, b4, b5⟩⟩ := o.so
    have h224 : zrv X' (zp (224 + 0) 0) = zrv X (zp (224 + 0) 0) := h224
    refine ⟨⟨hf.ob o1, by rw [h224]; exact o2, by rw [h224]; exact o3, by rw [h224]; exact o4, by rw [h224]; exact o5, by rw [h224]; exact o6, fun k k1 k2 => ?_⟩, ⟨by rw [eA]; exact hl, by rw [eA]; exact hc, fun x hx => ?_⟩, ⟨b1.fr hf (by omega) (no _ (by omega)) (no _ (by omega)) (no _ (by omega)), by rw [hf.2.1 _ (no _ (by omega))]; exact b2, by rw [eB]; exact b3, b4, fun b hbb k hk => ?_⟩⟩
    · show ziv X' (zp 224 0) k = _
      rw [h9 k]
      by_cases c : k = 9
      · rw [if_pos c, c]
        show _ = S' 416 72
        rw [z72, show ziv X (zp 224 0) 9 = S 416 72 from o7 9 (by omega) (by omega)]
        rfl
      · rw [if_neg c, show ziv X (zp 224 0) k = oFld S (S 416 42) k from o7 k k1 k2]
        unfold oFld
        rw [if_neg c, if_neg c, ko 416 71 (by omega), ko 416 1 (by omega), ko 416 43 (by omega), ko 416 73 (by omega), ko 416 74 (by omega), ko 416 75 (by omega), ko 416 76 (by omega)]
    · rw [eA] at hx
      by_cases c : x = nA S
      · rw [c]
        refine ⟨by rw [eN]; exact hr.1, ⟨v, by rw [hf.2.1 _ (no _ (by omega))]; exact hv, hr.2.1, hVD⟩, fun k k1 k2 k3 => ?_⟩
        show ziv X' (zp 32 (nA S)) k = _
        rw [hr.2.2 k k1 k2 k3]
        unfold aFld
        rw [z54, z55, z56, z57, z58, y0, y1, y2, y3, y4, k65 (nA S) 5 (by omega) (by omega), k65 (nA S) 6 (by omega) (by omega), hSN.1, hSN.2]
        match k, k1, k2, k3 with
        | 0, _, _, _ => rfl
        | 2, _, _, _ => rfl
        | 3, _, _, _ => rfl
        | 4, _, _, _ => rfl
        | 5, _, _, _ => rfl
        | 7, _, _, _ => rfl
        | 8, _, _, _ => rfl
        | 9, _, _, _ => rfl
        | 10, _, _, _ => rfl
        | 11, _, _, _ => rfl
        | 12, _, _, _ => rfl
        | 13, _, _, _ => rfl
        | 14, _, _, _ => rfl
      · have hx2 : x < nA S := by omega
        obtain ⟨q1, ⟨w, w1, w2, w3⟩, q3⟩ := a3 x hx2
        obtain ⟨u1, u2⟩ := ho x hx2
        have u1 : ziv X' (zp (32 + 0) x) = ziv X (zp (32 + 0) x) := u1
        have u2 : zrv X' (zp (32 + 0) x) = zrv X (zp (32 + 0) x) := u2
        refine ⟨by rw [u2, epn x hx2]; exact q1, ⟨w, by rw [hf.2.1 _ (no _ (by omega))]; exact w1, by rw [u2]; exact w2, hOld x w hx2 w3⟩, fun k k1 k2 k3 => ?_⟩
        rw [u1, q3 k k1 k2 k3, hAF x k hx2 k1]
    · rw [eB] at hbb
      show ziv X' (zp 64 b) k = _
      rw [hf.iv (by omega) (no _ (by omega)), ko _ _ (by omega)]
      exact b5 b hbb k hk
  have hB := x3.2
  have e42 : S' 416 42 = S 416 42 := ko _ _ (by omega)
  refine ⟨p1.fr hf (no _ (by omega)), (p2.fr hf (no _ (by omega)) (no _ (by omega))).cg (fun t k hc => ko t k (by unfold tk at hc; omega)), (p3.fr hf (no _ (by omega)) (no _ (by omega)) (no _ (by omega)) (no _ (by omega)) (no _ (by omega))).cg2 (SI_nL hI) (fun t k hc => ko t k (by omega)), (p4.fr hf (no _ (by omega)) (no _ (by omega)) (no _ (by omega))).cg2 (fun t k hc => ko t k (by omega)), p5.fr hf (no _ (by omega)) (no _ (by omega)) (by decide), ?_, ?_, ?_⟩
  · rw [e42]
    exact ⟨by omega, hRI, hRJ, (o.cp.cg (ko _ _ (by omega)) (fun t k hc => ko t k (by omega))).fr hf (no _ (by omega)) (no _ (by omega)) (no _ (by omega)) (no _ (by omega)) (no _ (by omega)) (no _ (by omega)) (no _ (by omega)), (o.cd.cg (ko _ _ (by omega)) (fun t k hc => ko t k (by omega))).fr hf (no _ (by omega)) (no _ (by omega)) (no _ (by omega)) (no _ (by omega)) (no _ (by omega)) (no _ (by omega)), (o.cr.cg (fun k hc => ko 416 k (by omega))).fr hf (no _ (by omega)), o.cs.fr hf (no _ (by omega)), hSO⟩
  · obtain ⟨t1, ⟨a1, a2, a3, a4⟩, b1⟩ := hPt.fr hf (no _ (by omega)) (no _ (by omega)) (no _ (by omega)) (no _ (by omega)) (no _ (by omega)) (no _ (by omega)) (no _ (by omega)) (no _ (by omega)) (no _ (by omega))
    have a4' := hPt.2.1.2.2.2
    refine ⟨t1, ⟨a1, a2, by rw [eA]; omega, fun x hx => ?_⟩, b1⟩
    have hx2 : x < nA S := by omega
    obtain ⟨q1, -, q3⟩ := a4 x hx
    obtain ⟨-, ⟨w, w1, w2, w3⟩, -⟩ := a4' x hx
    refine ⟨by rw [epn x hx2]; exact q1, ⟨w, by rw [hf.2.1 _ (no _ (by omega))]; exact w1, by rw [hf.rv (by omega) (no _ (by omega))]; exact w2, hOld x w hx2 w3⟩, fun k k1 k2 => ?_⟩
    rw [q3 k k1 k2, hAF x k hx2 (by omega)]
  · obtain ⟨⟨⟨⟨t1, t2⟩, t3⟩, l1, o1, b1, q1, n2⟩, sb, ⟨d1, d2, d3⟩, td, sn⟩ := hI
    have eTp : nTp S' = nTp S := by unfold nTp; rw [ko _ _ (by omega)]
    have eL : nL S' = nL S := by unfold nL; rw [ko _ _ (by omega)]
    refine ⟨?_, fun q hq => ?_, ⟨fun x => ?_, fun x hx => ?_, fun x => ?_⟩, ?_, fun x hx => ?_⟩
    · unfold SK TB
      rw [eTp, eL, eP, ko 416 3 (by omega), ko 416 19 (by omega), e42]
      exact ⟨⟨⟨t1, t2⟩, fun j hj => by rw [ko _ _ (by omega)]; exact t3 j hj⟩, l1, o1, fun q hq => by rw [ko _ _ (by omega)]; exact b1 q hq, fun q w a b c => by rw [ko _ _ (by omega)]; exact q1 q w a b c, fun q hq => by rw [ko _ _ (by omega)]; exact n2 q hq⟩
    · rw [eP] at hq
      rw [ko 416 1 (by omega), ko 1129 _ (by omega)]; exact sb q hq
    · rw [k65 x 6 (by omega) (by omega)]; exact d1 x
    · by_cases c : x = nA S
      · rw [c, y0] at hx; exact absurd hx (by decide)
      · rw [k65 x 0 (by omega) (Or.inl c)] at hx
        rw [k65 x 1 (by omega) (Or.inl c), eB]; exact d2 x hx
    · by_cases c : x = nA S
      · rw [c, y0]; exact ⟨by decide, fun z => absurd z (by decide)⟩
      · rw [k65 x 0 (by omega) (Or.inl c), k65 x 3 (by omega) (Or.inl c)]; exact d3 x
    · unfold TD; rw [ko 416 1 (by omega)]; exact td
    · rw [eA] at hx
      rw [k65 x 5 (by omega) (by omega), k65 x 6 (by omega) (by omega)]; exact sn x (by omega)
/-- judging while a new asking waits -/
theorem JQ.un {y : Nat} {J : ZJ} (h : JQ (znw X 32 0) G y J) : ∃ Y, JQ X Y y J ∧ zfr [32] Y G ∧ (∀ i, i < zcn X 32 → ziv G (zp 32 i) = ziv Y (zp 32 i) ∧ zrv G (zp 32 i) = zrv Y (zp 32 i)) ∧ zcn G 32 = zcn X 32 + 1 := by
  obtain ⟨j1, j2, j3, j4, j5, j6, j7, j8, j9⟩ := h
  have c8 : ∀ t, t ≠ 32 → zcn (znw X 32 0) t = zcn X t := fun t ht => by rw [zcn_nw, if_neg ht]
  have i8 : ∀ t i, t ≠ 32 → t < 4096 → zln (znw X 32 0) (zp t i) = zln X (zp t i) ∧ ziv (znw X 32 0) (zp t i) = ziv X (zp t i) ∧ zrv (znw X 32 0) (zp t i) = zrv X (zp t i) := fun t i ht h4 => by
    have hf : zfr [32] X (znw X 32 0) := zfr.nw (by omega) (by simp)
    have no : t ∉ [32] := by simp [ht]
    exact ⟨hf.ln h4 no, hf.iv h4 no, hf.rv h4 no⟩
  rw [c8 352 (by omega)] at j1 j3
  rw [c8 128 (by omega)] at j7
  have hne : ∀ q, q % 4096 ≠ 32 → q ≠ zp 32 (zcn X 32) := fun q hq e => hq (by rw [e, zp_mod (by omega)])
  obtain ⟨Y, e1, e2, e3, e4⟩ : ∃ Y : ZG, (∀ t, zcn Y t = if t = 32 then zcn X 32 else zcn G t) ∧ (∀ a, zln Y a = if a % 4096 = 32 then zln X a else zln G a) ∧ (∀ a, ziv Y a = if a % 4096 = 32 then ziv X a else ziv G a) ∧ ∀ a, zrv Y a = if a % 4096 = 32 then zrv X a else zrv G a := ⟨(fun t => if t = 32 then zcn X 32 else zcn G t, fun a => if a % 4096 = 32 then zln X a else zln G a, fun a => if a % 4096 = 32 then ziv X a else ziv G a, fun a => if a % 4096 = 32 then zrv X a else zrv G a), fun _ => rfl, fun _ => rfl, fun _ => rfl, fun _ => rfl⟩
  have nz : ∀ t i, t < 4096 → t ≠ 32 → ¬ zp t i % 4096 = 32 := fun t i h4 h => by rw [zp_mod h4]; exact h
  have y3 : ∀ t i, t < 4096 → t ≠ 32 → zln Y (zp t i) = zln G (zp t i) ∧ ziv Y (zp t i) = ziv G (zp t i) ∧ zrv Y (zp t i) = zrv G (zp t i) := fun t i h4 h => by
    rw [e2, e3, e4, if_neg (nz t i h4 h), if_neg (nz t i h4 h), if_neg (nz t i h4 h)]
    exact ⟨rfl, rfl, rfl⟩
  have y32 : ∀ i, zln Y (zp 32 i) = zln X (zp 32 i) ∧ ziv Y (zp 32 i) = ziv X (zp 32 i) ∧ zrv Y (zp 32 i) = zrv X (zp 32 i) := fun i => by
    have : zp 32 i % 4096 = 32 := zp_mod (by omega)
    rw [e2, e3, e4, if_pos this, if_pos this, if_pos this]
    exact ⟨rfl, rfl, rfl⟩
  refine ⟨Y, ⟨j1, ⟨?_, j2.2⟩, by rw [e1, if_neg (by decide)]; exact j3, ?_, j5, ⟨fun t => ?_, fun t ht => ?_, fun q hq => ?_⟩, by rw [e1, if_neg (by decide)]; exact j7, fun t i h4 h128 hi => ?_, fun i => ?_⟩, ⟨fun t => ?_, fun t ht => ?_, fun q hq => ?_⟩, fun i hi => ?_, ?_⟩
  · have := j2.1
    unfold zal at *
    rw [j1, zp_mod (by omega)] at *
    rw [e1, if_neg (by decide)]; exact this
  · unfold VJ at *
    rw [j1] at *
    rw [(y3 352 _ (by omega) (by omega)).2.1]; exact j4
  · rw [e1]
    by_cases c : t = 32
    · rw [if_pos c, c]; exact Nat.le_refl _
    · rw [if_neg c]
      have := j6.1 t
      rw [c8 t c] at this; exact this
  · rw [e1]
    by_cases c : t = 32
    · rw [if_pos c, c]
    · rw [if_neg c, j6.2.1 t ht, c8 t c]
  · rw [e2, e3, e4]
    by_cases c : q % 4096 = 32
    · rw [if_pos c, if_pos c, if_pos c]; exact ⟨rfl, rfl, rfl⟩
    · rw [if_neg c, if_neg c, if_neg c]
      obtain ⟨a, b, d⟩ := j6.2.2 q hq
      have nq := hne q c
      refine ⟨a.trans (by rw [zln_nw, if_neg nq]), b.trans ?_, d.trans ?_⟩
      · funext k; rw [ziv_nw, if_neg nq]
      · funext k; rw [zrv_nw, if_neg nq]
  · by_cases c : t = 32
    · rw [c]; exact y32 i
    · obtain ⟨a, b, d⟩ := y3 t i h4 c
      obtain ⟨a2, b2, d2⟩ := j8 t i h4 h128 (by rw [c8 t c]; exact hi)
      obtain ⟨a3, b3, d3⟩ := i8 t i c h4
      exact ⟨a.trans (a2.trans a3), b.trans (b2.trans b3), d.trans (d2.trans d3)⟩
  · obtain ⟨a, b, d⟩ := y3 128 i (by omega) (by omega)
    obtain ⟨a3, b3, d3⟩ := i8 128 i (by omega) (by omega)
    obtain ⟨a2, b2, d2, f2⟩ := j9 i
    rw [a, b, d, a2, b2, d2, f2, a3, b3, d3]
    exact ⟨rfl, rfl, rfl, rfl⟩
  · rw [e1]
    by_cases c : t = 32
    · rw [if_pos c, c, j6.2.1 32 (by decide), zcn_nw, if_pos rfl]; omega
    · rw [if_neg c]; exact Nat.le_refl _
  · simp at ht
    rw [e1, if_neg ht]
  · simp at hq
    rw [e2, e3, e4, if_neg hq, if_neg hq, if_neg hq]
    exact ⟨rfl, rfl, rfl⟩
  · obtain ⟨a, b, d⟩ := y32 i
    have no : 32 ∉ [128, 352, 1036] := by decide
    have hn : zp 32 i ≠ zp 32 (zcn X 32) := zp_ni (by omega) (by omega)
    rw [b, d, j6.iv (by omega) no, j6.rv (by omega) no]
    refine ⟨?_, ?_⟩
    · funext k; rw [ziv_nw, if_neg hn]
    · funext k; rw [zrv_nw, if_neg hn]
  · rw [j6.2.1 32 (by decide), zcn_nw, if_pos rfl]
end ZDo
