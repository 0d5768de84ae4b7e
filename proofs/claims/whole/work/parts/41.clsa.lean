/-! THE CLASS: what its objects hold, in words of the reference's numbers S -/
section ZCo
variable {E : ZE} {l : Launch} {Y : ZM} {d d1 k : Nat} {as : List Value} {G G1 : ZG} {x : Int32} {q : Nat} {KX : String → ZG → Prop}
theorem cI {K : Int32 → ZG → Nat → Prop} (hm : zMet E l Y d1 0 as G (zI x G1)) (hd : d1 + 1 ≤ d) (hk : K x G1 k) : xcI E l Y d as G k KX K := xcI_of hm hd (Nat.zero_le _) hk
theorem cR {K : Nat → ZG → Nat → Prop} (hm : zMet E l Y d1 0 as G (zRf q G1)) (hd : d1 + 1 ≤ d) (hk : K q G1 k) : xcR E l Y d as G k KX K := xcR_of hm hd (Nat.zero_le _) hk
theorem cV {K : ZG → Nat → Prop} (hm : zMet E l Y d1 0 as G (zVd G1)) (hd : d1 + 1 ≤ d) (hk : K G1 k) : xcV E l Y d as G k KX K := xcV_of hm hd (Nat.zero_le _) hk
theorem cVx {K : ZG → Nat → Prop} {P : ZG → Prop} {b1 : Nat} (hm : zMet E l Y d1 b1 as G (zVx P)) (hd : d1 + 1 ≤ d) (hb : b1 ≤ k) (hk : ∀ G', P G' → K G' (k - b1)) : xcV E l Y d as G k KX K := xcV_ex hm hd hb hk
theorem cIx {K : Int32 → ZG → Nat → Prop} {P : Int32 → ZG → Prop} {b1 : Nat} (hm : zMet E l Y d1 b1 as G (zIx P)) (hd : d1 + 1 ≤ d) (hb : b1 ≤ k) (hk : ∀ x G', P x G' → K x G' (k - b1)) : xcI E l Y d as G k KX K := xcI_ex hm hd hb hk
theorem cRx {K : Nat → ZG → Nat → Prop} {P : Nat → ZG → Prop} {b1 : Nat} (hm : zMet E l Y d1 b1 as G (zRx P)) (hd : d1 + 1 ≤ d) (hb : b1 ≤ k) (hk : ∀ x G', P x G' → K x G' (k - b1)) : xcR E l Y d as G k KX K := xcR_ex hm hd hb hk
theorem csize {K : Int32 → ZG → Nat → Prop} {r n : Nat} {f : Nat → Nat} (h : zAL G r n f) (hr : r < 32) (hd : 1 ≤ d) (hk : K (Int32.ofNat n) G k) : xcI E l mJx4a65c_size_8abf5 d [.ref (zp r 0)] G k KX K := cI (c_size (d := 0) h hr) hd hk
theorem cget {K : Nat → ZG → Nat → Prop} {r n i : Nat} {f : Nat → Nat} (h : zAL G r n f) (hr : r < 32) (hn : n ≤ 1000) (hi : i < n) (hd : 3 ≤ d) (hk : K (f i) G k) : xcR E l mJx4a65c_get_915e3 d [.ref (zp r 0), .int (Int32.ofNat i)] G k KX K := cR (c_get (d := 2) h hr hn hi (by decide)) hd hk
theorem cmax {K : Int32 → ZG → Nat → Prop} {a b : Int32} (hd : 1 ≤ d) (hk : K (if a < b then b else a) G k) : xcI E l mJ9_max_7cf53 d [.int a, .int b] G k KX K := cI (c_max (d := 0) a b) hd hk
theorem cmin {K : Int32 → ZG → Nat → Prop} {a b : Int32} (hd : 1 ≤ d) (hk : K (if b < a then b else a) G k) : xcI E l mJ9_min_7cf53 d [.int a, .int b] G k KX K := cI (c_min (d := 0) a b) hd hk
end ZCo
theorem zobL {G : ZG} {r n : Nat} {f : Nat → Nat} (h : zAL G r n f) (hr : r < 32) : zob G (zp r 0) 0 := zob_zp (by omega) (by omega) ((zal_zp (by omega)).mp h.1)
/-- what was told, as the class writes it -/
def tcv (x : Int32) : Int32 := if x = 2 then 1 else if x = 1 then 2 else 0
/-- one of the people -/
def PR (S : ZS9) (X : ZG) (p : Nat) : Prop :=
  (ziv X (zp 288 p) 0 = Int32.ofNat p ∧ ziv X (zp 288 p) 1 = S 1129 p ∧ ziv X (zp 288 p) 2 = S 2130 p) ∧
  (zrv X (zp 288 p) 4 = zp 1030 p ∧ zln X (zp 1030 p) = 5 ∧ ∀ k, k < 5 → ziv X (zp 1030 p) k = S 1131 (5 * p + k)) ∧
  (zrv X (zp 288 p) 5 = zp 1031 p ∧ zln X (zp 1031 p) = 80 ∧ ∀ q, q < 80 → ziv X (zp 1031 p) q = tcv (S 1135 (80 * p + q)))
def CP (S : ZS9) (X : ZG) : Prop :=
  zob X (zp 256 0) 8 ∧ zrv X (zp 256 0) 0 = zp 2 0 ∧ zAL X 2 (nP S) (zp 288) ∧ (zcn X 288 = nP S ∧ zcn X 1030 = nP S ∧ zcn X 1031 = nP S) ∧ ∀ p, p < nP S → PR S X p
/-- what was told is told of both, in these three ways -/
def TS (S : ZS9) : Prop := (∀ p q, S 1135 (80 * p + q) = 0 ∨ S 1135 (80 * p + q) = 1 ∨ S 1135 (80 * p + q) = 2) ∧ ∀ p q, p < 80 → q < 80 → S 1135 (80 * p + q) = S 1135 (80 * q + p)
/-- one row of the lent -/
def LR (S : ZS9) (X : ZG) (k : Nat) : Prop := ziv X (zp 160 k) 0 = S 1147 k ∧ ziv X (zp 160 k) 1 = S 1148 k ∧ ziv X (zp 160 k) 2 = S 1149 k ∧ ziv X (zp 160 k) 3 = S 1150 k ∧ ziv X (zp 160 k) 4 = S 1151 k
def CD (S : ZS9) (X : ZG) : Prop :=
  zob X (zp 96 0) 3 ∧ zrv X (zp 96 0) 0 = zp 3 0 ∧ zrv X (zp 96 0) 1 = zp 1033 0 ∧ (zar X (zp 1033 0) 0 ∧ zln X (zp 1033 0) = 4 ∧ ∀ d, d < 4 → ziv X (zp 1033 0) d = S 1146 d) ∧ zAL X 3 (nT S) (zp 160) ∧ zcn X 160 = nT S ∧ ∀ k, k < nT S → LR S X k
def CR (S : ZS9) (X : ZG) : Prop := zob X (zp 320 0) 10 ∧ ziv X (zp 320 0) 0 = S 416 37 ∧ ziv X (zp 320 0) 1 = S 416 38 ∧ ziv X (zp 320 0) 2 = S 416 39 ∧ ziv X (zp 320 0) 3 = S 416 40 ∧ ziv X (zp 320 0) 4 = S 416 41 ∧ ziv X (zp 320 0) 5 = S 416 44 ∧ ziv X (zp 320 0) 6 = S 416 45
def CS (X : ZG) : Prop := zrd X (zp 3602 0) .int ∧ zln X (zp 3602 0) = 4 ∧ ∀ d, d < 4 → ziv X (zp 3602 0) d = rSt d
section ZCa
variable {E : ZE} {l : Launch} {S : ZS9} {X : ZG}
theorem CP.ob (h : CP S X) {p : Nat} (hp : p < nP S) : zob X (zp 288 p) 9 := zob_zp (by omega) (by omega) (by rw [h.2.2.2.1.1]; exact hp)
theorem CP.fa (h : CP S X) {p : Nat} (hp : p < nP S) : zar X (zp 1030 p) 0 := zar_zp (by omega) (by omega) (by omega) (by rw [h.2.2.2.1.2.1]; exact hp)
theorem CP.to (h : CP S X) {p : Nat} (hp : p < nP S) : zar X (zp 1031 p) 0 := zar_zp (by omega) (by omega) (by omega) (by rw [h.2.2.2.1.2.2]; exact hp)
theorem c_farFrom (h : CP S X) {p q : Nat} (hp : p < nP S) (hq : q < nP S) : zMet E l mX8_farFrom 0 0 [.ref (zp 288 p), .ref (zp 288 q)] X (zI (zfar S p q) X) := by
  obtain ⟨-, ⟨f1, f2, f3⟩, -⟩ := h.2.2.2.2 p hp
  obtain ⟨-, ⟨g1, g2, g3⟩, -⟩ := h.2.2.2.2 q hq
  refine z_meth (by decide) (Nat.le_of_ble_eq_true rfl) (by simp [Value.category]) (wpt_X8_farFrom_0 ?_); unfold wp_X8_farFrom_0
  have key : ∀ i, i ≤ 5 → ∀ k, zW E l mX8_farFrom 0 0 X (zI (zfar S p q) X) k 4 [some (.ref (zp 288 p)), some (.ref (zp 288 q)), some (.int (zfarN S p q i)), some (.int (Int32.ofNat i)), none] [] X := by
    refine zdown (fun k => ?_) (fun i hi ih k => ?_)
    · refine wpt_X8_farFrom_4 ?_; unfold wp_X8_farFrom_4
      rw [f1, f2]
      exact ⟨h.ob hp, Or.inl (h.fa hp), it (by decide) ⟨rfl, rfl⟩⟩
    · refine wpt_X8_farFrom_4 ?_; unfold wp_X8_farFrom_4
      rw [f1, g1, f2, g2, n_nn (by omega), n_p1, f3 i hi, g3 i hi]
      have hc : ¬ Int32.ofNat 5 ≤ Int32.ofNat i := by rw [n_le (by omega) (by omega)]; omega
      exact ⟨h.ob hp, Or.inl (h.fa hp), ie hc ⟨h.ob hq, Or.inl (h.fa hq), ie hc ⟨h.ob hp, Or.inl (h.fa hp), n_in hi (by omega), h.ob hq, Or.inl (h.fa hq), n_in hi (by omega), ih k⟩⟩⟩
  exact key 0 (by omega) _
theorem c_toldWith (h : CP S X) (hN : nP S ≤ 80) {p q : Nat} (hp : p < nP S) (hq : q < nP S) : zMet E l mX8_toldWith 0 0 [.ref (zp 288 p), .ref (zp 288 q)] X (zI (tcv (S 1135 (80 * p + q))) X) := by
  obtain ⟨-, -, ⟨f1, f2, f3⟩⟩ := h.2.2.2.2 p hp
  obtain ⟨⟨n2, -, -⟩, -, -⟩ := h.2.2.2.2 q hq
  refine z_meth (by decide) (Nat.le_of_ble_eq_true rfl) (by simp [Value.category]) (wpt_X8_toldWith_0 ?_); unfold wp_X8_toldWith_0
  rw [n2, f1, f2, n_nn (by omega), f3 q (by omega)]
  exact ⟨h.ob hq, ie (n_neg (by omega)) ⟨h.ob hq, h.ob hp, Or.inl (h.to hp), ie (by rw [n_le (by omega) (by omega)]; omega) (ie (by decide) ⟨h.ob hp, h.ob hq, Or.inl (h.to hp), n_in (by omega) (by omega), rfl, rfl⟩)⟩⟩
/-- near somebody of whom v is told -/
theorem c_isNearOne (h : CP S X) (hT : TS S) (hN : nP S ≤ 80) {p : Nat} {v : Int32} (hv : v = 0 ∨ v = 1 ∨ v = 2) (hp : p < nP S) : zMet E l mX7_isNearOne 4 0 [.ref (zp 256 0), .ref (zp 288 p), .int (tcv v), .int (S 416 38)] X (zI (zb (zsm S p v (nP S))) X) := by
  obtain ⟨⟨n1, -, -⟩, -, -⟩ := h.2.2.2.2 p hp
  have tinj : ∀ x y : Int32, (x = 0 ∨ x = 1 ∨ x = 2) → (y = 0 ∨ y = 1 ∨ y = 2) → (tcv x = tcv y ↔ x = y) := by
    rintro x y (rfl | rfl | rfl) (rfl | rfl | rfl) <;> decide
  refine z_meth (by decide) (Nat.le_of_ble_eq_true rfl) (by simp [Value.category]) (wpt_X7_isNearOne_0 ?_); unfold wp_X7_isNearOne_0
  have key : ∀ i, i ≤ nP S → ¬ zsm S p v i → ∀ k, zW E l mX7_isNearOne 4 0 X (zI (zb (zsm S p v (nP S))) X) k 3 [some (.ref (zp 256 0)), some (.ref (zp 288 p)), some (.int (tcv v)), some (.int (S 416 38)), some (.int (Int32.ofNat i)), none, none] [] X := by
    refine zdown (fun hno k => ?_) (fun i hi ih hno k => ?_)
    · refine wpt_X7_isNearOne_3 ?_; unfold wp_X7_isNearOne_3
      rw [h.2.1]
      exact ⟨h.1, zobL h.2.2.1 (by omega), csize h.2.2.1 (by omega) (by decide) (it (by rw [n_le (by omega) (by omega)]; omega) ⟨by rw [zbz hno], rfl⟩)⟩
    · have next : ¬ (znear S p i ∧ S 1135 (80 * p + i) = v) → ¬ zsm S p v (i + 1) := by
        rintro hc ⟨q, q1, q2, q3⟩
        by_cases e : q = i
        · subst e; exact hc ⟨q2, q3⟩
        · exact hno ⟨q, by omega, q2, q3⟩
      have e53 : ∀ s0 : Int32, (s0 = 0 ∧ ¬ (znear S p i ∧ S 1135 (80 * p + i) = v)) ∨ (s0 = 1 ∧ ¬ i = p ∧ S 1135 (80 * p + i) = v) → ∀ k, zW E l mX7_isNearOne 4 0 X (zI (zb (zsm S p v (nP S))) X) k 53 [some (.ref (zp 256 0)), some (.ref (zp 288 p)), some (.int (tcv v)), some (.int (S 416 38)), some (.int (Int32.ofNat i)), some (.ref (zp 288 i)), none] [.int s0] X := by
        intro s0 hs k
        refine wpt_X7_isNearOne_53 ?_; unfold wp_X7_isNearOne_53
        rw [n_p1]
        rcases hs with ⟨rfl, hb⟩ | ⟨rfl, e, e2⟩
        · exact it rfl (ih (next hb) k)
        · refine ie (by decide) ⟨h.ob hp, cI (c_farFrom h hp hi) (by decide) ⟨fun e3 => ih (next (fun z => ?_)) k, fun e3 => ⟨?_, rfl⟩⟩⟩
          · have := z.1.2; rw [i_ti] at this; rw [i_tl] at e3; omega
          · rw [zb_t ⟨i, hi, ⟨e, i_nlt.mp e3⟩, e2⟩]
      refine wpt_X7_isNearOne_3 ?_; unfold wp_X7_isNearOne_3
      rw [h.2.1]
      refine ⟨h.1, zobL h.2.2.1 (by omega), csize h.2.2.1 (by omega) (by decide) (ie (by rw [n_le (by omega) (by omega)]; omega) ⟨h.1, by rw [h.2.1]; exact zobL h.2.2.1 (by omega), ?_⟩)⟩
      rw [h.2.1]
      refine cget h.2.2.1 (by omega) (by omega) hi (by decide) ⟨h.ob hi, h.ob hp, ?_⟩
      rw [n1, n_inj (by omega) (by omega)]
      refine ⟨fun e => e53 0 (Or.inl ⟨rfl, fun z => z.1.1 e⟩) _, fun e => ⟨h.ob hp, cI (c_toldWith h hN hp hi) (by decide) ?_⟩⟩
      rw [tinj _ _ (hT.1 p i) hv]
      exact ⟨fun e2 => e53 0 (Or.inl ⟨rfl, fun z => e2 z.2⟩) _, fun e2 => e53 1 (Or.inr ⟨rfl, e, Classical.not_not.mp e2⟩) _⟩
  exact key 0 (by omega) (fun ⟨q, h, _⟩ => nomatch h) _
theorem i_neg2 (x : Int32) : (-x) * 2 = (-2) * x := by rw [Int32.neg_mul, Int32.mul_comm, ← Int32.neg_mul]
theorem c_lentOn {k : Nat} (hk : k < zcn X 160) (h : LR S X k) (day : Int32) : zMet E l mX4_unitsOn 0 0 [.ref (zp 160 k), .int day] X (zI (@ite _ (inn day (S 1149 k) (S 1150 k)) (Classical.propDecidable _) (if S 1151 k ≤ day - S 1149 k then 8 * S 1148 k else (-2) * S 1148 k) 0) X) := by
  obtain ⟨l0, l1, l2, l3, l4⟩ := h
  have ho : zob X (zp 160 k) 5 := zob_zp (by omega) (by omega) hk
  refine z_meth (by decide) (Nat.le_of_ble_eq_true rfl) (by simp [Value.category]) (wpt_X4_unitsOn_0 ?_); unfold wp_X4_unitsOn_0
  rw [l2, l3, l4]
  refine ⟨ho, fun h1 => ⟨?_, rfl⟩, fun h1 => ⟨ho, fun h2 => ?_, fun h2 => ⟨?_, rfl⟩⟩⟩
  · rw [if_neg (fun z => z.1 h1)]
  · have hin : inn day (S 1149 k) (S 1150 k) := ⟨h1, i_nlt.mpr h2⟩
    rw [if_pos hin]
    refine ⟨ho, ho, fun h3 => ?_, fun h3 => ?_⟩
    · refine wpt_X4_unitsOn_36 ?_; unfold wp_X4_unitsOn_36
      rw [if_neg (i_nle.mpr h3), l1]
      exact it rfl ⟨ho, by rw [i_neg2], rfl⟩
    · refine wpt_X4_unitsOn_36 ?_; unfold wp_X4_unitsOn_36
      rw [if_pos (i_nlt.mp h3), l1]
      exact ie (by decide) ⟨ho, by rw [Int32.mul_comm], rfl⟩
  · rw [if_neg (fun z => h2 (i_nlt.mp z.2))]
theorem c_unitsOn (h : CD S X) (hN : nT S ≤ 20) {d : Nat} {day : Int32} (hd : d < 4) : zMet E l mX2_unitsOn 3 0 [.ref (zp 96 0), .int (Int32.ofNat d), .int day] X (zI (zunits S d day (nT S)) X) := by
  obtain ⟨h1, h2, h3, ⟨h4, h5, h6⟩, h7, h8, h9⟩ := h
  refine z_meth (by decide) (Nat.le_of_ble_eq_true rfl) (by simp [Value.category]) (wpt_X2_unitsOn_0 ?_); unfold wp_X2_unitsOn_0
  rw [h3, h5, n_nn (by omega), h6 d hd]
  refine ie (n_neg (by omega)) (it (by rw [show (4 : Int32) = Int32.ofNat 4 from rfl, n_lt (by omega) (by omega)]; omega) ⟨h1, Or.inl h4, n_in hd (by omega), ?_⟩)
  have key : ∀ i, i ≤ nT S → ∀ k, zW E l mX2_unitsOn 3 0 X (zI (zunits S d day (nT S)) X) k 24 [some (.ref (zp 96 0)), some (.int (Int32.ofNat d)), some (.int day), some (.int (zunN S (Int32.ofNat d) day (8 * S 1146 d) i)), some (.int (Int32.ofNat i)), none] [] X := by
    refine zdown (fun k => ?_) (fun i hi ih k => ?_)
    · refine wpt_X2_unitsOn_24 ?_; unfold wp_X2_unitsOn_24
      rw [h2]
      exact ⟨h1, zobL h7 (by omega), csize h7 (by omega) (by decide) (it (by rw [n_le (by omega) (by omega)]; omega) (cmax (by decide) ⟨rfl, rfl⟩))⟩
    · have ih := ih k
      have hu : zunN S (Int32.ofNat d) day (8 * S 1146 d) (i + 1) = @ite _ (zlends S (Int32.ofNat d) day i) (Classical.propDecidable _) (zunN S (Int32.ofNat d) day (8 * S 1146 d) i + (if S 1151 i ≤ day - S 1149 i then 8 * S 1148 i else (-2) * S 1148 i)) (zunN S (Int32.ofNat d) day (8 * S 1146 d) i) := rfl
      rw [hu] at ih
      have ho : zob X (zp 160 i) 5 := zob_zp (by omega) (by omega) (by omega)
      have hl := h9 i hi
      refine wpt_X2_unitsOn_24 ?_; unfold wp_X2_unitsOn_24
      rw [h2, n_p1]
      refine ⟨h1, zobL h7 (by omega), csize h7 (by omega) (by decide) (ie (by rw [n_le (by omega) (by omega)]; omega) ⟨h1, by rw [h2]; exact zobL h7 (by omega), ?_⟩)⟩
      rw [h2]
      refine cget h7 (by omega) (by omega) hi (by decide) ⟨ho, ho, ?_⟩
      rw [hl.1]
      refine ⟨fun e => ?_, fun e => ⟨ho, cI (c_lentOn (by omega) hl day) (by decide) ?_⟩⟩
      · rw [if_neg (fun z => e z.1)] at ih; exact ih
      · by_cases hin : inn day (S 1149 i) (S 1150 i)
        · rw [if_pos (show zlends S (Int32.ofNat d) day i from ⟨Classical.not_not.mp e, hin⟩)] at ih
          rw [if_pos hin]; exact ih
        · rw [if_neg (fun z : zlends S (Int32.ofNat d) day i => hin z.2)] at ih
          rw [if_neg hin, Int32.add_zero]; exact ih
  have := key 0 (by omega) 0
  have e0 : S 1146 d * 8 = zunN S (Int32.ofNat d) day (8 * S 1146 d) 0 := by rw [Int32.mul_comm]; rfl
  rw [e0]
  exact this
end ZCa
