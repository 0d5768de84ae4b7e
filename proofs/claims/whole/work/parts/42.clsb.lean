/-! an office: w = 0 the true one, w = 1 the one that tries -/
def aFld (S : ZS9) (a k : Nat) : Int32 := if k = 0 then Int32.ofNat a else if k = 2 then S 1154 a else if k = 3 then S 1155 a else if k = 4 then S 1156 a else if k = 5 then S 2158 a else if k = 7 then S 1165 (7 * a + 0) else if k = 8 then S 1157 a else if k = 9 then S 1165 (7 * a + 6) else if k = 10 then S 1165 (7 * a + 1) else if k = 11 then S 1165 (7 * a + 2) else if k = 12 then S 1165 (7 * a + 3) else if k = 13 then S 1165 (7 * a + 4) else S 1165 (7 * a + 5)
def oFld (S : ZS9) (r : Int32) (k : Nat) : Int32 := if k = 5 then S 416 71 else if k = 6 then S 416 1 else if k = 7 then r else if k = 8 then S 416 43 else if k = 9 then S 416 72 else if k = 10 then S 416 73 else if k = 11 then S 416 74 else if k = 12 then S 416 75 else S 416 76
/-- what was judged of asking a -/
def VD (S : ZS9) (X : ZG) (a v : Nat) : Prop := ziv X (zp 352 v) 0 = S 1159 a ∧ ziv X (zp 352 v) 1 = S 1160 a ∧ ziv X (zp 352 v) 2 = S 1162 a ∧ ziv X (zp 352 v) 3 = S 1164 a ∧ ziv X (zp 352 v) 4 = S 2163 a ∧ (if ziv X (zp 352 v) 5 = -1 then 10 else ziv X (zp 352 v) 5) = S 1161 a
def AOK (S : ZS9) (X : ZG) (w a : Nat) : Prop := zrv X (zp (32 + w) a) 1 = zp 288 (pn S a) ∧ (∃ v, v < zcn X 352 ∧ zrv X (zp (32 + w) a) 6 = zp 352 v ∧ VD S X a v) ∧ ∀ k, k < 15 → k ≠ 1 → k ≠ 6 → ziv X (zp (32 + w) a) k = aFld S a k
def SO (w : Nat) (S : ZS9) (r : Int32) (m : Nat) (X : ZG) : Prop :=
  (zob X (zp (224 + w) 0) 7 ∧ zrv X (zp (224 + w) 0) 0 = zp 256 0 ∧ zrv X (zp (224 + w) 0) 1 = zp 96 0 ∧ zrv X (zp (224 + w) 0) 2 = zp 320 0 ∧ zrv X (zp (224 + w) 0) 3 = zp (4 + 2 * w) 0 ∧ zrv X (zp (224 + w) 0) 4 = zp (5 + 2 * w) 0 ∧ ∀ k, 5 ≤ k → k < 14 → ziv X (zp (224 + w) 0) k = oFld S r k) ∧
  (zAL X (4 + 2 * w) (nA S) (zp (32 + w)) ∧ zcn X (32 + w) = nA S ∧ ∀ a, a < nA S → AOK S X w a) ∧
  (zAL X (5 + 2 * w) m (zp (64 + w)) ∧ zcn X (64 + w) = m ∧ nB S ≤ m ∧ m ≤ 150 ∧ ∀ b, b < nB S → ∀ k, k < 4 → ziv X (zp (64 + w) b) k = S (1167 + k) b)
/-- what else is known of the numbers -/
def RJ (S : ZS9) : Prop := TS S ∧ (∀ a, S 1165 (7 * a + 2) = -1 ∨ ¬ S 1165 (7 * a + 2) < 0) ∧ (∀ a, S 1164 a = -1 ∨ ¬ S 1164 a < 0) ∧ ¬ S 416 1 < 0
def OF (w : Nat) (S : ZS9) (r : Int32) (m : Nat) (X : ZG) : Prop := w < 2 ∧ RI S ∧ RJ S ∧ CP S X ∧ CD S X ∧ CR S X ∧ CS X ∧ SO w S r m X
theorem bit6a (v : BitVec 32) : v &&& 64#32 = 0#32 ↔ v.getLsbD 6 = false := by
  have h6 : ∀ i, i < 32 → (64#32).getLsbD i = decide (i = 6) := by decide
  constructor
  · intro h
    have := congrArg (fun z => z.getLsbD 6) h
    simpa [BitVec.getLsbD_and, h6 6 (by omega)] using this
  · intro h
    refine BitVec.eq_of_getLsbD_eq (fun i hi => ?_)
    rw [BitVec.getLsbD_and, h6 i hi, BitVec.getLsbD_zero]
    by_cases e : i = 6
    · subst e; rw [h]; rfl
    · simp [e]
theorem bit6b (v : BitVec 32) : v.sshiftRight 6 &&& 1#32 = 1#32 ↔ v.getLsbD 6 = true := by
  have h1 : ∀ i, i < 32 → (1#32).getLsbD i = decide (i = 0) := by decide
  have h0 : (v.sshiftRight 6).getLsbD 0 = v.getLsbD 6 := by rw [BitVec.getLsbD_sshiftRight]; simp
  constructor
  · intro h
    have this : (v.sshiftRight 6 &&& 1#32).getLsbD 0 = (1#32).getLsbD 0 := by rw [h]
    rw [BitVec.getLsbD_and, h0, h1 0 (by omega)] at this
    simpa using this
  · intro h
    refine BitVec.eq_of_getLsbD_eq (fun i hi => ?_)
    rw [BitVec.getLsbD_and, h1 i hi]
    by_cases e : i = 0
    · subst e; rw [h0, h]; rfl
    · simp [e]
theorem ticket_iff (x : Int32) : (x >>> ((6 : Int32) &&& 31)) &&& 1 = 1 ↔ ¬ x &&& 64 = 0 := by
  have e1 : (x >>> ((6 : Int32) &&& 31) &&& 1 = 1) ↔ (x.toBitVec.sshiftRight 6 &&& 1#32 = 1#32) := by
    rw [← Int32.toBitVec_inj, Int32.toBitVec_and, Int32.toBitVec_shiftRight]
    rfl
  have e2 : (x &&& 64 = 0) ↔ (x.toBitVec &&& 64#32 = 0#32) := by
    rw [← Int32.toBitVec_inj, Int32.toBitVec_and]
    rfl
  rw [e1, e2, bit6a, bit6b]
  simp
section ZCb
variable {E : ZE} {l : Launch} {w m : Nat} {S : ZS9} {r : Int32} {X : ZG}
theorem SO.ob (h : SO w S r m X) (hw : w < 2) {a : Nat} (ha : a < nA S) : zob X (zp (32 + w) a) 1 := zob_zp (by omega) (by omega) (by rw [h.2.1.2.1]; exact ha)
theorem SO.bo (h : SO w S r m X) (hw : w < 2) {b : Nat} (hb : b < m) : zob X (zp (64 + w) b) 2 := zob_zp (by omega) (by omega) (by rw [h.2.2.2.1]; exact hb)
theorem SO.vo (h : SO w S r m X) {a : Nat} (ha : a < nA S) : zob X (zrv X (zp (32 + w) a) 6) 11 := by
  obtain ⟨-, ⟨v, v1, v2, -⟩, -⟩ := h.2.1.2.2 a ha
  rw [v2]; exact zob_zp (by omega) (by omega) v1
/-- the fields of an asking -/
theorem SO.fa (h : SO w S r m X) {a k : Nat} (ha : a < nA S) (hk : k < 15 ∧ k ≠ 1 ∧ k ≠ 6) : ziv X (zp (32 + w) a) k = aFld S a k := (h.2.1.2.2 a ha).2.2 k hk.1 hk.2.1 hk.2.2
theorem SO.pe (h : SO w S r m X) {a : Nat} (ha : a < nA S) : zrv X (zp (32 + w) a) 1 = zp 288 (pn S a) := (h.2.1.2.2 a ha).1
theorem SO.vd (h : SO w S r m X) {a : Nat} (ha : a < nA S) : ziv X (zrv X (zp (32 + w) a) 6) 0 = S 1159 a ∧ ziv X (zrv X (zp (32 + w) a) 6) 1 = S 1160 a ∧ ziv X (zrv X (zp (32 + w) a) 6) 2 = S 1162 a ∧ ziv X (zrv X (zp (32 + w) a) 6) 3 = S 1164 a ∧ ziv X (zrv X (zp (32 + w) a) 6) 4 = S 2163 a ∧ (if ziv X (zrv X (zp (32 + w) a) 6) 5 = -1 then 10 else ziv X (zrv X (zp (32 + w) a) 6) 5) = S 1161 a := by
  obtain ⟨-, ⟨v, v1, v2, v3⟩, -⟩ := h.2.1.2.2 a ha
  rw [v2]; exact v3
theorem SO.fo (h : SO w S r m X) {k : Nat} (hk : 5 ≤ k ∧ k < 14) : ziv X (zp (224 + w) 0) k = oFld S r k := h.1.2.2.2.2.2.2 k hk.1 hk.2
theorem SO.fb (h : SO w S r m X) {b k : Nat} (hb : b < nB S) (hk : k < 4) : ziv X (zp (64 + w) b) k = S (1167 + k) b := h.2.2.2.2.2.2 b hb k hk
theorem c_lacking (h : SO w S r m X) (hw : w < 2) {a : Nat} (ha : a < nA S) : zMet E l mX0_lackingItems 0 0 [.ref (zp (32 + w) a)] X (zI (rLacks S a) X) := by
  refine z_meth (by decide) (Nat.le_of_ble_eq_true rfl) (by simp [Value.category]) (wpt_X0_lackingItems_0 ?_); unfold wp_X0_lackingItems_0
  rw [(h.vd ha).1, h.fa ha (k := 8) (by decide)]
  exact ⟨h.ob hw ha, h.vo ha, h.ob hw ha, rfl, rfl⟩
theorem c_gaveTicket (h : SO w S r m X) (hw : w < 2) {a : Nat} (ha : a < nA S) : zMet E l mX0_gaveTicket 0 0 [.ref (zp (32 + w) a)] X (zI (zb (rTicket S a)) X) := by
  refine z_meth (by decide) (Nat.le_of_ble_eq_true rfl) (by simp [Value.category]) (wpt_X0_gaveTicket_0 ?_); unfold wp_X0_gaveTicket_0
  rw [h.fa ha (k := 8) (by decide)]
  have ht : rTicket S a ↔ ¬ S 1157 a &&& 64 = 0 := ticket_iff _
  refine ⟨h.ob hw ha, fun c => ⟨?_, rfl⟩, fun c => ⟨?_, rfl⟩⟩
  · rw [zbz (fun z => (ht.mp z) c)]
  · rw [zb_t (ht.mpr c)]
theorem c_isOpen (h : SO w S r m X) (hw : w < 2) {a : Nat} (ha : a < nA S) : zMet E l mX0_isOpen 0 0 [.ref (zp (32 + w) a)] X (zI (zb (¬ 5 < S 1165 (7 * a + 0))) X) := by
  refine z_meth (by decide) (Nat.le_of_ble_eq_true rfl) (by simp [Value.category]) (wpt_X0_isOpen_0 ?_); unfold wp_X0_isOpen_0
  rw [h.fa ha (k := 7) (by decide)]
  exact ⟨h.ob hw ha, fun c => ⟨by rw [zbz (nn (by exact c))], rfl⟩, fun c => ⟨by rw [zb_t (by exact c)], rfl⟩⟩
theorem c_gotInTime (h : SO w S r m X) (hw : w < 2) {a : Nat} (ha : a < nA S) : zMet E l mX0_isGotInTime 0 0 [.ref (zp (32 + w) a)] X (zI (zb (S 1165 (7 * a + 0) = 7 ∧ ¬ S 1156 a < S 1165 (7 * a + 3))) X) := by
  refine z_meth (by decide) (Nat.le_of_ble_eq_true rfl) (by simp [Value.category]) (wpt_X0_isGotInTime_0 ?_); unfold wp_X0_isGotInTime_0
  rw [h.fa ha (k := 7) (by decide), h.fa ha (k := 4) (by decide), h.fa ha (k := 12) (by decide)]
  refine ⟨h.ob hw ha, fun c => ⟨?_, rfl⟩, fun c => ⟨h.ob hw ha, h.ob hw ha, fun c2 => ⟨?_, rfl⟩, fun c2 => ⟨?_, rfl⟩⟩⟩
  · rw [zbz (fun z => c z.1)]
  · rw [zbz (fun z => z.2 c2)]
  · rw [zb_t ⟨Classical.not_not.mp c, c2⟩]
theorem c_waited (h : SO w S r m X) (hw : w < 2) {a : Nat} (ha : a < nA S) : zMet E l mX0_waitedDays 0 0 [.ref (zp (32 + w) a)] X (zI (zspan S a) X) := by
  refine z_meth (by decide) (Nat.le_of_ble_eq_true rfl) (by simp [Value.category]) (wpt_X0_waitedDays_0 ?_); unfold wp_X0_waitedDays_0
  rw [h.fa ha (k := 12) (by decide), h.fa ha (k := 3) (by decide)]
  exact ⟨h.ob hw ha, h.ob hw ha, rfl, rfl⟩
theorem c_years (h : SO w S r m X) {a : Nat} (ha : a < nA S) : zMet E l mX10_validYears 0 0 [.ref (zrv X (zp (32 + w) a) 6)] X (zI (S 1161 a) X) := by
  have hv := (h.vd ha).2.2.2.2.2
  refine z_meth (by decide) (Nat.le_of_ble_eq_true rfl) (by simp [Value.category]) (wpt_X10_validYears_0 ?_); unfold wp_X10_validYears_0
  refine ⟨h.vo ha, fun c => ⟨h.vo ha, ?_, rfl⟩, fun c => ⟨?_, rfl⟩⟩
  · rw [if_neg c] at hv; rw [hv]
  · rw [if_pos (Classical.not_not.mp c)] at hv; rw [hv]
theorem c_bookletAt (h : SO w S r m X) (hw : w < 2) (hR : RI S) {b : Nat} (hb : b < nB S) : zMet E l mX6_bookletAt 3 0 [.ref (zp (224 + w) 0), .int (Int32.ofNat b)] X (zRf (zp (64 + w) b) X) := by
  have hB := hR.2.2.1
  have hm := h.2.2.2.2.1
  have hm2 := h.2.2.2.2.2.1
  refine z_meth (by decide) (Nat.le_of_ble_eq_true rfl) (by simp [Value.category]) (wpt_X6_bookletAt_0 ?_); unfold wp_X6_bookletAt_0
  rw [h.fo (k := 5) (by decide), h.1.2.2.2.2.2.1]
  refine ie (n_neg (by omega)) ⟨h.1.1, ie (by rw [show oFld S r 5 = S 416 71 from rfl, hB.1, n_le (by omega) (by omega)]; omega) ⟨h.1.1, zobL h.2.2.1 (by omega), csize h.2.2.1 (by omega) (by decide) (ie (by rw [n_le (by omega) (by omega)]; omega) (ie (by decide) ⟨h.1.1, by rw [h.1.2.2.2.2.2.1]; exact zobL h.2.2.1 (by omega), ?_⟩))⟩⟩
  rw [h.1.2.2.2.2.2.1]
  exact cget h.2.2.1 (by omega) (by omega) (by omega) (by decide) ⟨h.bo hw (by omega), rfl, rfl⟩
theorem c_bookletNo (h : SO w S r m X) (hw : w < 2) (hR : RI S) {x : Int32} (hb : ¬ zin x (nB S)) : zMet E l mX6_bookletAt 3 0 [.ref (zp (224 + w) 0), .int x] X (zRf 0 X) := by
  have hB := hR.2.2.1
  refine z_meth (by decide) (Nat.le_of_ble_eq_true rfl) (by simp [Value.category]) (wpt_X6_bookletAt_0 ?_); unfold wp_X6_bookletAt_0
  rw [h.fo (k := 5) (by decide)]
  refine ⟨fun c => it rfl ⟨rfl, rfl⟩, fun c => ⟨h.1.1, it ?_ (it rfl ⟨rfl, rfl⟩)⟩⟩
  rw [show oFld S r 5 = S 416 71 from rfl, hB.1, ← i_nlt]
  exact fun z => hb ⟨c, z⟩
theorem c_isValidOn (h : SO w S r m X) (hw : w < 2) {b : Nat} (hb : b < nB S) (day : Int32) : zMet E l mX1_isValidOn 0 0 [.ref (zp (64 + w) b), .int day] X (zI (zb (¬ day < S 1168 b ∧ ¬ S 1169 b ≤ day)) X) := by
  have ho := h.bo hw (b := b) (by have := h.2.2.2.2.1; omega)
  refine z_meth (by decide) (Nat.le_of_ble_eq_true rfl) (by simp [Value.category]) (wpt_X1_isValidOn_0 ?_); unfold wp_X1_isValidOn_0
  rw [h.fb hb (k := 1) (by decide), h.fb hb (k := 2) (by decide)]
  refine ⟨ho, fun c => ⟨?_, rfl⟩, fun c => ⟨ho, fun c2 => ⟨?_, rfl⟩, fun c2 => ⟨?_, rfl⟩⟩⟩
  · rw [zbz (fun z => z.1 c)]
  · rw [zbz (fun z => z.2 c2)]
  · rw [zb_t ⟨c, c2⟩]
theorem zpn {t i : Nat} (ht : 0 < t) : ¬ zp t i = 0 := by unfold zp; omega
theorem c_validOf (h : SO w S r m X) (hw : w < 2) (hR : RI S) (hC : CP S X) {p : Nat} (hp : p < nP S) (day : Int32) : zMet E l mX6_validOf 4 0 [.ref (zp (224 + w) 0), .ref (zp 288 p), .int day] X (zI (zcnt (zval S (Int32.ofNat p) day) (nB S)) X) := by
  have hB := hR.2.2.1
  obtain ⟨⟨n1, -, -⟩, -, -⟩ := hC.2.2.2.2 p hp
  refine z_meth (by decide) (Nat.le_of_ble_eq_true rfl) (by simp [Value.category]) (wpt_X6_validOf_0 ?_); unfold wp_X6_validOf_0
  have key : ∀ i, i ≤ nB S → ∀ k, zW E l mX6_validOf 4 0 X (zI (zcnt (zval S (Int32.ofNat p) day) (nB S)) X) k 5 [some (.ref (zp (224 + w) 0)), some (.ref (zp 288 p)), some (.int day), some (.int (zcnt (zval S (Int32.ofNat p) day) i)), some (.int (Int32.ofNat i)), none] [] X := by
    refine zdown (fun k => ?_) (fun i hi ih k => ?_)
    · refine wpt_X6_validOf_5 ?_; unfold wp_X6_validOf_5
      rw [h.fo (k := 5) (by decide), show oFld S r 5 = S 416 71 from rfl, hB.1]
      exact ⟨h.1.1, it (by rw [n_le (by omega) (by omega)]; omega) ⟨rfl, rfl⟩⟩
    · have ih := ih k
      have ho := h.bo hw (b := i) (by have := h.2.2.2.2.1; omega)
      refine wpt_X6_validOf_5 ?_; unfold wp_X6_validOf_5
      rw [h.fo (k := 5) (by decide), show oFld S r 5 = S 416 71 from rfl, hB.1, n_p1]
      refine ⟨h.1.1, ie (by rw [n_le (by omega) (by omega)]; omega) ⟨h.1.1, cR (c_bookletAt h hw hR hi) (by decide) (ie (zpn (by omega)) ⟨ho, hC.ob hp, ?_⟩)⟩⟩
      rw [h.fb hi (k := 0) (by decide), n1]
      refine ⟨fun c => ?_, fun c => ⟨ho, cI (c_isValidOn h hw hi day) (by decide) ⟨fun c2 => ?_, fun c2 => ?_⟩⟩⟩
      · rw [zcnt_f (fun z => c z.1)] at ih; exact ih
      · have c2 := zb_0.mp c2
        rw [zcnt_f (fun z => c2 z.2)] at ih; exact ih
      · have c2 := Classical.not_not.mp (fun z => c2 (zbz z))
        rw [zcnt_t ⟨Classical.not_not.mp c, c2⟩] at ih; exact ih
  exact key 0 (by omega) _
theorem c_countEnds (h : SO w S r m X) (hw : w < 2) (hR : RI S) (lo hi : Int32) : zMet E l mX6_countEnds 4 0 [.ref (zp (224 + w) 0), .int lo, .int hi] X (zI (zcnt (fun b => inn (S 1169 b) lo hi) (nB S)) X) := by
  have hB := hR.2.2.1
  refine z_meth (by decide) (Nat.le_of_ble_eq_true rfl) (by simp [Value.category]) (wpt_X6_countEnds_0 ?_); unfold wp_X6_countEnds_0
  have key : ∀ i, i ≤ nB S → ∀ k, zW E l mX6_countEnds 4 0 X (zI (zcnt (fun b => inn (S 1169 b) lo hi) (nB S)) X) k 5 [some (.ref (zp (224 + w) 0)), some (.int lo), some (.int hi), some (.int (zcnt (fun b => inn (S 1169 b) lo hi) i)), some (.int (Int32.ofNat i)), none] [] X := by
    refine zdown (fun k => ?_) (fun i hi2 ih k => ?_)
    · refine wpt_X6_countEnds_5 ?_; unfold wp_X6_countEnds_5
      rw [h.fo (k := 5) (by decide), show oFld S r 5 = S 416 71 from rfl, hB.1]
      exact ⟨h.1.1, it (by rw [n_le (by omega) (by omega)]; omega) ⟨rfl, rfl⟩⟩
    · have ih := ih k
      have ho := h.bo hw (b := i) (by have := h.2.2.2.2.1; omega)
      refine wpt_X6_countEnds_5 ?_; unfold wp_X6_countEnds_5
      rw [h.fo (k := 5) (by decide), show oFld S r 5 = S 416 71 from rfl, hB.1, n_p1]
      refine ⟨h.1.1, ie (by rw [n_le (by omega) (by omega)]; omega) ⟨h.1.1, cR (c_bookletAt h hw hR hi2) (by decide) (ie (zpn (by omega)) ⟨ho, ?_⟩)⟩⟩
      rw [h.fb hi2 (k := 2) (by decide)]
      refine ⟨fun c => ?_, fun c => ⟨ho, fun c2 => ?_, fun c2 => ?_⟩⟩
      · rw [zcnt_f (fun z => z.1 c)] at ih; exact ih
      · rw [zcnt_f (fun z => z.2 c2)] at ih; exact ih
      · rw [zcnt_t ⟨c, c2⟩] at ih; exact ih
  exact key 0 (by omega) _
theorem c_countIn (h : SO w S r m X) (hw : w < 2) (hR : RI S) (x : Int32) : zMet E l mX6_countIn 3 0 [.ref (zp (224 + w) 0), .int x] X (zI (zcnt (fun a => S 1165 (7 * a + 0) = x) (nA S)) X) := by
  have hA := hR.1
  have hl := h.2.1.1
  refine z_meth (by decide) (Nat.le_of_ble_eq_true rfl) (by simp [Value.category]) (wpt_X6_countIn_0 ?_); unfold wp_X6_countIn_0
  have key : ∀ i, i ≤ nA S → ∀ k, zW E l mX6_countIn 3 0 X (zI (zcnt (fun a => S 1165 (7 * a + 0) = x) (nA S)) X) k 4 [some (.ref (zp (224 + w) 0)), some (.int x), some (.int (zcnt (fun a => S 1165 (7 * a + 0) = x) i)), some (.int (Int32.ofNat i))] [] X := by
    refine zdown (fun k => ?_) (fun i hi ih k => ?_)
    · refine wpt_X6_countIn_4 ?_; unfold wp_X6_countIn_4
      rw [h.1.2.2.2.2.1]
      exact ⟨h.1.1, zobL hl (by omega), csize hl (by omega) (by decide) (it (by rw [n_le (by omega) (by omega)]; omega) ⟨rfl, rfl⟩)⟩
    · have ih := ih k
      refine wpt_X6_countIn_4 ?_; unfold wp_X6_countIn_4
      rw [h.1.2.2.2.2.1, n_p1]
      refine ⟨h.1.1, zobL hl (by omega), csize hl (by omega) (by decide) (ie (by rw [n_le (by omega) (by omega)]; omega) ⟨h.1.1, by rw [h.1.2.2.2.2.1]; exact zobL hl (by omega), ?_⟩)⟩
      rw [h.1.2.2.2.2.1]
      refine cget hl (by omega) (by omega) hi (by decide) ⟨h.ob hw hi, h.ob hw hi, ?_⟩
      rw [h.fa hi (k := 7) (by decide)]
      refine ⟨fun c => ?_, fun c => ?_⟩
      · rw [zcnt_f (by exact c)] at ih; exact ih
      · rw [zcnt_t (by exact Classical.not_not.mp c)] at ih; exact ih
  exact key 0 (by omega) _
theorem c_countOpen (h : SO w S r m X) (hw : w < 2) (hR : RI S) : zMet E l mX6_countOpen 3 0 [.ref (zp (224 + w) 0)] X (zI (zcnt (fun a => ¬ 5 < S 1165 (7 * a + 0)) (nA S)) X) := by
  have hA := hR.1
  have hl := h.2.1.1
  refine z_meth (by decide) (Nat.le_of_ble_eq_true rfl) (by simp [Value.category]) (wpt_X6_countOpen_0 ?_); unfold wp_X6_countOpen_0
  have key : ∀ i, i ≤ nA S → ∀ k, zW E l mX6_countOpen 3 0 X (zI (zcnt (fun a => ¬ 5 < S 1165 (7 * a + 0)) (nA S)) X) k 4 [some (.ref (zp (224 + w) 0)), some (.int (zcnt (fun a => ¬ 5 < S 1165 (7 * a + 0)) i)), some (.int (Int32.ofNat i))] [] X := by
    refine zdown (fun k => ?_) (fun i hi ih k => ?_)
    · refine wpt_X6_countOpen_4 ?_; unfold wp_X6_countOpen_4
      rw [h.1.2.2.2.2.1]
      exact ⟨h.1.1, zobL hl (by omega), csize hl (by omega) (by decide) (it (by rw [n_le (by omega) (by omega)]; omega) ⟨rfl, rfl⟩)⟩
    · have ih := ih k
      refine wpt_X6_countOpen_4 ?_; unfold wp_X6_countOpen_4
      rw [h.1.2.2.2.2.1, n_p1]
      refine ⟨h.1.1, zobL hl (by omega), csize hl (by omega) (by decide) (ie (by rw [n_le (by omega) (by omega)]; omega) ⟨h.1.1, by rw [h.1.2.2.2.2.1]; exact zobL hl (by omega), ?_⟩)⟩
      rw [h.1.2.2.2.2.1]
      refine cget hl (by omega) (by omega) hi (by decide) ⟨h.ob hw hi, h.ob hw hi, cI (c_isOpen h hw hi) (by decide) ⟨fun c => ?_, fun c => ?_⟩⟩
      · have c := zb_0.mp c
        rw [zcnt_f (by exact c)] at ih; exact ih
      · have c := Classical.not_not.mp (fun z => c (zbz z))
        rw [zcnt_t (by exact c)] at ih; exact ih
  exact key 0 (by omega) _
/-- the order at a desk -/
theorem c_isAhead (h : SO w S r m X) (hw : w < 2) (hR : RI S) (hr : r = 0 ∨ r = 1 ∨ r = 2) {a b : Nat} (ha : a < nA S) (hb : b < nA S) : zMet E l mX6_isAhead 1 0 [.ref (zp (224 + w) 0), .ref (zp (32 + w) a), .ref (zp (32 + w) b)] X (zI (zb (zlt S r a b)) X) := by
  have hA := hR.1
  have hu := hR.2.2.2.2.2
  have oa := h.ob hw ha
  have ob := h.ob hw hb
  have e7 : ziv X (zp (224 + w) 0) 7 = r := h.fo (k := 7) (by decide)
  have Q0 : ∀ {c : Prop}, ¬ c → zI (zb c) X (.inl (some (.int 0))) X := fun hc => ⟨by rw [zbz hc], rfl⟩
  have Q1 : ∀ {c : Prop}, c → zI (zb c) X (.inl (some (.int 1))) X := fun hc => ⟨by rw [zb_t hc], rfl⟩
  have i77 : ∀ (u v : Int32), zk1 S a = zk1 S b → (u = v → (zlt S r a b ↔ a < b)) → (¬ u = v → (zlt S r a b ↔ u < v)) → ∀ k, zW E l mX6_isAhead 1 0 X (zI (zb (zlt S r a b)) X) k 77 [none, some (.ref (zp (32 + w) a)), some (.ref (zp (32 + w) b)), some (.int u), none] [.int v] X := by
    intro u v _ h1 h2 k
    refine wpt_X6_isAhead_77 ?_; unfold wp_X6_isAhead_77
    rw [h.fa ha (k := 0) (by decide), h.fa hb (k := 0) (by decide), show aFld S a 0 = Int32.ofNat a from rfl, show aFld S b 0 = Int32.ofNat b from rfl, n_le (by omega) (by omega)]
    refine ⟨fun c => ⟨fun c2 => Q0 (fun z => ?_), fun c2 => Q1 ((h2 c).mpr (i_nle.mp c2))⟩, fun c => ⟨oa, ob, fun c2 => Q0 (fun z => ?_), fun c2 => Q1 ((h1 (Classical.not_not.mp c)).mpr (by omega))⟩⟩
    · have := (h2 c).mp z
      exact (i_nlt.mpr c2) this
    · have := (h1 (Classical.not_not.mp c)).mp z; omega
  have i40 : zk1 S a = zk1 S b → (r ≠ 0 → zk2 S r a = zk2 S r b) → ∀ k, zW E l mX6_isAhead 1 0 X (zI (zb (zlt S r a b)) X) k 40 [some (.ref (zp (224 + w) 0)), some (.ref (zp (32 + w) a)), some (.ref (zp (32 + w) b)), none, none] [] X := by
    intro h1 h2 k
    refine wpt_X6_isAhead_40 ?_; unfold wp_X6_isAhead_40
    rw [e7, h.fa ha (k := 3) (by decide), h.fa hb (k := 3) (by decide), h.fa ha (k := 4) (by decide), h.fa hb (k := 4) (by decide)]
    show zob X (zp (224 + w) 0) 7 ∧ ((¬ r = 0 → zob X (zp (32 + w) a) 1 ∧ zob X (zp (224 + w) 0) 7 ∧ ((¬ r = 0 → zob X (zp (32 + w) b) 1 ∧ zW E l mX6_isAhead 1 0 X _ k 77 [none, some (.ref (zp (32 + w) a)), some (.ref (zp (32 + w) b)), some (.int (S 1156 a)), none] [.int (S 1156 b)] X) ∧ (¬ ¬ r = 0 → zob X (zp (32 + w) b) 1 ∧ zW E l mX6_isAhead 1 0 X _ k 77 [none, some (.ref (zp (32 + w) a)), some (.ref (zp (32 + w) b)), some (.int (S 1156 a)), none] [.int (S 1155 b)] X))) ∧ (¬ ¬ r = 0 → zob X (zp (32 + w) a) 1 ∧ zob X (zp (224 + w) 0) 7 ∧ ((¬ r = 0 → zob X (zp (32 + w) b) 1 ∧ zW E l mX6_isAhead 1 0 X _ k 77 [none, some (.ref (zp (32 + w) a)), some (.ref (zp (32 + w) b)), some (.int (S 1155 a)), none] [.int (S 1156 b)] X) ∧ (¬ ¬ r = 0 → zob X (zp (32 + w) b) 1 ∧ zW E l mX6_isAhead 1 0 X _ k 77 [none, some (.ref (zp (32 + w) a)), some (.ref (zp (32 + w) b)), some (.int (S 1155 a)), none] [.int (S 1155 b)] X))))
    refine ⟨h.1.1, fun c => ⟨oa, h.1.1, it c ⟨ob, i77 _ _ h1 (fun e => ?_) (fun e => ?_) _⟩⟩, fun c => ⟨oa, h.1.1, ie c ⟨ob, i77 _ _ h1 (fun e => ?_) (fun e => ?_) _⟩⟩⟩
    · have h2 := h2 c
      have e3 : zk3 S r a = zk3 S r b := by unfold zk3; rw [if_neg c, if_neg c, e]
      unfold zlt; omega
    · have h2 := h2 c
      have e3 : ∀ x, zk3 S r x = (S 1156 x).toInt := fun x => if_neg c
      rw [i_te] at e
      rw [i_tl]; unfold zlt; rw [e3, e3]; omega
    · have c := Classical.not_not.mp c
      have e2 : ∀ x, zk2 S r x = (S 1155 x).toInt := fun x => if_pos c
      have e3 : ∀ x, zk3 S r x = 0 := fun x => if_pos c
      unfold zlt; rw [e2, e2, e3, e3, e]; omega
    · have c := Classical.not_not.mp c
      have e2 : ∀ x, zk2 S r x = (S 1155 x).toInt := fun x => if_pos c
      rw [i_te] at e
      rw [i_tl]; unfold zlt; rw [e2, e2]; omega
  refine z_meth (by decide) (Nat.le_of_ble_eq_true rfl) (by simp [Value.category]) (wpt_X6_isAhead_0 ?_); unfold wp_X6_isAhead_0
  rw [e7, h.fa ha (k := 5) (by decide), h.fa hb (k := 5) (by decide)]
  show zob X (zp (32 + w) a) 1 ∧ zob X (zp (32 + w) b) 1 ∧ ((S 2158 a = S 2158 b → _) ∧ (¬ S 2158 a = S 2158 b → zob X (zp (32 + w) a) 1 ∧ narrow .boolean (.int (S 2158 a)) = .int (S 2158 a) ∧ zI _ X (.inl (some (.int (S 2158 a)))) X))
  refine ⟨oa, ob, fun e => ?_, fun e => ?_⟩
  · have h1 : zk1 S a = zk1 S b := by unfold zk1; rw [e]
    refine ⟨h.1.1, fun c => i40 h1 (fun c0 => ?_) _, fun c => ⟨oa, cI (c_gaveTicket h hw ha) (by decide) ⟨ob, cI (c_gaveTicket h hw hb) (by decide) ⟨fun e2 => i40 h1 (fun c0 => ?_) _, fun e2 => ⟨oa, cI (c_gaveTicket h hw ha) (by decide) ⟨zb_n, ?_⟩⟩⟩⟩⟩⟩
    · unfold zk2; rw [if_neg c0, if_neg c0, if_neg c, if_neg c]
    · have c := Classical.not_not.mp c
      rw [zb_inj] at e2
      unfold zk2
      rw [if_neg c0, if_neg c0, if_pos c, if_pos c]
      by_cases ht : rTicket S a
      · rw [if_pos ht, if_pos (e2.mp ht)]
      · rw [if_neg ht, if_neg (fun z => ht (e2.mpr z))]
    · have c := Classical.not_not.mp c
      have c0 : ¬ r = 0 := by rw [c]; decide
      rw [zb_inj] at e2
      refine ⟨?_, rfl⟩
      have e9 : ∀ x, zk2 S r x = @ite _ (rTicket S x) (Classical.propDecidable _) 0 1 := fun x => by unfold zk2; rw [if_neg c0, if_pos c]
      have : rTicket S a ↔ zlt S r a b := by
        unfold zlt
        rw [e9, e9]
        by_cases ht : rTicket S a <;> by_cases ht2 : rTicket S b
        · exact absurd ⟨fun _ => ht2, fun _ => ht⟩ e2
        · rw [if_pos ht, if_neg ht2]
          exact ⟨fun _ => Or.inr ⟨h1, Or.inl (by decide)⟩, fun _ => ht⟩
        · rw [if_neg ht, if_pos ht2]
          exact ⟨fun z => absurd z ht, fun z => by omega⟩
        · exact absurd ⟨fun z => absurd z ht, fun z => absurd z ht2⟩ e2
      rw [zb_if this]
  · rcases hu a with h1 | h1 <;> rcases hu b with h2 | h2
    · exact absurd (h1.trans h2.symm) e
    · rw [h1]
      refine ⟨oa, by decide, Q0 ?_⟩
      unfold zlt zk1
      rw [if_pos h1, if_neg (by rw [h2]; decide)]
      omega
    · rw [h1]
      refine ⟨oa, by decide, Q1 ?_⟩
      unfold zlt zk1
      rw [if_pos h2, if_neg (by rw [h1]; decide)]
      omega
    · exact absurd (h1.trans h2.symm) e
end ZCb
