/-! the office that tries: it is made like the true one -/
section ZCi
variable {w m : Nat} {S : ZS9} {r : Int32} {X : ZG} {E : ZE} {l : Launch}
/-- the tags that an office lies in -/
def OT (w : Nat) : List Nat := [224 + w, 32 + w, 4 + 2 * w, 3076 + 2 * w, 5 + 2 * w, 3077 + 2 * w, 64 + w, 352, 256, 2, 3074, 288, 1030, 1031, 96, 3, 3075, 1033, 160, 320, 3602, 4095]
theorem OF.fr {X' : ZG} {T : List Nat} (h : OF w S r m X) (hf : zfr T X X') (hT : ∀ t, t ∈ OT w → t ∉ T) : OF w S r m X' := by
  have g : ∀ t, t = 224 + w ∨ t = 32 + w ∨ t = 4 + 2 * w ∨ t = 3076 + 2 * w ∨ t = 5 + 2 * w ∨ t = 3077 + 2 * w ∨ t = 64 + w ∨ t = 352 ∨ t = 256 ∨ t = 2 ∨ t = 3074 ∨ t = 288 ∨ t = 1030 ∨ t = 1031 ∨ t = 96 ∨ t = 3 ∨ t = 3075 ∨ t = 1033 ∨ t = 160 ∨ t = 320 ∨ t = 3602 ∨ t = 4095 → t ∉ T := fun t ht => hT t (by unfold OT; simp; omega)
  have hw := h.w2
  obtain ⟨-, hR, hJ, c1, c2, c3, c4, hS⟩ := h
  have hl := hS.2.2
  refine ⟨hw, hR, hJ, c1.fr hf (g _ (by omega)) (g _ (by omega)) (g _ (by omega)) (g _ (by omega)) (g _ (by omega)) (g _ (by omega)) (g _ (by omega)), c2.fr hf (g _ (by omega)) (g _ (by omega)) (g _ (by omega)) (g _ (by omega)) (g _ (by omega)) (g _ (by omega)), c3.fr hf (g _ (by omega)), c4.fr hf (g _ (by omega)), ?_⟩
  exact hS.fr hw hf (g _ (by omega)) (g _ (by omega)) (g _ (by omega)) (g _ (by omega)) (g _ (by omega)) (g _ (by omega)) ⟨hl.1.fr hf (by omega) (g _ (by omega)) (g _ (by omega)) (g _ (by omega)), by rw [hf.2.1 _ (g _ (by omega))]; exact hl.2.1, hl.2.2.2.1⟩ (Nat.le_refl _) (fun b _ k _ => by rw [hf.iv (by omega) (g _ (by omega))])
/-- what never changes of an asking that the trial has -/
def TF (S : ZS9) (X : ZG) (a : Nat) : Prop := zrv X (zp 33 a) 1 = zp 288 (pn S a) ∧ (∃ v, v < zcn X 352 ∧ zrv X (zp 33 a) 6 = zp 352 v ∧ VD S X a v) ∧ ∀ k, k < 6 → k ≠ 1 → ziv X (zp 33 a) k = aFld S a k
def TRo (X : ZG) : Prop := zob X (zp 225 0) 7 ∧ zrv X (zp 225 0) 0 = zp 256 0 ∧ zrv X (zp 225 0) 1 = zp 96 0 ∧ zrv X (zp 225 0) 2 = zp 320 0 ∧ zrv X (zp 225 0) 3 = zp 6 0 ∧ zrv X (zp 225 0) 4 = zp 7 0
def TRa (S : ZS9) (n : Nat) (X : ZG) : Prop := zAL X 6 n (zp 33) ∧ zcn X 33 = n ∧ n ≤ nA S ∧ ∀ a, a < n → TF S X a
/-- the rows of booklets of an office, some in use -/
def BO (w n m : Nat) (X : ZG) : Prop := zob X (zp (224 + w) 0) 7 ∧ zrv X (zp (224 + w) 0) 4 = zp (5 + 2 * w) 0 ∧ ziv X (zp (224 + w) 0) 5 = Int32.ofNat n ∧ zAL X (5 + 2 * w) m (zp (64 + w)) ∧ zcn X (64 + w) = m ∧ n ≤ m ∧ m ≤ 150
def TR (S : ZS9) (n m : Nat) (X : ZG) : Prop := TRo X ∧ TRa S n X ∧ zAL X 7 m (zp 65) ∧ zcn X 65 = m ∧ m ≤ 150
def iniA (n kind came wanted urgent : Int32) (k : Nat) : Int32 := if k = 0 then n else if k = 2 then kind else if k = 3 then came else if k = 4 then wanted else if k = 5 then urgent else if 10 ≤ k ∧ k ≤ 13 then -1 else 0
/-- nothing but the object at q has changed -/
def zIn (X G : ZG) (q : Nat) : Prop := zcn G = zcn X ∧ zln G = zln X ∧ ∀ q', q' ≠ q → ziv G q' = ziv X q' ∧ zrv G q' = zrv X q'
theorem zIn.rf {X : ZG} {q : Nat} : zIn X X q := ⟨rfl, rfl, fun _ _ => ⟨rfl, rfl⟩⟩
theorem zIn.si {X G : ZG} {q k : Nat} {x : Int32} (h : zIn X G q) : zIn X (zsi G q k x) q := ⟨h.1, h.2.1, fun q' hq => ⟨by rw [← (h.2.2 q' hq).1]; funext j; rw [ziv_si, if_neg (fun z => hq z.1)], (h.2.2 q' hq).2⟩⟩
theorem zIn.sr {X G : ZG} {q k : Nat} {x : Nat} (h : zIn X G q) : zIn X (zsr G q k x) q := ⟨h.1, h.2.1, fun q' hq => ⟨(h.2.2 q' hq).1, by rw [← (h.2.2 q' hq).2]; funext j; rw [zrv_sr, if_neg (fun z => hq z.1)]⟩⟩
theorem zIn.ob {X G : ZG} {q c : Nat} (h : zIn X G q) (ho : zob X q c) : zob G q c := ⟨by unfold zal; rw [h.1]; exact ho.1, ho.2⟩
theorem c_initA {q p v : Nat} {n kind came wanted urgent : Int32} (ho : zob X q 1) (hu : zok .boolean urgent) : zMet E l mX0_init 1 0 [.ref q, .int n, .ref p, .int kind, .int came, .int wanted, .int urgent, .ref v] X (zVx (fun X' => zIn X X' q ∧ zrv X' q 1 = p ∧ zrv X' q 6 = v ∧ ∀ k, k < 15 → k ≠ 1 → k ≠ 6 → ziv X' q k = iniA n kind came wanted urgent k)) := by
  refine z_meth (by decide) (Nat.le_of_ble_eq_true rfl) (by simp [Value.category]) (wpt_X0_init_0 ?_); unfold wp_X0_init_0
  refine ⟨ho.1, by decide, ho, fun G1 e1 => ?_⟩
  have i1 : zIn X G1 q := by rw [e1]; exact zIn.rf.si
  refine ⟨i1.ob ho, fun G2 e2 => ?_⟩
  have i2 : zIn X G2 q := by rw [e2]; exact i1.si
  refine ⟨i2.ob ho, fun G3 e3 => ?_⟩
  have i3 : zIn X G3 q := by rw [e3]; exact i2.si
  refine ⟨i3.ob ho, fun G4 e4 => ?_⟩
  have i4 : zIn X G4 q := by rw [e4]; exact i3.si
  refine ⟨i4.ob ho, fun G5 e5 => ?_⟩
  have i5 : zIn X G5 q := by rw [e5]; exact i4.si
  refine ⟨i5.ob ho, fun G6 e6 => ?_⟩
  have i6 : zIn X G6 q := by rw [e6]; exact i5.si
  refine ⟨i6.ob ho, fun G7 e7 => ?_⟩
  have i7 : zIn X G7 q := by rw [e7]; exact i6.si
  refine ⟨i7.ob ho, fun G8 e8 => ?_⟩
  have i8 : zIn X G8 q := by rw [e8]; exact i7.si
  refine ⟨i8.ob ho, fun G9 e9 => ?_⟩
  have i9 : zIn X G9 q := by rw [e9]; exact i8.si
  refine ⟨i9.ob ho, fun G10 e10 => ?_⟩
  have i10 : zIn X G10 q := by rw [e10]; exact i9.sr
  refine ⟨i10.ob ho, fun G11 e11 => ?_⟩
  have i11 : zIn X G11 q := by rw [e11]; exact i10.si
  refine ⟨i11.ob ho, fun G12 e12 => ?_⟩
  have i12 : zIn X G12 q := by rw [e12]; exact i11.si
  refine ⟨i12.ob ho, fun G13 e13 => ?_⟩
  have i13 : zIn X G13 q := by rw [e13]; exact i12.si
  refine ⟨i13.ob ho, hu, fun G14 e14 => ?_⟩
  have i14 : zIn X G14 q := by rw [e14]; exact i13.si
  refine ⟨i14.ob ho, fun G15 e15 => ?_⟩
  have i15 : zIn X G15 q := by rw [e15]; exact i14.sr
  refine ⟨rfl, i15, ?_, ?_, fun k h1 h2 h3 => ?_⟩
  · rw [e15, zrv_sr, if_neg (fun z => nomatch z.2), e14, zrv_si, e13, zrv_si, e12, zrv_si, e11, zrv_si, e10, zrv_sr, if_pos ⟨rfl, rfl⟩]
  · rw [e15, zrv_sr, if_pos ⟨rfl, rfl⟩]
  · have s9 : ∀ j, ziv G15 q j = if j = 5 then urgent else if j = 4 then wanted else if j = 3 then came else if j = 2 then kind else if j = 0 then n else ziv G8 q j := by
      intro j
      rw [e15, ziv_sr, e14, ziv_si, e13, ziv_si, e12, ziv_si, e11, ziv_si, e10, ziv_sr, e9, ziv_si]
      simp only [true_and]
    have s8 : ∀ j, 7 ≤ j → j < 15 → ziv G8 q j = if 10 ≤ j ∧ j ≤ 13 then -1 else 0 := by
      intro j h1 h2
      rw [e8, ziv_si, e7, ziv_si, e6, ziv_si, e5, ziv_si, e4, ziv_si, e3, ziv_si, e2, ziv_si, e1, ziv_si]
      simp only [true_and]
      match j, h1, h2 with
      | 7, _, _ => rfl
      | 8, _, _ => rfl
      | 9, _, _ => rfl
      | 10, _, _ => rfl
      | 11, _, _ => rfl
      | 12, _, _ => rfl
      | 13, _, _ => rfl
      | 14, _, _ => rfl
    rw [s9]
    unfold iniA
    by_cases c : k < 7
    · match k, (show k < 6 by omega), h2, h3 with
      | 0, _, _, _ => rfl
      | 2, _, _, _ => rfl
      | 3, _, _, _ => rfl
      | 4, _, _, _ => rfl
      | 5, _, _, _ => rfl
    · have n5 : ¬ k = 5 := by omega
      have n4 : ¬ k = 4 := by omega
      have n3 : ¬ k = 3 := by omega
      have n2 : ¬ k = 2 := by omega
      have n0 : ¬ k = 0 := by omega
      rw [s8 k (by omega) h1]
      simp only [n5, n4, n3, n2, n0, if_false]
theorem zok_b {x : Int32} (h : x = 0 ∨ x = 1) : zok .boolean x := by
  rcases h with rfl | rfl <;> exact ⟨by decide, by decide⟩
theorem zfr_of {T : List Nat} {G G' : ZG} {t i : Nat} (ht : t < 4096) (hT : t ∈ T) (h1 : zcn G' = zcn G) (h2 : zln G' = zln G) (h3 : ∀ q, q ≠ zp t i → ziv G' q = ziv G q ∧ zrv G' q = zrv G q) : zfr T G G' := by
  refine ⟨fun u => by rw [h1]; exact Nat.le_refl _, fun u _ => by rw [h1], fun q hq => ?_⟩
  have hne : q ≠ zp t i := fun e => hq (by rw [e, zp_mod ht]; exact hT)
  exact ⟨by rw [h2], (h3 q hne).1, (h3 q hne).2⟩
theorem c_twin (h : OF 0 S r m X) {a : Nat} (ha : a < nA S) : zMet E l mX0_twin 2 16 [.ref (zp 32 a)] X (zRx (fun q X' => q = zp 33 (zcn X 33) ∧ zcn X' 33 = zcn X 33 + 1 ∧ zfr [33] X X' ∧ (∀ b, b < zcn X 33 → ziv X' (zp 33 b) = ziv X (zp 33 b) ∧ zrv X' (zp 33 b) = zrv X (zp 33 b)) ∧ zrv X' q 1 = zrv X (zp 32 a) 1 ∧ zrv X' q 6 = zrv X (zp 32 a) 6 ∧ ∀ k, k < 6 → k ≠ 1 → ziv X' q k = ziv X (zp 32 a) k)) := by
  have oa := h.ob ha
  have hu : zok .boolean (ziv X (zp 32 a) 5) := by
    rw [show ziv X (zp 32 a) 5 = S 2158 a from h.a5 ha]; exact zok_b (h.ri.2.2.2.2.2 a)
  refine z_meth (by decide) (Nat.le_of_ble_eq_true rfl) (by simp [Value.category]) (wpt_X0_twin_0 ?_); unfold wp_X0_twin_0
  refine ⟨by decide, 33, by decide, by decide, by decide, fun q2 e2 G3 e3 k4 e4 => ?_⟩
  have f3 : zfr [33] X G3 := by rw [e3]; exact zfr.nw (by omega) (by simp)
  have al3 : zal G3 q2 := by rw [e3, e2]; exact (zal_nw (by omega) _).mpr (Or.inr rfl)
  have o3 : zob G3 q2 1 := ⟨al3, by rw [e2, zp_mod (by omega)]; omega, by rw [e2, zp_mod (by omega)]⟩
  have oa3 := f3.ob oa
  have ei : ziv G3 (zp 32 a) = ziv X (zp 32 a) := f3.iv (by omega) (by simp)
  have er : zrv G3 (zp 32 a) = zrv X (zp 32 a) := f3.rv (by omega) (by simp)
  rw [show zp (32 + 0) a = zp 32 a from rfl] at oa3
  rw [ei, er]
  refine ⟨oa3, oa3, oa3, oa3, oa3, oa3, oa3, al3, cVx (c_initA o3 hu) (by decide) (Nat.zero_le _) (fun G5 h5 => ⟨q2, rfl, e2, ?_, ?_, fun b hb => ?_, ?_, ?_, fun k h1 h2 => ?_⟩)⟩
  · rw [h5.1.1, e3, zcn_nw, if_pos rfl]
  · refine f3.trans (zfr_of (t := 33) (i := zcn X 33) (by omega) (by simp) h5.1.1 h5.1.2.1 (fun q hq => h5.1.2.2 q (by rw [e2]; exact hq)))
  · have hne : zp 33 b ≠ q2 := by rw [e2]; exact zp_ni (by omega) (by omega)
    obtain ⟨x1, x2⟩ := h5.1.2.2 (zp 33 b) hne
    rw [x1, x2, e3]
    refine ⟨?_, ?_⟩ <;> funext j
    · rw [ziv_nw, if_neg (by rw [← e2]; exact hne)]
    · rw [zrv_nw, if_neg (by rw [← e2]; exact hne)]
  · exact h5.2.1
  · exact h5.2.2.1
  · rw [h5.2.2.2 k (by omega) h2 (by omega)]
    unfold iniA
    match k, h1, h2 with
    | 0, _, _ => simp
    | 2, _, _ => simp
    | 3, _, _ => simp
    | 4, _, _ => simp
    | 5, _, _ => simp
theorem c_copyA {q a : Nat} (ho : zob X q 1) (h0 : zob X a 1) (hb : zok .boolean (ziv X a 9)) (hne : a ≠ q) : zMet E l mX0_copyFrom 0 0 [.ref q, .ref a] X (zVx (fun X' => zIn X X' q ∧ zrv X' = zrv X ∧ (∀ k, k < 7 → ziv X' q k = ziv X q k) ∧ ∀ k, 7 ≤ k → k < 15 → ziv X' q k = ziv X a k)) := by
  have oa : ∀ {G}, zIn X G q → zob G a 1 := fun h => ⟨by unfold zal; rw [h.1]; exact h0.1, h0.2⟩
  have va : ∀ {G}, zIn X G q → ziv G a = ziv X a := fun h => (h.2.2 a hne).1
  refine z_meth (by decide) (Nat.le_of_ble_eq_true rfl) (by simp [Value.category]) (wpt_X0_copyFrom_0 ?_); unfold wp_X0_copyFrom_0
  refine ⟨h0, ho, fun G1 e1 => ?_⟩
  have i1 : zIn X G1 q := by rw [e1]; exact zIn.rf.si
  have r1 : zrv G1 = zrv X := by rw [e1, zrv_si]
  refine ⟨oa i1, i1.ob ho, fun G2 e2 => ?_⟩
  rw [va i1] at e2
  have i2 : zIn X G2 q := by rw [e2]; exact i1.si
  have r2 : zrv G2 = zrv X := by rw [e2, zrv_si, r1]
  refine ⟨oa i2, i2.ob ho, by rw [va i2]; exact hb, fun G3 e3 => ?_⟩
  rw [va i2] at e3
  have i3 : zIn X G3 q := by rw [e3]; exact i2.si
  have r3 : zrv G3 = zrv X := by rw [e3, zrv_si, r2]
  refine ⟨oa i3, i3.ob ho, fun G4 e4 => ?_⟩
  rw [va i3] at e4
  have i4 : zIn X G4 q := by rw [e4]; exact i3.si
  have r4 : zrv G4 = zrv X := by rw [e4, zrv_si, r3]
  refine ⟨oa i4, i4.ob ho, fun G5 e5 => ?_⟩
  rw [va i4] at e5
  have i5 : zIn X G5 q := by rw [e5]; exact i4.si
  have r5 : zrv G5 = zrv X := by rw [e5, zrv_si, r4]
  refine ⟨oa i5, i5.ob ho, fun G6 e6 => ?_⟩
  rw [va i5] at e6
  have i6 : zIn X G6 q := by rw [e6]; exact i5.si
  have r6 : zrv G6 = zrv X := by rw [e6, zrv_si, r5]
  refine ⟨oa i6, i6.ob ho, fun G7 e7 => ?_⟩
  rw [va i6] at e7
  have i7 : zIn X G7 q := by rw [e7]; exact i6.si
  have r7 : zrv G7 = zrv X := by rw [e7, zrv_si, r6]
  refine ⟨oa i7, i7.ob ho, fun G8 e8 => ?_⟩
  rw [va i7] at e8
  have i8 : zIn X G8 q := by rw [e8]; exact i7.si
  have r8 : zrv G8 = zrv X := by rw [e8, zrv_si, r7]
  refine ⟨rfl, i8, r8, fun k hk => ?_, fun k h1 h2 => ?_⟩
  · rw [e8, ziv_si, e7, ziv_si, e6, ziv_si, e5, ziv_si, e4, ziv_si, e3, ziv_si, e2, ziv_si, e1, ziv_si, if_neg (by omega), if_neg (by omega), if_neg (by omega), if_neg (by omega), if_neg (by omega), if_neg (by omega), if_neg (by omega), if_neg (by omega)]
  · rw [e8, ziv_si, e7, ziv_si, e6, ziv_si, e5, ziv_si, e4, ziv_si, e3, ziv_si, e2, ziv_si, e1, ziv_si]
    simp only [true_and]
    match k, h1, h2 with
    | 7, _, _ => rfl
    | 8, _, _ => rfl
    | 9, _, _ => rfl
    | 10, _, _ => rfl
    | 11, _, _ => rfl
    | 12, _, _ => rfl
    | 13, _, _ => rfl
    | 14, _, _ => rfl
theorem c_copyB {q a : Nat} (ho : zob X q 2) (h0 : zob X a 2) (hne : a ≠ q) : zMet E l mX1_copyFrom 0 0 [.ref q, .ref a] X (zVx (fun X' => zIn X X' q ∧ zrv X' = zrv X ∧ ∀ k, k < 4 → ziv X' q k = ziv X a k)) := by
  have oa : ∀ {G}, zIn X G q → zob G a 2 := fun h => ⟨by unfold zal; rw [h.1]; exact h0.1, h0.2⟩
  have va : ∀ {G}, zIn X G q → ziv G a = ziv X a := fun h => (h.2.2 a hne).1
  refine z_meth (by decide) (Nat.le_of_ble_eq_true rfl) (by simp [Value.category]) (wpt_X1_copyFrom_0 ?_); unfold wp_X1_copyFrom_0
  refine ⟨h0, ho, fun G1 e1 => ?_⟩
  have i1 : zIn X G1 q := by rw [e1]; exact zIn.rf.si
  have r1 : zrv G1 = zrv X := by rw [e1, zrv_si]
  refine ⟨oa i1, i1.ob ho, fun G2 e2 => ?_⟩
  rw [va i1] at e2
  have i2 : zIn X G2 q := by rw [e2]; exact i1.si
  have r2 : zrv G2 = zrv X := by rw [e2, zrv_si, r1]
  refine ⟨oa i2, i2.ob ho, fun G3 e3 => ?_⟩
  rw [va i2] at e3
  have i3 : zIn X G3 q := by rw [e3]; exact i2.si
  have r3 : zrv G3 = zrv X := by rw [e3, zrv_si, r2]
  refine ⟨oa i3, i3.ob ho, fun G4 e4 => ?_⟩
  rw [va i3] at e4
  have i4 : zIn X G4 q := by rw [e4]; exact i3.si
  have r4 : zrv G4 = zrv X := by rw [e4, zrv_si, r3]
  refine ⟨rfl, i4, r4, fun k hk => ?_⟩
  rw [e4, ziv_si, e3, ziv_si, e2, ziv_si, e1, ziv_si]
  simp only [true_and]
  match k, hk with
  | 0, _ => rfl
  | 1, _ => rfl
  | 2, _ => rfl
  | 3, _ => rfl
end ZCi
