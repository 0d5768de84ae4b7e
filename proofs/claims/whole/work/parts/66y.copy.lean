/-! a copy of a part of a row; the days of askings in their order -/
section ZCopy
variable {E : ZE} {l : Launch} {G : ZG}
theorem c_checkLen {a b : Nat} (ha : a ≤ b) (hb : b < 2147483648) : zMet E l mJ7_checkLength_df160 0 0 [.int (Int32.ofNat a), .int (Int32.ofNat b)] G (zVd G) := by
  refine z_meth (by decide) (Nat.le_of_ble_eq_true rfl) (by simp [Value.category]) (wpt_J7_checkLength_df160_0 ?_); unfold wp_J7_checkLength_df160_0
  exact it (by rw [n_le (by omega) (by omega)]; exact ha) ⟨rfl, rfl⟩
/-- the ints of q from place a on, m of them, laid into a new row of tag t -/
def zCPR (G : ZG) (q a m t : Nat) (y : Nat) (G' : ZG) : Prop := y = zp t (zcn G t) ∧ zcn G' t = zcn G t + 1 ∧ zln G' y = m ∧ (∀ j, j < m → ziv G' y j = ziv G q (a + j)) ∧ zfr [t] G G' ∧ zar G' y 0
theorem c_copyRI {q a b t : Nat} (hq : zar G q 0) (hqt : q ≠ zp t (zcn G t)) (h1 : 1024 ≤ t) (h2 : t < 1536) (ha : a ≤ b) (hb : b ≤ zln G q) (hM : zln G q ≤ 100000) : zMet E l mJ7_copyOfRangeInt_feecc 2 (b - a + 1) [.ref q, .int (Int32.ofNat a), .int (Int32.ofNat b)] G (zRx (zCPR G q a (b - a) t)) := by
  refine z_meth (by decide) (Nat.le_of_ble_eq_true rfl) (by simp [Value.category]) (wpt_J7_copyOfRangeInt_feecc_0 ?_); unfold wp_J7_copyOfRangeInt_feecc_0
  refine cV (c_checkLen ha (by omega)) (by decide) ?_
  rw [n_sub ha, n_nn (by omega), n_nn (by omega)]
  refine ⟨n_neg (by omega), by omega, by omega, t, h1, by omega, by omega, fun y e2 G3 e3 k4 e4 => ?_⟩
  have hfr : zfr [t] G G3 := by rw [e3]; exact zfr.nw (by omega) (by simp)
  have ln3 : zln G3 q = zln G q := by rw [e3, zln_nw, if_neg hqt]
  have ln4 : zln G3 y = b - a := by rw [e3, e2, zln_nw, if_pos rfl]
  have al4 : zal G3 y := by rw [e3, e2]; exact (zal_nw (by omega) _).mpr (Or.inr rfl)
  have ar4 : zar G3 y 0 := ⟨al4, by rw [e2, zp_mod (by omega)]; omega, by rw [e2, zp_mod (by omega)]; omega, by rw [e2, zp_mod (by omega)]; omega⟩
  refine ⟨Or.inl (hfr.ar hq), ?_⟩
  rw [ln3, n_sub (by omega)]
  refine cmin (by decide) ?_
  have em : (if Int32.ofNat (b - a) < Int32.ofNat (zln G q - a) then Int32.ofNat (b - a) else Int32.ofNat (zln G q - a)) = Int32.ofNat (b - a) := by
    by_cases c : b - a < zln G q - a
    · rw [if_pos ((n_lt (by omega) (by omega)).mpr c)]
    · rw [if_neg (fun z => c ((n_lt (by omega) (by omega)).mp z))]; congr 1; omega
  rw [em, n_nn (by omega)]
  refine ⟨hfr.ar hq, ar4, n_neg (by omega), by decide, n_neg (by omega), by rw [ln3]; omega, by rw [ln4]; show 0 + _ ≤ _; omega, by decide, fun G8 e8 => ?_⟩
  refine ⟨y, rfl, e2, ?_, ?_, fun j hj => ?_, ?_, ?_⟩
  · rw [e8, zcn_cpI, e3, zcn_nw, if_pos rfl]
  · rw [e8, zln_cpI, ln4]
  · rw [e8, ziv_cpI, if_pos ⟨rfl, Nat.zero_le _, by show j < 0 + (b - a); omega⟩, e3, ziv_nw, if_neg hqt]
    congr 1
  · rw [e8]; exact hfr.trans (zfr.cpI (by rw [e2, zp_mod (by omega)]; simp))
  · rw [e8]; exact ar4
theorem c_copyR2 {q a b t : Nat} (hq : zar G q 0) (hqt : q ≠ zp t (zcn G t)) (h1 : 1024 ≤ t) (h2 : t < 1536) (ha : a ≤ b) (hb : b ≤ zln G q) (hM : zln G q ≤ 100000) : zMet E l mJ7_copyOfRange_feecc 3 (b - a + 1) [.ref q, .int (Int32.ofNat a), .int (Int32.ofNat b)] G (zRx (zCPR G q a (b - a) t)) := by
  have hi := fun E l => c_copyRI (E := E) (l := l) hq hqt h1 h2 ha hb hM
  refine z_meth (by decide) (Nat.le_of_ble_eq_true rfl) (by simp [Value.category]) (wpt_J7_copyOfRange_feecc_0 ?_); unfold wp_J7_copyOfRange_feecc_0
  refine ⟨fun _ => cRx (hi E l) (by decide) (Nat.le_refl _) (fun y G2 h => ⟨y, rfl, h⟩), fun c => ⟨Or.inl hq, fun c2 => ?_, fun _ => cRx (hi E l) (by decide) (Nat.le_refl _) (fun y G2 h => ⟨y, rfl, h⟩)⟩⟩
  have c := Classical.not_not.mp c
  rw [show (0 : Int32) = Int32.ofNat 0 from rfl, n_inj (by omega) (by omega)] at c
  rw [n_inj (by omega) (by omega)] at c2
  refine ⟨hq, by decide, by omega, t, h1, by omega, by omega, fun y e2 G3 e3 k4 e4 => ?_⟩
  have al4 : zal G3 y := by
    rw [e3, e2]
    show zal (znw G t 0) _
    exact (zal_nw (by omega) _).mpr (Or.inr rfl)
  have ar4 : zar G3 y 0 := ⟨al4, by rw [e2, zp_mod (by omega)]; omega, by rw [e2, zp_mod (by omega)]; omega, by rw [e2, zp_mod (by omega)]; omega⟩
  refine ⟨ar4, y, rfl, e2, ?_, ?_, fun j hj => ?_, ?_, ar4⟩
  · rw [e3]; exact if_pos rfl
  · rw [e3, e2]
    show (if _ = _ then zln G q else _) = _
    rw [if_pos rfl]; omega
  · rw [e3, e2]
    show (if _ = _ then ziv G q j else _) = _
    rw [if_pos rfl, c, Nat.zero_add]
  · rw [e3]; exact zfr.dup (by omega) (by simp)
end ZCopy
/-- an asking comes on a day that has been, and is got on that day or later -/
def SA (S : ZS9) : Prop := ∀ a, a < nA S → ¬ S 1155 a < 0 ∧ ¬ S 416 1 < S 1155 a ∧ (S 1165 (7 * a + 3) = -1 ∨ ¬ S 1165 (7 * a + 3) < S 1155 a)
theorem zspan_n {S : ZS9} {a : Nat} (h : SD S) (hw : SA S) (ha : a < nA S) (ga : S 1165 (7 * a + 0) = 7) : ∃ x y, S 1165 (7 * a + 3) = Int32.ofNat x ∧ x ≤ 1000 ∧ y ≤ x ∧ zspan S a = Int32.ofNat (x - y) := by
  obtain ⟨a1, a2⟩ := (h.2.2 a).2 ga
  obtain ⟨w1, -, w3⟩ := hw a ha
  obtain ⟨x, hx, ex⟩ := n_of a1
  obtain ⟨y, hy, ey⟩ := n_of w1
  rw [ex, show (1000 : Int32) = Int32.ofNat 1000 from rfl, n_le (by omega) (by omega)] at a2
  have hyx : y ≤ x := by
    rcases w3 with w | w
    · rw [w] at a1; exact absurd (by decide) a1
    · rw [ex, ey, n_lt (by omega) (by omega)] at w; omega
  refine ⟨x, y, ex, a2, hyx, ?_⟩
  unfold zspan
  rw [ex, ey, n_sub hyx]
