/-! ArrayList: list r lies at zp r 0, its array has tag 3072 + r -/
def zel (G : ZG) (q : Nat) : Prop := ∃ ci, zob G q ci ∧ ci < 14 ∧ Cond.castable (zC ci) "java/lang/Object" ∈ zcast
def zAL (G : ZG) (r n : Nat) (f : Nat → Nat) : Prop :=
  zal G (zp r 0) ∧ ziv G (zp r 0) 2 = Int32.ofNat n ∧ (zal G (zp 4095 0) ∧ zln G (zp 4095 0) = 0) ∧
  ((n = 0 ∧ zrv G (zp r 0) 1 = zp 4095 0) ∨ ∃ i, i < zcn G (3072 + r) ∧ zrv G (zp r 0) 1 = zp (3072 + r) i ∧ n ≤ zln G (zp (3072 + r) i) ∧ 0 < zln G (zp (3072 + r) i) ∧ zln G (zp (3072 + r) i) ≤ 10 + 2 * n ∧ ∀ j, j < n → zrv G (zp (3072 + r) i) j = f j)
theorem zAL.fr {T : List Nat} {G G' : ZG} {r n : Nat} {f : Nat → Nat} (h : zAL G r n f) (hf : zfr T G G') (hr : r < 32) (h1 : r ∉ T) (h2 : 3072 + r ∉ T) (h3 : 4095 ∉ T) : zAL G' r n f := by
  obtain ⟨a1, a2, ⟨a3, a4⟩, a5⟩ := h
  refine ⟨hf.al a1, by rw [hf.iv (by omega) h1]; exact a2, ⟨hf.al a3, by rw [hf.ln (by omega) h3]; exact a4⟩, ?_⟩
  rcases a5 with ⟨b1, b2⟩ | ⟨i, b1, b2, b3, b4, b5, b6⟩
  · exact Or.inl ⟨b1, by rw [hf.rv (by omega) h1]; exact b2⟩
  · refine Or.inr ⟨i, Nat.lt_of_lt_of_le b1 (hf.1 _), by rw [hf.rv (by omega) h1]; exact b2, ?_⟩
    rw [hf.ln (by omega) h2, hf.rv (by omega) h2]
    exact ⟨b3, b4, b5, b6⟩
theorem n_shr1 : ∀ n, n < 1001 → (Int32.ofNat n) >>> ((1 : Int32) &&& 31) = Int32.ofNat (n / 2) := by decide +kernel
section ZList
variable {E : ZE} {l : Launch} {d b : Nat} {G : ZG} {r n : Nat} {f : Nat → Nat}
theorem c_max (x y : Int32) : zMet E l mJ9_max_7cf53 d b [.int x, .int y] G (zI (if x < y then y else x) G) := by
  refine z_methF pl_max (Nat.le_of_ble_eq_true rfl) (by simp [Value.category]) (wpt_J9_max_7cf53_0 ?_)
  exact ⟨fun h => ⟨by rw [if_pos h], rfl⟩, fun h => ⟨by rw [if_neg h], rfl⟩⟩
theorem c_min (x y : Int32) : zMet E l mJ9_min_7cf53 d b [.int x, .int y] G (zI (if y < x then y else x) G) := by
  refine z_methF pl_min (Nat.le_of_ble_eq_true rfl) (by simp [Value.category]) (wpt_J9_min_7cf53_0 ?_)
  exact ⟨fun h => ⟨by rw [if_pos h], rfl⟩, fun h => ⟨by rw [if_neg h], rfl⟩⟩
theorem c_size (h : zAL G r n f) (hr : r < 32) : zMet E l mJx4a65c_size_8abf5 d b [.ref (zp r 0)] G (zI (Int32.ofNat n) G) := by
  refine z_meth (by decide) (Nat.le_of_ble_eq_true rfl) (by simp [Value.category]) (wpt_Jx4a65c_size_8abf5_0 ?_)
  exact ⟨zob_zp (by omega) (by omega) ((zal_zp (by omega)).mp h.1), by rw [h.2.1], rfl⟩
theorem c_ocheck {x y : Int32} (h1 : ¬ x < 0) (h2 : x < y) (hd : 1 ≤ d) : zMet E l mJ15_checkIndex_7cf53 d b [.int x, .int y] G (zI x G) := by
  refine z_meth (by decide) (Nat.le_of_ble_eq_true rfl) (by simp [Value.category]) (wpt_J15_checkIndex_7cf53_0 ?_)
  exact xcI_of (d1 := 0) (b1 := 0) (c_pcheck h1 h2) hd (Nat.zero_le _) ⟨rfl, rfl⟩
theorem c_get {i : Nat} (h : zAL G r n f) (hr : r < 32) (hn : n ≤ 1000) (hi : i < n) (hd : 2 ≤ d) : zMet E l mJx4a65c_get_915e3 d b [.ref (zp r 0), .int (Int32.ofNat i)] G (zRf (f i) G) := by
  have hob : zob G (zp r 0) 0 := zob_zp (by omega) (by omega) ((zal_zp (by omega)).mp h.1)
  have he : zMet E l mJx4a65c_elementData_915e3 0 0 [.ref (zp r 0), .int (Int32.ofNat i)] G (zRf (f i) G) := by
    refine z_meth (by decide) (Nat.le_of_ble_eq_true rfl) (by simp [Value.category]) (wpt_Jx4a65c_elementData_915e3_0 ?_)
    rcases h.2.2.2 with ⟨b1, b2⟩ | ⟨j, b1, b2, b3, b4, b5, b6⟩
    · omega
    · refine ⟨hob, ?_⟩
      rw [b2, n_nn (by omega), b6 i hi]
      exact ⟨zar_zp (by omega) (by omega) (by omega) b1, n_in (by omega) (by omega), rfl, rfl⟩
  refine z_meth (by decide) (Nat.le_of_ble_eq_true rfl) (by simp [Value.category]) (wpt_Jx4a65c_get_915e3_0 ?_)
  refine ⟨hob, xcI_of (d1 := 1) (b1 := 0) (c_ocheck (n_neg (by omega)) (by rw [h.2.1]; exact (n_lt (by omega) (by omega)).mpr hi) (by omega)) (by omega) (Nat.zero_le _) ⟨hob, xcR_of (d1 := 0) (b1 := 0) he (by omega) (Nat.zero_le _) ⟨rfl, rfl⟩⟩⟩
theorem c_copyC {a m t : Nat} (ha : zar G a 4) (h1 : 1024 ≤ t) (h2 : t < 3584) (h3 : (t - 1024) / 512 = 4) (hm : zln G a ≤ m) (hM : m ≤ 100000) (hb : m + 1 ≤ b) (hd : 2 ≤ d) (hel : ∀ i, i < zln G a → zel G (zrv G a i)) :
    zMet E l mJ7_copyOf_6403c d b [.ref a, .int (Int32.ofNat m), .ref (zp 1003 0)] G (zRf (zp t (zcn G t)) (zcpR (znw G t m) a (zp t (zcn G t)) 0 0 (zln G a))) := by
  refine z_meth (by decide) (Nat.le_of_ble_eq_true rfl) (by simp [Value.category]) (wpt_J7_copyOf_6403c_0 ?_)
  refine ⟨Or.inl rfl, fun h => absurd rfl h, fun _ => ⟨n_neg (by omega), by rw [n_nn (by omega)]; omega, by rw [n_nn (by omega)]; omega, t, h1, h2, h3, ?_⟩⟩
  rw [n_nn (by omega)]
  intro q_2 e2 G3 e3 k4 e4
  have hfr : zfr [t] G G3 := by rw [e3]; exact zfr.nw (by omega) (by simp)
  have hane : a ≠ zp t (zcn G t) := fun e => zal_q0 (by omega) (e ▸ ha.1)
  have ln3 : zln G3 a = zln G a := by rw [e3, zln_nw, if_neg hane]
  have rv3 : ∀ j, zrv G3 a j = zrv G a j := fun j => by rw [e3, zrv_nw, if_neg hane]
  have ln4 : zln G3 q_2 = m := by rw [e3, e2, zln_nw, if_pos rfl]
  have al4 : zal G3 q_2 := by rw [e3, e2]; exact (zal_nw (by omega) _).mpr (Or.inr rfl)
  refine ⟨Or.inl (hfr.ar ha), ?_⟩
  rw [ln3]
  refine xcI_of (d1 := 0) (b1 := 0) (c_min _ _) (by omega) (Nat.zero_le _) ?_
  rw [if_neg (by rw [n_lt (by omega) (by omega)]; omega), n_nn (by omega)]
  refine ⟨hfr.ar ha, ⟨al4, ?_⟩, by decide, by decide, n_neg (by omega), ?_, ?_, hd, fun i hi => Or.inr ?_, ?_⟩
  · rw [e2, zp_mod (by omega)]; omega
  · rw [ln3]; show 0 + _ ≤ _; omega
  · rw [ln4]; show 0 + _ ≤ _; omega
  · show ∃ ci, ci < 14 ∧ zob G3 (zrv G3 a (0 + i)) ci ∧ _
    rw [Nat.zero_add, rv3]
    obtain ⟨ci, g1, g2, g3⟩ := hel i hi
    exact ⟨ci, g2, hfr.ob g1, g3⟩
  · intro G8 e8
    rw [e8, e3, e2]
    exact ⟨rfl, rfl⟩
theorem c_copyR {a m t : Nat} (ha : zar G a 4) (h1 : 1024 ≤ t) (h2 : t < 3584) (h3 : (t - 1024) / 512 = 4) (hm : zln G a ≤ m) (hM : m ≤ 100000) (hb : m + 1 ≤ b) (hd : 3 ≤ d) (hel : ∀ i, i < zln G a → zel G (zrv G a i)) :
    zMet E l mJ7_copyOf_1904c d b [.ref a, .int (Int32.ofNat m)] G (zRf (zp t (zcn G t)) (zcpR (znw G t m) a (zp t (zcn G t)) 0 0 (zln G a))) := by
  refine z_meth (by decide) (Nat.le_of_ble_eq_true rfl) (by simp [Value.category]) (wpt_J7_copyOf_1904c_0 ?_)
  exact ⟨ha, by omega, xcR_of (d1 := 2) (b1 := b) (c_copyC ha h1 h2 h3 hm hM hb (by omega) hel) (by omega) (Nat.le_refl _) ⟨rfl, rfl⟩⟩
theorem c_newLen {m : Nat} (hm : m ≤ 1000) (h0 : 0 < m) (hd : 1 ≤ d) : zMet E l mJ8_newLength_cabcc d b [.int (Int32.ofNat m), .int 1, .int (Int32.ofNat (m / 2))] G (zI (Int32.ofNat (m + max 1 (m / 2))) G) := by
  refine z_meth (by decide) (Nat.le_of_ble_eq_true rfl) (by simp [Value.category]) (wpt_J8_newLength_cabcc_0 ?_)
  refine xcI_of (d1 := 0) (b1 := 0) (c_max _ _) (by omega) (Nat.zero_le _) ?_
  have e : (if (1 : Int32) < Int32.ofNat (m / 2) then Int32.ofNat (m / 2) else 1) = Int32.ofNat (max 1 (m / 2)) := by
    have h1 : ((1 : Int32) < Int32.ofNat (m / 2)) ↔ 1 < m / 2 := n_lt (a := 1) (by omega) (by omega)
    by_cases h : 1 < m / 2
    · rw [if_pos (h1.mpr h)]; congr 1; omega
    · rw [if_neg (fun z => h (h1.mp z))]
      show Int32.ofNat 1 = _
      congr 1; omega
  rw [e, n_add]
  refine ⟨fun h => ?_, fun _ => ⟨fun h => ?_, fun _ => ⟨rfl, rfl⟩⟩⟩
  · exact absurd ((n_le (b := 0) (by omega) (by omega)).mp h) (by omega)
  · exact absurd ((n_lt (a := 2147483639) (by omega) (by omega)).mp h) (by omega)
end ZList
