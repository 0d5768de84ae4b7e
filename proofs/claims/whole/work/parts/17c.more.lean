/-! ArrayList(), Arrays.copyOf of ints, Arrays.fill, Math.floorDiv -/
def zfl (G : ZG) (a n : Nat) (x : Int32) : ZG := (G.1, G.2.1, fun q j => if q = a ∧ j < n then x else G.2.2.1 q j, G.2.2.2)
theorem zfl_0 (G : ZG) (a : Nat) (x : Int32) : zfl G a 0 x = G := by
  obtain ⟨g1, g2, g3, g4⟩ := G
  unfold zfl
  congr 3
  funext q j
  rw [if_neg (by omega)]
theorem zfl_s (G : ZG) (a n : Nat) (x : Int32) : zsi (zfl G a n x) a n x = zfl G a (n + 1) x := by
  unfold zsi zfl
  congr 3
  funext q j
  show (if q = a ∧ j = n then x else if q = a ∧ j < n then x else G.2.2.1 q j) = (if q = a ∧ j < n + 1 then x else G.2.2.1 q j)
  by_cases h : q = a
  · by_cases h1 : j = n
    · rw [if_pos ⟨h, h1⟩, if_pos ⟨h, by omega⟩]
    · rw [if_neg (fun z => h1 z.2)]
      by_cases h2 : j < n
      · rw [if_pos ⟨h, h2⟩, if_pos ⟨h, by omega⟩]
      · rw [if_neg (fun z => h2 z.2), if_neg (fun z => by omega)]
  · rw [if_neg (fun z => h z.1), if_neg (fun z => h z.1), if_neg (fun z => h z.1)]
theorem i_xor0 {x y : Int32} (hx : ¬ x < 0) (hy : ¬ y < 0) : 0 ≤ x ^^^ y := by
  have key : ∀ z : Int32, ¬ z < 0 ↔ z.toBitVec.msb = false := by
    intro z
    rw [BitVec.msb_eq_toInt, Int32.lt_iff_toInt_lt]
    show ¬ z.toInt < 0 ↔ _
    simp
  rw [← i_nlt, key]
  rw [key] at hx hy
  show (x.toBitVec ^^^ y.toBitVec).msb = false
  rw [BitVec.msb_xor, hx, hy]
  rfl
section ZMore
variable {E : ZE} {l : Launch} {d b : Nat} {G : ZG}
theorem c_floor {x y : Int32} (hx : ¬ x < 0) (hy : 0 < y) : zMet E l mJ9_floorDiv_7cf53 d b [.int x, .int y] G (zI (x / y) G) := by
  refine z_methF pl_floorDiv (Nat.le_of_ble_eq_true rfl) (by simp [Value.category]) (wpt_J9_floorDiv_7cf53_0 ?_)
  have hy0 : ¬ y < 0 := by
    rw [Int32.lt_iff_toInt_lt] at hy ⊢
    omega
  refine ⟨fun e => ?_, fun _ => ⟨rfl, rfl⟩, fun h => absurd (i_xor0 hx hy0) h⟩
  rw [e] at hy
  exact absurd hy (by decide)
theorem c_listInit {r : Nat} (h : zal G (zp r 0)) (hr : r < 32) (hd : 4 ≤ d) : zMet E l mJx4a65c_init_da8c8 d b [.ref (zp r 0)] G (zVd (zsr (zsi G (zp r 0) 0 0) (zp r 0) 1 (zp 4095 0))) := by
  have hob : zob G (zp r 0) 0 := zob_zp (by omega) (by omega) ((zal_zp (by omega)).mp h)
  have h1 : zMet E l mJxa1e45_init_da8c8 1 0 [.ref (zp r 0)] G (zVd G) := by
    refine z_meth (by decide) (Nat.le_of_ble_eq_true rfl) (by simp [Value.category]) (wpt_Jxa1e45_init_da8c8_0 ?_)
    exact ⟨h, by omega, rfl, rfl⟩
  have h2 : zMet E l mJxc12de_init_da8c8 2 0 [.ref (zp r 0)] G (zVd (zsi G (zp r 0) 0 0)) := by
    refine z_meth (by decide) (Nat.le_of_ble_eq_true rfl) (by simp [Value.category]) (wpt_Jxc12de_init_da8c8_0 ?_)
    exact ⟨h, xcV_of h1 (by omega) (Nat.zero_le _) ⟨hob, fun G3 e => ⟨rfl, e⟩⟩⟩
  refine z_meth (by decide) (Nat.le_of_ble_eq_true rfl) (by simp [Value.category]) (wpt_Jx4a65c_init_da8c8_0 ?_)
  exact ⟨h, xcV_of h2 (by omega) (Nat.zero_le _) ⟨hob, fun G3 e => ⟨rfl, e⟩⟩⟩
/-- a copy of the first m ints of a -/
def zCPY (G : ZG) (a m t : Nat) (q : Nat) (G' : ZG) : Prop := q = zp t (zcn G t) ∧ zcn G' t = zcn G t + 1 ∧ zln G' q = m ∧ (∀ j, j < m → ziv G' q j = ziv G a j) ∧ zfr [t] G G'
theorem c_copyI {a m t : Nat} (ha : zar G a 0) (hat : a % 4096 ≠ t) (h1 : 1024 ≤ t) (h2 : t < 1536) (hm : m ≤ zln G a) (hM : zln G a ≤ 100000) (hb : m + 1 ≤ b) (hd : 2 ≤ d) :
    zMet E l mJ7_copyOf_59c91 d b [.ref a, .int (Int32.ofNat m)] G (zRx (zCPY G a m t)) := by
  have hane : a ≠ zp t (zcn G t) := fun e => hat (by rw [e, zp_mod (by omega)])
  refine z_meth (by decide) (Nat.le_of_ble_eq_true rfl) (by simp [Value.category]) (wpt_J7_copyOf_59c91_0 ?_)
  refine ⟨Or.inl ha, fun h9 => ?_, fun h9 => ?_⟩
  · rw [n_inj (by omega) (by omega)] at h9
    refine ⟨n_neg (by omega), by rw [n_nn (by omega)]; omega, by rw [n_nn (by omega)]; omega, t, h1, by omega, by omega, ?_⟩
    rw [n_nn (by omega)]
    intro q e2 G3 e3 k4 e4
    have hfr : zfr [t] G G3 := by rw [e3]; exact zfr.nw (by omega) (by simp)
    have ln3 : zln G3 a = zln G a := by rw [e3, zln_nw, if_neg hane]
    have ln4 : zln G3 q = m := by rw [e3, e2, zln_nw, if_pos rfl]
    have al4 : zal G3 q := by rw [e3, e2]; exact (zal_nw (by omega) _).mpr (Or.inr rfl)
    refine ⟨Or.inl (hfr.ar ha), ?_⟩
    rw [ln3]
    refine xcI_of (d1 := 0) (b1 := 0) (c_min _ _) (by omega) (Nat.zero_le _) ?_
    rw [if_pos (by rw [n_lt (by omega) (by omega)]; omega), n_nn (by omega)]
    refine ⟨hfr.ar ha, ⟨al4, ?_⟩, by decide, by decide, n_neg (by omega), ?_, ?_, hd, ?_⟩
    · rw [e2, zp_mod (by omega)]; omega
    · rw [ln3]; show 0 + _ ≤ _; omega
    · rw [ln4]; show 0 + _ ≤ _; omega
    · intro G8 e8
      refine ⟨q, rfl, e2, ?_, ?_, fun j hj => ?_, ?_⟩
      · rw [e8, zcn_cpI, e3, zcn_nw, if_pos rfl]
      · rw [e8, zln_cpI, ln4]
      · rw [e8, ziv_cpI, if_pos ⟨rfl, Nat.zero_le _, by show j < 0 + m; omega⟩, e3, ziv_nw, if_neg hane]
        congr 1
        show 0 + (j - 0) = j
        omega
      · rw [e8]; exact hfr.trans (zfr.cpI (by rw [e2, zp_mod (by omega)]; simp))
  · rw [Classical.not_not, n_inj (by omega) (by omega)] at h9
    refine ⟨ha, hd, by omega, t, h1, by omega, by omega, ?_⟩
    intro q e2 G3 e3 k4 e4
    have al4 : zal G3 q := by
      rw [e3, e2]
      show zal (znw G t 0) _
      exact (zal_nw (by omega) _).mpr (Or.inr rfl)
    refine ⟨⟨al4, ?_⟩, q, rfl, e2, ?_, ?_, fun j hj => ?_, ?_⟩
    · rw [e2, zp_mod (by omega)]; omega
    · rw [e3]; exact if_pos rfl
    · rw [e3, e2]
      show (if _ = _ then zln G a else _) = m
      rw [if_pos rfl, h9]
    · rw [e3, e2]
      show (if _ = _ then ziv G a j else _) = _
      rw [if_pos rfl]
    · rw [e3]; exact zfr.dup (by omega) (by simp)
theorem c_fill {a : Nat} {x : Int32} (ha : zar G a 0) (hM : zln G a ≤ 100000) : zMet E l mJ7_fill_53178 d b [.ref a, .int x] G (zVd (zfl G a (zln G a) x)) := by
  have loop : ∀ m i, i + m = zln G a → zW E l mJ7_fill_53178 d b G (zVd (zfl G a (zln G a) x)) b 5 [some (.ref a), some (.int x), some (.int (Int32.ofNat i)), some (.int (Int32.ofNat (zln G a)))] [] (zfl G a i x) := by
    intro m
    induction m with
    | zero =>
      intro i hi
      refine wpt_J7_fill_53178_5 ⟨fun _ => ⟨rfl, by rw [show i = zln G a by omega]⟩, fun h => ?_⟩
      rw [n_le (by omega) (by omega)] at h
      omega
    | succ m ih =>
      intro i hi
      refine wpt_J7_fill_53178_5 ⟨fun h => ?_, fun _ => ⟨ha, n_in (by show i < zln G a; omega) (by show zln G a < _; omega), fun G1 e1 => ?_⟩⟩
      · rw [n_le (by omega) (by omega)] at h
        omega
      · rw [n_nn (by omega), zfl_s] at e1
        rw [e1, n_succ]
        exact ih (i + 1) (by omega)
  refine z_meth (by decide) (Nat.le_of_ble_eq_true rfl) (by simp [Value.category]) (wpt_J7_fill_53178_0 ⟨Or.inl ha, ?_⟩)
  have := loop (zln G a) 0 (by omega)
  rw [zfl_0] at this
  exact this
end ZMore
