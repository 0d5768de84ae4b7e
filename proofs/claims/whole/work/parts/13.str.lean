/-! String constants: length, charAt -/
/-- the bytes of constant n lie in the store -/
def zstr (G : ZG) (n : Nat) : Prop := zal G (zp (3840 + n) 0) ∧ zln G (zp (3840 + n) 0) = zstl n ∧ ∀ j, j < zstl n → ziv G (zp (3840 + n) 0) j = zstc n j
theorem zstr_rd {G : ZG} {n : Nat} (hn : n < 32) (h : zstr G n) : zrd G (zp (3840 + n) 0) .byte := by
  refine ⟨h.1, ?_, ?_⟩
  · rw [zp_mod (by omega)]; omega
  · rw [zp_mod (by omega)]
    unfold zROt
    rw [if_neg (by omega), if_pos (by omega)]
theorem zstl_sh : ∀ n, n < 32 → (Int32.ofNat (zstl n)) >>> ((0 : Int32) &&& 31) = Int32.ofNat (zstl n) := by decide +kernel
theorem zstl_le : ∀ n, n < 32 → zstl n ≤ 60 := by decide +kernel
theorem zstc_ok : ∀ n, n < 32 → ∀ j, j < zstl n → narrow .char (.int ((((zstc n j) &&& 255).toUInt32 % 65536).toInt32)) = .int ((((zstc n j) &&& 255).toUInt32 % 65536).toInt32) ∧ (((zstc n j) &&& 255).toUInt32 % 65536).toInt32 = zstc n j := by decide +kernel
/-- indices that are in, in words of numbers -/
theorem vp_lt {i : Int32} {n : Nat} (h : vp_in i n) : ¬ i < 0 ∧ i.toNatClampNeg < n := ⟨fun h1 => h (Or.inl h1), by
  unfold vp_in at h
  omega⟩
theorem vp_lt2 {i : Int32} {n : Nat} (hn : n < 2147483648) (h : vp_in i n) : i < Int32.ofNat n := by
  obtain ⟨h1, h2⟩ := vp_lt h
  have e := z_nn i h1
  rw [Int32.lt_iff_toInt_lt, e, Int32.toInt_ofNat_of_lt (by omega)]
  omega
section ZStr
variable {E : ZE} {l : Launch} {M Y : ZM} {d b k pc pc' : Nat} {G0 : ZG} {Q : ZQ} {ls : List (Option Value)} {st : List Value} {G : ZG}
theorem c_coder {n : Nat} (hn : n < 32) : zMet E l mJ0_coder_7d493 d b [.ref (zp 1000 n)] G (zI 0 G) := by
  refine z_meth (by decide) (Nat.le_of_ble_eq_true rfl) (by simp [Value.category]) (wpt_J0_coder_7d493_0 ?_)
  exact ⟨fun h => absurd h (by decide), fun _ => ⟨n, hn, rfl, rfl, rfl⟩⟩
theorem c_isLatin1 {n : Nat} (hn : n < 32) : zMet E l mJ0_isLatin1_aae02 d b [.ref (zp 1000 n)] G (zI 1 G) := by
  refine z_meth (by decide) (Nat.le_of_ble_eq_true rfl) (by simp [Value.category]) (wpt_J0_isLatin1_aae02_0 ?_)
  exact ⟨fun h => absurd h (by decide), fun _ => ⟨n, hn, rfl, fun h => absurd rfl h, fun _ => ⟨rfl, rfl⟩⟩⟩
theorem c_strlen {n : Nat} (hn : n < 32) (hs : zstr G n) (hd : 1 ≤ d) : zMet E l mJ0_length_8abf5 d b [.ref (zp 1000 n)] G (zI (Int32.ofNat (zstl n)) G) := by
  refine z_meth (by decide) (Nat.le_of_ble_eq_true rfl) (by simp [Value.category]) (wpt_J0_length_8abf5_0 ?_)
  refine ⟨n, hn, rfl, Or.inr (zstr_rd hn hs), n, hn, rfl, xcI_of (d1 := 0) (b1 := 0) (c_coder hn) hd (Nat.zero_le _) ⟨?_, rfl⟩⟩
  rw [hs.2.1, zstl_sh n hn]
theorem c_pcheck {x y : Int32} {r : Nat} (h1 : ¬ x < 0) (h2 : x < y) : zMet E l mJ3_checkIndex_8e157 d b [.int x, .int y, .ref r] G (zI x G) := by
  refine z_meth (by decide) (Nat.le_of_ble_eq_true rfl) (by simp [Value.category]) (wpt_J3_checkIndex_8e157_0 ?_)
  exact ⟨fun h => absurd h h1, fun _ => ⟨fun _ => ⟨rfl, rfl⟩, fun h => absurd h2 h⟩⟩
theorem c_scheck {x y : Int32} (h1 : ¬ x < 0) (h2 : x < y) (hd : 1 ≤ d) : zMet E l mJ0_checkIndex_df160 d b [.int x, .int y] G (zVd G) := by
  refine z_meth (by decide) (Nat.le_of_ble_eq_true rfl) (by simp [Value.category]) (wpt_J0_checkIndex_df160_0 ?_)
  exact fun r _ => xcI_of (d1 := 0) (b1 := 0) (c_pcheck h1 h2) hd (Nat.zero_le _) ⟨rfl, rfl⟩
theorem c_latAt {n : Nat} {i : Int32} (hn : n < 32) (hs : zstr G n) (hi : vp_in i (zstl n)) (hd : 2 ≤ d) : zMet E l mJ1_charAt_3b067 d b [.ref (zp (3840 + n) 0), .int i] G (zI (zstc n i.toNatClampNeg) G) := by
  refine z_meth (by decide) (Nat.le_of_ble_eq_true rfl) (by simp [Value.category]) (wpt_J1_charAt_3b067_0 ?_)
  have hr := zstr_rd hn hs
  have hl := zstl_le n hn
  have hj := (vp_lt hi).2
  obtain ⟨e1, e2⟩ := zstc_ok n hn _ hj
  refine ⟨Or.inr hr, xcV_of (d1 := 1) (b1 := 0) (c_scheck (vp_lt hi).1 (by rw [hs.2.1]; exact vp_lt2 (by omega) hi) (by omega)) (by omega) (Nat.zero_le _) ⟨Or.inr hr, by rw [hs.2.1]; exact hi, ?_, ?_, rfl⟩⟩
  · rw [hs.2.2 _ hj]; exact e1
  · rw [hs.2.2 _ hj, e2]
theorem zstc_ch : ∀ n, n < 32 → ∀ j, j < zstl n → narrow .char (.int (zstc n j)) = .int (zstc n j) := by decide +kernel
theorem c_strat {n : Nat} {i : Int32} (hn : n < 32) (hs : zstr G n) (hi : vp_in i (zstl n)) (hd : 3 ≤ d) : zMet E l mJ0_charAt_5068e d b [.ref (zp 1000 n), .int i] G (zI (zstc n i.toNatClampNeg) G) := by
  refine z_meth (by decide) (Nat.le_of_ble_eq_true rfl) (by simp [Value.category]) (wpt_J0_charAt_5068e_0 ?_)
  refine ⟨n, hn, rfl, xcI_of (d1 := 0) (b1 := 0) (c_isLatin1 hn) (by omega) (Nat.zero_le _) ⟨fun h => absurd h (by decide), fun _ => ⟨n, hn, rfl, xcI_of (d1 := 2) (b1 := 0) (c_latAt hn hs hi (by omega)) (by omega) (Nat.zero_le _) ⟨zstc_ch n hn _ (vp_lt hi).2, rfl, rfl⟩⟩⟩⟩
/-- String.length, String.charAt of a constant -/
theorem z_strlen {idx n q : Nat} (hd : decode M.2.1 pc = .ok (.invokevirtual idx, 3)) (hw : Cond.methodLink M.1.cls idx yJ0_length_8abf5 ∈ zgood) (hp : pc + 3 = pc') (hn : n < 32) (hq : q = zp 1000 n) (hs : zstr G n) (hdd : 4 ≤ d) (hst : (st.map fun v => v.category).sum ≤ 8) (kk : zW E l M d b G0 Q k pc' ls (.int (Int32.ofNat (zstl n)) :: st) G) : zW E l M d b G0 Q k pc ls (.ref q :: st) G := by
  subst hq
  refine z_callT (Y := mJ0_length_8abf5) (n := 0) (as := []) (d' := 1) (b' := 0) (c_strlen hn hs (by omega)) hd hw vJ0_length_8abf5 rfl hp rfl hn rfl (by omega) (Nat.zero_le _) hst (fun r G' hz => ?_) (fun X G' hz => nomatch hz.1)
  obtain ⟨h1, h2⟩ := hz
  cases h1
  subst h2
  exact kk
theorem z_strat {idx n q : Nat} {i : Int32} (hd : decode M.2.1 pc = .ok (.invokevirtual idx, 3)) (hw : Cond.methodLink M.1.cls idx yJ0_charAt_5068e ∈ zgood) (hp : pc + 3 = pc') (hn : n < 32) (hq : q = zp 1000 n) (hs : zstr G n) (hdd : 6 ≤ d) (hi : vp_in i (zstl n)) (hst : (st.map fun v => v.category).sum ≤ 8) (kk : zW E l M d b G0 Q k pc' ls (.int (zstc n i.toNatClampNeg) :: st) G) : zW E l M d b G0 Q k pc ls (.int i :: .ref q :: st) G := by
  subst hq
  refine z_callT (Y := mJ0_charAt_5068e) (n := 1) (as := [.int i]) (d' := 3) (b' := 0) (c_strat hn hs hi (by omega)) hd hw vJ0_charAt_5068e rfl hp rfl hn rfl (by omega) (Nat.zero_le _) hst (fun r G' hz => ?_) (fun X G' hz => nomatch hz.1)
  obtain ⟨h1, h2⟩ := hz
  cases h1
  subst h2
  exact kk
end ZStr
