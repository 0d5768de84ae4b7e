/-! numbers -/
theorem n_toInt {n : Nat} (h : n < 2147483648) : (Int32.ofNat n).toInt = n := Int32.toInt_ofNat_of_lt (by omega)
theorem n_lt {a b : Nat} (ha : a < 2147483648) (hb : b < 2147483648) : Int32.ofNat a < Int32.ofNat b ↔ a < b := by
  rw [Int32.lt_iff_toInt_lt, n_toInt ha, n_toInt hb]; omega
theorem n_le {a b : Nat} (ha : a < 2147483648) (hb : b < 2147483648) : Int32.ofNat a ≤ Int32.ofNat b ↔ a ≤ b := by
  rw [Int32.le_iff_toInt_le, n_toInt ha, n_toInt hb]; omega
theorem n_inj {a b : Nat} (ha : a < 2147483648) (hb : b < 2147483648) : Int32.ofNat a = Int32.ofNat b ↔ a = b := by
  rw [← Int32.toInt_inj, n_toInt ha, n_toInt hb]; omega
theorem n_nn {a : Nat} (ha : a < 2147483648) : (Int32.ofNat a).toNatClampNeg = a := by
  show (Int32.ofNat a).toInt.toNat = a
  rw [n_toInt ha]; omega
theorem n_neg {a : Nat} (ha : a < 2147483648) : ¬ Int32.ofNat a < 0 := by
  rw [Int32.lt_iff_toInt_lt, n_toInt ha]
  show ¬ (a : Int) < 0
  omega
theorem n_add (a b : Nat) : Int32.ofNat a + Int32.ofNat b = Int32.ofNat (a + b) := (Int32.ofNat_add a b).symm
theorem n_succ (a : Nat) : Int32.ofNat a + 1 = Int32.ofNat (a + 1) := (Int32.ofNat_add a 1).symm
theorem n_mul (a b : Nat) : Int32.ofNat a * Int32.ofNat b = Int32.ofNat (a * b) := (Int32.ofNat_mul a b).symm
theorem n_sub {a b : Nat} (h : b ≤ a) : Int32.ofNat a - Int32.ofNat b = Int32.ofNat (a - b) := by
  have : Int32.ofNat a = Int32.ofNat (a - b) + Int32.ofNat b := by rw [n_add]; congr 1; omega
  rw [this, Int32.add_sub_cancel]
theorem n_in {i n : Nat} (h : i < n) (hn : n < 2147483648) : vp_in (Int32.ofNat i) n := by
  intro hh
  rcases hh with hh | hh
  · exact n_neg (by omega) hh
  · rw [n_nn (by omega)] at hh; omega
theorem n_of {x : Int32} (h : ¬ x < 0) : ∃ n : Nat, n < 2147483648 ∧ x = Int32.ofNat n := by
  have h1 := z_nn x h
  have h2 := x.toInt_lt
  have h3 : x.toNatClampNeg < 2147483648 := by omega
  refine ⟨x.toNatClampNeg, h3, ?_⟩
  rw [← Int32.toInt_inj, n_toInt h3, h1]
theorem n_ofi {x : Int32} {n : Nat} (h1 : ¬ x < 0) (h2 : x < Int32.ofNat n) (hn : n < 2147483648) : ∃ i, i < n ∧ x = Int32.ofNat i := by
  obtain ⟨i, hi, rfl⟩ := n_of h1
  exact ⟨i, (n_lt hi hn).mp h2, rfl⟩
theorem i_nle {a b : Int32} : ¬ a ≤ b ↔ b < a := by
  rw [Int32.lt_iff_toInt_lt, Int32.le_iff_toInt_le]; omega
theorem i_nlt {a b : Int32} : ¬ a < b ↔ b ≤ a := by
  rw [Int32.lt_iff_toInt_lt, Int32.le_iff_toInt_le]; omega
/-! the store's simplest facts -/
theorem zob_si {G : ZG} {q k : Nat} {x : Int32} {a c : Nat} : zob (zsi G q k x) a c ↔ zob G a c := Iff.rfl
theorem zob_sr {G : ZG} {q k r a c : Nat} : zob (zsr G q k r) a c ↔ zob G a c := Iff.rfl
theorem zar_si {G : ZG} {q k : Nat} {x : Int32} {a c : Nat} : zar (zsi G q k x) a c ↔ zar G a c := Iff.rfl
theorem zar_sr {G : ZG} {q k r a c : Nat} : zar (zsr G q k r) a c ↔ zar G a c := Iff.rfl
theorem zrd_si {G : ZG} {q k : Nat} {x : Int32} {a : Nat} {c : FieldType} : zrd (zsi G q k x) a c ↔ zrd G a c := Iff.rfl
theorem zrd_sr {G : ZG} {q k r a : Nat} {c : FieldType} : zrd (zsr G q k r) a c ↔ zrd G a c := Iff.rfl
theorem zob_zp {G : ZG} {t i c : Nat} (h : t < 448) (hc : t / 32 = c) (hi : i < zcn G t) : zob G (zp t i) c := by
  refine ⟨(zal_zp (by omega)).mpr hi, ?_, ?_⟩ <;> rw [zp_mod (by omega)]
  · exact h
  · exact hc
theorem zar_zp {G : ZG} {t i c : Nat} (h1 : 1024 ≤ t) (h2 : t < 3584) (hc : (t - 1024) / 512 = c) (hi : i < zcn G t) : zar G (zp t i) c := by
  refine ⟨(zal_zp (by omega)).mpr hi, ?_, ?_, ?_⟩ <;> rw [zp_mod (by omega)]
  · exact h1
  · exact h2
  · exact hc
/-- nothing has changed but in the tags of T -/
def zfr (T : List Nat) (G G' : ZG) : Prop := (∀ t, zcn G t ≤ zcn G' t) ∧ (∀ t, t ∉ T → zcn G' t = zcn G t) ∧ ∀ q, q % 4096 ∉ T → zln G' q = zln G q ∧ ziv G' q = ziv G q ∧ zrv G' q = zrv G q
theorem zfr.rf {T : List Nat} {G : ZG} : zfr T G G := ⟨fun _ => Nat.le_refl _, fun _ _ => rfl, fun _ _ => ⟨rfl, rfl, rfl⟩⟩
theorem zfr.trans {T : List Nat} {G G1 G2 : ZG} (h : zfr T G G1) (h2 : zfr T G1 G2) : zfr T G G2 :=
  ⟨fun t => Nat.le_trans (h.1 t) (h2.1 t), fun t ht => (h2.2.1 t ht).trans (h.2.1 t ht), fun q hq => ⟨(h2.2.2 q hq).1.trans (h.2.2 q hq).1, (h2.2.2 q hq).2.1.trans (h.2.2 q hq).2.1, (h2.2.2 q hq).2.2.trans (h.2.2 q hq).2.2⟩⟩
theorem zfr.mono {T T' : List Nat} {G G1 : ZG} (h : zfr T G G1) (hs : ∀ t, t ∈ T → t ∈ T') : zfr T' G G1 :=
  ⟨h.1, fun t ht => h.2.1 t (fun h9 => ht (hs t h9)), fun q hq => h.2.2 q (fun h9 => hq (hs _ h9))⟩
theorem zfr.si {T : List Nat} {G : ZG} {q k : Nat} {x : Int32} (h : q % 4096 ∈ T) : zfr T G (zsi G q k x) :=
  ⟨fun _ => Nat.le_refl _, fun _ _ => rfl, fun a ha => ⟨rfl, by
    funext j
    rw [ziv_si, if_neg]
    rintro ⟨e, -⟩
    exact ha (e ▸ h), rfl⟩⟩
theorem zfr.sr {T : List Nat} {G : ZG} {q k r : Nat} (h : q % 4096 ∈ T) : zfr T G (zsr G q k r) :=
  ⟨fun _ => Nat.le_refl _, fun _ _ => rfl, fun a ha => ⟨rfl, rfl, by
    funext j
    rw [zrv_sr, if_neg]
    rintro ⟨e, -⟩
    exact ha (e ▸ h)⟩⟩
theorem zfr.nw {T : List Nat} {G : ZG} {t n : Nat} (ht : t < 4096) (h : t ∈ T) : zfr T G (znw G t n) := by
  refine ⟨fun u => ?_, fun u hu => ?_, fun a ha => ?_⟩
  · rw [zcn_nw]
    split
    · rename_i e; rw [e]; omega
    · omega
  · rw [zcn_nw, if_neg (show ¬ u = t from fun e => hu (by rw [e]; exact h))]
  · have hne : a ≠ zp t (zcn G t) := fun e => ha (by rw [e, zp_mod ht]; exact h)
    refine ⟨by rw [zln_nw, if_neg hne], ?_, ?_⟩ <;> funext j
    · rw [ziv_nw, if_neg hne]
    · rw [zrv_nw, if_neg hne]
theorem zfr.cpR {T : List Nat} {G : ZG} {q r sp dp n : Nat} (h : r % 4096 ∈ T) : zfr T G (zcpR G q r sp dp n) :=
  ⟨fun _ => Nat.le_refl _, fun _ _ => rfl, fun a ha => ⟨rfl, rfl, by
    funext j
    rw [zrv_cpR, if_neg]
    rintro ⟨e, -⟩
    exact ha (e ▸ h)⟩⟩
theorem zfr.cpI {T : List Nat} {G : ZG} {q r sp dp n : Nat} (h : r % 4096 ∈ T) : zfr T G (zcpI G q r sp dp n) :=
  ⟨fun _ => Nat.le_refl _, fun _ _ => rfl, fun a ha => ⟨rfl, by
    funext j
    rw [ziv_cpI, if_neg]
    rintro ⟨e, -⟩
    exact ha (e ▸ h), rfl⟩⟩
theorem zfr.dup {T : List Nat} {G : ZG} {q t : Nat} (ht : t < 4096) (h : t ∈ T) : zfr T G (zdup G q t) := by
  refine ⟨fun u => ?_, fun u hu => ?_, fun a ha => ?_⟩
  · show zcn G u ≤ (if u = t then zcn G t + 1 else zcn G u)
    split
    · rename_i e; rw [e]; omega
    · omega
  · show (if u = t then zcn G t + 1 else zcn G u) = _
    rw [if_neg (show ¬ u = t from fun e => hu (by rw [e]; exact h))]
  · have hne : a ≠ zp t (zcn G t) := fun e => ha (by rw [e, zp_mod ht]; exact h)
    refine ⟨if_neg hne, ?_, ?_⟩ <;> funext j
    · show (if a = zp t (zcn G t) then _ else ziv G a j) = _
      rw [if_neg hne]
    · show (if a = zp t (zcn G t) then _ else zrv G a j) = _
      rw [if_neg hne]
theorem zfr.al {T : List Nat} {G G' : ZG} (h : zfr T G G') {q : Nat} (hq : zal G q) : zal G' q := Nat.lt_of_lt_of_le hq (h.1 _)
theorem zfr.ob {T : List Nat} {G G' : ZG} (h : zfr T G G') {q c : Nat} (hq : zob G q c) : zob G' q c := ⟨h.al hq.1, hq.2⟩
theorem zfr.ar {T : List Nat} {G G' : ZG} (h : zfr T G G') {q c : Nat} (hq : zar G q c) : zar G' q c := ⟨h.al hq.1, hq.2⟩
theorem zfr.rd {T : List Nat} {G G' : ZG} (h : zfr T G G') {q : Nat} {c : FieldType} (hq : zrd G q c) : zrd G' q c := ⟨h.al hq.1, hq.2⟩
theorem zfr.ln {T : List Nat} {G G' : ZG} (h : zfr T G G') {t i : Nat} (ht : t < 4096) (hT : t ∉ T) : zln G' (zp t i) = zln G (zp t i) := (h.2.2 _ (by rw [zp_mod ht]; exact hT)).1
theorem zfr.iv {T : List Nat} {G G' : ZG} (h : zfr T G G') {t i : Nat} (ht : t < 4096) (hT : t ∉ T) : ziv G' (zp t i) = ziv G (zp t i) := (h.2.2 _ (by rw [zp_mod ht]; exact hT)).2.1
theorem zfr.rv {T : List Nat} {G G' : ZG} (h : zfr T G G') {t i : Nat} (ht : t < 4096) (hT : t ∉ T) : zrv G' (zp t i) = zrv G (zp t i) := (h.2.2 _ (by rw [zp_mod ht]; exact hT)).2.2
