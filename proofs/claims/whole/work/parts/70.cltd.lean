/-! the class's store grows; the tape is used up; public methods: name -/
section ZDd
variable {E : ZE} {l : Launch} {K : ZG} {w m n1 m1 : Nat} {S S' : ZS9} {r : Int32} {X X' : ZG}
/-- the tags whose things lie unchanged while further ones come -/
def GT : List Nat := [128, 1035, 192, 1032, 352, 1036, 1037]
def zgr (T : List Nat) (X X' : ZG) : Prop := zfr T X X' ∧ (∀ t, t ∈ T → t ∈ GT) ∧ ∀ t i, t < 4096 → i < zcn X t → zln X' (zp t i) = zln X (zp t i) ∧ ziv X' (zp t i) = ziv X (zp t i) ∧ zrv X' (zp t i) = zrv X (zp t i)
theorem zgr.of {T : List Nat} (hf : zfr T X X') (hT : ∀ t, t ∈ T → t ∈ GT) (ho : ∀ t, t ∈ T → ∀ i, i < zcn X t → zln X' (zp t i) = zln X (zp t i) ∧ ziv X' (zp t i) = ziv X (zp t i) ∧ zrv X' (zp t i) = zrv X (zp t i)) : zgr T X X' := by
  refine ⟨hf, hT, fun t i ht hi => ?_⟩
  by_cases h : t ∈ T
  · exact ho t h i hi
  · exact ⟨hf.ln ht h, hf.iv ht h, hf.rv ht h⟩
theorem zgr.trans {T T2 : List Nat} {X2 : ZG} (h : zgr T X X') (h2 : zgr T2 X' X2) : zgr (T ++ T2) X X2 := by
  refine ⟨(h.1.mono (fun t ht => List.mem_append.mpr (Or.inl ht))).trans (h2.1.mono (fun t ht => List.mem_append.mpr (Or.inr ht))), fun t ht => (List.mem_append.mp ht).elim (h.2.1 t) (h2.2.1 t), fun t i ht hi => ?_⟩
  obtain ⟨a, b, c⟩ := h.2.2 t i ht hi
  obtain ⟨a2, b2, c2⟩ := h2.2.2 t i ht (Nat.lt_of_lt_of_le hi (h.1.1 t))
  exact ⟨a2.trans a, b2.trans b, c2.trans c⟩
theorem zgr.nw {t n : Nat} (ht : t ∈ GT) (h4 : t < 4096) : zgr [t] X (znw X t n) := by
  refine zgr.of (zfr.nw h4 (by simp)) (fun u hu => by rw [List.mem_singleton.mp hu]; exact ht) (fun u hu i hi => ?_)
  rw [List.mem_singleton.mp hu] at hi ⊢
  have hne : zp t i ≠ zp t (zcn X t) := zp_ni h4 (by omega)
  refine ⟨by rw [zln_nw, if_neg hne], ?_, ?_⟩
  · funext k; rw [ziv_nw, if_neg hne]
  · funext k; rw [zrv_nw, if_neg hne]
/-- a change of a thing that wasn't there -/
theorem zgr.ch {T : List Nat} {X2 : ZG} {t i : Nat} (h : zgr T X X') (ht : t ∈ T) (h4 : t < 4096) (hi : zcn X t ≤ i) (hc : zcn X2 = zcn X') (hl : zln X2 = zln X') (ho : ∀ q, q ≠ zp t i → ziv X2 q = ziv X' q ∧ zrv X2 q = zrv X' q) : zgr T X X2 := by
  refine ⟨h.1.trans (zfr_of (t := t) (i := i) h4 ht hc hl ho), h.2.1, fun u j hu hj => ?_⟩
  have hne : zp u j ≠ zp t i := fun e => by
    obtain ⟨e1, e2⟩ := zp_inj hu h4 e
    rw [e1] at hj; omega
  obtain ⟨a, b, c⟩ := h.2.2 u j hu hj
  rw [hl, (ho _ hne).1, (ho _ hne).2]
  exact ⟨a, b, c⟩
theorem SO.gr {T : List Nat} (h : SO w S r m X) (hw : w < 2) (hg : zgr T X X') : SO w S r m X' := by
  obtain ⟨hf, hT, sm⟩ := hg
  have no : ∀ t, t ∉ GT → t ∉ T := fun t h1 h2 => h1 (hT t h2)
  have ng : ∀ t, t = 224 + w ∨ t = 32 + w ∨ t = 64 + w ∨ t = 4 + 2 * w ∨ t = 3076 + 2 * w ∨ t = 5 + 2 * w ∨ t = 3077 + 2 * w ∨ t = 4095 → t ∉ T := fun t ht => no t (by unfold GT; simp; omega)
  obtain ⟨⟨o1, o2, o3, o4, o5, o6, o7⟩, ⟨a1, a2, a3⟩, ⟨b1, b2, b3, b4, b5⟩⟩ := h
  refine ⟨⟨hf.ob o1, ?_, ?_, ?_, ?_, ?_, fun k h1 h2 => ?_⟩, ⟨?_, ?_, fun a ha => ?_⟩, ⟨?_, ?_, b3, b4, fun b hb k hk => ?_⟩⟩
  · rw [hf.rv (by omega) (ng _ (by omega))]; exact o2
  · rw [hf.rv (by omega) (ng _ (by omega))]; exact o3
  · rw [hf.rv (by omega) (ng _ (by omega))]; exact o4
  · rw [hf.rv (by omega) (ng _ (by omega))]; exact o5
  · rw [hf.rv (by omega) (ng _ (by omega))]; exact o6
  · rw [hf.iv (by omega) (ng _ (by omega))]; exact o7 k h1 h2
  · exact a1.fr hf (by omega) (ng _ (by omega)) (by rw [show 3072 + (4 + 2 * w) = 3076 + 2 * w by omega]; exact ng _ (by omega)) (ng _ (by omega))
  · rw [hf.2.1 _ (ng _ (by omega))]; exact a2
  · exact AOK.st (a3 a ha) (hf.1 _) ⟨hf.rv (by omega) (ng _ (by omega)), hf.iv (by omega) (ng _ (by omega))⟩ (fun v hv => (sm 352 v (by omega) hv).2.1)
  · exact b1.fr hf (by omega) (ng _ (by omega)) (by rw [show 3072 + (5 + 2 * w) = 3077 + 2 * w by omega]; exact ng _ (by omega)) (ng _ (by omega))
  · rw [hf.2.1 _ (ng _ (by omega))]; exact b2
  · rw [hf.iv (by omega) (ng _ (by omega))]; exact b5 b hb k hk
theorem OF.gr {T : List Nat} (h : OF w S r m X) (hg : zgr T X X') : OF w S r m X' := by
  obtain ⟨o1, o2, o3, o4, o5, o6, o7, o8⟩ := h
  have ng : ∀ t, t = 256 ∨ t = 2 ∨ t = 3074 ∨ t = 288 ∨ t = 1030 ∨ t = 1031 ∨ t = 4095 ∨ t = 96 ∨ t = 3 ∨ t = 3075 ∨ t = 1033 ∨ t = 160 ∨ t = 320 ∨ t = 3602 → t ∉ T := fun t ht h2 => by
    have := hg.2.1 t h2
    unfold GT at this; simp at this; omega
  exact ⟨o1, o2, o3, o4.fr hg.1 (ng _ (by omega)) (ng _ (by omega)) (ng _ (by omega)) (ng _ (by omega)) (ng _ (by omega)) (ng _ (by omega)) (ng _ (by omega)), o5.fr hg.1 (ng _ (by omega)) (ng _ (by omega)) (ng _ (by omega)) (ng _ (by omega)) (ng _ (by omega)) (ng _ (by omega)), o6.fr hg.1 (ng _ (by omega)), o7.fr hg.1 (ng _ (by omega)), o8.gr o1 hg⟩
theorem PLa.gr {T : List Nat} (h : PLa S X) (hg : zgr T X X') : PLa S X' := by
  have ng : ∀ t, t = 1 ∨ t = 3073 ∨ t = 4095 → t ∉ T := fun t ht h2 => by
    have := hg.2.1 t h2
    unfold GT at this; simp at this; omega
  obtain ⟨hf, -, sm⟩ := hg
  obtain ⟨f, a, b, ⟨x, y0, y1, y2, y3, y4, y5⟩, nl⟩ := h
  have nl' : NL9 S X' := by
    obtain ⟨s1, s2, s3⟩ := sm 128 0 (by omega) y0
    obtain ⟨t1, t2, t3⟩ := sm 1035 x (by omega) y3
    exact ⟨⟨x, Nat.lt_of_lt_of_le y0 (hf.1 _), by rw [s2]; exact y1, by rw [s2]; exact y2, Nat.lt_of_lt_of_le y3 (hf.1 _), by rw [s3]; exact y4, by rw [t1]; exact y5⟩, nl⟩
  refine ⟨f, a.fr hf (by omega) (ng _ (by omega)) (ng _ (by omega)) (ng _ (by omega)), fun j hj => ?_, nl'⟩
  obtain ⟨i, i1, i2, i3, i4, x, x1, x2, tv, x3, L, x4, x5, x6⟩ := b j hj
  obtain ⟨s1, s2, s3⟩ := sm 128 i (by omega) i1
  obtain ⟨t1, t2, t3⟩ := sm 1035 x (by omega) x1
  refine ⟨i, Nat.lt_of_lt_of_le i1 (hf.1 _), i2, ?_, ?_, x, Nat.lt_of_lt_of_le x1 (hf.1 _), ?_, tv, ?_, L, ?_, x5, x6⟩
  · rw [i2, s2, ← i2]; exact i3
  · rw [i2, s2, ← i2]; exact i4
  · rw [i2, s3, ← i2]; exact x2
  · unfold TVl; rw [t1, t2]; exact x3
  · rw [t1]; exact x4
theorem PNa.gr {T : List Nat} (h : PNa S X) (hg : zgr T X X') : PNa S X' := by
  have ng : 288 ∉ T := fun h2 => by
    have := hg.2.1 _ h2
    unfold GT at this; simp at this
  obtain ⟨hf, -, sm⟩ := hg
  intro p hp
  have := h p hp
  unfold NM at *
  rw [hf.rv (t := 288) (by omega) ng]
  rcases this with h | ⟨h0, i, i1, i2, j, j1, j2, j3, j4⟩
  · exact Or.inl h
  · exact Or.inr ⟨h0, i, Nat.lt_of_lt_of_le i1 (hf.1 _), i2, j, Nat.lt_of_lt_of_le j1 (hf.1 _), by rw [(sm 192 i (by omega) i1).2.2]; exact j2, by rw [(sm 1032 j (by omega) j1).1]; exact j3, fun k hk => by rw [(sm 1032 j (by omega) j1).2.1]; exact j4 k hk⟩
theorem TR.gr {T : List Nat} {n2 m2 : Nat} (h : TR S n2 m2 X) (hg : zgr T X X') : TR S n2 m2 X' := by
  have ng : ∀ t, t = 225 ∨ t = 6 ∨ t = 3078 ∨ t = 33 ∨ t = 7 ∨ t = 3079 ∨ t = 65 ∨ t = 4095 → t ∉ T := fun t ht h2 => by
    have := hg.2.1 t h2
    unfold GT at this; simp at this; omega
  obtain ⟨hf, -, sm⟩ := hg
  obtain ⟨⟨o1, o2⟩, ⟨a1, a2, a3, a4⟩, b1, b2, b3⟩ := h
  refine ⟨⟨hf.ob o1, ?_⟩, ⟨a1.fr hf (by omega) (ng _ (by omega)) (ng _ (by omega)) (ng _ (by omega)), by rw [hf.2.1 _ (ng _ (by omega))]; exact a2, a3, fun a ha => ?_⟩, b1.fr hf (by omega) (ng _ (by omega)) (ng _ (by omega)) (ng _ (by omega)), by rw [hf.2.1 _ (ng _ (by omega))]; exact b2, b3⟩
  · rw [hf.rv (by omega) (ng _ (by omega))]; exact o2
  · exact (a4 a ha).st (hf.1 _) (hf.rv (by omega) (ng _ (by omega))) (fun k _ => by rw [hf.iv (by omega) (ng _ (by omega))]) (fun v hv => (sm 352 v (by omega) hv).2.1)
theorem PO.gr {T : List Nat} (h : PO K S m n1 m1 X) (hg : zgr T X X') : PO K S m n1 m1 X' := by
  have ng : ∀ t, t = 384 ∨ t = 1034 ∨ t = 3600 ∨ t = 3601 → t ∉ T := fun t ht h2 => by
    have := hg.2.1 t h2
    unfold GT at this; simp at this; omega
  have hc : ∀ t, t ∈ GT → t ∈ CT := by decide
  obtain ⟨p1, p2, p3, p4, p5, p6, p7, p8⟩ := h
  exact ⟨p1.fr hg.1 (ng _ (by omega)), p2.fr hg.1 (ng _ (by omega)) (ng _ (by omega)), p3.gr hg, p4.gr hg, p5.fr hg.1 (ng _ (by omega)) (ng _ (by omega)) (fun t ht => hc t (hg.2.1 t ht)), p6.gr hg, p7.gr hg, p8⟩
theorem PO.wm (h : PO K S m n1 m1 X) : PWm K X := h.2.2.2.2.1
/-- the last fault -/
theorem PO.flt {x : Int32} (h : PO K S m n1 m1 X) : PO K (zup S 416 8 x) m n1 m1 (zsi X (zp 384 0) 2 x) := by
  have hf : zfr [384, 1034] X (zsi X (zp 384 0) 2 x) := zfr.si (by rw [zp_mod (by omega)]; simp)
  obtain ⟨⟨t1, t2⟩, t3⟩ := h.si.1.1
  have eT : nTp (zup S 416 8 x) = nTp S := by unfold nTp; rw [zup_ne (by omega)]
  obtain ⟨a1, a2, a3, a4, a5⟩ := h.2.1
  refine h.tp hf rfl (fun t k hc => zup_ne (by unfold tk at hc; omega)) ⟨a1, a2, ?_, fun j hj => ?_, ?_⟩ ⟨?_, fun j hj => ?_⟩
  · rw [iv_k (by omega), zup_ne (by omega)]; exact a3
  · rw [eT] at hj
    rw [iv_n (zp_ne (by omega) (by omega) (by omega)), zup_ne (by omega)]; exact a4 j hj
  · rw [iv_s, zup_s]
  · rw [eT, zup_ne (by omega)]; exact ⟨t1, t2⟩
  · rw [eT] at hj
    rw [zup_ne (by omega)]; exact t3 j hj
theorem c_copyI2 {d b a m t : Nat} {G : ZG} (ha : zar G a 0) (hat : a % 4096 ≠ t) (h1 : 1024 ≤ t) (h2 : t < 1536) (hm : m ≤ zln G a) (hM : zln G a ≤ 100000) (hb : m + 1 ≤ b) (hd : 2 ≤ d) :
    zMet E l mJ7_copyOf_59c91 d b [.ref a, .int (Int32.ofNat m)] G (zRx (fun q G' => zCPY G a m t q G' ∧ ∀ i, i < zcn G t → zln G' (zp t i) = zln G (zp t i) ∧ ziv G' (zp t i) = ziv G (zp t i) ∧ zrv G' (zp t i) = zrv G (zp t i))) := by
  have hane : a ≠ zp t (zcn G t) := fun e => hat (by rw [e, zp_mod (by omega)])
  refine z_meth (by decide) (Nat.le_of_ble_eq_true rfl) (by simp [Value.category]) (wpt_J7_copyOf_59c91_0 ?_)
  refine ⟨Or.inl ha, fun h9 => ?_, fun h9 => ?_⟩
  · rw [n_inj (by omega) (by omega)] at h9
    refine ⟨n_neg (by omega), by rw [n_nn (by omega)]; omega, by rw [n_nn (by omega)]; omega, t, h1, by omega, by omega, ?_⟩
    rw [n_nn (by omega)]
    intro q e2 G3 e3 k4 e4
    have hfr : zfr [t] G G3 := by rw [e3]; exact zfr.nw (by omega) (by simp)
    have ln3 : zln G3 a = zln G a := by rw [e3, zln_nw, if_neg hane]
    have ln4 : zln G3 q = m := by rw [e3, e2, zln_nw, if_pos rfl]
    have al4 : zal G3 q := by rw [e3, e2]; exact (zal_nw (by omega) _).mpr (Or.inr rfl)
    refine ⟨Or.inl (hfr.ar ha), ?_⟩
    rw [ln3]
    refine xcI_of (d1 := 0) (b1 := 0) (c_min _ _) (by omega) (Nat.zero_le _) ?_
    rw [if_pos (by rw [n_lt (by omega) (by omega)]; omega), n_nn (by omega)]
    refine ⟨hfr.ar ha, ⟨al4, ?_⟩, by decide, by decide, n_neg (by omega), ?_, ?_, hd, ?_⟩
    · rw [e2, zp_mod (by omega)]; omega
    · rw [ln3]; show 0 + _ ≤ _; omega
    · rw [ln4]; show 0 + _ ≤ _; omega
    · intro G8 e8
      refine ⟨q, rfl, ⟨e2, ?_, ?_, fun j hj => ?_, ?_⟩, fun i hi => ?_⟩
      · rw [e8, zcn_cpI, e3, zcn_nw, if_pos rfl]
      · rw [e8, zln_cpI, ln4]
      · rw [e8, ziv_cpI, if_pos ⟨rfl, Nat.zero_le _, by show j < 0 + m; omega⟩, e3, ziv_nw, if_neg hane]
        congr 1
        show 0 + (j - 0) = j
        omega
      · rw [e8]; exact hfr.trans (zfr.cpI (by rw [e2, zp_mod (by omega)]; simp))
      · have hne : zp t i ≠ zp t (zcn G t) := zp_ni (by omega) (by omega)
        refine ⟨?_, ?_, ?_⟩
        · rw [e8, zln_cpI, e3, zln_nw, if_neg hne]
        · funext k; rw [e8, ziv_cpI, if_neg (fun z => hne (by rw [z.1, e2])), e3, ziv_nw, if_neg hne]
        · funext k; rw [e8, zrv_cpI, e3, zrv_nw, if_neg hne]
  · rw [Classical.not_not, n_inj (by omega) (by omega)] at h9
    refine ⟨ha, hd, by omega, t, h1, by omega, by omega, ?_⟩
    intro q e2 G3 e3 k4 e4
    have al4 : zal G3 q := by
      rw [e3, e2]
      show zal (znw G t 0) _
      exact (zal_nw (by omega) _).mpr (Or.inr rfl)
    refine ⟨⟨al4, ?_⟩, q, rfl, ⟨e2, ?_, ?_, fun j hj => ?_, ?_⟩, fun i hi => ?_⟩
    · rw [e2, zp_mod (by omega)]; omega
    · rw [e3]; exact if_pos rfl
    · rw [e3, e2]
      show (if _ = _ then zln G a else _) = m
      rw [if_pos rfl, h9]
    · rw [e3, e2]
      show (if _ = _ then ziv G a j else _) = _
      rw [if_pos rfl]
    · rw [e3]; exact zfr.dup (by omega) (by simp)
    · have hne : zp t i ≠ zp t (zcn G t) := zp_ni (by omega) (by omega)
      rw [e3]
      refine ⟨if_neg hne, ?_, ?_⟩
      · funext k
        show (if zp t i = zp t (zcn G t) then ziv G a k else ziv G (zp t i) k) = _
        rw [if_neg hne]
      · funext k
        show (if zp t i = zp t (zcn G t) then 0 else zrv G (zp t i) k) = _
        rw [if_neg hne]
theorem c_useTape (h : PO K S m n1 m1 X) {t : Nat} (ht : t = 1035 ∨ t = 1036) : zMet E l mX11_useTapeUp 3 402 [.ref (zp 384 0)] X (zRx (fun q X' => q = zp t (zcn X t) ∧ PO K (zuse S) m n1 m1 X' ∧ TXc X' q (nTp S) (wtape S) ∧ zcn X' t = zcn X t + 1 ∧ zfr [384, t] X X')) := by
  obtain ⟨⟨t1, t2⟩, t3⟩ := h.si.1.1
  obtain ⟨a1, a2, a3, a4, a5⟩ := h.2.1
  have hG : t ∈ GT := by rcases ht with rfl | rfl <;> decide
  have hne : (zp 1034 0) % 4096 ≠ t := by rw [zp_mod (by omega)]; omega
  refine z_meth (by decide) (Nat.le_of_ble_eq_true rfl) (by simp [Value.category]) (wpt_X11_useTapeUp_0 ?_); unfold wp_X11_useTapeUp_0
  rw [h.o.2.1, a3, t1]
  refine ⟨h.o.1, h.o.1, cRx (c_copyI2 (t := t) (b := nTp S + 1) (d := 2) a1 hne (by omega) (by omega) (by omega) (by omega) (Nat.le_refl _) (Nat.le_refl _)) (by decide) (by omega) (fun q G2 h2 => ?_)⟩
  obtain ⟨⟨rfl, c1, c2, c3, c4⟩, c5⟩ := h2
  have g2 : zgr [t] X G2 := zgr.of c4 (fun u hu => by rw [List.mem_singleton.mp hu]; exact hG) (fun u hu i hi => by
    rw [List.mem_singleton.mp hu] at hi ⊢
    exact c5 i hi)
  have h2 : PO K S m n1 m1 G2 := h.gr g2
  refine ⟨h2.o.1, fun G4 e4 => ⟨_, rfl, rfl, by rw [e4]; exact h2.cut (n := 0) (by omega), ?_, by rw [e4]; exact c1, ?_⟩⟩
  · have hq : zp t (zcn X t) ≠ zp 384 0 := zp_ne (by omega) (by omega) (by omega)
    refine ⟨by rw [e4]; exact zar_zp (by omega) (by omega) (by omega) (by rw [zcn_si, c1]; omega), by rw [e4]; exact c2, t2, fun j hj => ?_, fun j hj => ?_⟩
    · rw [e4, iv_n hq, c3 j hj, a4 j hj]; rfl
    · obtain ⟨mm, hm, em⟩ := t3 j hj
      exact ⟨mm, hm, by unfold wtape; rw [em]; exact sx_and mm hm⟩
  · rw [e4]; exact (c4.mono (by simp)).trans (zfr.si (by rw [zp_mod (by omega)]; simp))
theorem PLa.cg2 (h : PLa S X) (hn : nL S ≤ 12) (hS : ∀ t k, (t = 416 ∧ k = 19) ∨ (1110 ≤ t ∧ t ≤ 1118) → S' t k = S t k) : PLa S' X := by
  have e : nL S' = nL S := by unfold nL; rw [hS _ _ (by omega)]
  obtain ⟨f, a, b, nl⟩ := h
  refine ⟨f, by rw [e]; exact a, fun j hj => ?_, nl.cg e (fun k _ => hS _ _ (by omega))⟩
  rw [e] at hj
  obtain ⟨i, i1, i2, i3, i4, x, x1, x2, tv, x3, L, x4, ⟨z1, z2, z3, z4, z5⟩, x6⟩ := b j hj
  refine ⟨i, i1, i2, by rw [hS _ _ (by omega)]; exact i3, by rw [hS _ _ (by omega)]; exact i4, x, x1, x2, tv, x3, L, x4, ⟨by rw [hS _ _ (by omega)]; exact z1, z2, z3, fun m hm => ?_, fun i hi => ?_⟩, x6⟩
  · have := z4 m hm
    unfold zrow at *
    rw [hS 1112 _ (by omega), hS 1113 _ (by omega), hS 1114 _ (by omega), hS 1115 _ (by omega)]
    exact this
  · rw [hS 1116 _ (by omega), hS 1117 _ (by omega), hS 1118 _ (by omega)]
    exact z5 i hi
theorem TR.cg2 {n2 m2 : Nat} (h : TR S n2 m2 X) (hS : ∀ t k, (t = 416 ∧ k = 66) ∨ (1153 ≤ t ∧ t ≤ 1156) ∨ t = 2158 ∨ (1159 ≤ t ∧ t ≤ 1164) ∨ t = 2163 → S' t k = S t k) : TR S' n2 m2 X := by
  have e : nA S' = nA S := by unfold nA; rw [hS _ _ (by omega)]
  obtain ⟨o, ⟨a1, a2, a3, a4⟩, b⟩ := h
  refine ⟨o, ⟨a1, a2, by rw [e]; exact a3, fun a ha => ?_⟩, b⟩
  obtain ⟨p1, ⟨v, v1, v2, v3⟩, p3⟩ := a4 a ha
  refine ⟨by unfold pn; rw [hS 1153 _ (by omega)]; exact p1, ⟨v, v1, v2, ?_⟩, fun k k1 k2 => ?_⟩
  · unfold VD at *
    rw [hS 1159 _ (by omega), hS 1160 _ (by omega), hS 1162 _ (by omega), hS 1164 _ (by omega), hS 2163 _ (by omega), hS 1161 _ (by omega)]
    exact v3
  · rw [p3 k k1 k2]
    match k, k1, k2 with
    | 0, _, _ => rfl
    | 2, _, _ => show S 1154 a = S' 1154 a; rw [hS _ _ (by omega)]
    | 3, _, _ => show S 1155 a = S' 1155 a; rw [hS _ _ (by omega)]
    | 4, _, _ => show S 1156 a = S' 1156 a; rw [hS _ _ (by omega)]
    | 5, _, _ => show S 2158 a = S' 2158 a; rw [hS _ _ (by omega)]
theorem SI.n2 (h : SI S) (hS : ∀ t k, sc t k → t ≠ 2133 → S' t k = S t k) (ho : S' 416 42 = S 416 42) (hB : nB S ≤ 1000) (h2 : ∀ p, nP S ≤ p → S' 2133 p = 0) : SI S' := by
  obtain ⟨⟨⟨⟨t1, t2⟩, t3⟩, l1, o1, b1, q1, -⟩, sb, sd, td, sn⟩ := h
  have k : ∀ t k, sc t k ∧ t ≠ 2133 → S' t k = S t k := fun t k hc => hS t k hc.1 hc.2
  have eT : nTp S' = nTp S := by unfold nTp; rw [k _ _ (by unfold sc; omega)]
  have eL : nL S' = nL S := by unfold nL; rw [k _ _ (by unfold sc; omega)]
  have eP : nP S' = nP S := by unfold nP; rw [k _ _ (by unfold sc; omega)]
  have eA : nA S' = nA S := by unfold nA; rw [k _ _ (by unfold sc; omega)]
  have eB : nB S' = nB S := by unfold nB; rw [k _ _ (by unfold sc; omega)]
  refine ⟨?_, fun p hp => ?_, sd.cg (fun j => k _ _ (by unfold sc; omega)) (by omega) (by omega), ?_, fun a ha => ?_⟩
  · unfold SK TB
    rw [eT, eL, eP, k 416 3 (by unfold sc; omega), k 416 19 (by unfold sc; omega), ho]
    exact ⟨⟨⟨t1, t2⟩, fun j hj => by rw [k _ _ (by unfold sc; omega)]; exact t3 j hj⟩, l1, o1, fun p hp => by rw [k _ _ (by unfold sc; omega)]; exact b1 p hp, fun p q a b c => by rw [k _ _ (by unfold sc; omega)]; exact q1 p q a b c, h2⟩
  · rw [eP] at hp
    rw [k 416 1 (by unfold sc; omega), k 1129 _ (by unfold sc; omega)]; exact sb p hp
  · unfold TD; rw [k 416 1 (by unfold sc; omega)]; exact td
  · rw [eA] at ha
    rw [k 1165 _ (by unfold sc; omega), k 1165 _ (by unfold sc; omega)]; exact sn a ha
theorem znam_o {p : Nat} {L : List Int32} {t k : Nat} (h : ¬ (t = 1132 ∧ 24 * p ≤ k ∧ k < 24 * p + 24)) (h2 : ¬ (t = 2133 ∧ k = p)) : znameR S p L t k = S t k := by
  unfold znameR; rw [if_neg h, if_neg h2]
/-- a person's name is put -/
theorem PO.nam {p i j : Nat} {L : List Int32} (h : PO K S m n1 m1 X) (hp : p < nP S) (hi : i < zcn X 192) (hj : j < zcn X 1032) (hw : NMw X i j L) : PO K (znameR S p L) m n1 m1 (zsr X (zp 288 p) 3 (zp 192 i)) := by
  have hf : zfr [288] X (zsr X (zp 288 p) 3 (zp 192 i)) := zfr.sr (by rw [zp_mod (by omega)]; simp)
  have no : ∀ t, t ≠ 288 → t ∉ [288] := fun t h => by simp [h]
  have ks : ∀ t k, t ≠ 1132 → t ≠ 2133 → znameR S p L t k = S t k := fun t k h1 h2 => znam_o (by omega) (by omega)
  obtain ⟨p1, p2, p3, p4, p5, p6, p7, p8⟩ := h
  have hB := p6.ri.2.2.1.2
  have eP : nP (znameR S p L) = nP S := by unfold nP; rw [ks _ _ (by omega) (by omega)]
  refine ⟨p1.fr hf (no _ (by omega)), (p2.fr hf (no _ (by omega)) (no _ (by omega))).cg (fun t k hc => ks t k (by unfold tk at hc; omega) (by unfold tk at hc; omega)), (p3.fr hf (no _ (by omega)) (no _ (by omega)) (no _ (by omega)) (no _ (by omega)) (no _ (by omega))).cg2 (SI_nL p8) (fun t k hc => ks t k (by omega) (by omega)), fun p' hp' => ?_, p5.fr hf (no _ (by omega)) (no _ (by omega)) (by decide), ?_, (p7.fr hf (no _ (by omega)) (no _ (by omega)) (no _ (by omega)) (no _ (by omega)) (no _ (by omega)) (no _ (by omega)) (no _ (by omega)) (no _ (by omega)) (no _ (by omega))).cg2 (fun t k hc => ks t k (by omega) (by omega)), p8.n2 (fun t k hc hne => ks t k (by unfold sc at hc; omega) hne) (ks _ _ (by omega) (by omega)) (by omega) (fun q hq => ?_)⟩
  · rw [eP] at hp'
    by_cases e : p' = p
    · subst e
      obtain ⟨w1, w2, w3, w4, w5, w6⟩ := hw
      refine Or.inr ⟨?_, i, hi, by rw [zrv_sr, if_pos ⟨rfl, rfl⟩], j, hj, ?_, w4, fun k hk => ?_⟩
      · unfold znameR; rw [if_neg (by omega), if_pos ⟨rfl, rfl⟩]; decide
      · rw [zrv_sr, if_neg (fun z => zp_ne (by omega) (by omega) (by omega) z.1)]; exact w2
      · show ziv X (zp 1032 j) k = _
        rw [w6 k hk]
        unfold znameR
        rw [if_pos (show 1132 = 1132 ∧ 24 * p' ≤ 24 * p' + k ∧ 24 * p' + k < 24 * p' + 24 from ⟨rfl, by omega, by omega⟩), show 24 * p' + k - 24 * p' = k by omega]
    · have := p4 p' hp'
      unfold NM at *
      rw [znam_o (by omega) (by omega)]
      rcases this with ⟨h0, h1⟩ | ⟨h0, i', i1, i2, j', j1, j2, j3, j4⟩
      · exact Or.inl ⟨h0, by rw [zrv_sr, if_neg (fun z => zp_ni (by omega) e z.1)]; exact h1⟩
      · refine Or.inr ⟨h0, i', i1, by rw [zrv_sr, if_neg (fun z => zp_ni (by omega) e z.1)]; exact i2, j', j1, by rw [zrv_sr, if_neg (fun z => zp_ne (by omega) (by omega) (by omega) z.1)]; exact j2, j3, fun k hk => ?_⟩
        show ziv X (zp 1032 j') k = _
        rw [j4 k hk, znam_o (by omega) (by omega)]
  · rw [ks 416 42 (by omega) (by omega)]
    have o := p6
    refine o.mk2 hf (fun t ht => no t (by omega)) (o.ri.cg (fun t k hc => ks t k (by omega) (by omega))) (o.rj.cg (fun t k hc => ks t k (by omega) (by omega))) ?_ ((o.cd.cg (ks _ _ (by omega) (by omega)) (fun t k hc => ks t k (by omega) (by omega))).fr hf (no _ (by omega)) (no _ (by omega)) (no _ (by omega)) (no _ (by omega)) (no _ (by omega)) (no _ (by omega))) (fun t k hc => ks t k (by unfold oc at hc; omega) (by unfold oc at hc; omega))
    obtain ⟨c1, c2, c3, c4, c7⟩ := o.cp.cg (S' := znameR S p L) (ks _ _ (by omega) (by omega)) (fun t k hc => ks t k (by omega) (by omega))
    refine ⟨hf.ob c1, by rw [hf.rv (by omega) (no _ (by omega))]; exact c2, c3.fr hf (by omega) (no _ (by omega)) (no _ (by omega)) (no _ (by omega)), c4, fun q hq => ?_⟩
    obtain ⟨x1, ⟨y1, y2⟩, ⟨z1, z2⟩⟩ := c7 q hq
    exact ⟨x1, ⟨by rw [zrv_sr, if_neg (fun z => nomatch z.2)]; exact y1, y2⟩, ⟨by rw [zrv_sr, if_neg (fun z => nomatch z.2)]; exact z1, z2⟩⟩
  · rw [znam_o (by omega) (by omega)]
    exact p8.1.2.2.2.2.2 q hq
theorem p_name (htr : l.stackTraces = false) (h : PO K S m n1 m1 X) (x : Int32) : zMet E l mX11_name 9 440 [.ref (zp 384 0), .int x] X (cO cy (xs xIO xIA xIA) (fName S x) (fun S' G' => PO K S' m n1 m1 G')) := by
  have hN := h.of.ri.2.1.2
  have eP : nP (zuse S) = nP S := by unfold nP zuse; rw [zup_ne (by omega)]
  generalize hQ : cO cy (xs xIO xIA xIA) (fName S x) (fun S' G' => PO K S' m n1 m1 G') = Q
  refine z_meth (by decide) (Nat.le_of_ble_eq_true rfl) (by simp [Value.category]) (wpt_X11_name_0 ?_); unfold wp_X11_name_0
  refine ⟨h.o.1, cRx (c_useTape h (t := 1036) (Or.inr rfl)) (by decide) (by decide) (fun q G2 h2 => ?_)⟩
  obtain ⟨rfl, h2, x2, c2, f2⟩ := h2
  by_cases hx : zin x (nP S)
  · obtain ⟨p, hp, rfl⟩ := zin_of hx (by omega)
    have hp2 : p < nP (zuse S) := by rw [eP]; exact hp
    refine ⟨h2.o.1, cR (c_personAt htr h2 hp2) (by decide) (cI (c_firstWrong h2.wm x2) (by decide) ⟨h2.o.1, fun G10 e10 => ?_⟩)⟩
    have h10 : PO K (zup (zuse S) 416 8 (zfw (nmE (wtape S) (nTp S) 0))) m n1 m1 G10 := by rw [e10]; exact h2.flt
    have v10 : ziv G10 (zp 384 0) 2 = zfw (nmE (wtape S) (nTp S) 0) := by rw [e10, iv_s]
    refine ⟨h10.o.1, ?_⟩
    rw [v10]
    cases hE : nmE (wtape S) (nTp S) 0 with
    | some i =>
      have ef : fName S (Int32.ofNat p) = (2, 0, zup (zuse S) 416 8 (Int32.ofNat i)) := by unfold fName; rw [f3f (nn hx), hE]
      rw [hE] at h10
      have hi : i ≤ nTp S := by
        have key : ∀ m i j, nmE (wtape S) m i = some j → j ≤ i + m := by
          intro m
          induction m with
          | zero =>
            intro i j hj
            by_cases hg : zgap (zwas (wtape S) i)
            · rw [nmE_0t hg] at hj; cases hj; omega
            · rw [nmE_0f hg] at hj; cases hj
          | succ m ih =>
            intro i j hj
            by_cases hb : nbad (wtape S) i
            · rw [nmE_t hb] at hj; cases hj; omega
            · rw [nmE_f hb] at hj; have := ih _ _ hj; omega
        have := key _ _ _ hE; omega
      have hle := x2.2.2.1
      refine ⟨fun _ => xcV_th (c_demand0 htr) (by decide) (by decide) ?_, fun c => absurd ?_ c⟩
      · rw [← hQ, ef]; exact cO_ex (by decide) rfl h10
      · intro z
        have : ¬ Int32.ofNat i < 0 := n_neg (by omega)
        rw [show Int32.ofNat i = -1 from z] at this
        exact this (by decide)
    | none =>
      have ef : fName S (Int32.ofNat p) = (0, Int32.ofNat (ztrn (wtape S) (nTp S)).length, zup (znameR (zuse S) p (ztrn (wtape S) (nTp S))) 416 8 (-1)) := by unfold fName; rw [f3f (nn hx), hE, n_nn (by omega)]
      rw [hE] at h10
      refine ⟨fun c => absurd rfl c, fun _ => cV (c_demand1 htr) (by decide) ⟨by decide, 192, by decide, by decide, by decide, fun q23 e23 G24 e24 k25 e25 => ?_⟩⟩
      have g24 : zgr [192] G10 G24 := by rw [e24]; exact zgr.nw (by decide) (by omega)
      have al24 : zal G24 q23 := by rw [e24, e23]; exact (zal_nw (by omega) _).mpr (Or.inr rfl)
      have o24 : zob G24 (zp 192 (zcn G10 192)) 6 := by
        rw [← e23]
        exact ⟨al24, by rw [e23, zp_mod (by omega)]; omega, by rw [e23, zp_mod (by omega)]⟩
      have h24 : PO K (zup (zuse S) 416 8 (zfw none)) m n1 m1 G24 := h10.gr g24
      have hqne : zp 1036 (zcn X 1036) % 4096 ≠ 192 ∧ zp 1036 (zcn X 1036) % 4096 ≠ 1032 := by rw [zp_mod (by omega)]; omega
      have x24 : TXc G24 (zp 1036 (zcn X 1036)) (nTp S) (wtape S) := by
        obtain ⟨y1, y2, y3, y4, y5⟩ := x2
        have f10 : zfr [384] G2 G10 := by rw [e10]; exact zfr.si (by rw [zp_mod (by omega)]; simp)
        have f : zfr [384, 192] G2 G24 := (f10.mono (by simp)).trans (g24.1.mono (by simp))
        have no : 1036 ∉ [384, 192] := by decide
        exact ⟨f.ar y1, by rw [f.ln (by omega) no]; exact y2, y3, fun j hj => by rw [f.iv (by omega) no]; exact y4 j hj, y5⟩
      rw [e23]
      refine ⟨o24.1, cVx (c_initN h24.wm x24 hqne hE o24 rfl) (by decide) (by omega) (fun G26 h26 => ?_)⟩
      obtain ⟨w26, c26, d26, f26, s26, t26⟩ := h26
      have g26 : zgr ([192] ++ [192, 1032]) G10 G26 := by
        refine zgr.of ((g24.1.mono (by simp)).trans (f26.mono (by simp))) (by decide) (fun t ht i hi => ?_)
        obtain ⟨y1, y2, y3⟩ := g24.2.2 t i (by simp at ht; omega) hi
        have ht : t = 192 ∨ t = 1032 := by simp at ht; omega
        rcases ht with rfl | rfl
        · have hne : i ≠ zcn G10 192 := by omega
          obtain ⟨z1, z2, z3⟩ := s26 i hne
          exact ⟨z3.trans y1, z1.trans y2, z2.trans y3⟩
        · have hi2 : i < zcn G24 1032 := Nat.lt_of_lt_of_le hi (g24.1.1 _)
          obtain ⟨z1, z2, z3⟩ := t26 i hi2
          exact ⟨z2.trans y1, z1.trans y2, z3.trans y3⟩
      have h26 : PO K (zup (zuse S) 416 8 (zfw none)) m n1 m1 G26 := h10.gr g26
      have hp3 : p < nP (zup (zuse S) 416 8 (zfw none)) := by
        show p < (zup (zuse S) 416 8 (zfw none) 416 34).toNatClampNeg
        rw [zup_ne (by omega)]; exact hp2
      have n192 : zcn G26 192 = zcn G10 192 + 1 := by rw [d26, e24, zcn_nw, if_pos rfl]
      refine ⟨h26.of.cp.ob hp3, fun G28 e28 => ?_⟩
      have h28 : PO K (znameR (zup (zuse S) 416 8 (zfw none)) p (ztrn (wtape S) (nTp S))) m n1 m1 G28 := by
        rw [e28]
        exact h26.nam hp3 (by omega) (by rw [c26]; omega) w26
      have hp4 : p < nP (znameR (zup (zuse S) 416 8 (zfw none)) p (ztrn (wtape S) (nTp S))) := by
        show p < (znameR (zup (zuse S) 416 8 (zfw none)) p (ztrn (wtape S) (nTp S)) 416 34).toNatClampNeg
        rw [znam_o (by omega) (by omega)]; exact hp3
      have r28 : zrv G28 (zp 288 p) 3 = zp 192 (zcn G10 192) := by rw [e28, zrv_sr, if_pos ⟨rfl, rfl⟩]
      rw [r28]
      refine ⟨h28.of.cp.ob hp4, by rw [e28]; exact w26.1, ?_⟩
      rw [← hQ, ef]
      have ev : ziv G28 (zp 192 (zcn G10 192)) 1 = Int32.ofNat (ztrn (wtape S) (nTp S)).length := by rw [e28, ziv_sr]; exact w26.2.2.2.2.1
      rw [ev]
      refine cO_ok rfl ?_
      have es : zup (znameR (zuse S) p (ztrn (wtape S) (nTp S))) 416 8 (-1) = znameR (zup (zuse S) 416 8 (zfw none)) p (ztrn (wtape S) (nTp S)) := by
        funext t k
        rw [zup_at]
        by_cases c : t = 416 ∧ k = 8
        · rw [if_pos c, znam_o (by omega) (by omega), c.1, c.2, zup_s]; rfl
        · rw [if_neg c]
          unfold znameR
          rw [zup_ne c]
      rw [es]; exact h28
  · have ef : fName S x = (1, 0, zuse S) := by unfold fName; rw [f3t hx]
    refine ⟨h2.o.1, xcR_th (c_personNo htr h2 (by rw [eP]; exact hx)) (by decide) (by decide) ?_⟩
    rw [← hQ, ef]
    exact cO_ex (by decide) rfl h2
end ZDd
