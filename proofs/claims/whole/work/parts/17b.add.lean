/-! answers that are only known by a property -/
def zIx (P : Int32 → ZG → Prop) : ZQ := fun r G' => ∃ x, r = .inl (some (.int x)) ∧ P x G'
def zRx (P : Nat → ZG → Prop) : ZQ := fun r G' => ∃ x, r = .inl (some (.ref x)) ∧ P x G'
def zVx (P : ZG → Prop) : ZQ := fun r G' => r = .inl none ∧ P G'
section ZCombX
variable {E : ZE} {l : Launch} {Y : ZM} {d d1 b1 k : Nat} {as : List Value} {G : ZG}
theorem xcI_ex {KX : String → ZG → Prop} {K : Int32 → ZG → Nat → Prop} {P : Int32 → ZG → Prop} (hm : zMet E l Y d1 b1 as G (zIx P)) (hd : d1 + 1 ≤ d) (hb : b1 ≤ k) (hk : ∀ x G', P x G' → K x G' (k - b1)) : xcI E l Y d as G k KX K := ⟨d1, b1, _, hm, hd, hb, fun X G' h => (by obtain ⟨x, h1, -⟩ := h; cases h1), fun r G' h => by obtain ⟨x, h1, h2⟩ := h; cases h1; exact ⟨_, rfl, hk _ _ h2⟩⟩
theorem xcR_ex {KX : String → ZG → Prop} {K : Nat → ZG → Nat → Prop} {P : Nat → ZG → Prop} (hm : zMet E l Y d1 b1 as G (zRx P)) (hd : d1 + 1 ≤ d) (hb : b1 ≤ k) (hk : ∀ x G', P x G' → K x G' (k - b1)) : xcR E l Y d as G k KX K := ⟨d1, b1, _, hm, hd, hb, fun X G' h => (by obtain ⟨x, h1, -⟩ := h; cases h1), fun r G' h => by obtain ⟨x, h1, h2⟩ := h; cases h1; exact ⟨_, rfl, hk _ _ h2⟩⟩
theorem xcV_ex {KX : String → ZG → Prop} {K : ZG → Nat → Prop} {P : ZG → Prop} (hm : zMet E l Y d1 b1 as G (zVx P)) (hd : d1 + 1 ≤ d) (hb : b1 ≤ k) (hk : ∀ G', P G' → K G' (k - b1)) : xcV E l Y d as G k KX K := ⟨d1, b1, _, hm, hd, hb, fun X G' h => (by obtain ⟨h1, -⟩ := h; cases h1), fun r G' h => by obtain ⟨h1, h2⟩ := h; cases h1; exact ⟨rfl, hk _ h2⟩⟩
end ZCombX
/-! ArrayList.add -/
def zADD (G : ZG) (r n : Nat) (f : Nat → Nat) (e : Nat) (G' : ZG) : Prop := zAL G' r (n + 1) (fun j => if j = n then e else f j) ∧ zfr [r, 3072 + r] G G'
section ZAdd
variable {E : ZE} {l : Launch} {d b : Nat} {G : ZG} {r n : Nat} {f : Nat → Nat}
def zGROW (G : ZG) (r n : Nat) (f : Nat → Nat) (q : Nat) (G' : ZG) : Prop := ∃ i, q = zp (3072 + r) i ∧ i < zcn G' (3072 + r) ∧ zrv G' (zp r 0) 1 = q ∧ n < zln G' q ∧ zln G' q ≤ 10 + 2 * n ∧ (∀ j, j < n → zrv G' q j = f j) ∧ zfr [r, 3072 + r] G G' ∧ ziv G' (zp r 0) 2 = Int32.ofNat n
theorem c_grow (h : zAL G r n f) (h0 : 1 ≤ r) (hr : r < 32) (hn : n ≤ 1000) (hfull : zln G (zrv G (zp r 0) 1) = n) (hel : ∀ j, j < n → zel G (f j)) (hb : 2 * n + 12 ≤ b) (hd : 4 ≤ d) :
    zMet E l mJx4a65c_grow_92f84 d b [.ref (zp r 0), .int (Int32.ofNat (n + 1))] G (zRx (zGROW G r n f)) := by
  have hob : zob G (zp r 0) 0 := zob_zp (by omega) (by omega) ((zal_zp (by omega)).mp h.1)
  have hne : ∀ i, zp r 0 ≠ zp (3072 + r) i := fun i e => by have := (zp_inj (by omega) (by omega) e).1; omega
  refine z_meth (by decide) (Nat.le_of_ble_eq_true rfl) (by simp [Value.category]) (wpt_Jx4a65c_grow_92f84_0 ?_)
  rcases h.2.2.2 with ⟨b1, b2⟩ | ⟨i, b1, b2, b3, b4, b5, b6⟩
  · subst b1
    have hrd : zrd G (zp 4095 0) (.object "java/lang/Object") := ⟨h.2.2.1.1, by decide, by decide⟩
    refine ⟨hob, Or.inr (by rw [b2]; exact hrd), fun h9 => ?_, fun _ => ⟨hob, Or.inl b2, fun _ => ?_, fun h9 => absurd b2 h9⟩⟩
    · rw [hfull] at h9; exact absurd h9 (by decide)
    · refine xcI_of (d1 := 0) (b1 := 0) (c_max _ _) (by omega) (Nat.zero_le _) ?_
      have e : (if (10 : Int32) < Int32.ofNat (0 + 1) then Int32.ofNat (0 + 1) else 10) = 10 := by decide
      rw [e]
      refine ⟨by decide, by decide, by show 10 + 1 ≤ _; omega, 3072 + r, by omega, by omega, by omega, ?_⟩
      intro q e1 G6 e2 k e3 
      have e9 : (10 : Int32).toNatClampNeg = 10 := by decide
      rw [e9] at e2
      have hfr : zfr [r, 3072 + r] G G6 := by rw [e2]; exact zfr.nw (by omega) (by simp)
      refine ⟨hfr.ob hob, fun G8 e4 => ⟨q, rfl, zcn G (3072 + r), e1, ?_, ?_, ?_, ?_, ?_, ?_, ?_⟩⟩
      · rw [e4, zcn_sr, e2, zcn_nw, if_pos rfl]; omega
      · rw [e4, zrv_sr, if_pos ⟨rfl, rfl⟩]
      · rw [e4, zln_sr, e2, e1, zln_nw, if_pos rfl]; omega
      · rw [e4, zln_sr, e2, e1, zln_nw, if_pos rfl]; omega
      · intro j hj; omega
      · rw [e4]; exact hfr.trans (zfr.sr (by rw [zp_mod (by omega)]; simp))
      · rw [e4, ziv_sr, e2, ziv_nw, if_neg (hne _)]; exact h.2.1
  · have har : zar G (zp (3072 + r) i) 4 := zar_zp (by omega) (by omega) (by omega) b1
    rw [b2] at hfull
    have hbody : zW E l mJx4a65c_grow_92f84 d b G (zRx (zGROW G r n f)) b 20 [some (.ref (zp r 0)), some (.int (Int32.ofNat (n + 1))), some (.int (Int32.ofNat (zln G (zrv G (zp r 0) 1)))), none] [] G := by
      refine wpt_Jx4a65c_grow_92f84_20 ?_
      unfold wp_Jx4a65c_grow_92f84_20
      rw [b2, hfull, n_shr1 n (by omega), n_sub (by omega), show n + 1 - n = 1 by omega]
      refine xcI_of (d1 := 1) (b1 := 0) (c_newLen hn (by omega) (by omega)) (by omega) (Nat.zero_le _) ⟨hob, ?_⟩
      rw [b2]
      refine xcR_of (d1 := 3) (b1 := 2 * n + 12) (c_copyR (t := 3072 + r) har (by omega) (by omega) (by omega) (by omega) (by omega) (by omega) (by omega) (fun j hj => ?_)) (by omega) (by omega) ?_
      · rw [hfull] at hj; rw [b6 j hj]; exact hel j hj
      · have hfr : zfr [r, 3072 + r] G (zcpR (znw G (3072 + r) (n + max 1 (n / 2))) (zp (3072 + r) i) (zp (3072 + r) (zcn G (3072 + r))) 0 0 (zln G (zp (3072 + r) i))) :=
          (zfr.nw (by omega) (by simp)).trans (zfr.cpR (by rw [zp_mod (by omega)]; simp))
        refine ⟨hfr.ob hob, fun G7 e4 => ⟨_, rfl, zcn G (3072 + r), rfl, ?_, ?_, ?_, ?_, ?_, ?_, ?_⟩⟩
        · rw [e4, zcn_sr, zcn_cpR, zcn_nw, if_pos rfl]; omega
        · rw [e4, zrv_sr, if_pos ⟨rfl, rfl⟩]
        · rw [e4, zln_sr, zln_cpR, zln_nw, if_pos rfl]; omega
        · rw [e4, zln_sr, zln_cpR, zln_nw, if_pos rfl]; omega
        · intro j hj
          have hqi : zp (3072 + r) i ≠ zp (3072 + r) (zcn G (3072 + r)) := fun e => by have := (zp_inj (by omega) (by omega) e).2; omega
          rw [e4, zrv_sr, if_neg (fun z => hne _ z.1.symm), zrv_cpR, if_pos ⟨rfl, by omega, by omega⟩, zrv_nw, if_neg hqi, show 0 + (j - 0) = j by omega]
          exact b6 j hj
        · rw [e4]; exact hfr.trans (zfr.sr (by rw [zp_mod (by omega)]; simp))
        · rw [e4, ziv_sr]; show ziv (znw G (3072 + r) (n + max 1 (n / 2))) (zp r 0) 2 = _; rw [ziv_nw, if_neg (hne _)]; exact h.2.1
    refine ⟨hob, Or.inl (by rw [b2]; exact har), fun _ => hbody, fun h9 => ?_⟩
    rw [b2, hfull] at h9
    exact absurd ((n_lt (a := 0) (by omega) (by omega)).mpr (by omega)) h9
theorem c_grow0 (h : zAL G r n f) (h0 : 1 ≤ r) (hr : r < 32) (hn : n ≤ 1000) (hfull : zln G (zrv G (zp r 0) 1) = n) (hel : ∀ j, j < n → zel G (f j)) (hb : 2 * n + 12 ≤ b) (hd : 5 ≤ d) :
    zMet E l mJx4a65c_grow_d5877 d b [.ref (zp r 0)] G (zRx (zGROW G r n f)) := by
  have hob : zob G (zp r 0) 0 := zob_zp (by omega) (by omega) ((zal_zp (by omega)).mp h.1)
  refine z_meth (by decide) (Nat.le_of_ble_eq_true rfl) (by simp [Value.category]) (wpt_Jx4a65c_grow_d5877_0 ?_)
  refine ⟨hob, hob, ?_⟩
  rw [h.2.1, n_succ]
  exact xcR_ex (d1 := 4) (b1 := 2 * n + 12) (c_grow h h0 hr hn hfull hel (by omega) (by omega)) (by omega) hb (fun x G' hP => ⟨x, rfl, hP⟩)
theorem c_add3 {e a : Nat} (h : zAL G r n f) (h0 : 1 ≤ r) (hr : r < 32) (hn : n ≤ 1000) (he : zel G e) (hel : ∀ j, j < n → zel G (f j)) (ha : zrv G (zp r 0) 1 = a) (hb : 2 * n + 12 ≤ b) (hd : 6 ≤ d) :
    zMet E l mJx4a65c_add_72be8 d b [.ref (zp r 0), .ref e, .ref a, .int (Int32.ofNat n)] G (zVx (zADD G r n f e)) := by
  have hob : zob G (zp r 0) 0 := zob_zp (by omega) (by omega) ((zal_zp (by omega)).mp h.1)
  have hne : ∀ i, zp r 0 ≠ zp (3072 + r) i := fun i e => by have := (zp_inj (by omega) (by omega) e).1; omega
  refine z_meth (by decide) (Nat.le_of_ble_eq_true rfl) (by simp [Value.category]) (wpt_Jx4a65c_add_72be8_0 ?_)
  have hle : zln G a ≤ 10 + 2 * n := by
    rcases h.2.2.2 with ⟨b1, b2⟩ | ⟨i, b1, b2, b3, b4, b5, b6⟩
    · rw [← ha, b2, h.2.2.1.2]; omega
    · rw [← ha, b2]; exact b5
  have hacc : zar G a 4 ∨ zrd G a (.object "java/lang/Object") := by
    rcases h.2.2.2 with ⟨b1, b2⟩ | ⟨i, b1, b2, b3, b4, b5, b6⟩
    · rw [← ha, b2]; exact Or.inr ⟨h.2.2.1.1, by decide, by decide⟩
    · rw [← ha, b2]; exact Or.inl (zar_zp (by omega) (by omega) (by omega) b1)
  obtain ⟨ce, g1, g2, g3⟩ := he
  refine ⟨hacc, fun h9 => ?_, fun h9 => ⟨hob, ?_⟩⟩
  · rw [n_inj (by omega) (by omega)] at h9
    rcases h.2.2.2 with ⟨b1, b2⟩ | ⟨i, b1, b2, b3, b4, b5, b6⟩
    · rw [← ha, b2, h.2.2.1.2] at h9; omega
    · have e1 : a = zp (3072 + r) i := by rw [← ha, b2]
      subst e1
      refine ⟨zar_zp (by omega) (by omega) (by omega) b1, n_in (by omega) (by omega), ce, g1, g2, g3, ?_⟩
      intro G1 e1
      rw [n_nn (by omega)] at e1
      refine ⟨by rw [e1]; exact hob, ?_⟩
      intro G2 e2
      refine ⟨rfl, ⟨by rw [e2, e1]; exact h.1, ?_, ?_, Or.inr ⟨i, ?_, ?_, ?_, ?_, ?_, fun j hj => ?_⟩⟩, ?_⟩
      · rw [e2, ziv_si, if_pos ⟨rfl, rfl⟩, n_succ]
      · rw [e2, e1]; exact h.2.2.1
      · rw [e2, e1]; exact b1
      · rw [e2, zrv_si, e1, zrv_sr, if_neg (fun z => hne _ z.1)]; exact b2
      · rw [e2, e1]; show n + 1 ≤ zln G _; omega
      · rw [e2, e1]; exact b4
      · rw [e2, e1]; show zln G _ ≤ _; omega
      · rw [e2, zrv_si, e1, zrv_sr]
        show _ = (if j = n then e else f j)
        by_cases hjn : j = n
        · rw [if_pos ⟨rfl, hjn⟩, if_pos hjn]
        · rw [if_neg (fun z => hjn z.2), if_neg hjn]; exact b6 j (by omega)
      · rw [e2, e1]
        exact (zfr.sr (by rw [zp_mod (by omega)]; simp)).trans (zfr.si (by rw [zp_mod (by omega)]; simp))
  · rw [Classical.not_not, n_inj (by omega) (by omega)] at h9
    refine xcR_ex (d1 := 5) (b1 := 2 * n + 12) (c_grow0 h h0 hr hn (by rw [ha]; omega) hel (by omega) (by omega)) (by omega) hb ?_
    rintro q G4 ⟨i, e0, p1, p2, p3, p4, p5, p6, p7⟩
    subst e0
    refine ⟨zar_zp (by omega) (by omega) (by omega) p1, n_in p3 (by omega), ce, p6.ob g1, g2, g3, ?_⟩
    intro G6 e6
    rw [n_nn (by omega)] at e6
    refine ⟨by rw [e6]; exact p6.ob hob, ?_⟩
    intro G7 e7
    have f2 := p6.ln (t := 4095) (i := 0) (by omega) (by simp; omega)
    refine ⟨rfl, ⟨by rw [e7, e6]; exact p6.al h.1, ?_, ?_, Or.inr ⟨i, ?_, ?_, ?_, ?_, ?_, fun j hj => ?_⟩⟩, ?_⟩
    · rw [e7, ziv_si, if_pos ⟨rfl, rfl⟩, n_succ]
    · rw [e7, e6]; exact ⟨p6.al h.2.2.1.1, by show zln G4 _ = 0; rw [f2]; exact h.2.2.1.2⟩
    · rw [e7, e6]; exact p1
    · rw [e7, zrv_si, e6, zrv_sr, if_neg (fun z => hne _ z.1)]; exact p2
    · rw [e7, e6]; exact p3
    · rw [e7, e6]; show 0 < zln G4 _; omega
    · rw [e7, e6]; show zln G4 _ ≤ _; omega
    · rw [e7, zrv_si, e6, zrv_sr]
      show _ = (if j = n then e else f j)
      by_cases hjn : j = n
      · rw [if_pos ⟨rfl, hjn⟩, if_pos hjn]
      · rw [if_neg (fun z => hjn z.2), if_neg hjn]; exact p5 j (by omega)
    · rw [e7, e6]
      exact p6.trans ((zfr.sr (by rw [zp_mod (by omega)]; simp)).trans (zfr.si (by rw [zp_mod (by omega)]; simp)))
theorem c_add {e : Nat} (h : zAL G r n f) (h0 : 1 ≤ r) (hr : r < 32) (hn : n ≤ 1000) (he : zel G e) (hel : ∀ j, j < n → zel G (f j)) (hb : 2 * n + 12 ≤ b) (hd : 7 ≤ d) :
    zMet E l mJx4a65c_add_9ea2d d b [.ref (zp r 0), .ref e] G (zIx (fun x G' => x = 1 ∧ zADD G r n f e G')) := by
  have hob : zob G (zp r 0) 0 := zob_zp (by omega) (by omega) ((zal_zp (by omega)).mp h.1)
  refine z_meth (by decide) (Nat.le_of_ble_eq_true rfl) (by simp [Value.category]) (wpt_Jx4a65c_add_9ea2d_0 ?_)
  refine ⟨hob, hob, fun G1 e1 => ?_⟩
  have hf1 : zfr [r, 3072 + r] G G1 := by rw [e1]; exact zfr.si (by rw [zp_mod (by omega)]; simp)
  have h1 : zAL G1 r n f := by
    obtain ⟨a1, a2, a3, a4⟩ := h
    rw [e1]
    refine ⟨a1, ?_, a3, ?_⟩
    · rw [ziv_si, if_neg (by omega)]; exact a2
    · exact a4
  refine ⟨by rw [e1]; exact hob, by rw [e1]; exact hob, by rw [e1]; exact hob, ?_⟩
  rw [h1.2.1]
  have hel1 : ∀ q, zel G q → zel G1 q := fun q ⟨c, z1, z2, z3⟩ => ⟨c, hf1.ob z1, z2, z3⟩
  exact xcV_ex (d1 := 6) (b1 := 2 * n + 12) (c_add3 h1 h0 hr hn (hel1 _ he) (fun j hj => hel1 _ (hel j hj)) rfl (by omega) (by omega)) (by omega) hb (fun G' hP => ⟨1, rfl, rfl, hP.1, hf1.trans hP.2⟩)
end ZAdd
