/-! public methods: hands, give -/
section ZCt
variable {E : ZE} {l : Launch} {K : ZG} {w m n1 m1 : Nat} {S S' : ZS9} {r : Int32} {X X' : ZG}
/-- the tags that the object lies in, the true office's own aside -/
def PT : List Nat := [384, 1034, 1, 3073, 4095, 128, 1035, 288, 192, 1032, 3600, 3601, 225, 6, 3078, 33, 352, 7, 3079, 65]
theorem PO.gen {T : List Nat} {m' : Nat} (h : PO K S m n1 m1 X) (hf : zfr T X X') (hT : ∀ t, t ∈ PT → t ∉ T) (hC : ∀ t, t ∈ T → t ∈ CT) (hO : OF 0 S' (S' 416 42) m' X') (hS : ∀ t k, pk t k ∨ tk t k → S' t k = S t k) (hI : SI S') : PO K S' m' n1 m1 X' := by
  obtain ⟨p1, p2, p3, p4, p5, -, p7, p8⟩ := h
  have hT2 : ∀ t k, tk t k → S' t k = S t k := fun t k hc => hS t k (Or.inr hc)
  have hS : ∀ t k, pk t k → S' t k = S t k := fun t k hc => hS t k (Or.inl hc)
  have n : ∀ t, t = 384 ∨ t = 1034 ∨ t = 1 ∨ t = 3073 ∨ t = 4095 ∨ t = 128 ∨ t = 1035 ∨ t = 288 ∨ t = 192 ∨ t = 1032 ∨ t = 3600 ∨ t = 3601 ∨ t = 225 ∨ t = 6 ∨ t = 3078 ∨ t = 33 ∨ t = 352 ∨ t = 7 ∨ t = 3079 ∨ t = 65 → t ∉ T := fun t ht => hT t (by unfold PT; simp; omega)
  exact ⟨p1.fr hf (n _ (by omega)), (p2.fr hf (n _ (by omega)) (n _ (by omega))).cg hT2, (p3.fr hf (n _ (by omega)) (n _ (by omega)) (n _ (by omega)) (n _ (by omega)) (n _ (by omega))).cg (SI_nL p8) hS, (p4.fr hf (n _ (by omega)) (n _ (by omega)) (n _ (by omega))).cg hS, p5.fr hf (n _ (by omega)) (n _ (by omega)) hC, hO, (p7.fr hf (n _ (by omega)) (n _ (by omega)) (n _ (by omega)) (n _ (by omega)) (n _ (by omega)) (n _ (by omega)) (n _ (by omega)) (n _ (by omega)) (n _ (by omega))).cg hS, hI⟩
theorem c_setHands (h : PO K S m n1 m1 X) {d : Nat} (hd : d < 4) (x : Int32) : zMet E l mX2_setHands 0 0 [.ref (zp 96 0), .int (Int32.ofNat d), .int x] X (zVx (fun X' => PO K (zup S 1146 d x) m n1 m1 X')) := by
  have hc := h.of.cd
  refine z_meth (by decide) (Nat.le_of_ble_eq_true rfl) (by simp [Value.category]) (wpt_X2_setHands_0 ?_); unfold wp_X2_setHands_0
  rw [hc.2.2.1, hc.2.2.2.1.2.1, n_nn (by omega)]
  refine ie (n_neg (by omega)) (ie (by rw [show (4 : Int32) = Int32.ofNat 4 from rfl, n_le (by omega) (by omega)]; omega) ⟨hc.1, hc.2.2.2.1.1, n_in hd (by omega), fun G1 e1 => ⟨rfl, ?_⟩⟩)
  have hf : zfr [1033] X G1 := by rw [e1]; exact zfr.si (by rw [zp_mod (by omega)]; simp)
  have no : ∀ t, t ≠ 1033 → t ∉ [1033] := fun t h => by simp [h]
  have ks : ∀ t i, t ≠ 1146 → zup S 1146 d x t i = S t i := fun t i ht => zup_ne (by omega)
  refine h.gen hf (fun t ht => no t (by unfold PT at ht; simp at ht; omega)) (by decide) ?_ (fun t i hc => ks t i (by unfold pk tk at hc; omega)) (h.si.cg (fun t i hc => ks t i (by unfold sc at hc; omega)) (by rw [ks _ _ (by omega)]; exact h.or) (Nat.le_trans h.of.ri.2.2.1.2 (by omega)))
  rw [ks _ _ (by omega)]
  obtain ⟨o1, o2, o3, o4, o5, o6, o7, o8⟩ := h.of
  have hl := o8.2.2
  have nT9 : nT (zup S 1146 d x) = nT S := by unfold nT; rw [ks _ _ (by omega)]
  obtain ⟨h1, h2, h3, ⟨h4, h5, h6⟩, h7, h8, h9⟩ := o5
  refine ⟨o1, o2.up (by omega), o3.cg (fun t i hc => ks t i (by omega)), (o4.cg (ks _ _ (by omega)) (fun t i hc => ks t i (by omega))).fr hf (no _ (by omega)) (no _ (by omega)) (no _ (by omega)) (no _ (by omega)) (no _ (by omega)) (no _ (by omega)) (no _ (by omega)), ?_, (o6.cg (fun i hc => ks _ i (by omega))).fr hf (no _ (by omega)), o7.fr hf (no _ (by omega)), ?_⟩
  · unfold CD
    rw [nT9]
    refine ⟨hf.ob h1, by rw [hf.rv (by omega) (no _ (by omega))]; exact h2, by rw [hf.rv (by omega) (no _ (by omega))]; exact h3, ⟨hf.ar h4, by rw [e1, zln_si]; exact h5, fun d2 hd2 => ?_⟩, h7.fr hf (by omega) (no _ (by omega)) (no _ (by omega)) (no _ (by omega)), by rw [hf.2.1 _ (no _ (by omega))]; exact h8, fun k hk => ?_⟩
    · rw [e1, ziv_si, zup_at]
      by_cases c : d2 = d
      · rw [if_pos ⟨rfl, c⟩, if_pos ⟨rfl, c⟩]
      · rw [if_neg (fun z => c z.2), if_neg (fun z => c z.2)]; exact h6 d2 hd2
    · have := h9 k hk
      unfold LR at *
      rw [hf.iv (by omega) (no _ (by omega)), ks _ _ (by omega), ks _ _ (by omega), ks _ _ (by omega), ks _ _ (by omega), ks _ _ (by omega)]
      exact this
  · exact (o8.fr o1 hf (no _ (by omega)) (no _ (by omega)) (no _ (by omega)) (no _ (by omega)) (no _ (by omega)) (no _ (by omega)) ⟨hl.1.fr hf (by omega) (no _ (by omega)) (no _ (by omega)) (no _ (by omega)), by rw [hf.2.1 _ (no _ (by omega))]; exact hl.2.1, hl.2.2.2.1⟩ (Nat.le_refl _) (fun b _ i _ => by rw [hf.iv (by omega) (no _ (by omega))])).cg (fun t i hc => ks t i (by unfold oc at hc; omega))
theorem p_hands (htr : l.stackTraces = false) (h : PO K S m n1 m1 X) (x n : Int32) : zMet E l mX11_hands 7 7 [.ref (zp 384 0), .int x, .int n] X (cO cn (xs xIO xIA xIA) (fHands S x n) (fun S' G' => PO K S' m n1 m1 G')) := by
  refine z_meth (by decide) (Nat.le_of_ble_eq_true rfl) (by simp [Value.category]) (wpt_X11_hands_0 ?_); unfold wp_X11_hands_0
  by_cases hx : inn x 0 3
  · obtain ⟨d, hd, rfl⟩ := inn_nat (n := 3) (by omega) hx
    have bad : ¬ inn n 0 30 → fHands S (Int32.ofNat d) n = (2, 0, S) := fun hc => by unfold fHands; rw [f3f (nn hx), f3t hc]
    refine cV (c_desk htr (by omega)) (by decide) ⟨fun c => ?_, fun c => ⟨fun c2 => ?_, fun c2 => cV (c_demand1 htr) (by decide) ?_⟩⟩
    · rw [bad (fun z => z.1 c)]
      exact xcV_th (c_demand0 htr) (by decide) (by decide) (cO_ex (by decide) rfl h)
    · rw [bad (fun z => z.2 c2)]
      exact xcV_th (c_demand0 htr) (by decide) (by decide) (cO_ex (by decide) rfl h)
    · have ef : fHands S (Int32.ofNat d) n = (0, 0, zup S 1146 d n) := by unfold fHands; rw [f3f (nn hx), f3f (nn ⟨c, c2⟩), n_nn (by omega)]
      rw [h.o.2.2.2.2.1, ef]
      exact ⟨h.o.1, h.of.cd.1, cVx (c_setHands h (by omega) n) (by decide) (Nat.zero_le _) (fun G2 h2 => cO_ok rfl h2)⟩
  · have ef : fHands S x n = (1, 0, S) := by unfold fHands; rw [f3t hx]
    rw [ef]
    exact xcV_th (c_deskNo htr hx) (by decide) (by decide) (cO_ex (by decide) rfl h)
theorem c_isItems (x : Int32) : zMet E l mX11_isItems 0 0 [.int x] X (zI (zb (inn x 0 255)) X) := by
  refine z_meth (by decide) (Nat.le_of_ble_eq_true rfl) (by simp [Value.category]) (wpt_X11_isItems_0 ?_); unfold wp_X11_isItems_0
  refine ⟨fun c => ⟨by rw [zbz (fun z => z.1 c)], rfl⟩, fun c => ⟨fun c2 => ⟨by rw [zbz (fun z => z.2 c2)], rfl⟩, fun c2 => ⟨by rw [zb_t ⟨c, c2⟩], rfl⟩⟩⟩
theorem PO.putI {a : Nat} {v : Int32} (h : PO K S m n1 m1 X) : PO K (zup S 1157 a v) m n1 m1 (zsi X (zp 32 a) 8 v) := by
  have hf : zfr (TW 0) X (zsi X (zp 32 a) 8 v) := fsi (by omega) TWa
  have n : ∀ t, t ≠ 224 ∧ t ≠ 32 ∧ t ≠ 64 ∧ t ≠ 5 ∧ t ≠ 3077 → t ∉ TW 0 := fun t h => TWn (by omega)
  have ks : ∀ t i, t ≠ 1157 → zup S 1157 a v t i = S t i := fun t i ht => zup_ne (by omega)
  refine h.ofc hf ?_ (fun t i hc => ks t i (by unfold pk tk at hc; omega)) (h.si.cg (fun t i hc => ks t i (by unfold sc at hc; omega)) (by rw [ks _ _ (by omega)]; exact h.or) (Nat.le_trans h.of.ri.2.2.1.2 (by omega)))
  rw [ks _ _ (by omega)]
  obtain ⟨o1, o2, o3, o4, o5, o6, o7, o8⟩ := h.of
  exact ⟨o1, o2.up (by omega), o3.cg (fun t i hc => ks t i (by omega)), (o4.cg (ks _ _ (by omega)) (fun t i hc => ks t i (by omega))).fr hf (n _ (by omega)) (n _ (by omega)) (n _ (by omega)) (n _ (by omega)) (n _ (by omega)) (n _ (by omega)) (n _ (by omega)), (o5.cg (ks _ _ (by omega)) (fun t i hc => ks t i (by omega))).fr hf (n _ (by omega)) (n _ (by omega)) (n _ (by omega)) (n _ (by omega)) (n _ (by omega)) (n _ (by omega)), (o6.cg (fun i hc => ks _ i (by omega))).fr hf (n _ (by omega)), o7.fr hf (n _ (by omega)), o8.putI o1⟩
theorem p_give (htr : l.stackTraces = false) (h : PO K S m n1 m1 X) (x i : Int32) : zMet E l mX11_give 7 7 [.ref (zp 384 0), .int x, .int i] X (cO cy (xs xIO xIA xIS) (fGive S x i) (fun S' G' => PO K S' m n1 m1 G')) := by
  have hA := h.of.nA2
  by_cases hx : zin x (nA S)
  · obtain ⟨a, ha, rfl⟩ := zin_of hx (by omega)
    have ef : fGive S (Int32.ofNat a) i = fCalls3 (¬ inn i 0 255) (2, 0, S) (fCalls3 (¬ S 1165 (7 * a + 0) = 1) (3, 0, S) (0, rLacks (zgive S a i) a, zgive2 (zgive S a i) a)) := by unfold fGive; rw [f3f (nn hx), n_nn (by omega)]
    rw [ef]
    by_cases hi : inn i 0 255
    · rw [f3f (nn hi)]
      generalize hQ : cO cy (xs xIO xIA xIS) (fCalls3 (¬ S 1165 (7 * a + 0) = 1) (3, 0, S) (0, rLacks (zgive S a i) a, zgive2 (zgive S a i) a)) (fun S' G' => PO K S' m n1 m1 G') = Q
      have e26 : ∀ s0, (s0 = 0 ∧ ¬ S 1165 (7 * a + 0) = 1) ∨ (s0 = 1 ∧ S 1165 (7 * a + 0) = 1) → zW E l mX11_give 7 7 X Q 7 26 [none, none, some (.int i), some (.ref (zp 32 a))] [.int s0] X := by
        intro s0 hs
        refine wpt_X11_give_26 ?_; unfold wp_X11_give_26
        rcases hs with ⟨rfl, c⟩ | ⟨rfl, c⟩
        · refine xcV_th (c_allow0 htr) (by decide) (by decide) ?_
          rw [← hQ, f3t c]
          exact cO_ex (by decide) rfl h
        · refine cV (c_allow1 htr) (by decide) ?_
          rw [show ziv X (zp 32 a) 8 = S 1157 a from h.of.a8 ha]
          refine ⟨h.of.ob ha, h.of.ob ha, fun G3 e3 => ?_⟩
          have h3 : PO K (zgive S a i) m n1 m1 G3 := by rw [e3]; exact h.putI
          have ha3 : a < nA (zgive S a i) := by unfold zgive; rw [nA_up (by omega)]; exact ha
          have hl := c_lacking (E := E) (l := l) h3.of.so (by decide) ha3
          refine ⟨h3.of.ob ha3, cI hl (by decide) ⟨fun c2 => ⟨h3.of.ob ha3, cI hl (by decide) ?_⟩, fun c2 => ⟨h3.of.ob ha3, fun G10 e10 => ?_⟩⟩⟩
          · rw [← hQ, f3f (nn c)]
            unfold zgive2
            rw [if_neg c2]
            exact cO_ok rfl h3
          · have c2 := Classical.not_not.mp c2
            have h10 : PO K (zup (zgive S a i) 1165 (7 * a + 0) 0) m n1 m1 G10 := by
              rw [e10]
              exact h3.zd (frA (w := 0) (by decide) zfr.rf) (zdk.up (by unfold zdc; omega)) (h3.of.putA (by unfold gk; omega) (by omega)) (zup_ne (by omega)) (h3.si.2.2.1.nv (by decide) (by decide) (by decide)) (h3.si.2.2.2.2.up ha3 (by omega))
            have ha10 : a < nA (zup (zgive S a i) 1165 (7 * a + 0) 0) := by rw [nA_up (by omega)]; exact ha3
            have hl2 := c_lacking (E := E) (l := l) h10.of.so (by decide) ha10
            have el : rLacks (zup (zgive S a i) 1165 (7 * a + 0) 0) a = rLacks (zgive S a i) a := by unfold rLacks; rw [zup_ne (by omega), zup_ne (by omega)]
            rw [el] at hl2
            refine ⟨h10.of.ob ha10, cI hl2 (by decide) ?_⟩
            rw [← hQ, f3f (nn c)]
            unfold zgive2
            rw [if_pos c2]
            exact cO_ok rfl h10
      refine z_meth (by decide) (Nat.le_of_ble_eq_true rfl) (by simp [Value.category]) (wpt_X11_give_0 ?_); unfold wp_X11_give_0
      refine ⟨h.o.1, cR (c_askingAt htr h ha) (by decide) (cI (c_isItems i) (by decide) ?_)⟩
      rw [zb_t hi]
      refine cV (c_demand1 htr) (by decide) ⟨h.of.ob ha, ?_⟩
      rw [show ziv X (zp 32 a) 7 = S 1165 (7 * a + 0) from h.of.a7 ha]
      exact ⟨fun c => e26 0 (Or.inl ⟨rfl, c⟩), fun c => e26 1 (Or.inr ⟨rfl, Classical.not_not.mp c⟩)⟩
    · rw [f3t hi]
      refine z_meth (by decide) (Nat.le_of_ble_eq_true rfl) (by simp [Value.category]) (wpt_X11_give_0 ?_); unfold wp_X11_give_0
      refine ⟨h.o.1, cR (c_askingAt htr h ha) (by decide) (cI (c_isItems i) (by decide) ?_)⟩
      rw [zbz hi]
      exact xcV_th (c_demand0 htr) (by decide) (by decide) (cO_ex (by decide) rfl h)
  · have ef : fGive S x i = (1, 0, S) := by unfold fGive; rw [f3t hx]
    rw [ef]
    refine z_meth (by decide) (Nat.le_of_ble_eq_true rfl) (by simp [Value.category]) (wpt_X11_give_0 ?_); unfold wp_X11_give_0
    exact ⟨h.o.1, xcR_th (c_askingNo htr h hx) (by decide) (by decide) (cO_ex (by decide) rfl h)⟩
end ZCt
