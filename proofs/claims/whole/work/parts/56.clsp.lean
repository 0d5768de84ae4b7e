/-! the class's store, when other numbers change -/
/-- the cells that an office speaks of -/
def oc (t k : Nat) : Prop := (t = 416 ∧ (k = 66 ∨ k = 71 ∨ k = 1 ∨ k = 43 ∨ (72 ≤ k ∧ k ≤ 76))) ∨ (1153 ≤ t ∧ t ≤ 1165) ∨ t = 2158 ∨ t = 2163 ∨ (1167 ≤ t ∧ t ≤ 1170)
section ZCp
variable {K : ZG} {w m n1 m1 : Nat} {S S' : ZS9} {r : Int32} {X X' : ZG}
theorem SO.cg (h : SO w S r m X) (hS : ∀ t k, oc t k → S' t k = S t k) : SO w S' r m X := by
  obtain ⟨⟨o1, o2, o3, o4, o5, o6, o7⟩, ⟨a1, a2, a3⟩, ⟨b1, b2, b3, b4, b5⟩⟩ := h
  have hA : nA S' = nA S := by unfold nA; rw [hS _ _ (by unfold oc; omega)]
  have hB : nB S' = nB S := by unfold nB; rw [hS _ _ (by unfold oc; omega)]
  refine ⟨⟨o1, o2, o3, o4, o5, o6, fun k h1 h2 => ?_⟩, ⟨by rw [hA]; exact a1, by rw [hA]; exact a2, fun a ha => ?_⟩, ⟨b1, b2, by rw [hB]; exact b3, b4, fun b hb k hk => ?_⟩⟩
  · rw [o7 k h1 h2]
    unfold oFld
    rw [hS 416 71 (by unfold oc; omega), hS 416 1 (by unfold oc; omega), hS 416 43 (by unfold oc; omega), hS 416 72 (by unfold oc; omega), hS 416 73 (by unfold oc; omega), hS 416 74 (by unfold oc; omega), hS 416 75 (by unfold oc; omega), hS 416 76 (by unfold oc; omega)]
  · rw [hA] at ha
    exact (a3 a ha).cg (fun t k ht => hS t k (by unfold oc; omega))
  · rw [hB] at hb
    rw [b5 b hb k hk, hS _ _ (by unfold oc; omega)]
theorem RJ.cg (h : RJ S) (hS : ∀ t k, t = 1135 ∨ t = 1165 ∨ t = 1164 ∨ (t = 416 ∧ k = 1) → S' t k = S t k) : RJ S' := by
  refine ⟨h.1.cg (fun k => hS _ _ (by omega)), fun a => ?_, fun a => ?_, ?_⟩
  · rw [hS 1165 _ (by omega)]; exact h.2.1 a
  · rw [hS 1164 _ (by omega)]; exact h.2.2.1 a
  · rw [hS 416 1 (by omega)]; exact h.2.2.2
theorem RI.cg (h : RI S) (hS : ∀ t k, (t = 416 ∧ (k = 66 ∨ k = 34 ∨ k = 71 ∨ k = 52)) ∨ t = 1153 ∨ t = 2158 → S' t k = S t k) : RI S' := by
  unfold RI nA nP nB nT pn at *
  rw [hS 416 66 (by omega), hS 416 34 (by omega), hS 416 71 (by omega), hS 416 52 (by omega)]
  obtain ⟨a, b, c, d, e, f⟩ := h
  exact ⟨a, b, c, d, fun x hx => by rw [hS 1153 _ (by omega)]; exact e x hx, fun x => by rw [hS 2158 _ (by omega)]; exact f x⟩
/-- the cells that SI speaks of, the rule of order aside -/
def sc (t k : Nat) : Prop := (t = 416 ∧ (k = 1 ∨ k = 3 ∨ k = 19 ∨ k = 34 ∨ k = 66 ∨ k = 71)) ∨ t = 1602 ∨ t = 1129 ∨ t = 1135 ∨ t = 2133 ∨ t = 1165
theorem SI.cg (h : SI S) (hS : ∀ t k, sc t k → S' t k = S t k) (ho : S' 416 42 = 0 ∨ S' 416 42 = 1 ∨ S' 416 42 = 2) (hB : nB S ≤ 1000) : SI S' := by
  obtain ⟨⟨⟨⟨t1, t2⟩, t3⟩, l1, -, b1, q1, n2⟩, sb, sd, td, sn⟩ := h
  have k := hS
  have eT : nTp S' = nTp S := by unfold nTp; rw [k _ _ (by unfold sc; omega)]
  have eL : nL S' = nL S := by unfold nL; rw [k _ _ (by unfold sc; omega)]
  have eP : nP S' = nP S := by unfold nP; rw [k _ _ (by unfold sc; omega)]
  have eA : nA S' = nA S := by unfold nA; rw [k _ _ (by unfold sc; omega)]
  have eB : nB S' = nB S := by unfold nB; rw [k _ _ (by unfold sc; omega)]
  refine ⟨?_, fun p hp => ?_, sd.cg (fun j => k _ _ (by unfold sc; omega)) (by omega) (by omega), ?_, fun a ha => ?_⟩
  · unfold SK TB
    rw [eT, eL, eP, k 416 3 (by unfold sc; omega), k 416 19 (by unfold sc; omega)]
    exact ⟨⟨⟨t1, t2⟩, fun j hj => by rw [k _ _ (by unfold sc; omega)]; exact t3 j hj⟩, l1, ho, fun p hp => by rw [k _ _ (by unfold sc; omega)]; exact b1 p hp, fun p q a b c => by rw [k _ _ (by unfold sc; omega)]; exact q1 p q a b c, fun p hp => by rw [k _ _ (by unfold sc; omega)]; exact n2 p hp⟩
  · rw [eP] at hp
    rw [k 416 1 (by unfold sc; omega), k 1129 _ (by unfold sc; omega)]; exact sb p hp
  · unfold TD; rw [k 416 1 (by unfold sc; omega)]; exact td
  · rw [eA] at ha
    rw [k 1165 _ (by unfold sc; omega), k 1165 _ (by unfold sc; omega)]; exact sn a ha
theorem sim_no {t k : Nat} (h : (t = 416 ∧ (k = 1 ∨ k = 3 ∨ k = 8 ∨ k = 19 ∨ k = 34 ∨ (37 ≤ k ∧ k ≤ 45) ∨ k = 52 ∨ k = 66 ∨ (71 ≤ k ∧ k ≤ 76))) ∨ (1129 ≤ t ∧ t ≤ 1135) ∨ t = 1110 ∨ t = 1111 ∨ ((1112 ≤ t ∧ t ≤ 1115) ∧ k < 192) ∨ ((1116 ≤ t ∧ t ≤ 1118) ∧ k < 4800) ∨ (1146 ≤ t ∧ t ≤ 1170) ∨ t = 1602 ∨ t = 2130 ∨ t = 2133 ∨ t = 2158 ∨ t = 2163) : ¬ zscr t k := by
  intro hc
  unfold zscr at hc
  rcases hc with ⟨rfl, hc⟩ | rfl | rfl | rfl | rfl | rfl | rfl | rfl | rfl | rfl | hc | hc
  · omega
  · omega
  · omega
  · omega
  · omega
  · omega
  · omega
  · omega
  · omega
  · omega
  · omega
  · omega
/-- what is written on the way is nothing to the class -/
theorem PO.sim (h : PO K S m n1 m1 X) (hs : zsim S S') : PO K S' m n1 m1 X := by
  have k : ∀ t j, _ → S' t j = S t j := fun t j hc => hs t j (sim_no hc)
  obtain ⟨p1, p2, p3, p4, p5, p6, p7, p8⟩ := h
  have kp : ∀ t j, pk t j → S' t j = S t j := fun t j hc => k t j (by unfold pk at hc; omega)
  have kt : ∀ t j, tk t j → S' t j = S t j := fun t j hc => k t j (by unfold tk at hc; omega)
  have e42 : S' 416 42 = S 416 42 := k _ _ (by omega)
  have hB := p6.ri.2.2.1.2
  obtain ⟨o1, o2, o3, o4, o5, o6, o7, o8⟩ := p6
  refine ⟨p1, p2.cg kt, p3.cg (SI_nL p8) kp, p4.cg kp, p5, ?_, p7.cg kp, p8.cg (fun t j hc => k t j (by unfold sc at hc; omega)) (by rw [e42]; exact p8.1.2.2.1) (by omega)⟩
  rw [e42]
  exact ⟨o1, o2.cg (fun t j hc => k t j (by omega)), o3.cg (fun t j hc => k t j (by omega)), o4.cg (k _ _ (by omega)) (fun t j hc => k t j (by omega)), o5.cg (k _ _ (by omega)) (fun t j hc => k t j (by omega)), o6.cg (fun j hc => k _ j (by omega)), o7, o8.cg (fun t j hc => k t j (by unfold oc at hc; omega))⟩
/-- a number of the rules -/
def rk (j k : Nat) : Prop := (j = 37 ∧ k = 0) ∨ (j = 38 ∧ k = 1) ∨ (j = 39 ∧ k = 2) ∨ (j = 40 ∧ k = 3) ∨ (j = 41 ∧ k = 4) ∨ (j = 44 ∧ k = 5) ∨ (j = 45 ∧ k = 6)
theorem CR.put {j k : Nat} {x : Int32} (h : CR S X) (hr : rk j k) : CR (zup S 416 j x) (zsi X (zp 320 0) k x) := by
  obtain ⟨a0, a1, a2, a3, a4, a5, a6, a7⟩ := h
  have key : ∀ j' k', rk j' k' → ziv X (zp 320 0) k' = S 416 j' → ziv (zsi X (zp 320 0) k x) (zp 320 0) k' = zup S 416 j x 416 j' := by
    intro j' k' hr' e
    rw [ziv_si, zup_at]
    unfold rk at hr hr'
    by_cases c : k' = k
    · rw [if_pos ⟨rfl, c⟩, if_pos ⟨rfl, by omega⟩]
    · rw [if_neg (fun z => c z.2), if_neg (fun z => c (by have := z.2; omega)), e]
  exact ⟨a0, key _ _ (by unfold rk; omega) a1, key _ _ (by unfold rk; omega) a2, key _ _ (by unfold rk; omega) a3, key _ _ (by unfold rk; omega) a4, key _ _ (by unfold rk; omega) a5, key _ _ (by unfold rk; omega) a6, key _ _ (by unfold rk; omega) a7⟩
theorem PO.putR {j k : Nat} {x : Int32} (h : PO K S m n1 m1 X) (hr : rk j k) : PO K (zup S 416 j x) m n1 m1 (zsi X (zp 320 0) k x) := by
  have hf : zfr [320] X (zsi X (zp 320 0) k x) := zfr.si (by rw [zp_mod (by omega)]; simp)
  have no : ∀ t, t ≠ 320 → t ∉ [320] := fun t h => by simp [h]
  have hj : j = 37 ∨ j = 38 ∨ j = 39 ∨ j = 40 ∨ j = 41 ∨ j = 44 ∨ j = 45 := by unfold rk at hr; omega
  have ks : ∀ t i, ¬ (t = 416 ∧ i = j) → zup S 416 j x t i = S t i := fun t i hc => zup_ne hc
  have kp : ∀ t i, pk t i → zup S 416 j x t i = S t i := fun t i hc => ks t i (by unfold pk at hc; omega)
  have kt : ∀ t i, tk t i → zup S 416 j x t i = S t i := fun t i hc => ks t i (by unfold tk at hc; omega)
  have e42 : zup S 416 j x 416 42 = S 416 42 := ks _ _ (by omega)
  obtain ⟨p1, p2, p3, p4, p5, p6, p7, p8⟩ := h
  have hB := p6.ri.2.2.1.2
  obtain ⟨o1, o2, o3, o4, o5, o6, o7, o8⟩ := p6
  have hl := o8.2.2
  refine ⟨p1.fr hf (no _ (by omega)), (p2.fr hf (no _ (by omega)) (no _ (by omega))).cg kt, (p3.fr hf (no _ (by omega)) (no _ (by omega)) (no _ (by omega)) (no _ (by omega)) (no _ (by omega))).cg (SI_nL p8) kp, (p4.fr hf (no _ (by omega)) (no _ (by omega)) (no _ (by omega))).cg kp, p5.fr hf (no _ (by omega)) (no _ (by omega)) (by decide), ?_, (p7.fr hf (no _ (by omega)) (no _ (by omega)) (no _ (by omega)) (no _ (by omega)) (no _ (by omega)) (no _ (by omega)) (no _ (by omega)) (no _ (by omega)) (no _ (by omega))).cg kp, p8.cg (fun t i hc => ks t i (by unfold sc at hc; omega)) (by rw [e42]; exact p8.1.2.2.1) (by omega)⟩
  rw [e42]
  refine ⟨o1, o2.up (by omega), o3.cg (fun t i hc => ks t i (by omega)), (o4.cg (ks _ _ (by omega)) (fun t i hc => ks t i (by omega))).fr hf (no _ (by omega)) (no _ (by omega)) (no _ (by omega)) (no _ (by omega)) (no _ (by omega)) (no _ (by omega)) (no _ (by omega)), (o5.cg (ks _ _ (by omega)) (fun t i hc => ks t i (by omega))).fr hf (no _ (by omega)) (no _ (by omega)) (no _ (by omega)) (no _ (by omega)) (no _ (by omega)) (no _ (by omega)), o6.put hr, o7.fr hf (no _ (by omega)), ?_⟩
  exact (o8.fr o1 hf (no _ (by omega)) (no _ (by omega)) (no _ (by omega)) (no _ (by omega)) (no _ (by omega)) (no _ (by omega)) ⟨hl.1.fr hf (by omega) (no _ (by omega)) (no _ (by omega)) (no _ (by omega)), by rw [hf.2.1 _ (no _ (by omega))]; exact hl.2.1, hl.2.2.2.1⟩ (Nat.le_refl _) (fun b _ i _ => by rw [hf.iv (by omega) (no _ (by omega))])).cg (fun t i hc => ks t i (by unfold oc at hc; omega))
/-- the rule of order -/
theorem PO.putO7 {x : Int32} (h : PO K S m n1 m1 X) (hx : x = 0 ∨ x = 1 ∨ x = 2) : PO K (zup S 416 42 x) m n1 m1 (zsi X (zp 224 0) 7 x) := by
  have ks : ∀ t i, ¬ (t = 416 ∧ i = 42) → zup S 416 42 x t i = S t i := fun t i hc => zup_ne hc
  have kp : ∀ t i, pk t i ∨ tk t i → zup S 416 42 x t i = S t i := fun t i hc => ks t i (by unfold pk tk at hc; omega)
  have hf : zfr (TW 0) X (zsi X (zp 224 0) 7 x) := fsi (by omega) TWo
  have n : ∀ t, t ≠ 224 ∧ t ≠ 32 ∧ t ≠ 64 ∧ t ≠ 5 ∧ t ≠ 3077 → t ∉ TW 0 := fun t h => TWn (by omega)
  refine h.ofc hf ?_ kp ?_
  · rw [zup_s]
    obtain ⟨o1, o2, o3, o4, o5, o6, o7, o8⟩ := h.of
    refine ⟨o1, o2.up (by omega), o3.cg (fun t i hc => ks t i (by omega)), (o4.cg (ks _ _ (by omega)) (fun t i hc => ks t i (by omega))).fr hf (n _ (by omega)) (n _ (by omega)) (n _ (by omega)) (n _ (by omega)) (n _ (by omega)) (n _ (by omega)) (n _ (by omega)), (o5.cg (ks _ _ (by omega)) (fun t i hc => ks t i (by omega))).fr hf (n _ (by omega)) (n _ (by omega)) (n _ (by omega)) (n _ (by omega)) (n _ (by omega)) (n _ (by omega)), (o6.cg (fun i hc => ks _ i (by omega))).fr hf (n _ (by omega)), o7.fr hf (n _ (by omega)), ?_⟩
    have o9 := o8.cg (S' := zup S 416 42 x) (fun t i hc => ks t i (by unfold oc at hc; omega))
    obtain ⟨⟨c1, c2, c3, c4, c5, c6, c7⟩, ⟨a1, a2, a3⟩, ⟨b1, b2, b3, b4, b5⟩⟩ := o9
    have hf2 : zfr [224] X (zsi X (zp 224 0) 7 x) := zfr.si (by rw [zp_mod (by omega)]; simp)
    have no : ∀ t, t ≠ 224 → t ∉ [224] := fun t h => by simp [h]
    refine ⟨⟨c1, c2, c3, c4, c5, c6, fun k h1 h2 => ?_⟩, ⟨a1.fr hf2 (by omega) (no _ (by omega)) (no _ (by omega)) (no _ (by omega)), a2, fun a ha => ?_⟩, ⟨b1.fr hf2 (by omega) (no _ (by omega)) (no _ (by omega)) (no _ (by omega)), b2, b3, b4, fun b hb k hk => ?_⟩⟩
    · rw [ziv_si]
      by_cases c : k = 7
      · rw [if_pos ⟨rfl, c⟩, c]; rfl
      · rw [if_neg (fun z => c z.2), c7 k h1 h2]
        unfold oFld
        rw [if_neg c, if_neg c]
    · exact AOK.st (X' := zsi X (zp 224 0) 7 x) (a3 a ha) (Nat.le_refl _) ⟨rfl, hf2.iv (t := 32) (by omega) (no _ (by omega))⟩ (fun v' _ => hf2.iv (t := 352) (by omega) (no _ (by omega)))
    · rw [iv_n (zp_ne (by omega) (by omega) (by omega))]; exact b5 b hb k hk
  · exact h.si.cg (fun t i hc => ks t i (by unfold sc at hc; omega)) (by rw [zup_s]; exact hx) (Nat.le_trans h.of.ri.2.2.1.2 (by omega))
end ZCp
