/-! the tape -/
section ZCr
variable {E : ZE} {l : Launch} {K : ZG} {w m n1 m1 : Nat} {S S' : ZS9} {r : Int32} {X X' : ZG}
theorem OF.cgS (h : OF w S r m X) (hS : ∀ t k, ¬ tk t k → S' t k = S t k) : OF w S' r m X := by
  have ks : ∀ t k, ¬ tk t k → S' t k = S t k := hS
  obtain ⟨o1, o2, o3, o4, o5, o6, o7, o8⟩ := h
  exact ⟨o1, o2.cg (fun t i hc => ks t i (by unfold tk; omega)), o3.cg (fun t i hc => ks t i (by unfold tk; omega)), o4.cg (ks _ _ (by unfold tk; omega)) (fun t i hc => ks t i (by unfold tk; omega)), o5.cg (ks _ _ (by unfold tk; omega)) (fun t i hc => ks t i (by unfold tk; omega)), o6.cg (fun i hc => ks _ i (by unfold tk; omega)), o7, o8.cg (fun t i hc => ks t i (by unfold oc at hc; unfold tk; omega))⟩
theorem SI.tp (h : SI S) (hS : ∀ t k, ¬ tk t k → S' t k = S t k) (hT : TB S') (hB : nB S ≤ 1000) : SI S' := by
  obtain ⟨⟨-, l1, o1, b1, q1, n2⟩, sb, sd, td, sn⟩ := h
  have k := hS
  have eL : nL S' = nL S := by unfold nL; rw [k _ _ (by unfold tk; omega)]
  have eP : nP S' = nP S := by unfold nP; rw [k _ _ (by unfold tk; omega)]
  have eA : nA S' = nA S := by unfold nA; rw [k _ _ (by unfold tk; omega)]
  have eB : nB S' = nB S := by unfold nB; rw [k _ _ (by unfold tk; omega)]
  refine ⟨⟨hT, ?_, ?_, fun p hp => ?_, fun p q a b c => ?_, fun p hp => ?_⟩, fun p hp => ?_, sd.cg (fun j => k _ _ (by unfold tk; omega)) (by omega) (by omega), ?_, fun a ha => ?_⟩
  · rw [eL, k 416 19 (by unfold tk; omega)]; exact l1
  · rw [k 416 42 (by unfold tk; omega)]; exact o1
  · rw [eP] at hp; rw [k 1129 _ (by unfold tk; omega)]; exact b1 p hp
  · rw [eP] at c; rw [k 1135 _ (by unfold tk; omega)]; exact q1 p q a b c
  · rw [eP] at hp; rw [k 2133 _ (by unfold tk; omega)]; exact n2 p hp
  · rw [eP] at hp
    rw [k 416 1 (by unfold tk; omega), k 1129 _ (by unfold tk; omega)]; exact sb p hp
  · unfold TD; rw [k 416 1 (by unfold tk; omega)]; exact td
  · rw [eA] at ha
    rw [k 1165 _ (by unfold tk; omega), k 1165 _ (by unfold tk; omega)]; exact sn a ha
theorem PO.tp (h : PO K S m n1 m1 X) (hf : zfr [384, 1034] X X') (hr : zrv X' (zp 384 0) = zrv X (zp 384 0)) (hS : ∀ t k, ¬ tk t k → S' t k = S t k) (hT : PTa S' X') (hB : TB S') : PO K S' m n1 m1 X' := by
  have no : ∀ t, t ≠ 384 ∧ t ≠ 1034 → t ∉ [384, 1034] := fun t h => by simp [h]
  have kp : ∀ t i, pk t i → S' t i = S t i := fun t i hc => hS t i (by unfold pk at hc; unfold tk; omega)
  have e42 : S' 416 42 = S 416 42 := hS _ _ (by unfold tk; omega)
  obtain ⟨p1, -, p3, p4, p5, p6, p7, p8⟩ := h
  refine ⟨?_, hT, (p3.fr hf (no _ (by omega)) (no _ (by omega)) (no _ (by omega)) (no _ (by omega)) (no _ (by omega))).cg (SI_nL p8) kp, (p4.fr hf (no _ (by omega)) (no _ (by omega)) (no _ (by omega))).cg kp, p5.fr hf (no _ (by omega)) (no _ (by omega)) (by decide), ?_, (p7.fr hf (no _ (by omega)) (no _ (by omega)) (no _ (by omega)) (no _ (by omega)) (no _ (by omega)) (no _ (by omega)) (no _ (by omega)) (no _ (by omega)) (no _ (by omega))).cg kp, p8.tp hS hB (Nat.le_trans p6.ri.2.2.1.2 (by omega))⟩
  · unfold POo at *
    rw [hr]
    exact ⟨hf.ob p1.1, p1.2⟩
  · rw [e42]
    exact (p6.cgS hS).fr hf (fun t ht => no t (by unfold OT at ht; simp at ht; omega))
/-- the tape is cut at n -/
theorem PO.cut {n : Nat} (h : PO K S m n1 m1 X) (hn : n ≤ nTp S) : PO K (zup S 416 3 (Int32.ofNat n)) m n1 m1 (zsi X (zp 384 0) 1 (Int32.ofNat n)) := by
  have hf : zfr [384, 1034] X (zsi X (zp 384 0) 1 (Int32.ofNat n)) := zfr.si (by rw [zp_mod (by omega)]; simp)
  obtain ⟨⟨t1, t2⟩, t3⟩ := h.si.1.1
  have eT : nTp (zup S 416 3 (Int32.ofNat n)) = n := by unfold nTp; rw [zup_s, n_nn (by omega)]
  obtain ⟨a1, a2, a3, a4, a5⟩ := h.2.1
  refine h.tp hf rfl (fun t k hc => zup_ne (by unfold tk at hc; omega)) ⟨a1, a2, ?_, fun j hj => ?_, ?_⟩ ⟨?_, fun j hj => ?_⟩
  · rw [iv_s, zup_s]
  · rw [eT] at hj
    rw [iv_n (zp_ne (by omega) (by omega) (by omega)), zup_ne (by omega)]; exact a4 j (by omega)
  · rw [iv_k (by omega), zup_ne (by omega)]; exact a5
  · rw [eT, zup_s]; exact ⟨rfl, by omega⟩
  · rw [eT] at hj
    rw [zup_ne (by omega)]; exact t3 j (by omega)
theorem p_end (htr : l.stackTraces = false) (h : PO K S m n1 m1 X) (x : Int32) : zMet E l mX11_end 0 0 [.ref (zp 384 0), .int x] X (cO cy (fun _ => xIO) (fEnd S x) (fun S' G' => PO K S' m n1 m1 G')) := by
  obtain ⟨⟨t1, t2⟩, t3⟩ := h.si.1.1
  refine z_meth (by decide) (Nat.le_of_ble_eq_true rfl) (by simp [Value.category]) (wpt_X11_end_0 ?_); unfold wp_X11_end_0
  rw [h.2.1.2.2.1]
  unfold fEnd
  refine ⟨fun c => ?_, fun c => ⟨h.o.1, fun c2 => ⟨h.o.1, fun G1 e1 => ?_⟩, fun c2 => ?_⟩⟩
  · rw [f3f (fun z => z.1 c)]; exact cO_ok rfl h
  · rw [f3t ⟨c, c2⟩]
    obtain ⟨n, hn, rfl⟩ := n_of c
    rw [t1, n_le (by omega) (by omega)] at c2
    rw [e1]
    exact cO_ok rfl (h.cut c2)
  · rw [f3f (fun z => c2 z.2)]; exact cO_ok rfl h
end ZCr
