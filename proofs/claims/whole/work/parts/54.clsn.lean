/-! the class's store: what an office's change leaves -/
theorem SI_nL {S : ZS9} (h : SI S) : nL S ≤ 12 := h.1.2.1.2
section ZCm
variable {K : ZG} {m n1 m1 : Nat} {S S' : ZS9} {X X' : ZG}
theorem PO.o (h : PO K S m n1 m1 X) : POo X := h.1
theorem PO.of (h : PO K S m n1 m1 X) : OF 0 S (S 416 42) m X := h.2.2.2.2.2.1
theorem PO.si (h : PO K S m n1 m1 X) : SI S := h.2.2.2.2.2.2.2
theorem PO.or (h : PO K S m n1 m1 X) : S 416 42 = 0 ∨ S 416 42 = 1 ∨ S 416 42 = 2 := h.si.1.2.2.1
/-- the true office has changed -/
theorem PO.ofc {m' : Nat} (h : PO K S m n1 m1 X) (hf : zfr (TW 0) X X') (hO : OF 0 S' (S' 416 42) m' X') (hS : ∀ t k, pk t k ∨ tk t k → S' t k = S t k) (hI : SI S') : PO K S' m' n1 m1 X' := by
  obtain ⟨p1, p2, p3, p4, p5, -, p7, p8⟩ := h
  have hT : ∀ t k, tk t k → S' t k = S t k := fun t k hc => hS t k (Or.inr hc)
  have hS : ∀ t k, pk t k → S' t k = S t k := fun t k hc => hS t k (Or.inl hc)
  have n : ∀ t, t ≠ 224 ∧ t ≠ 32 ∧ t ≠ 64 ∧ t ≠ 5 ∧ t ≠ 3077 → t ∉ TW 0 := fun t h => TWn (by omega)
  exact ⟨p1.fr hf (n _ (by omega)), (p2.fr hf (n _ (by omega)) (n _ (by omega))).cg hT, (p3.fr hf (n _ (by omega)) (n _ (by omega)) (n _ (by omega)) (n _ (by omega)) (n _ (by omega))).cg (SI_nL p8) hS, (p4.fr hf (n _ (by omega)) (n _ (by omega)) (n _ (by omega))).cg hS, p5.fr hf (n _ (by omega)) (n _ (by omega)) (by decide), hO, (p7.fr hf (n _ (by omega)) (n _ (by omega)) (n _ (by omega)) (n _ (by omega)) (n _ (by omega)) (n _ (by omega)) (n _ (by omega)) (n _ (by omega)) (n _ (by omega))).cg hS, hI⟩
theorem dk_pk (h : zdk S S') {t k : Nat} (hp : pk t k ∨ tk t k) : S' t k = S t k := by
  refine h t k (fun hc => ?_)
  unfold zdc at hc
  unfold pk tk at hp
  rcases hc with rfl | rfl | rfl | rfl | rfl | rfl | ⟨rfl, hk⟩
  · omega
  · omega
  · omega
  · omega
  · omega
  · omega
  · omega
theorem SK.dk (h : SK S) (hd : zdk S S') : SK S' := by
  have k : ∀ t j, ¬ zdc t j → S' t j = S t j := hd
  obtain ⟨⟨⟨t1, t2⟩, t3⟩, l1, o1, b1, q1, n2⟩ := h
  have eT : nTp S' = nTp S := by unfold nTp; rw [k _ _ (by unfold zdc; omega)]
  have eL : nL S' = nL S := by unfold nL; rw [k _ _ (by unfold zdc; omega)]
  have eP : nP S' = nP S := by unfold nP; rw [k _ _ (by unfold zdc; omega)]
  unfold SK TB
  rw [eT, eL, eP, k 416 3 (by unfold zdc; omega), k 416 19 (by unfold zdc; omega), k 416 42 (by unfold zdc; omega)]
  exact ⟨⟨⟨t1, t2⟩, fun j hj => by rw [k _ _ (by unfold zdc; omega)]; exact t3 j hj⟩, l1, o1, fun p hp => by rw [k _ _ (by unfold zdc; omega)]; exact b1 p hp, fun p q a b c => by rw [k _ _ (by unfold zdc; omega)]; exact q1 p q a b c, fun p hp => by rw [k _ _ (by unfold zdc; omega)]; exact n2 p hp⟩
/-- an asking's row has changed, SD is known -/
theorem SI.dk (h : SI S) (hd : zdk S S') (h1 : S' 416 1 = S 416 1) (hD : SD S') (hN : SN S') : SI S' := by
  obtain ⟨k, b, -, t, -⟩ := h
  have eP : nP S' = nP S := by unfold nP; rw [hd _ _ (by unfold zdc; omega)]
  refine ⟨k.dk hd, fun p hp => ?_, hD, ?_, hN⟩
  · rw [eP] at hp
    rw [h1, hd 1129 _ (by unfold zdc; omega)]; exact b p hp
  · unfold TD; rw [h1]; exact t
theorem SN.up {a j : Nat} {x : Int32} (h : SN S) (ha : a < nA S) (hj : j < 7) : SN (zup S 1165 (7 * a + j) x) := by
  have hn : nA (zup S 1165 (7 * a + j) x) = nA S := nA_up (by omega)
  intro b hb
  rw [hn] at hb
  rw [r1165 hj (by omega), r1165 hj (by omega), if_neg (by omega), if_neg (by omega)]
  exact h b hb
theorem SN.mn (h : SN S) (hm : zmn S S') : SN S' := by
  intro a ha
  rw [hm.2.2.2] at ha
  rw [hm.1 _ (by omega), hm.1 _ (by omega)]
  exact h a ha
theorem zday_1 {r : Int32} : zday S r 416 1 = S 416 1 + 1 := by
  have w : ∀ (T : ZS9) (d : Nat), zworks T d r 416 1 = T 416 1 := fun T d => by
    unfold zworks zwork1 zwork0
    rw [zup_ne (by omega), zsrv_416 (by decide), zrw_st _ _ (by omega) (by omega)]
  unfold zday
  rw [w, w, w, w]
  unfold zday0 zcalls
  rw [zup_ne (by omega), zup_ne (by omega), zup_ne (by omega), zpost_416 (by decide), zup_s]
theorem i_le1 {x y : Int32} (h : ¬ x < y) (h2 : ¬ 1000 ≤ x) (h3 : ¬ x < 0) : ¬ x + 1 < y ∧ ¬ x + 1 < 0 ∧ x + 1 ≤ 1000 := by
  have e0 : (0 : Int32).toInt = 0 := by decide
  have e1 : (1000 : Int32).toInt = 1000 := by decide
  rw [i_tl] at h h3
  rw [i_ti] at h2
  rw [e1] at h2
  rw [e0] at h3
  obtain ⟨n, hn⟩ : ∃ n : Nat, x.toInt = (n : Int) := ⟨x.toInt.toNat, by omega⟩
  have hx : x = Int32.ofNat n := by
    rw [i_te, hn, Int32.toInt_ofNat_of_lt (by simp [Int32.size]; omega)]
  have hx1 : (x + 1).toInt = (n : Int) + 1 := by
    rw [hx, n_p1, Int32.toInt_ofNat_of_lt (by simp [Int32.size]; omega)]; omega
  rw [i_tl, i_tl, i_ti, hx1, e0, e1]
  omega
theorem SI.day (h : SI S) (hR : RI S) (hl : ¬ 1000 ≤ S 416 1) {r : Int32} : SI (zday S r) := by
  obtain ⟨k, b, d, t, n⟩ := h
  have t1 := i_le1 (y := 0) t.1 hl t.1
  have hT : TD (zup S 416 1 (S 416 1 + 1)) := by
    unfold TD; rw [zup_s]; exact ⟨t1.2.1, t1.2.2⟩
  obtain ⟨d2, t2⟩ := d.day (r := r) hR hT
  have eP : nP (zday S r) = nP S := by unfold nP; rw [zday_dk _ _ (by unfold zdc; omega)]
  refine ⟨k.dk zday_dk, fun p hp => ?_, d2, t2, n.mn (zday_mn hR)⟩
  rw [eP] at hp
  rw [zday_1, zday_dk 1129 _ (by unfold zdc; omega)]
  exact (i_le1 (b p hp) hl t.1).1
end ZCm
/-! what a public method does: the exception's code, the answer, the numbers behind it -/
def cO (f : Int32 → Option Value) (ex : Int32 → String) (o : ZO) (P : ZS9 → ZG → Prop) : ZQ := fun r G' => ((o.1 = 0 ∧ r = .inl (f o.2.1)) ∨ (¬ o.1 = 0 ∧ r = .inr (ex o.1))) ∧ P o.2.2 G'
def cy : Int32 → Option Value := fun y => some (.int y)
def cn : Int32 → Option Value := fun _ => none
theorem cO_ok {f : Int32 → Option Value} {ex : Int32 → String} {y : Int32} {S' : ZS9} {P : ZS9 → ZG → Prop} {G' : ZG} {r : Option Value} (hr : r = f y) (h : P S' G') : cO f ex (0, y, S') P (.inl r) G' := ⟨Or.inl ⟨rfl, by rw [hr]⟩, h⟩
theorem cO_ex {f : Int32 → Option Value} {ex : Int32 → String} {y c : Int32} {S' : ZS9} {P : ZS9 → ZG → Prop} {G' : ZG} {e : String} (hc : ¬ c = 0) (he : e = ex c) (h : P S' G') : cO f ex (c, y, S') P (.inr e) G' := ⟨Or.inr ⟨hc, by rw [he]⟩, h⟩
def xs (a b c : String) (x : Int32) : String := if x = 1 then a else if x = 2 then b else c
abbrev xIO : String := "java/lang/IndexOutOfBoundsException"
abbrev xIA : String := "java/lang/IllegalArgumentException"
abbrev xIS : String := "java/lang/IllegalStateException"
abbrev xUO : String := "java/lang/UnsupportedOperationException"
abbrev xNS : String := "java/util/NoSuchElementException"
section ZCn
variable {E : ZE} {l : Launch} {K : ZG} {m n1 m1 : Nat} {S : ZS9} {X : ZG}
theorem c_demand1 (htr : l.stackTraces = false) : zMet E l mX11_demand 0 0 [.int 1] X (zVd X) := by
  refine z_meth (by decide) (Nat.le_of_ble_eq_true rfl) (by simp [Value.category]) (wpt_X11_demand_0 htr ?_); unfold wp_X11_demand_0
  exact it (by decide) ⟨rfl, rfl⟩
theorem c_demand0 (htr : l.stackTraces = false) : zMet E l mX11_demand 6 7 [.int 0] X (zTh xIA X) := by
  refine z_meth (by decide) (Nat.le_of_ble_eq_true rfl) (by simp [Value.category]) (wpt_X11_demand_0 htr ?_); unfold wp_X11_demand_0
  exact ie (by decide) ⟨by omega, by omega, rfl, rfl⟩
theorem c_allow1 (htr : l.stackTraces = false) : zMet E l mX11_allow 0 0 [.int 1] X (zVd X) := by
  refine z_meth (by decide) (Nat.le_of_ble_eq_true rfl) (by simp [Value.category]) (wpt_X11_allow_0 htr ?_); unfold wp_X11_allow_0
  exact it (by decide) ⟨rfl, rfl⟩
theorem c_allow0 (htr : l.stackTraces = false) : zMet E l mX11_allow 6 7 [.int 0] X (zTh xIS X) := by
  refine z_meth (by decide) (Nat.le_of_ble_eq_true rfl) (by simp [Value.category]) (wpt_X11_allow_0 htr ?_); unfold wp_X11_allow_0
  exact ie (by decide) ⟨by omega, by omega, rfl, rfl⟩
theorem c_desk (htr : l.stackTraces = false) {d : Nat} (hd : d < 4) : zMet E l mX11_checkDesk 0 0 [.int (Int32.ofNat d)] X (zVd X) := by
  refine z_meth (by decide) (Nat.le_of_ble_eq_true rfl) (by simp [Value.category]) (wpt_X11_checkDesk_0 htr ?_); unfold wp_X11_checkDesk_0
  exact ie (n_neg (by omega)) (it (by rw [show (4 : Int32) = Int32.ofNat 4 from rfl, n_lt (by omega) (by omega)]; omega) ⟨rfl, rfl⟩)
theorem c_deskNo (htr : l.stackTraces = false) {x : Int32} (hd : ¬ inn x 0 3) : zMet E l mX11_checkDesk 6 7 [.int x] X (zTh xIO X) := by
  refine z_meth (by decide) (Nat.le_of_ble_eq_true rfl) (by simp [Value.category]) (wpt_X11_checkDesk_0 htr ?_); unfold wp_X11_checkDesk_0
  refine ⟨fun _ => ⟨by omega, by omega, rfl, rfl⟩, fun c => ⟨fun c2 => ?_, fun _ => ⟨by omega, by omega, rfl, rfl⟩⟩⟩
  refine absurd ⟨c, ?_⟩ hd
  rw [i_tl] at c2 ⊢
  have e3 : (3 : Int32).toInt = 3 := by decide
  have e4 : (4 : Int32).toInt = 4 := by decide
  rw [e3]; rw [e4] at c2; omega
theorem PO.pl (h : PO K S m n1 m1 X) : zAL X 2 (nP S) (zp 288) ∧ zob X (zp 256 0) 8 ∧ zrv X (zp 256 0) 0 = zp 2 0 := ⟨h.of.cp.2.2.1, h.of.cp.1, h.of.cp.2.1⟩
theorem c_personAt (htr : l.stackTraces = false) (h : PO K S m n1 m1 X) {p : Nat} (hp : p < nP S) : zMet E l mX11_personAt 3 0 [.ref (zp 384 0), .int (Int32.ofNat p)] X (zRf (zp 288 p) X) := by
  obtain ⟨hl, h2, h3⟩ := h.pl
  obtain ⟨o1, -, -, o4, -⟩ := h.o
  have hN := h.of.ri.2.1.2
  refine z_meth (by decide) (Nat.le_of_ble_eq_true rfl) (by simp [Value.category]) (wpt_X11_personAt_0 htr ?_); unfold wp_X11_personAt_0
  rw [o4, h3]
  refine ie (n_neg (by omega)) ⟨o1, h2, zobL hl (by omega), csize hl (by omega) (by decide) (it (by rw [n_lt (by omega) (by omega)]; omega) ⟨o1, by rw [o4]; exact h2, by rw [o4, h3]; exact zobL hl (by omega), ?_⟩)⟩
  rw [o4, h3]
  exact cget hl (by omega) (by omega) hp (by decide) ⟨h.of.cp.ob hp, rfl, rfl⟩
theorem c_personNo (htr : l.stackTraces = false) (h : PO K S m n1 m1 X) {x : Int32} (hx : ¬ zin x (nP S)) : zMet E l mX11_personAt 6 7 [.ref (zp 384 0), .int x] X (zTh xIO X) := by
  obtain ⟨hl, h2, h3⟩ := h.pl
  obtain ⟨o1, -, -, o4, -⟩ := h.o
  refine z_meth (by decide) (Nat.le_of_ble_eq_true rfl) (by simp [Value.category]) (wpt_X11_personAt_0 htr ?_); unfold wp_X11_personAt_0
  rw [o4, h3]
  exact ⟨fun _ => ⟨by omega, by omega, rfl, rfl⟩, fun c => ⟨o1, h2, zobL hl (by omega), csize hl (by omega) (by decide) (ie (fun c2 => hx ⟨c, c2⟩) ⟨by omega, by omega, rfl, rfl⟩)⟩⟩
theorem c_askingAt (htr : l.stackTraces = false) (h : PO K S m n1 m1 X) {a : Nat} (ha : a < nA S) : zMet E l mX11_askingAt 3 0 [.ref (zp 384 0), .int (Int32.ofNat a)] X (zRf (zp 32 a) X) := by
  have hl := h.of.aL
  have h2 := h.of.oo
  have h3 : zrv X (zp 224 0) 3 = zp 4 0 := h.of.r3
  obtain ⟨o1, -, -, -, -, -, o7, -⟩ := h.o
  have hA := h.of.nA2
  refine z_meth (by decide) (Nat.le_of_ble_eq_true rfl) (by simp [Value.category]) (wpt_X11_askingAt_0 htr ?_); unfold wp_X11_askingAt_0
  rw [o7, h3]
  refine ie (n_neg (by omega)) ⟨o1, h2, zobL hl (by omega), csize hl (by omega) (by decide) (it (by rw [n_lt (by omega) (by omega)]; omega) ⟨o1, by rw [o7]; exact h2, by rw [o7, h3]; exact zobL hl (by omega), ?_⟩)⟩
  rw [o7, h3]
  exact cget hl (by omega) (by omega) ha (by decide) ⟨h.of.ob ha, rfl, rfl⟩
theorem c_askingNo (htr : l.stackTraces = false) (h : PO K S m n1 m1 X) {x : Int32} (hx : ¬ zin x (nA S)) : zMet E l mX11_askingAt 6 7 [.ref (zp 384 0), .int x] X (zTh xIO X) := by
  have hl := h.of.aL
  have h2 := h.of.oo
  have h3 : zrv X (zp 224 0) 3 = zp 4 0 := h.of.r3
  obtain ⟨o1, -, -, -, -, -, o7, -⟩ := h.o
  refine z_meth (by decide) (Nat.le_of_ble_eq_true rfl) (by simp [Value.category]) (wpt_X11_askingAt_0 htr ?_); unfold wp_X11_askingAt_0
  rw [o7, h3]
  exact ⟨fun _ => ⟨by omega, by omega, rfl, rfl⟩, fun c => ⟨o1, h2, zobL hl (by omega), csize hl (by omega) (by decide) (ie (fun c2 => hx ⟨c, c2⟩) ⟨by omega, by omega, rfl, rfl⟩)⟩⟩
end ZCn
