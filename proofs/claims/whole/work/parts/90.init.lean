/-! the class's constructor -/
/-- a first thing of its tag -/
def znw1 (G : ZG) (t n : Nat) : ZG := (fun u => if u = t then 1 else zcn G u, fun q => if q = zp t 0 then n else zln G q, fun q k => if q = zp t 0 then 0 else ziv G q k, fun q k => if q = zp t 0 then 0 else zrv G q k)
theorem znw1_of {G : ZG} {t n : Nat} (h : zcn G t = 0) : znw G t n = znw1 G t n := by
  unfold znw znw1
  rw [h]
theorem zfr.nw1 {T : List Nat} {G : ZG} {t n : Nat} (h0 : zcn G t = 0) (ht : t < 4096) (h : t ∈ T) : zfr T G (znw1 G t n) := by rw [← znw1_of h0]; exact zfr.nw ht h
def sAL (G : ZG) (r : Nat) : ZG := zsr (zsi (znw1 G r 0) (zp r 0) 0 0) (zp r 0) 1 (zp 4095 0)
def s7 (G : ZG) : ZG := zsr (sAL G 2) (zp 256 0) 0 (zp 2 0)
def s2a (G : ZG) : ZG := znw1 (zsr (sAL G 3) (zp 96 0) 0 (zp 3 0)) 1033 4
def s2b (G : ZG) : ZG := zsi (zsi (zsi (zsi G (zp 1033 0) 0 1) (zp 1033 0) 1 1) (zp 1033 0) 2 1) (zp 1033 0) 3 1
def s2 (G : ZG) : ZG := zsr (s2b (s2a G)) (zp 96 0) 1 (zp 1033 0)
def s9 (G : ZG) : ZG := zsi (zsi (zsi (zsi (zsi (zsi (zsi G (zp 320 0) 0 20) (zp 320 0) 1 30) (zp 320 0) 2 10) (zp 320 0) 3 2) (zp 320 0) 4 9) (zp 320 0) 5 1) (zp 320 0) 6 0
def s6a (G : ZG) (q a b : Nat) : ZG := zsr (sAL (zsr (sAL G a) q 3 (zp a 0)) b) q 4 (zp b 0)
def s6b (G : ZG) (q : Nat) : ZG := zsi (zsi (zsi (zsi (zsi (zsi (zsi (zsi (zsi G q 5 0) q 6 0) q 7 0) q 8 0) q 9 0) q 10 0) q 11 0) q 12 0) q 13 0
def s6 (G : ZG) (q a b p1 p2 p3 : Nat) : ZG := zsr (zsr (zsr (s6b (s6a G q a b) q) q 0 p1) q 1 p2) q 2 p3
/-- the law that says nothing -/
def sV (G : ZG) : ZG := zsi (zsi (zsi (zsi (zsi (zsi G (zp 352 0) 0 0) (zp 352 0) 1 0) (zp 352 0) 2 0) (zp 352 0) 3 (-1)) (zp 352 0) 4 0) (zp 352 0) 5 (-1)
def s3a (G : ZG) : ZG := zsi (zsi G (zp 128 0) 1 0) (zp 128 0) 2 (-1)
def s3b (G : ZG) : ZG := zsr (znw1 (s3a G) 1036 9) (zp 128 0) 4 (zp 1036 0)
def s3c (G : ZG) : ZG := sV (znw1 (s3b G) 352 0)
def s3 (G : ZG) (x : Int32) (q2 : Nat) : ZG := zsr (zsi (zsi (zsi (zsi (zsr (s3c G) (zp 128 0) 5 (zp 352 0)) (zp 128 0) 6 0) (zp 128 0) 7 0) (zp 128 0) 8 0) (zp 128 0) 0 x) (zp 128 0) 3 q2
section ZInit
variable {E : ZE} {l : Launch} {G : ZG} {q : Nat}
theorem c_initAC (ho : zal G q) : zMet E l mJxa1e45_init_da8c8 1 0 [.ref q] G (zVd G) := by
  refine z_meth (by decide) (Nat.le_of_ble_eq_true rfl) (by simp [Value.category]) (wpt_Jxa1e45_init_da8c8_0 ?_); unfold wp_Jxa1e45_init_da8c8_0
  exact ⟨ho, by decide, rfl, rfl⟩
theorem c_initAb (ho : zob G q 0) : zMet E l mJxc12de_init_da8c8 2 0 [.ref q] G (zVd (zsi G q 0 0)) := by
  refine z_meth (by decide) (Nat.le_of_ble_eq_true rfl) (by simp [Value.category]) (wpt_Jxc12de_init_da8c8_0 ?_); unfold wp_Jxc12de_init_da8c8_0
  exact ⟨ho.1, cV (c_initAC ho.1) (by decide) ⟨ho, fun G3 e3 => ⟨rfl, e3⟩⟩⟩
theorem c_initAL (ho : zob G q 0) : zMet E l mJx4a65c_init_da8c8 3 0 [.ref q] G (zVd (zsr (zsi G q 0 0) q 1 (zp 4095 0))) := by
  refine z_meth (by decide) (Nat.le_of_ble_eq_true rfl) (by simp [Value.category]) (wpt_Jx4a65c_init_da8c8_0 ?_); unfold wp_Jx4a65c_init_da8c8_0
  exact ⟨ho.1, cV (c_initAb ho) (by decide) ⟨ho, fun G3 e3 => ⟨rfl, e3⟩⟩⟩
theorem zob_1 {t n c : Nat} (ht : t < 448) (h0 : 0 < t) (hc : t / 32 = c) : zob (znw1 G t n) (zp t 0) c := by
  refine ⟨?_, by rw [zp_mod (by omega)]; omega, by rw [zp_mod (by omega)]; exact hc⟩
  rw [zal_zp (by omega)]
  show 0 < (if t = t then 1 else zcn G t)
  rw [if_pos rfl]; omega
theorem zob_k {t n c : Nat} (ht : t < 4096) (h : zob G q c) (hz : zcn G t = 0) : zob (znw1 G t n) q c := by
  rw [← znw1_of hz]
  exact zob_nw h ht
theorem zob_AL {r c : Nat} (hr : r < 4096) (h : zob G q c) (hz : zcn G r = 0) : zob (sAL G r) q c := zob_k (G := G) (t := r) (n := 0) hr h hz
theorem zob_s7 {c : Nat} (h : zob G q c) (hz : zcn G 2 = 0) : zob (s7 G) q c := zob_AL (G := G) (r := 2) (by omega) h hz
theorem zob_s2 {c : Nat} (h : zob G q c) (hz : zcn G 3 = 0) (hz2 : zcn G 1033 = 0) : zob (s2 G) q c := zob_k (G := zsr (sAL G 3) (zp 96 0) 0 (zp 3 0)) (t := 1033) (n := 4) (by omega) (zob_AL (G := G) (r := 3) (by omega) h hz) hz2
theorem zob_s6 {c q' a b p1 p2 p3 : Nat} (ha : a < 4096) (hb : b < 4096) (hab : b ≠ a) (h : zob G q c) (hz : zcn G a = 0) (hz2 : zcn G b = 0) : zob (s6 G q' a b p1 p2 p3) q c := zob_AL (G := zsr (sAL G a) q' 3 (zp a 0)) (r := b) hb (zob_AL (G := G) (r := a) ha h hz) (by
  show (if b = a then 1 else zcn G b) = 0
  rw [if_neg hab]; exact hz2)
theorem zob_s3 {c q2 : Nat} {x : Int32} (h : zob G q c) (hz : zcn G 1036 = 0) (hz2 : zcn G 352 = 0) : zob (s3 G x q2) q c := zob_k (G := s3b G) (t := 352) (n := 0) (by omega) (zob_k (G := s3a G) (t := 1036) (n := 9) (by omega) h hz) (by
  show (if 352 = 1036 then 1 else zcn G 352) = 0
  rw [if_neg (by decide)]; exact hz2)
theorem c_initVs (ho : zob G (zp 352 0) 11) : zMet E l mX10_init 1 0 [.ref (zp 352 0)] G (zVd (sV G)) := by
  refine z_meth (by decide) (Nat.le_of_ble_eq_true rfl) (by simp [Value.category]) (wpt_X10_init_0 ?_); unfold wp_X10_init_0
  refine ⟨ho.1, by decide, ho, fun G1 e1 => ⟨by rw [e1]; exact ho, fun G2 e2 => ⟨by rw [e2, e1]; exact ho, fun G3 e3 => ⟨by rw [e3, e2, e1]; exact ho, fun G4 e4 => ⟨by rw [e4, e3, e2, e1]; exact ho, fun G5 e5 => ⟨by rw [e5, e4, e3, e2, e1]; exact ho, fun G6 e6 => ⟨rfl, ?_⟩⟩⟩⟩⟩⟩⟩
  rw [e6, e5, e4, e3, e2, e1]; rfl
theorem c_initL3 {q2 : Nat} {x : Int32} (ho : zob G (zp 128 0) 4) (h1 : zcn G 1036 = 0) (h2 : zcn G 352 = 0) : zMet E l mX3_init 2 17 [.ref (zp 128 0), .int x, .ref q2] G (zVd (s3 G x q2)) := by
  refine z_meth (by decide) (Nat.le_of_ble_eq_true rfl) (by simp [Value.category]) (wpt_X3_init_0 ?_); unfold wp_X3_init_0
  refine ⟨ho.1, by decide, ho, fun G1 e1 => ⟨by rw [e1]; exact ho, fun G2 e2 => ⟨by decide, by decide, by decide, 1036, by decide, by decide, by decide, fun q4 e4 G5 e5 k6 e6 => ?_⟩⟩⟩
  have E2 : G2 = s3a G := by rw [e2, e1]; rfl
  have c2 : zcn G2 1036 = 0 := by rw [E2]; exact h1
  rw [c2] at e4
  rw [znw1_of c2] at e5
  subst e4
  have b2 : zob G2 (zp 128 0) 4 := by rw [E2]; exact ho
  have b5 : zob G5 (zp 128 0) 4 := by rw [e5]; exact zob_k (by omega) b2 c2
  refine ⟨b5, fun G7 e7 => ?_⟩
  have E7 : G7 = s3b G := by rw [e7, e5, E2]; rfl
  have b7 : zob G7 (zp 128 0) 4 := by rw [e7]; exact b5
  have c7 : zcn G7 352 = 0 := by
    rw [E7]
    show (if 352 = 1036 then 1 else zcn G 352) = 0
    rw [if_neg (by decide)]; exact h2
  refine ⟨by rw [e6]; decide, 352, by decide, by decide, by decide, fun q9 e9 G10 e10 k11 e11 => ?_⟩
  rw [c7] at e9
  rw [znw1_of c7] at e10
  subst e9
  have v10 : zob G10 (zp 352 0) 11 := by rw [e10]; exact zob_1 (by omega) (by omega) (by decide)
  have b10 : zob G10 (zp 128 0) 4 := by rw [e10]; exact zob_k (by omega) b7 c7
  have b12 : zob (sV G10) (zp 128 0) 4 := b10
  refine ⟨v10.1, cV (c_initVs v10) (by decide) ⟨b12, fun G14 e14 => ?_⟩⟩
  have b14 : zob G14 (zp 128 0) 4 := by rw [e14]; exact b12
  refine ⟨b14, fun G15 e15 => ⟨by rw [e15]; exact b14, fun G16 e16 => ⟨by rw [e16, e15]; exact b14, fun G17 e17 => ⟨by rw [e17, e16, e15]; exact b14, fun G18 e18 => ⟨by rw [e18, e17, e16, e15]; exact b14, fun G19 e19 => ⟨rfl, ?_⟩⟩⟩⟩⟩⟩
  rw [e19, e18, e17, e16, e15, e14, e10, E7]; rfl
theorem c_init7 (ho : zob G (zp 256 0) 8) (h2 : zcn G 2 = 0) : zMet E l mX7_init 4 4 [.ref (zp 256 0)] G (zVd (s7 G)) := by
  refine z_meth (by decide) (Nat.le_of_ble_eq_true rfl) (by simp [Value.category]) (wpt_X7_init_0 ?_); unfold wp_X7_init_0
  refine ⟨ho.1, by decide, by decide, 2, by decide, by decide, by decide, fun q2 e2 G3 e3 k4 e4 => ?_⟩
  rw [h2] at e2
  rw [znw1_of h2] at e3
  subst e2
  have o3 : zob G3 (zp 2 0) 0 := by rw [e3]; exact zob_1 (by omega) (by omega) (by decide)
  have b3 : zob G3 (zp 256 0) 8 := by rw [e3]; exact zob_k (by omega) ho h2
  refine ⟨o3.1, cV (c_initAL o3) (by decide) ⟨b3, fun G7 e7 => ⟨rfl, ?_⟩⟩⟩
  rw [e7, e3]; rfl
theorem c_init2 (ho : zob G (zp 96 0) 3) (h3 : zcn G 3 = 0) (h4 : zcn G 1033 = 0) : zMet E l mX2_init 4 9 [.ref (zp 96 0)] G (zVd (s2 G)) := by
  refine z_meth (by decide) (Nat.le_of_ble_eq_true rfl) (by simp [Value.category]) (wpt_X2_init_0 ?_); unfold wp_X2_init_0
  refine ⟨ho.1, by decide, by decide, 3, by decide, by decide, by decide, fun q2 e2 G3 e3 k4 e4 => ?_⟩
  rw [h3] at e2
  rw [znw1_of h3] at e3
  subst e2
  have o3 : zob G3 (zp 3 0) 0 := by rw [e3]; exact zob_1 (by omega) (by omega) (by decide)
  have b3 : zob G3 (zp 96 0) 3 := by rw [e3]; exact zob_k (by omega) ho h3
  refine ⟨o3.1, cV (c_initAL o3) (by decide) ⟨b3, fun G7 e7 => ?_⟩⟩
  have c7 : zcn G7 1033 = 0 := by rw [e7, e3]; exact h4
  refine ⟨by decide, by decide, by rw [e4]; decide, 1033, by decide, by decide, by decide, fun q9 e9 G10 e10 k11 e11 => ?_⟩
  rw [c7] at e9
  rw [znw1_of c7] at e10
  subst e9
  have b7 : zob G7 (zp 96 0) 3 := by rw [e7]; exact b3
  have b10 : zob G10 (zp 96 0) 3 := by rw [e10]; exact zob_k (by omega) b7 c7
  have a10 : zar G10 (zp 1033 0) 0 ∧ zln G10 (zp 1033 0) = 4 := by
    rw [e10]
    exact ⟨zar_zp (by omega) (by omega) (by omega) (by show 0 < (if 1033 = 1033 then 1 else zcn G7 1033); rw [if_pos rfl]; omega), rfl⟩
  have E10 : G10 = s2a G := by rw [e10, e7, e3]; rfl
  refine ⟨a10.1, by rw [a10.2]; exact n_in (i := 0) (by omega) (by omega), fun G12 e12 => ?_⟩
  refine ⟨by rw [e12]; exact a10.1, by rw [e12]; exact (by rw [zln_si, a10.2]; exact n_in (i := 1) (by omega) (by omega)), fun G13 e13 => ?_⟩
  refine ⟨by rw [e13, e12]; exact a10.1, by rw [e13, e12, zln_si, zln_si, a10.2]; exact n_in (i := 2) (by omega) (by omega), fun G14 e14 => ?_⟩
  refine ⟨by rw [e14, e13, e12]; exact a10.1, by rw [e14, e13, e12, zln_si, zln_si, zln_si, a10.2]; exact n_in (i := 3) (by omega) (by omega), fun G15 e15 => ?_⟩
  refine ⟨by rw [e15, e14, e13, e12]; exact b10, fun G16 e16 => ⟨rfl, ?_⟩⟩
  rw [e16, e15, e14, e13, e12, E10]; rfl
theorem c_init9 (ho : zob G (zp 320 0) 10) : zMet E l mX9_init 1 0 [.ref (zp 320 0)] G (zVd (s9 G)) := by
  refine z_meth (by decide) (Nat.le_of_ble_eq_true rfl) (by simp [Value.category]) (wpt_X9_init_0 ?_); unfold wp_X9_init_0
  refine ⟨ho.1, by decide, ho, fun G1 e1 => ⟨by rw [e1]; exact ho, fun G2 e2 => ⟨by rw [e2, e1]; exact ho, fun G3 e3 => ⟨by rw [e3, e2, e1]; exact ho, fun G4 e4 => ⟨by rw [e4, e3, e2, e1]; exact ho, fun G5 e5 => ⟨by rw [e5, e4, e3, e2, e1]; exact ho, fun G6 e6 => ⟨by rw [e6, e5, e4, e3, e2, e1]; exact ho, fun G7 e7 => ⟨rfl, ?_⟩⟩⟩⟩⟩⟩⟩⟩
  rw [e7, e6, e5, e4, e3, e2, e1]; rfl
theorem c_init6 {a b p1 p2 p3 : Nat} (ho : zob G q 7) (ha : zcn G a = 0) (hb : zcn G b = 0) (hab : b ≠ a) (h1 : 0 < a ∧ a < 32) (h2 : 0 < b ∧ b < 32) : zMet E l mX6_init 4 8 [.ref q, .ref p1, .ref p2, .ref p3] G (zVd (s6 G q a b p1 p2 p3)) := by
  refine z_meth (by decide) (Nat.le_of_ble_eq_true rfl) (by simp [Value.category]) (wpt_X6_init_0 ?_); unfold wp_X6_init_0
  refine ⟨ho.1, by decide, by decide, a, by omega, by omega, by omega, fun q2 e2 G3 e3 k4 e4 => ?_⟩
  rw [ha] at e2
  rw [znw1_of ha] at e3
  subst e2
  have o3 : zob G3 (zp a 0) 0 := by rw [e3]; exact zob_1 (by omega) (by omega) (by omega)
  have b3 : zob G3 q 7 := by rw [e3]; exact zob_k (by omega) ho ha
  refine ⟨o3.1, cV (c_initAL o3) (by decide) ⟨b3, fun G7 e7 => ?_⟩⟩
  have c7 : zcn G7 b = 0 := by
    rw [e7, e3]
    show (if b = a then 1 else zcn G b) = 0
    rw [if_neg hab]; exact hb
  refine ⟨by rw [e4]; decide, b, by omega, by omega, by omega, fun q9 e9 G10 e10 k11 e11 => ?_⟩
  rw [c7] at e9
  rw [znw1_of c7] at e10
  subst e9
  have o10 : zob G10 (zp b 0) 0 := by rw [e10]; exact zob_1 (by omega) (by omega) (by omega)
  have b7 : zob G7 q 7 := by rw [e7]; exact b3
  have b10 : zob G10 q 7 := by rw [e10]; exact zob_k (by omega) b7 c7
  refine ⟨o10.1, cV (c_initAL o10) (by decide) ⟨b10, fun G14 e14 => ?_⟩⟩
  have E14 : G14 = s6a G q a b := by rw [e14, e10, e7, e3]; rfl
  have b14 : zob G14 q 7 := by rw [e14]; exact b10
  refine ⟨b14, fun G15 e15 => ⟨by rw [e15]; exact b14, fun G16 e16 => ⟨by rw [e16, e15]; exact b14, fun G17 e17 => ⟨by rw [e17, e16, e15]; exact b14, fun G18 e18 => ⟨by rw [e18, e17, e16, e15]; exact b14, fun G19 e19 => ⟨by rw [e19, e18, e17, e16, e15]; exact b14, fun G20 e20 => ⟨by rw [e20, e19, e18, e17, e16, e15]; exact b14, fun G21 e21 => ⟨by rw [e21, e20, e19, e18, e17, e16, e15]; exact b14, fun G22 e22 => ⟨by rw [e22, e21, e20, e19, e18, e17, e16, e15]; exact b14, fun G23 e23 => ?_⟩⟩⟩⟩⟩⟩⟩⟩⟩
  have E23 : G23 = s6b (s6a G q a b) q := by rw [e23, e22, e21, e20, e19, e18, e17, e16, e15, E14]; rfl
  have b23 : zob G23 q 7 := by rw [e23, e22, e21, e20, e19, e18, e17, e16, e15]; exact b14
  refine ⟨b23, fun G24 e24 => ⟨by rw [e24]; exact b23, fun G25 e25 => ⟨by rw [e25, e24]; exact b23, fun G26 e26 => ⟨rfl, ?_⟩⟩⟩⟩
  rw [e26, e25, e24, E23]; rfl
/-- the whole constructor -/
def sP1 (G : ZG) : ZG := zsi (zsi (zsr (znw1 G 1034 400) (zp 384 0) 0 (zp 1034 0)) (zp 384 0) 1 0) (zp 384 0) 2 (-1)
def sP2 (G : ZG) : ZG := zsr (sAL (sP1 G) 1) (zp 384 0) 3 (zp 1 0)
def sPn (G : ZG) : ZG := zsr (s3 (znw1 (znw1 (sP2 G) 128 0) 1035 0) (-1) (zp 1035 0)) (zp 384 0) 4 (zp 128 0)
def sP3 (G : ZG) : ZG := zsr (s7 (znw1 (sPn G) 256 0)) (zp 384 0) 5 (zp 256 0)
def sP4 (G : ZG) : ZG := zsr (s2 (znw1 (sP3 G) 96 0)) (zp 384 0) 6 (zp 96 0)
def sP5 (G : ZG) : ZG := zsr (s9 (znw1 (sP4 G) 320 0)) (zp 384 0) 7 (zp 320 0)
def sP6 (G : ZG) : ZG := zsr (s6 (znw1 (sP5 G) 224 0) (zp 224 0) 4 5 (zp 256 0) (zp 96 0) (zp 320 0)) (zp 384 0) 8 (zp 224 0)
def sP7 (G : ZG) : ZG := zsr (s6 (znw1 (sP6 G) 225 0) (zp 225 0) 6 7 (zp 256 0) (zp 96 0) (zp 320 0)) (zp 384 0) 9 (zp 225 0)
theorem c_initPO (ho : zob G (zp 384 0) 12) (h0 : ∀ t, t ∈ CT → t ≠ 384 → zcn G t = 0) : zMet E l mX11_init 5 520 [.ref (zp 384 0)] G (zVd (sP7 G)) := by
  have c0 : ∀ t, t ∈ [1034, 1, 128, 1035, 1036, 352, 256, 2, 96, 3, 1033, 320, 224, 4, 5, 225, 6, 7] → zcn G t = 0 := fun t ht => h0 t ((by decide : ∀ t, t ∈ [1034, 1, 128, 1035, 1036, 352, 256, 2, 96, 3, 1033, 320, 224, 4, 5, 225, 6, 7] → t ∈ CT) t ht) ((by decide : ∀ t, t ∈ [1034, 1, 128, 1035, 1036, 352, 256, 2, 96, 3, 1033, 320, 224, 4, 5, 225, 6, 7] → t ≠ 384) t ht)
  refine z_meth (by decide) (Nat.le_of_ble_eq_true rfl) (by simp [Value.category]) (wpt_X11_init_0 ?_); unfold wp_X11_init_0
  have d1 := c0 1034 (by decide)
  refine ⟨ho.1, by decide, by decide, by decide, by decide, 1034, by decide, by decide, by decide, fun q2 e2 G3 e3 k4 e4 => ?_⟩
  rw [d1] at e2
  rw [znw1_of d1] at e3
  subst e2
  have b3 : zob G3 (zp 384 0) 12 := by rw [e3]; exact zob_k (by omega) ho d1
  refine ⟨b3, fun G5 e5 => ⟨by rw [e5]; exact b3, fun G6 e6 => ⟨by rw [e6, e5]; exact b3, fun G7 e7 => ?_⟩⟩⟩
  have E7 : G7 = sP1 G := by rw [e7, e6, e5, e3]; rfl
  have b7 : zob G7 (zp 384 0) 12 := by rw [e7, e6, e5]; exact b3
  clear e7 e6 e5 e3 b3
  have d2 : zcn G7 1 = 0 := by rw [E7]; exact c0 1 (by decide)
  refine ⟨by rw [e4]; decide, 1, by decide, by decide, by decide, fun q9 e9 G10 e10 k11 e11 => ?_⟩
  rw [d2] at e9
  rw [znw1_of d2] at e10
  subst e9
  have o10 : zob G10 (zp 1 0) 0 := by rw [e10]; exact zob_1 (by omega) (by omega) (by decide)
  have b10 : zob G10 (zp 384 0) 12 := by rw [e10]; exact zob_k (by omega) b7 d2
  refine ⟨o10.1, cV (c_initAL o10) (by decide) ⟨b10, fun G14 e14 => ?_⟩⟩
  have E14 : G14 = sP2 G := by rw [e14, e10, E7]; rfl
  have b14 : zob G14 (zp 384 0) 12 := by rw [e14]; exact b10
  clear e14 e10 o10 b10 b7
  have dn : zcn G14 128 = 0 := by rw [E14]; exact c0 128 (by decide)
  refine ⟨by rw [e11, e4]; decide, 128, by decide, by decide, by decide, fun q51 e51 G52 e52 k53 e53 => ?_⟩
  rw [dn] at e51
  rw [znw1_of dn] at e52
  subst e51
  have o52 : zob G52 (zp 128 0) 4 := by rw [e52]; exact zob_1 (by omega) (by omega) (by decide)
  have b52 : zob G52 (zp 384 0) 12 := by rw [e52]; exact zob_k (by omega) b14 dn
  have dm : zcn G52 1035 = 0 := by rw [e52, E14]; exact c0 1035 (by decide)
  refine ⟨by decide, by decide, by rw [e53, e11, e4]; decide, 1035, by decide, by decide, by decide, fun q54 e54 G55 e55 k56 e56 => ?_⟩
  rw [dm] at e54
  rw [znw1_of dm] at e55
  subst e54
  have o55 : zob G55 (zp 128 0) 4 := by rw [e55]; exact zob_k (by omega) o52 dm
  have b55 : zob G55 (zp 384 0) 12 := by rw [e55]; exact zob_k (by omega) b52 dm
  have dp : zcn G55 1036 = 0 := by rw [e55, e52, E14]; exact c0 1036 (by decide)
  have dq : zcn G55 352 = 0 := by rw [e55, e52, E14]; exact c0 352 (by decide)
  refine ⟨o55.1, xcV_of (c_initL3 o55 dp dq) (by decide) (by rw [e56, e53, e11, e4]; decide) ?_⟩
  have b57 : zob (s3 G55 (-1) (zp 1035 0)) (zp 384 0) 12 := zob_s3 b55 dp dq
  refine ⟨b57, fun G58 e58 => ?_⟩
  have E58 : G58 = sPn G := by rw [e58, e55, e52, E14]; rfl
  have b58 : zob G58 (zp 384 0) 12 := by rw [e58]; exact b57
  clear e58 b57 o55 dp dq e55 b55 o52 b52 dm e52
  have d3 : zcn G58 256 = 0 := by rw [E58]; exact c0 256 (by decide)
  refine ⟨by rw [e56, e53, e11, e4]; decide, 256, by decide, by decide, by decide, fun q16 e16 G17 e17 k18 e18 => ?_⟩
  rw [d3] at e16
  rw [znw1_of d3] at e17
  subst e16
  have o17 : zob G17 (zp 256 0) 8 := by rw [e17]; exact zob_1 (by omega) (by omega) (by decide)
  have b17 : zob G17 (zp 384 0) 12 := by rw [e17]; exact zob_k (by omega) b58 d3
  have d4 : zcn G17 2 = 0 := by rw [e17, E58]; exact c0 2 (by decide)
  refine ⟨o17.1, xcV_of (c_init7 o17 d4) (by decide) (by rw [e18, e56, e53, e11, e4]; decide) ?_⟩
  have b19 : zob (s7 G17) (zp 384 0) 12 := zob_s7 b17 d4
  refine ⟨b19, fun G21 e21 => ?_⟩
  have E21 : G21 = sP3 G := by rw [e21, e17, E58]; rfl
  have b21 : zob G21 (zp 384 0) 12 := by rw [e21]; exact b19
  clear e21 b19 o17 d4 e17 b17
  have d5 : zcn G21 96 = 0 := by rw [E21]; exact c0 96 (by decide)
  refine ⟨by rw [e18, e56, e53, e11, e4]; decide, 96, by decide, by decide, by decide, fun q23 e23 G24 e24 k25 e25 => ?_⟩
  rw [d5] at e23
  rw [znw1_of d5] at e24
  subst e23
  have o24 : zob G24 (zp 96 0) 3 := by rw [e24]; exact zob_1 (by omega) (by omega) (by decide)
  have b24 : zob G24 (zp 384 0) 12 := by rw [e24]; exact zob_k (by omega) b21 d5
  have d6 : zcn G24 3 = 0 := by rw [e24, E21]; exact c0 3 (by decide)
  have d7 : zcn G24 1033 = 0 := by rw [e24, E21]; exact c0 1033 (by decide)
  refine ⟨o24.1, xcV_of (c_init2 o24 d6 d7) (by decide) (by rw [e25, e18, e56, e53, e11, e4]; decide) ?_⟩
  have b26 : zob (s2 G24) (zp 384 0) 12 := zob_s2 b24 d6 d7
  refine ⟨b26, fun G28 e28 => ?_⟩
  have E28 : G28 = sP4 G := by rw [e28, e24, E21]; rfl
  have b28 : zob G28 (zp 384 0) 12 := by rw [e28]; exact b26
  clear e28 b26 o24 d6 d7 e24 b24
  have d8 : zcn G28 320 = 0 := by rw [E28]; exact c0 320 (by decide)
  refine ⟨by rw [e25, e18, e56, e53, e11, e4]; decide, 320, by decide, by decide, by decide, fun q30 e30 G31 e31 k32 e32 => ?_⟩
  rw [d8] at e30
  rw [znw1_of d8] at e31
  subst e30
  have o31 : zob G31 (zp 320 0) 10 := by rw [e31]; exact zob_1 (by omega) (by omega) (by decide)
  have b31 : zob G31 (zp 384 0) 12 := by rw [e31]; exact zob_k (by omega) b28 d8
  refine ⟨o31.1, cV (c_init9 o31) (by decide) ⟨b31, fun G35 e35 => ?_⟩⟩
  have E35 : G35 = sP5 G := by rw [e35, e31, E28]; rfl
  have b35 : zob G35 (zp 384 0) 12 := by rw [e35]; exact b31
  clear e35 o31 e31 b31
  have d9 : zcn G35 224 = 0 := by rw [E35]; exact c0 224 (by decide)
  refine ⟨by rw [e32, e25, e18, e56, e53, e11, e4]; decide, 224, by decide, by decide, by decide, fun q37 e37 G38 e38 k39 e39 => ?_⟩
  rw [d9] at e37
  rw [znw1_of d9] at e38
  subst e37
  have o38 : zob G38 (zp 224 0) 7 := by rw [e38]; exact zob_1 (by omega) (by omega) (by decide)
  have b38 : zob G38 (zp 384 0) 12 := by rw [e38]; exact zob_k (by omega) b35 d9
  have d10 : zcn G38 4 = 0 := by rw [e38, E35]; exact c0 4 (by decide)
  have d11 : zcn G38 5 = 0 := by rw [e38, E35]; exact c0 5 (by decide)
  have r4 : zrv G38 (zp 384 0) 5 = zp 256 0 := by rw [e38, E35]; rfl
  have r5 : zrv G38 (zp 384 0) 6 = zp 96 0 := by rw [e38, E35]; rfl
  have r6 : zrv G38 (zp 384 0) 7 = zp 320 0 := by rw [e38, E35]; rfl
  rw [r4, r5, r6]
  refine ⟨b38, b38, b38, o38.1, xcV_of (c_init6 o38 d10 d11 (by decide) (by decide) (by decide)) (by decide) (by rw [e39, e32, e25, e18, e56, e53, e11, e4]; decide) ?_⟩
  have b40 : zob (s6 G38 (zp 224 0) 4 5 (zp 256 0) (zp 96 0) (zp 320 0)) (zp 384 0) 12 := zob_s6 (by omega) (by omega) (by omega) b38 d10 d11
  refine ⟨b40, fun G42 e42 => ?_⟩
  have E42 : G42 = sP6 G := by rw [e42, e38, E35]; rfl
  have b42 : zob G42 (zp 384 0) 12 := by rw [e42]; exact b40
  clear e42 b40 r4 r5 r6 d10 d11 o38 b38 e38
  have d12 : zcn G42 225 = 0 := by rw [E42]; exact c0 225 (by decide)
  refine ⟨by rw [e39, e32, e25, e18, e56, e53, e11, e4]; decide, 225, by decide, by decide, by decide, fun q44 e44 G45 e45 k46 e46 => ?_⟩
  rw [d12] at e44
  rw [znw1_of d12] at e45
  subst e44
  have o45 : zob G45 (zp 225 0) 7 := by rw [e45]; exact zob_1 (by omega) (by omega) (by decide)
  have b45 : zob G45 (zp 384 0) 12 := by rw [e45]; exact zob_k (by omega) b42 d12
  have d13 : zcn G45 6 = 0 := by rw [e45, E42]; exact c0 6 (by decide)
  have d14 : zcn G45 7 = 0 := by rw [e45, E42]; exact c0 7 (by decide)
  have r4 : zrv G45 (zp 384 0) 5 = zp 256 0 := by rw [e45, E42]; rfl
  have r5 : zrv G45 (zp 384 0) 6 = zp 96 0 := by rw [e45, E42]; rfl
  have r6 : zrv G45 (zp 384 0) 7 = zp 320 0 := by rw [e45, E42]; rfl
  rw [r4, r5, r6]
  refine ⟨b45, b45, b45, o45.1, xcV_of (c_init6 o45 d13 d14 (by decide) (by decide) (by decide)) (by decide) (by rw [e46, e39, e32, e25, e18, e56, e53, e11, e4]; decide) ?_⟩
  have b47 : zob (s6 G45 (zp 225 0) 6 7 (zp 256 0) (zp 96 0) (zp 320 0)) (zp 384 0) 12 := zob_s6 (by omega) (by omega) (by omega) b45 d13 d14
  refine ⟨b47, fun G49 e49 => ⟨rfl, ?_⟩⟩
  rw [e49, e45, E42]; rfl
end ZInit
