/-! counts -/
section ZCv
variable {E : ZE} {l : Launch} {K : ZG} {m n1 m1 : Nat} {S : ZS9} {X : ZG}
theorem inn_one {x y : Int32} : inn x y y ↔ x = y := by
  unfold inn
  rw [i_tl, i_tl, i_te]
  omega
theorem zinst_1 {y : Int32} : zinst S y y = zcnt (fun a => S 1165 (7 * a + 0) = y) (nA S) := by
  unfold zinst
  exact zcnt_if (fun i _ => inn_one)
theorem zinst_5 (h : SD S) : zinst S 0 5 = zcnt (fun a => ¬ 5 < S 1165 (7 * a + 0)) (nA S) := by
  unfold zinst
  exact zcnt_if (fun i _ => ⟨fun z => z.2, fun z => ⟨(h.2.2 i).1, z⟩⟩)
theorem zcount_no {w : Int32} (h0 : ¬ w = 0) (h1 : ¬ w = 1) (h2 : ¬ w = 2) (h3 : ¬ w = 3) (h4 : ¬ w = 4) (h5 : ¬ w = 5) (h6 : ¬ w = 6) (h7 : ¬ w = 7) (h8 : ¬ w = 8) (h9 : ¬ w = 9) (h10 : ¬ w = 10) (h11 : ¬ w = 11) (h12 : ¬ w = 12) (h13 : ¬ w = 13) (h14 : ¬ w = 14) (h15 : ¬ w = 15) (h16 : ¬ w = 16) (h17 : ¬ w = 17) : zcount S w = -1 := by
  unfold zcount
  rw [if_neg h0, if_neg h1, if_neg h2, if_neg h3, if_neg h4, if_neg h5, if_neg h6, if_neg h7, if_neg h8, if_neg h9, if_neg h10, if_neg h11, if_neg h12, if_neg h13, if_neg h14, if_neg h15, if_neg h16, if_neg h17]
theorem p_count (h : PO K S m n1 m1 X) (w : Int32) : zMet E l mX11_count 7 7 [.ref (zp 384 0), .int w] X (cO cy (fun _ => xIO) (fCount S w) (fun S' G' => PO K S' m n1 m1 G')) := by
  have o := h.of
  obtain ⟨q1, -, q3, q4, q5, -, q7, -⟩ := h.o
  obtain ⟨hl, h2, h3⟩ := h.pl
  have hA := o.nA2
  have hP := o.ri.2.1
  have hT := o.ri.2.2.2.1
  have hL := h.si.1.2.1
  have al := o.aL
  have r3 : zrv X (zp 224 0) 3 = zp 4 0 := o.r3
  have cd := o.cd
  have f5 : ziv X (zp 224 0) 5 = S 416 71 := o.f5
  have f6 : ziv X (zp 224 0) 6 = S 416 1 := o.f6
  have f8 : ziv X (zp 224 0) 8 = S 416 43 := o.f8
  have f9 : ziv X (zp 224 0) 9 = S 416 72 := o.f9
  have f10 : ziv X (zp 224 0) 10 = S 416 73 := o.f10
  have f11 : ziv X (zp 224 0) 11 = S 416 74 := o.f11
  have f12 : ziv X (zp 224 0) 12 = S 416 75 := o.f12
  have f13 : ziv X (zp 224 0) 13 = S 416 76 := o.f13
  obtain ⟨f, ll, -⟩ := h.2.2.1
  obtain ⟨ql, t1, t2, t3⟩ := c_lawT h
  refine z_meth (by decide) (Nat.le_of_ble_eq_true rfl) (by simp [Value.category]) (wpt_X11_count_0 ?_); unfold wp_X11_count_0
  rw [q3, q4, q5, q7, h3, r3, f5, f6, f8, f9, f10, f11, f12, f13, cd.2.1]
  refine ⟨?_, ?_, ?_, ?_, ?_, ?_, ?_, ?_, ?_, ?_, ?_, ?_, ?_, ?_, ?_, ?_, ?_, ?_, fun c0 c1 c2 c3 c4 c5 c6 c7 c8 c9 c10 c11 c12 c13 c14 c15 c16 c17 => ?_⟩
  · rintro rfl; exact ⟨q1, o.oo, cO_ok rfl h⟩
  · rintro rfl; exact ⟨q1, h2, zobL hl (by omega), csize hl (by omega) (by decide) (cO_ok (by rw [← hP.1]; rfl) h)⟩
  · rintro rfl; exact ⟨q1, zobL ll (by omega), csize ll (by omega) (by decide) (cO_ok (by rw [← hL.1]; rfl) h)⟩
  · rintro rfl; exact ⟨q1, o.oo, zobL al (by omega), csize al (by omega) (by decide) (cO_ok (by rw [← hA.1]; rfl) h)⟩
  · rintro rfl; exact ⟨q1, o.oo, cI (c_countOpen o.so (by decide) o.ri) (by decide) (cO_ok (by rw [← zinst_5 h.si.2.2.1]; rfl) h)⟩
  · rintro rfl; exact ⟨q1, o.oo, cI (c_countIn o.so (by decide) o.ri 7) (by decide) (cO_ok (by rw [← zinst_1]; rfl) h)⟩
  · rintro rfl; exact ⟨q1, o.oo, cI (c_countIn o.so (by decide) o.ri 3) (by decide) (cO_ok (by rw [← zinst_1]; rfl) h)⟩
  · rintro rfl; exact ⟨q1, o.oo, cO_ok rfl h⟩
  · rintro rfl; exact ⟨q1, o.oo, cO_ok rfl h⟩
  · rintro rfl; exact ⟨q1, o.oo, cO_ok rfl h⟩
  · rintro rfl; exact ⟨q1, o.oo, cO_ok rfl h⟩
  · rintro rfl; exact ⟨q1, o.oo, cO_ok rfl h⟩
  · rintro rfl; exact ⟨q1, o.oo, cO_ok rfl h⟩
  · rintro rfl; exact ⟨q1, cd.1, zobL cd.2.2.2.2.1 (by omega), csize cd.2.2.2.2.1 (by omega) (by decide) (cO_ok (by rw [← hT.1]; rfl) h)⟩
  · rintro rfl; exact ⟨q1, o.oo, cO_ok rfl h⟩
  · rintro rfl; exact ⟨q1, cR (t1 E l) (by decide) ⟨t2, cO_ok (by rw [t3]; rfl) h⟩⟩
  · rintro rfl; exact ⟨q1, o.oo, cI (c_countIn o.so (by decide) o.ri 9) (by decide) (cO_ok (by rw [← zinst_1]; rfl) h)⟩
  · rintro rfl; exact ⟨q1, o.oo, cI (c_countIn o.so (by decide) o.ri 8) (by decide) (cO_ok (by rw [← zinst_1]; rfl) h)⟩
  · have ef : fCount S w = (0, -1, S) := by unfold fCount; rw [zcount_no c0 c1 c2 c3 c4 c5 c6 c7 c8 c9 c10 c11 c12 c13 c14 c15 c16 c17]
    rw [ef]; exact cO_ok rfl h
end ZCv
