/-! a name's figure -/
section ZCw
variable {E : ZE} {l : Launch} {K : ZG} {m n1 m1 : Nat} {S : ZS9} {X : ZG}
theorem rem3 : ∀ k, k < 24 → Int32.ofNat k - Int32.ofNat k / Int32.ofNat 3 * Int32.ofNat 3 = Int32.ofNat (k % 3) := by decide +kernel
theorem c_figure (hW : PWm K X) {p i j : Nat} (hi : i < zcn X 192) (hj : j < zcn X 1032) (h0 : zrv X (zp 192 i) 0 = zp 1032 j) (h1 : zln X (zp 1032 j) = 24) (h2 : ∀ k, k < 24 → ziv X (zp 1032 j) k = S 1132 (24 * p + k)) : zMet E l mX5_checkFigure 0 0 [.ref (zp 192 i)] X (zI (figN S p 24 - figN S p 24 / 10 * 10) X) := by
  obtain ⟨⟨w1, w2, w3⟩, -⟩ := hW
  have ho : zob X (zp 192 i) 6 := zob_zp (by omega) (by omega) hi
  have ha : zar X (zp 1032 j) 0 := zar_zp (by omega) (by omega) (by omega) hj
  refine z_meth (by decide) (Nat.le_of_ble_eq_true rfl) (by simp [Value.category]) (wpt_X5_checkFigure_0 ?_); unfold wp_X5_checkFigure_0
  have key : ∀ k, k ≤ 24 → ∀ b, zW E l mX5_checkFigure 0 0 X (zI (figN S p 24 - figN S p 24 / 10 * 10) X) b 4 [some (.ref (zp 192 i)), some (.int (figN S p k)), some (.int (Int32.ofNat k)), none] [] X := by
    refine zdown (fun b => ?_) (fun k hk ih b => ?_)
    · refine wpt_X5_checkFigure_4 ?_; unfold wp_X5_checkFigure_4
      exact it (by decide) ⟨rfl, rfl⟩
    · have e37 : ∀ s0, s0 = (if S 1132 (24 * p + k) = 60 then 0 else S 1132 (24 * p + k) - 65 + 10) → zW E l mX5_checkFigure 0 0 X (zI (figN S p 24 - figN S p 24 / 10 * 10) X) b 37 [some (.ref (zp 192 i)), some (.int (figN S p k)), some (.int (Int32.ofNat k)), none] [.int s0] X := by
        intro s0 hs
        have ih := ih b
        have e1 : figN S p (k + 1) = figN S p k + (if S 1132 (24 * p + k) = 60 then 0 else S 1132 (24 * p + k) - 65 + 10) * figW k := rfl
        rw [e1, ← hs] at ih
        refine wpt_X5_checkFigure_37 ?_; unfold wp_X5_checkFigure_37
        rw [w2, rem3 k hk, n_nn (by omega), w3 _ (Nat.mod_lt _ (by omega)), n_p1]
        refine ⟨Or.inr w1, by decide, Or.inr w1, n_in (Nat.mod_lt _ (by omega)) (by omega), ?_⟩
        exact ih
      refine wpt_X5_checkFigure_4 ?_; unfold wp_X5_checkFigure_4
      rw [h0, h1, n_nn (by omega), h2 k hk]
      refine ie (by rw [show (24 : Int32) = Int32.ofNat 24 from rfl, n_le (by omega) (by omega)]; omega) ⟨ho, Or.inl ha, n_in hk (by omega), fun c => ⟨ho, Or.inl ha, n_in hk (by omega), e37 _ (by rw [if_neg c])⟩, fun c => e37 _ (by rw [if_pos (Classical.not_not.mp c)])⟩
  exact key 0 (by omega) _
theorem p_figure (htr : l.stackTraces = false) (h : PO K S m n1 m1 X) (x : Int32) : zMet E l mX11_figure 7 7 [.ref (zp 384 0), .int x] X (cO cy (fun _ => xIO) (fFigure S x) (fun S' G' => PO K S' m n1 m1 G')) := by
  have hN := h.of.ri.2.1.2
  refine z_meth (by decide) (Nat.le_of_ble_eq_true rfl) (by simp [Value.category]) (wpt_X11_figure_0 ?_); unfold wp_X11_figure_0
  by_cases hx : zin x (nP S)
  · obtain ⟨p, hp, rfl⟩ := zin_of hx (by omega)
    have ef : fFigure S (Int32.ofNat p) = fCalls3 (S 2133 p = 0) (0, -1, S) (0, figN S p 24 - figN S p 24 / 10 * 10, S) := by unfold fFigure; rw [f3f (nn hx), n_nn (by omega)]
    rw [ef]
    refine ⟨h.o.1, cR (c_personAt htr h hp) (by decide) ⟨h.of.cp.ob hp, ?_⟩⟩
    rcases h.2.2.2.1 p hp with ⟨h0, h1⟩ | ⟨h0, i, i1, i2, j, j1, j2, j3, j4⟩
    · rw [f3t h0, h1]
      exact ie (nn rfl) (cO_ok rfl h)
    · rw [f3f h0, i2]
      exact it (zpn (by omega)) ⟨zob_zp (by omega) (by omega) i1, cI (c_figure h.2.2.2.2.1 i1 j1 j2 j3 j4) (by decide) (cO_ok rfl h)⟩
  · have ef : fFigure S x = (1, 0, S) := by unfold fFigure; rw [f3t hx]
    rw [ef]
    exact ⟨h.o.1, xcR_th (c_personNo htr h hx) (by decide) (by decide) (cO_ex (by decide) rfl h)⟩
end ZCw
