/-! the law of a day -/
section ZCu
variable {E : ZE} {l : Launch} {K : ZG} {m n1 m1 : Nat} {S : ZS9} {X : ZG}
/-- the place of a law: the law that says nothing if there is none -/
def zlq (f : Nat → Nat) : Option Nat → Nat
  | none => zp 128 0
  | some j => f j
theorem c_lawOf (hO : POo X) (hN : nL S ≤ 12) {f : Nat → Nat} (hl : zAL X 1 (nL S) f) (hb : ∀ j, j < nL S → LW9 S X j (f j)) (nl : NL9 S X) (h7 : zob X (zp 224 0) 7) (h6 : ziv X (zp 224 0) 6 = S 416 1) : zMet E l mX11_lawOfToday 3 0 [.ref (zp 384 0)] X (zRf (zlq f (zlaw S (S 416 1) (nL S))) X) := by
  have o3 := hO.2.2.1
  have o8 := hO.2.2.2.2.2.2.1
  obtain ⟨⟨x, x0, x1, x2, -⟩, xn⟩ := nl
  have on : zob X (zp 128 0) 4 := zob_zp (by omega) (by omega) x0
  have ob : ∀ j, j < nL S → zob X (f j) 4 ∧ ziv X (f j) 0 = S 1110 j := fun j hj => by
    obtain ⟨i, i1, i2, i3, -⟩ := hb j hj
    refine ⟨?_, i3⟩
    rw [i2]; exact zob_zp (by omega) (by omega) i1
  refine z_meth (by decide) (Nat.le_of_ble_eq_true rfl) (by simp [Value.category]) (wpt_X11_lawOfToday_0 ?_); unfold wp_X11_lawOfToday_0
  have key : ∀ i, i ≤ nL S → ∀ k, zW E l mX11_lawOfToday 3 0 X (zRf (zlq f (zlaw S (S 416 1) (nL S))) X) k 7 [some (.ref (zp 384 0)), some (.ref (zlq f (zlaw S (S 416 1) i))), some (.int (Int32.ofNat i)), none] [] X := by
    refine zdown (fun k => ?_) (fun i hi ih k => ?_)
    · refine wpt_X11_lawOfToday_7 ?_; unfold wp_X11_lawOfToday_7
      rw [o3]
      exact ⟨hO.1, zobL hl (by omega), csize hl (by omega) (by decide) (it (by rw [n_le (by omega) (by omega)]; omega) ⟨rfl, rfl⟩)⟩
    · have ih := ih k
      have e1 : zlaw S (S 416 1) (i + 1) = @ite _ (¬ S 416 1 < S 1110 i ∧ ∀ b, zlaw S (S 416 1) i = some b → ¬ S 1110 i < S 1110 b) (Classical.propDecidable _) (some i) (zlaw S (S 416 1) i) := rfl
      rw [e1] at ih
      obtain ⟨b1, b2⟩ := ob i hi
      refine wpt_X11_lawOfToday_7 ?_; unfold wp_X11_lawOfToday_7
      rw [o3, n_p1]
      refine ⟨hO.1, zobL hl (by omega), csize hl (by omega) (by decide) (ie (by rw [n_le (by omega) (by omega)]; omega) ⟨hO.1, by rw [o3]; exact zobL hl (by omega), ?_⟩)⟩
      rw [o3]
      refine cget hl (by omega) (by omega) hi (by decide) ⟨b1, b1, hO.1, ?_⟩
      rw [o8, h6, b2]
      refine ⟨h7, fun c => ?_, fun c => ⟨b1, ?_⟩⟩
      · rw [if_neg (fun z => z.1 c)] at ih; exact ih
      · cases hz : zlaw S (S 416 1) i with
        | none =>
          rw [hz] at ih
          rw [if_pos ⟨c, fun b z => nomatch z⟩] at ih
          show zob X (zp 128 0) 4 ∧ ((S 1110 i < ziv X (zp 128 0) 0 → _) ∧ (¬ S 1110 i < ziv X (zp 128 0) 0 → _))
          rw [x1]
          refine ⟨on, fun c2 => absurd ?_ (xn i hi), fun _ => ih⟩
          have em : (-1 : Int32).toInt = -1 := by decide
          have ez : (0 : Int32).toInt = 0 := by decide
          rw [i_tl] at c2 ⊢
          omega
        | some b =>
          have hbl : b < i := zlaw_lt hz
          obtain ⟨d1, d2⟩ := ob b (by omega)
          rw [hz] at ih
          show zob X (f b) 4 ∧ ((S 1110 i < ziv X (f b) 0 → _) ∧ (¬ S 1110 i < ziv X (f b) 0 → _))
          rw [d2]
          refine ⟨d1, fun c2 => ?_, fun c2 => ?_⟩
          · rw [if_neg (fun z => z.2 b rfl c2)] at ih; exact ih
          · rw [if_pos ⟨c, fun b' z => by cases z; exact c2⟩] at ih; exact ih
  rw [hO.2.2.2.2.2.2.2.2]
  exact ⟨hO.1, key 0 (by omega) _⟩
theorem c_lawT (h : PO K S m n1 m1 X) : ∃ q, (∀ E l, zMet E l mX11_lawOfToday 3 0 [.ref (zp 384 0)] X (zRf q X)) ∧ zob X q 4 ∧ ziv X q 1 = (match zlaw S (S 416 1) (nL S) with | none => 0 | some j => S 1111 j) := by
  obtain ⟨f, hl, hb, nl⟩ := h.2.2.1
  refine ⟨_, fun E l => c_lawOf h.o (SI_nL h.si) hl hb nl h.of.oo h.of.f6, ?_⟩
  cases hz : zlaw S (S 416 1) (nL S) with
  | none =>
    obtain ⟨⟨x, x0, x1, x2, -⟩, xn⟩ := nl
    exact ⟨zob_zp (by omega) (by omega) x0, x2⟩
  | some j =>
    obtain ⟨i, i1, i2, i3, i4, -⟩ := hb j (zlaw_lt hz)
    refine ⟨?_, i4⟩
    show zob X (f j) 4
    rw [i2]; exact zob_zp (by omega) (by omega) i1
end ZCu
