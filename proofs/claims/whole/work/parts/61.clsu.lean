/-! the law of a day -/
section ZCu
variable {E : ZE} {l : Launch} {K : ZG} {m n1 m1 : Nat} {S : ZS9} {X : ZG}
/-- the place of a law, if there is one -/
def zlq (f : Nat → Nat) : Option Nat → Nat
  | none => 0
  | some j => f j
theorem c_lawOf (hO : POo X) (hN : nL S ≤ 12) {f : Nat → Nat} (hl : zAL X 1 (nL S) f) (hb : ∀ j, j < nL S → LW9 S X j (f j)) (day : Int32) : zMet E l mX11_lawOf 3 0 [.ref (zp 384 0), .int day] X (zRf (zlq f (zlaw S day (nL S))) X) := by
  have o3 := hO.2.2.1
  have ob : ∀ j, j < nL S → zob X (f j) 4 ∧ ziv X (f j) 0 = S 1110 j ∧ ¬ f j = 0 := fun j hj => by
    obtain ⟨i, i1, i2, i3, -⟩ := hb j hj
    refine ⟨?_, i3, ?_⟩
    · rw [i2]; exact zob_zp (by omega) (by omega) i1
    · rw [i2]; exact zpn (by omega)
  refine z_meth (by decide) (Nat.le_of_ble_eq_true rfl) (by simp [Value.category]) (wpt_X11_lawOf_0 ?_); unfold wp_X11_lawOf_0
  have key : ∀ i, i ≤ nL S → ∀ k, zW E l mX11_lawOf 3 0 X (zRf (zlq f (zlaw S day (nL S))) X) k 4 [some (.ref (zp 384 0)), some (.int day), some (.ref (zlq f (zlaw S day i))), some (.int (Int32.ofNat i)), none] [] X := by
    refine zdown (fun k => ?_) (fun i hi ih k => ?_)
    · refine wpt_X11_lawOf_4 ?_; unfold wp_X11_lawOf_4
      rw [o3]
      exact ⟨hO.1, zobL hl (by omega), csize hl (by omega) (by decide) (it (by rw [n_le (by omega) (by omega)]; omega) ⟨rfl, rfl⟩)⟩
    · have ih := ih k
      have e1 : zlaw S day (i + 1) = @ite _ (¬ day < S 1110 i ∧ ∀ b, zlaw S day i = some b → ¬ S 1110 i < S 1110 b) (Classical.propDecidable _) (some i) (zlaw S day i) := rfl
      rw [e1] at ih
      obtain ⟨b1, b2, b3⟩ := ob i hi
      refine wpt_X11_lawOf_4 ?_; unfold wp_X11_lawOf_4
      rw [o3, n_p1]
      refine ⟨hO.1, zobL hl (by omega), csize hl (by omega) (by decide) (ie (by rw [n_le (by omega) (by omega)]; omega) ⟨hO.1, by rw [o3]; exact zobL hl (by omega), ?_⟩)⟩
      rw [o3]
      refine cget hl (by omega) (by omega) hi (by decide) ⟨b1, b1, ?_⟩
      rw [b2]
      refine ⟨fun c => ?_, fun c => ?_⟩
      · rw [if_neg (fun z => z.1 c)] at ih; exact ih
      · cases hz : zlaw S day i with
        | none =>
          rw [hz] at ih
          rw [if_pos ⟨c, fun b z => nomatch z⟩] at ih
          exact it rfl ih
        | some b =>
          have hbl : b < i := zlaw_lt hz
          obtain ⟨d1, d2, d3⟩ := ob b (by omega)
          rw [hz] at ih
          show (f b = 0 → _) ∧ (¬ f b = 0 → zob X (f i) 4 ∧ zob X (f b) 4 ∧ ((S 1110 i < ziv X (f b) 0 → _) ∧ (¬ S 1110 i < ziv X (f b) 0 → _)))
          rw [d2]
          refine ie d3 ⟨b1, d1, fun c2 => ?_, fun c2 => ?_⟩
          · rw [if_neg (fun z => z.2 b rfl c2)] at ih; exact ih
          · rw [if_pos ⟨c, fun b' z => by cases z; exact c2⟩] at ih; exact ih
  exact key 0 (by omega) _
theorem c_clauses (h : PO K S m n1 m1 X) : zMet E l mX11_clausesOfToday 4 0 [.ref (zp 384 0)] X (zI (match zlaw S (S 416 1) (nL S) with | none => 0 | some j => S 1111 j) X) := by
  obtain ⟨f, hl, hb⟩ := h.2.2.1
  refine z_meth (by decide) (Nat.le_of_ble_eq_true rfl) (by simp [Value.category]) (wpt_X11_clausesOfToday_0 ?_); unfold wp_X11_clausesOfToday_0
  rw [h.o.2.2.2.2.2.2.1, show ziv X (zp 224 0) 6 = S 416 1 from h.of.f6]
  refine ⟨h.o.1, h.of.oo, h.o.1, cR (c_lawOf h.o (SI_nL h.si) hl hb (S 416 1)) (by decide) ?_⟩
  cases hz : zlaw S (S 416 1) (nL S) with
  | none => exact ie (nn rfl) ⟨rfl, rfl⟩
  | some j =>
    obtain ⟨i, i1, i2, i3, i4, -⟩ := hb j (zlaw_lt hz)
    show (¬ f j = 0 → zob X (f j) 4 ∧ zI _ X (.inl (some (.int (ziv X (f j) 1)))) X) ∧ _
    rw [i4]
    exact it (by rw [i2]; exact zpn (by omega)) ⟨by rw [i2]; exact zob_zp (by omega) (by omega) i1, rfl, rfl⟩
end ZCu
