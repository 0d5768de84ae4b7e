/-! public methods: blanks, rules, give -/
section ZCs
variable {E : ZE} {l : Launch} {K : ZG} {w m n1 m1 : Nat} {S : ZS9} {r : Int32} {X : ZG}
theorem p_blanks (htr : l.stackTraces = false) (h : PO K S m n1 m1 X) (x : Int32) : zMet E l mX11_blanks 7 7 [.ref (zp 384 0), .int x] X (cO cy (fun _ => xIA) (fBlanks S x) (fun S' G' => PO K S' m n1 m1 G')) := by
  have e8 : ziv X (zp 224 0) 8 = S 416 43 := h.of.f8
  have e7 := h.o.2.2.2.2.2.2.1
  have bad : ¬ (inn x 0 1000 ∧ S 416 43 + x ≤ 10000) → fBlanks S x = (1, 0, S) := fun hc => by unfold fBlanks; rw [f3t hc]
  refine z_meth (by decide) (Nat.le_of_ble_eq_true rfl) (by simp [Value.category]) (wpt_X11_blanks_0 ?_); unfold wp_X11_blanks_0
  rw [e7, e8]
  refine ⟨fun c => ?_, fun c => ⟨fun c2 => ?_, fun c2 => ⟨h.o.1, h.of.oo, fun c3 => ?_, fun c3 => cV (c_demand1 htr) (by decide) ?_⟩⟩⟩
  · rw [bad (fun z => z.1.1 c)]
    exact xcV_th (c_demand0 htr) (by decide) (by decide) (cO_ex (by decide) rfl h)
  · rw [bad (fun z => z.1.2 c2)]
    exact xcV_th (c_demand0 htr) (by decide) (by decide) (cO_ex (by decide) rfl h)
  · rw [bad (fun z => (i_nlt.mpr z.2) c3)]
    exact xcV_th (c_demand0 htr) (by decide) (by decide) (cO_ex (by decide) rfl h)
  · rw [e7, e8]
    refine ⟨h.o.1, h.of.oo, h.of.oo, fun G12 e12 => ?_⟩
    have h12 : PO K (zup S 416 43 (S 416 43 + x)) m n1 m1 G12 := by
      rw [e12]
      exact h.zd (frO (w := 0) (by decide) zfr.rf) (zdk.up (by unfold zdc; omega)) (h.of.putO (by unfold ok9; omega) (by omega) (by omega)) (zup_ne (by omega)) (h.si.2.2.1.ot (Nat.le_trans h.of.ri.2.2.1.2 (by omega)) (by omega) (by omega)) (h.si.2.2.2.2.mn (zmn.up (by omega)))
    have ef : fBlanks S x = (0, S 416 43 + x, zup S 416 43 (S 416 43 + x)) := by unfold fBlanks; rw [f3f (nn ⟨⟨c, c2⟩, i_nlt.mp c3⟩)]
    rw [h12.o.2.2.2.2.2.2.1, show ziv G12 (zp 224 0) 8 = zup S 416 43 (S 416 43 + x) 416 43 from h12.of.f8, zup_s, ef]
    exact ⟨h12.o.1, h12.of.oo, cO_ok rfl h12⟩
theorem p_rules (htr : l.stackTraces = false) (h : PO K S m n1 m1 X) (a b c d e : Int32) : zMet E l mX11_rules 7 7 [.ref (zp 384 0), .int a, .int b, .int c, .int d, .int e] X (cO cn (fun _ => xIA) (fRules S a b c d e) (fun S' G' => PO K S' m n1 m1 G')) := by
  generalize hQ : cO cn (fun _ => xIA) (fRules S a b c d e) (fun S' G' => PO K S' m n1 m1 G') = Q
  have bad : ¬ (inn a 1 200 ∧ inn b 0 10000 ∧ inn c 0 1000 ∧ inn d 0 60 ∧ inn e 0 60) → Q (.inr xIA) X := fun hc => by
    rw [← hQ]; unfold fRules; rw [f3t hc]; exact cO_ex (by decide) rfl h
  have th : ∀ {k : Nat} {K : ZG → Nat → Prop}, 7 ≤ k → ¬ (inn a 1 200 ∧ inn b 0 10000 ∧ inn c 0 1000 ∧ inn d 0 60 ∧ inn e 0 60) → xcV E l mX11_demand 7 [.int 0] X k (fun X G9 => Q (.inr X) G9) K := fun hk hc => xcV_th (c_demand0 htr) (by decide) hk (bad hc)
  have e87 : ∀ s0 k, 7 ≤ k → (s0 = 1 ∧ (inn a 1 200 ∧ inn b 0 10000 ∧ inn c 0 1000 ∧ inn d 0 60 ∧ inn e 0 60)) ∨ (s0 = 0 ∧ ¬ (inn a 1 200 ∧ inn b 0 10000 ∧ inn c 0 1000 ∧ inn d 0 60 ∧ inn e 0 60)) → zW E l mX11_rules 7 7 X Q k 87 [some (.ref (zp 384 0)), some (.int a), some (.int b), some (.int c), some (.int d), some (.int e)] [.int s0] X := by
    intro s0 k hk hs
    refine wpt_X11_rules_87 ?_; unfold wp_X11_rules_87
    rcases hs with ⟨rfl, hg⟩ | ⟨rfl, hg⟩
    · refine cV (c_demand1 htr) (by decide) ?_
      rw [h.o.2.2.2.2.2.1]
      refine ⟨h.o.1, h.of.cr.1, fun G3 e3 => ?_⟩
      have h3 : PO K (zup S 416 37 a) m n1 m1 G3 := by rw [e3]; exact h.putR (by unfold rk; omega)
      rw [h3.o.2.2.2.2.2.1]
      refine ⟨h3.o.1, h3.of.cr.1, fun G4 e4 => ?_⟩
      have h4 : PO K (zup (zup S 416 37 a) 416 38 b) m n1 m1 G4 := by rw [e4]; exact h3.putR (by unfold rk; omega)
      rw [h4.o.2.2.2.2.2.1]
      refine ⟨h4.o.1, h4.of.cr.1, fun G5 e5 => ?_⟩
      have h5 : PO K (zup (zup (zup S 416 37 a) 416 38 b) 416 39 c) m n1 m1 G5 := by rw [e5]; exact h4.putR (by unfold rk; omega)
      rw [h5.o.2.2.2.2.2.1]
      refine ⟨h5.o.1, h5.of.cr.1, fun G6 e6 => ?_⟩
      have h6 : PO K (zup (zup (zup (zup S 416 37 a) 416 38 b) 416 39 c) 416 40 d) m n1 m1 G6 := by rw [e6]; exact h5.putR (by unfold rk; omega)
      rw [h6.o.2.2.2.2.2.1]
      refine ⟨h6.o.1, h6.of.cr.1, fun G7 e7 => ?_⟩
      rw [e7, ← hQ]
      unfold fRules
      rw [f3f (nn hg)]
      exact cO_ok rfl (h6.putR (by unfold rk; omega))
    · exact th hk hg
  have e55 : ∀ s0 k, 7 ≤ k → (s0 = 1 ∧ (inn a 1 200 ∧ inn b 0 10000 ∧ inn c 0 1000)) ∨ (s0 = 0 ∧ ¬ (inn a 1 200 ∧ inn b 0 10000 ∧ inn c 0 1000)) → zW E l mX11_rules 7 7 X Q k 55 [some (.ref (zp 384 0)), some (.int a), some (.int b), some (.int c), some (.int d), some (.int e)] [.int s0] X := by
    intro s0 k hk hs
    refine wpt_X11_rules_55 ?_; unfold wp_X11_rules_55
    rcases hs with ⟨rfl, g1, g2, g3⟩ | ⟨rfl, hg⟩
    · refine cV (c_demand1 htr) (by decide) ⟨fun c1 => e87 0 _ hk (Or.inr ⟨rfl, fun z => z.2.2.2.1.1 c1⟩), fun c1 => ⟨fun c2 => e87 0 _ hk (Or.inr ⟨rfl, fun z => z.2.2.2.1.2 c2⟩), fun c2 => ⟨fun c3 => e87 0 _ hk (Or.inr ⟨rfl, fun z => z.2.2.2.2.1 c3⟩), fun c3 => ⟨fun c4 => e87 0 _ hk (Or.inr ⟨rfl, fun z => z.2.2.2.2.2 c4⟩), fun c4 => e87 1 _ hk (Or.inl ⟨rfl, g1, g2, g3, ⟨c1, c2⟩, ⟨c3, c4⟩⟩)⟩⟩⟩⟩
    · exact th hk (fun z => hg ⟨z.1, z.2.1, z.2.2.1⟩)
  have e17 : ∀ s0 k, 7 ≤ k → (s0 = 1 ∧ inn a 1 200) ∨ (s0 = 0 ∧ ¬ inn a 1 200) → zW E l mX11_rules 7 7 X Q k 17 [some (.ref (zp 384 0)), some (.int a), some (.int b), some (.int c), some (.int d), some (.int e)] [.int s0] X := by
    intro s0 k hk hs
    refine wpt_X11_rules_17 ?_; unfold wp_X11_rules_17
    rcases hs with ⟨rfl, g1⟩ | ⟨rfl, hg⟩
    · refine cV (c_demand1 htr) (by decide) ⟨fun c1 => th hk (fun z => z.2.1.1 c1), fun c1 => ⟨fun c2 => th hk (fun z => z.2.1.2 c2), fun c2 => cV (c_demand1 htr) (by decide) ⟨fun c3 => e55 0 _ hk (Or.inr ⟨rfl, fun z => z.2.2.1 c3⟩), fun c3 => ⟨fun c4 => e55 0 _ hk (Or.inr ⟨rfl, fun z => z.2.2.2 c4⟩), fun c4 => e55 1 _ hk (Or.inl ⟨rfl, g1, ⟨c1, c2⟩, ⟨c3, c4⟩⟩)⟩⟩⟩⟩
    · exact th hk (fun z => hg z.1)
  refine z_meth (by decide) (Nat.le_of_ble_eq_true rfl) (by simp [Value.category]) (wpt_X11_rules_0 ?_); unfold wp_X11_rules_0
  exact ⟨fun c1 => e17 0 _ (by decide) (Or.inr ⟨rfl, fun z => z.1 c1⟩), fun c1 => ⟨fun c2 => e17 0 _ (by decide) (Or.inr ⟨rfl, fun z => z.2 c2⟩), fun c2 => e17 1 _ (by decide) (Or.inl ⟨rfl, c1, c2⟩)⟩⟩
/-- an asking's items -/
theorem SO.putI (h : SO w S r m X) (hw : w < 2) {a0 : Nat} {v : Int32} : SO w (zup S 1157 a0 v) r m (zsi X (zp (32 + w) a0) 8 v) := by
  obtain ⟨⟨o1, o2, o3, o4, o5, o6, o7⟩, ⟨a1, a2, a3⟩, ⟨b1, b2, b3, b4, b5⟩⟩ := h
  have hf : zfr [32 + w] X (zsi X (zp (32 + w) a0) 8 v) := zfr.si (by rw [zp_mod (by omega)]; simp)
  have ni : ∀ t, t ≠ 32 + w → t ∉ [32 + w] := fun t h => by simp [h]
  have hA : nA (zup S 1157 a0 v) = nA S := nA_up (by omega)
  have hB : nB (zup S 1157 a0 v) = nB S := nB_up (by omega)
  have h416 : ∀ k, zup S 1157 a0 v 416 k = S 416 k := fun k => zup_ne (by omega)
  refine ⟨⟨o1, o2, o3, o4, o5, o6, fun k h1 h2 => ?_⟩, ⟨?_, ?_, fun a ha => ⟨?_, ?_, fun k h1 h2 h3 => ?_⟩⟩, ⟨?_, b2, ?_, b4, fun b hb k hk => ?_⟩⟩
  · rw [iv_n (zp_ne (by omega) (by omega) (by omega)), o7 k h1 h2]
    unfold oFld; rw [h416, h416, h416, h416, h416, h416, h416, h416]
  · rw [hA]; exact a1.fr hf (by omega) (ni _ (by omega)) (ni _ (by omega)) (ni _ (by omega))
  · rw [hA]; exact a2
  · rw [hA] at ha
    show zrv X (zp (32 + w) a) 1 = _
    rw [(a3 a ha).1]; unfold pn; rw [zup_ne (by omega)]
  · rw [hA] at ha
    obtain ⟨-, ⟨v', v1, v2, v3⟩, -⟩ := a3 a ha
    refine ⟨v', v1, v2, ?_⟩
    unfold VD at *
    rw [iv_n (zp_ne (by omega) (by omega) (by omega)), iv_n (zp_ne (by omega) (by omega) (by omega)), iv_n (zp_ne (by omega) (by omega) (by omega)), iv_n (zp_ne (by omega) (by omega) (by omega)), iv_n (zp_ne (by omega) (by omega) (by omega)), iv_n (zp_ne (by omega) (by omega) (by omega)), zup_ne (by omega), zup_ne (by omega), zup_ne (by omega), zup_ne (by omega), zup_ne (by omega), zup_ne (by omega)]
    exact v3
  · rw [hA] at ha
    have e0 := (a3 a ha).2.2 k h1 h2 h3
    rw [ziv_si]
    by_cases c : a = a0 ∧ k = 8
    · rw [if_pos ⟨by rw [c.1], c.2⟩, c.1, c.2]
      show v = zup S 1157 a0 v 1157 a0
      rw [zup_s]
    · rw [if_neg (fun z => c ⟨(zp_inj (by omega) (by omega) z.1).2, z.2⟩), e0]
      unfold aFld
      by_cases c8 : k = 8
      · rw [c8]
        show S 1157 a = zup S 1157 a0 v 1157 a
        rw [zup_ne (by omega)]
      · rw [if_neg c8, if_neg c8, zup_ne (a := 1154) (by omega), zup_ne (a := 1155) (by omega), zup_ne (a := 1156) (by omega), zup_ne (a := 2158) (by omega), zup_ne (a := 1165) (by omega), zup_ne (a := 1165) (by omega), zup_ne (a := 1165) (by omega), zup_ne (a := 1165) (by omega), zup_ne (a := 1165) (by omega), zup_ne (a := 1165) (by omega), zup_ne (a := 1165) (by omega)]
  · exact b1.fr hf (by omega) (ni _ (by omega)) (ni _ (by omega)) (ni _ (by omega))
  · rw [hB]; exact b3
  · rw [hB] at hb
    rw [iv_n (zp_ne (by omega) (by omega) (by omega)), zup_ne (by omega)]
    exact b5 b hb k hk
end ZCs
