/-! the law's loop: how a case ends -/
def zbud (c m n1 m1 : Nat) : Nat := 700 * c + 320 * (150 - m) + 300 * (120 - n1) + 320 * (150 - m1)
/-- the script's places of this call -/
def LV (x4 : Int32) (L : Nat) : Prop := vp_in x4 L ∧ vp_in (x4 + 1) L ∧ vp_in (x4 + 2) L ∧ vp_in (x4 + 3) L ∧ vp_in (x4 + 4) L ∧ vp_in (x4 + 5) L ∧ vp_in (x4 + 6) L ∧ vp_in (x4 + 7) L
theorem lg_same (x : Int64) : lg_cmp x x = 0 := by
  unfold lg_cmp
  rw [if_neg (show ¬ x > x from Int64.lt_irrefl), if_pos rfl]
theorem ocx {P : Int32 → Prop} {c : Prop} {o1 o2 : ZO} (h1 : P o1.1) (h2 : P o2.1) : P (fCalls3 c o1 o2).1 := by
  by_cases h : c
  · rw [f3t h]; exact h1
  · rw [f3f h]; exact h2
section ZCode
variable {S : ZS9}
def oc1 (x : Int32) : Prop := x = 0 ∨ x = 1
def oc2 (x : Int32) : Prop := x = 0 ∨ x = 1 ∨ x = 2
def oc3 (x : Int32) : Prop := x = 0 ∨ x = 1 ∨ x = 2 ∨ x = 3
theorem ocPerson {a b c d e f g : Int32} : oc2 (fPerson S a b c d e f g).1 := ocx (P := oc2) (Or.inr (Or.inl rfl)) (ocx (P := oc2) (Or.inr (Or.inr rfl)) (Or.inl rfl))
theorem ocName {p : Int32} : oc2 (fName S p).1 := ocx (P := oc2) (Or.inr (Or.inl rfl)) (by
  cases nmE (wtape S) (nTp S) 0 with
  | some i => exact Or.inr (Or.inr rfl)
  | none => exact Or.inl rfl)
theorem ocSign {p i : Int32} : oc1 (fSign S p i).1 := ocx (P := oc1) (Or.inr rfl) (ocx (P := oc1) (Or.inl rfl) (Or.inl rfl))
theorem ocFigure {p : Int32} : oc1 (fFigure S p).1 := ocx (P := oc1) (Or.inr rfl) (ocx (P := oc1) (Or.inl rfl) (Or.inl rfl))
theorem ocFar {p q : Int32} : oc1 (fFar S p q).1 := ocx (P := oc1) (Or.inr rfl) (Or.inl rfl)
theorem ocTell {p q s : Int32} : oc2 (fTell S p q s).1 := ocx (P := oc2) (Or.inr (Or.inl rfl)) (ocx (P := oc2) (Or.inr (Or.inr rfl)) (Or.inl rfl))
theorem ocJudge {L : List ZCLS} {p a b c d : Int32} : oc3 (fJudge S L p a b c d).1 := ocx (P := oc3) (Or.inr (Or.inl rfl)) (ocx (P := oc3) (Or.inr (Or.inr (Or.inl rfl))) (ocx (P := oc3) (Or.inr (Or.inr (Or.inr rfl))) (Or.inl rfl)))
theorem ocAsk {L : List ZCLS} {p a b c d : Int32} : oc3 (fAsk S L p a b c d).1 := ocx (P := oc3) (Or.inr (Or.inl rfl)) (ocx (P := oc3) (Or.inr (Or.inr (Or.inl rfl))) (ocx (P := oc3) (Or.inr (Or.inr (Or.inr rfl))) (Or.inl rfl)))
theorem ocGive {a i : Int32} : oc3 (fGive S a i).1 := ocx (P := oc3) (Or.inr (Or.inl rfl)) (ocx (P := oc3) (Or.inr (Or.inr (Or.inl rfl))) (ocx (P := oc3) (Or.inr (Or.inr (Or.inr rfl))) (Or.inl rfl)))
theorem ocHands {a i : Int32} : oc2 (fHands S a i).1 := ocx (P := oc2) (Or.inr (Or.inl rfl)) (ocx (P := oc2) (Or.inr (Or.inr rfl)) (Or.inl rfl))
theorem ocLend {a b c d e : Int32} : oc2 (fLend S a b c d e).1 := ocx (P := oc2) (Or.inr (Or.inl rfl)) (ocx (P := oc2) (Or.inr (Or.inr rfl)) (ocx (P := oc2) (Or.inl rfl) (Or.inl rfl)))
theorem ocUnits {a b : Int32} : oc1 (fUnits S a b).1 := ocx (P := oc1) (Or.inr rfl) (Or.inl rfl)
theorem ocRules {a b c d e : Int32} : oc1 (fRules S a b c d e).1 := ocx (P := oc1) (Or.inr rfl) (Or.inl rfl)
theorem ocOrder {a : Int32} : oc1 (fOrder S a).1 := ocx (P := oc1) (Or.inr rfl) (Or.inl rfl)
theorem ocBlanks {a : Int32} : oc1 (fBlanks S a).1 := ocx (P := oc1) (Or.inr rfl) (Or.inl rfl)
theorem ocBroken {a b : Int32} : oc1 (fBroken S a b).1 := ocx (P := oc1) (Or.inr rfl) (Or.inl rfl)
theorem ocDays {a : Int32} : oc1 (fDays S a).1 := ocx (P := oc1) (Or.inr rfl) (Or.inl rfl)
theorem ocRefuse {a : Int32} : oc2 (fRefuse S a).1 := ocx (P := oc2) (Or.inr (Or.inl rfl)) (ocx (P := oc2) (Or.inr (Or.inr rfl)) (Or.inl rfl))
theorem ocLose {a : Int32} : oc2 (fLose S a).1 := ocx (P := oc2) (Or.inr (Or.inl rfl)) (ocx (P := oc2) (Or.inr (Or.inr rfl)) (Or.inl rfl))
theorem ocAgain {a : Int32} : oc2 (fAgain S a).1 := ocx (P := oc2) (Or.inr (Or.inl rfl)) (ocx (P := oc2) (Or.inr (Or.inr rfl)) (Or.inl rfl))
theorem ocLed {a w : Int32} : oc2 (fLed S a w).1 := ocx (P := oc2) (Or.inr (Or.inl rfl)) (by
  show oc2 (zled S a.toNatClampNeg w).1
  have k : ∀ (c : Prop) [Decidable c] (x y : Int32 × Int32), oc2 x.1 → oc2 y.1 → oc2 (if c then x else y).1 := fun c _ x y hx hy => by
    by_cases h : c
    · rw [if_pos h]; exact hx
    · rw [if_neg h]; exact hy
  unfold zled
  iterate 16 refine k _ _ _ (Or.inl rfl) ?_
  exact Or.inr (Or.inr rfl))
theorem ocQueue {a : Int32} : oc1 (fQueue S a).1 := ocx (P := oc1) (Or.inr rfl) (Or.inl rfl)
theorem ocAhead {a : Int32} : oc1 (fAhead S a).1 := ocx (P := oc1) (Or.inr rfl) (ocx (P := oc1) (Or.inl rfl) (Or.inl rfl))
theorem ocBooklet {a w : Int32} : oc2 (fBooklet S a w).1 := ocx (P := oc2) (Or.inr (Or.inl rfl)) (ocx (P := oc2) (Or.inl rfl) (Or.inr (Or.inr rfl)))
theorem ocValid {a w : Int32} : oc1 (fValid S a w).1 := ocx (P := oc1) (Or.inr rfl) (Or.inl rfl)
theorem ocMissed {a w : Int32} : oc1 (fMissed S a w).1 := ocx (P := oc1) (Or.inr rfl) (Or.inl rfl)
theorem ocWaits {a w : Int32} : oc1 (fWaits S a w).1 := ocx (P := oc1) (Or.inr rfl) (ocx (P := oc1) (Or.inl rfl) (Or.inl rfl))
end ZCode
section ZStep
variable {hh : List (Nat × Nat × Nat × Nat)} {E : ZE} {l : Launch} {Y : ZM} {G G2 : ZG} {m n1 m1 m' n1' m1' st L d b d1 b1 k c : Nat} {S S' S1 : ZS9} {xv : Nat → Int32} {o : ZO} {as : List Value} {KX : String → ZG → Prop} {P : ZS9 → ZG → Prop} {y1 y4 : Int32}
theorem LC.vs (h : LC st L xv G) : zrd G (zp st 0) .int ∧ zln G (zp st 0) = L ∧ ziv G (zp st 0) = xv := h.2.2
theorem LC.mo (h : LC st L xv G) : zob G (zp 416 0) 13 := h.1.1
/-- a call of the reference -/
theorem cRef {K : Int32 → ZG → Nat → Prop} (hm : rMet E l Y d1 0 as S (rR o)) (hK : RK G2) (hz : zeq G2 S) (hd : d1 + 1 ≤ d) (hk : ∀ y S', (o.1 = 0 → y = o.2.1) → S' 416 0 = o.1 → zsim o.2.2 S' → K y (zput G2 S') k) : xcI E l Y d (.ref (zp 416 0) :: as) G2 k KX K := by
  have h := hm G2 hK
  rw [hz.eq] at h
  refine ⟨d1, 0, _, h, hd, Nat.zero_le _, fun X G' h => ?_, fun r G' h => ?_⟩
  · obtain ⟨v, S', h1, -⟩ := h; cases h1
  · obtain ⟨v, S', h1, h2, ⟨y, h3, h4⟩, h5, h6⟩ := h
    cases h1
    subst h2
    exact ⟨y, h3, hk y S' h4 h5 h6⟩
theorem cRefN {K : ZG → Nat → Prop} (hm : rMet E l Y d1 0 as S (rN o)) (hK : RK G2) (hz : zeq G2 S) (hd : d1 + 1 ≤ d) (hk : ∀ S', S' 416 0 = o.1 → zsim o.2.2 S' → K (zput G2 S') k) : xcV E l Y d (.ref (zp 416 0) :: as) G2 k KX K := by
  have h := hm G2 hK
  rw [hz.eq] at h
  refine ⟨d1, 0, _, h, hd, Nat.zero_le _, fun X G' h => ?_, fun r G' h => ?_⟩
  · obtain ⟨v, S', h1, -⟩ := h; cases h1
  · obtain ⟨v, S', h1, h2, h3, h5, h6⟩ := h
    cases h1
    subst h2
    exact ⟨h3, hk S' h5 h6⟩
theorem cRefB {K : Int32 → ZG → Nat → Prop} (hm : rMet E l Y d1 0 as S (rB S o)) (hK : RK G2) (hz : zeq G2 S) (hd : d1 + 1 ≤ d) (hk : ∀ y S', (o.1 = 0 → y = o.2.1) → S' 416 0 = o.1 → zsimB S S' → K y (zput G2 S') k) : xcI E l Y d (.ref (zp 416 0) :: as) G2 k KX K := by
  have h := hm G2 hK
  rw [hz.eq] at h
  refine ⟨d1, 0, _, h, hd, Nat.zero_le _, fun X G' h => ?_, fun r G' h => ?_⟩
  · obtain ⟨v, S', h1, -⟩ := h; cases h1
  · obtain ⟨v, S', h1, h2, ⟨y, h3, h4⟩, h5, h6⟩ := h
    cases h1
    subst h2
    exact ⟨y, h3, hk y S' h4 h5 h6⟩
theorem cRefI {K : Int32 → ZG → Nat → Prop} {x : Int32} (hm : rMet E l Y d1 0 as S (rI x S1)) (hK : RK G2) (hz : zeq G2 S) (hd : d1 + 1 ≤ d) (hk : K x (zput G2 S1) k) : xcI E l Y d (.ref (zp 416 0) :: as) G2 k KX K := by
  have h := hm G2 hK
  rw [hz.eq] at h
  refine ⟨d1, 0, _, h, hd, Nat.zero_le _, fun X G' h => ?_, fun r G' h => ?_⟩
  · obtain ⟨v, S', h1, -⟩ := h; cases h1
  · obtain ⟨v, S', h1, h2, h3, h4⟩ := h
    cases h1
    subst h2
    subst h4
    exact ⟨x, h3, hk⟩
theorem cRefL {K : Int32 → ZG → Nat → Prop} {fr : Int32} (hm : rMet E l Y d1 0 as S (QL S fr)) (hK : RK G2) (hz : zeq G2 S) (hd : d1 + 1 ≤ d) (hk : ∀ y S', QL S fr (some (.int y)) S' → K y (zput G2 S') k) : xcI E l Y d (.ref (zp 416 0) :: as) G2 k KX K := by
  have h := hm G2 hK
  rw [hz.eq] at h
  refine ⟨d1, 0, _, h, hd, Nat.zero_le _, fun X G' h => ?_, fun r G' h => ?_⟩
  · obtain ⟨v, S', h1, -⟩ := h; cases h1
  · obtain ⟨v, S', h1, h2, h3⟩ := h
    cases h1
    subst h2
    have h3' := h3
    obtain ⟨y, rfl, -⟩ := h3'
    exact ⟨y, rfl, hk y S' h3⟩
/-- a call of a wrapper -/
theorem cWr {K : Int32 → ZG → Nat → Prop} (hm : zMetH hh E l Y d1 b1 as G (wO o P)) (hd : d1 + 1 ≤ d) (hb : b1 ≤ k) (hk : ∀ G2, wO o P (.inl (some (.int o.1))) G2 → K o.1 G2 (k - b1)) : xhI hh E l Y d as G k KX K :=
  ⟨d1, b1, _, hm, hd, hb, fun X G' h => (nomatch h.1), fun r G' h => by
    have h1 := h.1
    cases h1
    exact ⟨_, rfl, hk G' h⟩⟩
theorem cWn {K : Int32 → ZG → Nat → Prop} (hm : zMetH hh E l Y d1 b1 as G (wN o P)) (hd : d1 + 1 ≤ d) (hb : b1 ≤ k) (hk : ∀ G2, P o.2.2 G2 → K o.1 G2 (k - b1)) : xhI hh E l Y d as G k KX K :=
  ⟨d1, b1, _, hm, hd, hb, fun X G' h => (nomatch h.1), fun r G' h => by
    obtain ⟨h1, h2⟩ := h
    cases h1
    exact ⟨_, rfl, hk G' h2⟩⟩
/-- a call of the class's that throws nothing -/
theorem cCls {K : Int32 → ZG → Nat → Prop} {ex : Int32 → String} (hm : zMet E l Y d1 b1 as G (cO cy ex o P)) (h0 : o.1 = 0) (hd : d1 + 1 ≤ d) (hb : b1 ≤ k) (hk : ∀ G2, P o.2.2 G2 → K o.2.1 G2 (k - b1)) : xcI E l Y d as G k KX K :=
  ⟨d1, b1, _, hm, hd, hb, fun X G' h => (by
    obtain ⟨⟨-, h1⟩ | ⟨h1, -⟩, -⟩ := h
    · cases h1
    · exact absurd h0 h1), fun r G' h => (by
    obtain ⟨⟨-, h1⟩ | ⟨h1, -⟩, h2⟩ := h
    · cases h1; exact ⟨_, rfl, hk G' h2⟩
    · exact absurd h0 h1)⟩
theorem wLA (hst : zst4 st) (h : LI0 st L xv G S m n1 m1) {x : Int32} (hw : wO o (fun S1 G' => PO G S1 m' n1' m1' G') (.inl (some (.int x))) G2) : LA st L xv G S o.2.2 m' n1' m1' G2 ∧ (o.1 = 0 → ziv G2 zout 0 = o.2.1) := by
  obtain ⟨-, ⟨h0, hp⟩ | ⟨h0, G1, hp, rfl⟩⟩ := hw
  · exact ⟨h.cls hst hp, fun z => absurd z h0⟩
  · exact ⟨(h.cls hst hp).out hst, fun _ => iv_s⟩
theorem pOut (h : LI0 st L xv G S m n1 m1) (hp : PO G S1 m' n1' m1' G2) : zar G2 zout 3 ∧ zln G2 zout = 1 := by
  have hf := hp.wm.2.2.2.2.1
  exact ⟨hf.ar h.2.2.2.2.1.1, by rw [hf.ln (by omega) (by decide)]; exact h.2.2.2.2.1.2⟩
/-- what was thrown is compared, then the answers -/
theorem aftY {TAIL : Nat → ZG → Prop} {QF : ZG → Prop} (hK : RK G2) (hd : 60 ≤ d) (h0 : S' 416 0 = o.1) (hv : o.1 = 0 → ziv G2 zout 0 = y4) (hout : zar G2 zout 3 ∧ zln G2 zout = 1) (ht : TAIL k (zput G2 S')) :
    zob (zput G2 S') (zp 416 0) 13 ∧ xcI E l mX12_thrown d [.ref (zp 416 0)] (zput G2 S') k KX (fun y7 G8 k9 => ((y7 = o.1 → ((¬ o.1 = 0 → TAIL k9 G8) ∧ (¬ (¬ o.1 = 0) → zar G8 zout 3 ∧ vp_in 0 (zln G8 zout) ∧ (((lg_cmp ((ziv G8 zout (0 : Int32).toNatClampNeg)).toInt64 (y4).toInt64) = 0 → TAIL k9 G8) ∧ (¬ ((lg_cmp ((ziv G8 zout (0 : Int32).toNatClampNeg)).toInt64 (y4).toInt64) = 0) → QF G8))))) ∧ (¬ (y7 = o.1) → QF G8))) := by
  have h := (r_thrown (E := E) (l := l) (S := S')) G2 hK
  refine ⟨hK.1, 0, 0, _, h, by omega, Nat.zero_le _, fun X G' h => ?_, fun r G' h => ?_⟩
  · obtain ⟨v, S2, h1, -⟩ := h; cases h1
  · obtain ⟨v, S2, h1, h2, h3, h4⟩ := h
    cases h1
    subst h4
    subst h2
    refine ⟨_, h3, ?_⟩
    rw [h0]
    refine ⟨fun _ => ⟨fun _ => ht, fun c => ⟨hout.1, ?_, fun _ => ht, fun c2 => absurd ?_ c2⟩⟩, fun c => absurd rfl c⟩
    · show vp_in 0 (zln G2 zout)
      rw [hout.2]; exact n_in (i := 0) (by omega) (by omega)
    · have e : ziv (zput G2 S2) zout (0 : Int32).toNatClampNeg = y4 := by
        rw [zput_no (by decide)]
        exact hv (Classical.not_not.mp c)
      rw [e]; exact lg_same _
theorem aftN {TAIL : Nat → ZG → Prop} {QF : ZG → Prop} (hK : RK G2) (hd : 60 ≤ d) (h0 : S' 416 0 = o.1) (ht : TAIL k (zput G2 S')) :
    zob (zput G2 S') (zp 416 0) 13 ∧ xcI E l mX12_thrown d [.ref (zp 416 0)] (zput G2 S') k KX (fun y7 G8 k9 => ((y7 = o.1 → TAIL k9 G8) ∧ (¬ (y7 = o.1) → QF G8))) := by
  have h := (r_thrown (E := E) (l := l) (S := S')) G2 hK
  refine ⟨hK.1, 0, 0, _, h, by omega, Nat.zero_le _, fun X G' h => ?_, fun r G' h => ?_⟩
  · obtain ⟨v, S2, h1, -⟩ := h; cases h1
  · obtain ⟨v, S2, h1, h2, h3, h4⟩ := h
    cases h1
    subst h4
    subst h2
    refine ⟨_, h3, ?_⟩
    rw [h0]
    exact ⟨fun _ => ht, fun c => absurd rfl c⟩
/-- what the loop does behind a case -/
def LH (E : ZE) (l : Launch) (d b : Nat) (G0 : ZG) (Q : ZQ) (st L : Nat) (xv : Nat → Int32) (x4 : Int32) (c : Nat) : Prop := ∀ G' S' m n1 m1 k, LI0 st L xv G' S' m n1 m1 → zbud c m n1 m1 ≤ k → zWL E l mL_law_ d b G0 Q k 2293 [some (.ref (zp st 0)), some (.ref (zp 384 0)), some (.ref (zp 416 0)), some (.ref zout), some (.int x4), none, none] [] G'
/-- what a law told leaves, told by what the reference's may do -/
def wL (st L : Nat) (xv : Nat → Int32) (S : ZS9) (fr : Int32) (P : ZS9 → ZG → Prop) : ZQ := fun r G' => ∃ x, r = .inl (some (.int x)) ∧ (zeq G' S ∧ LC st L xv G') ∧ ∀ y S', QL S fr (some (.int y)) S' → wO (S' 416 0, y, S') P (.inl (some (.int x))) G'
theorem cWl {K : Int32 → ZG → Nat → Prop} {fr : Int32} (hm : zMetH hh E l Y d1 b1 as G (wL st L xv S fr P)) (hd : d1 + 1 ≤ d) (hb : b1 ≤ k) (hk : ∀ x G2, (zeq G2 S ∧ LC st L xv G2) → (∀ y S', QL S fr (some (.int y)) S' → wO (S' 416 0, y, S') P (.inl (some (.int x))) G2) → K x G2 (k - b1)) : xhI hh E l Y d as G k KX K :=
  ⟨d1, b1, _, hm, hd, hb, fun X G' h => (by obtain ⟨x, h1, -⟩ := h; cases h1), fun r G' h => (by
    obtain ⟨x, h1, h2, h3⟩ := h
    cases h1
    exact ⟨_, rfl, hk x G' h2 h3⟩)⟩
end ZStep
