/-! the class's reader of laws: conditions -/
def CB (E : ZE) (l : Launch) (q T Fa n : Nat) (v F : Nat → Int32) (f : Nat) : Prop :=
  (∀ (dd p : Nat) (X : ZG), dd ≤ 8 → LE X q T Fa n v F → AT X q n v p → 4 * (n - p) + 1 ≤ f → zMet E l mX3_readAtom (3 * (8 - dd) + 10) 0 [.ref q, .int (Int32.ofNat dd)] X (zIx (fun y X' => RB X X' q n v F (zP v n f 0 dd p) y))) ∧
  (∀ (dd p : Nat) (X : ZG), dd ≤ 8 → LE X q T Fa n v F → AT X q n v p → 4 * (n - p) + 2 ≤ f → zMet E l mX3_readAll (3 * (8 - dd) + 11) 0 [.ref q, .int (Int32.ofNat dd)] X (zIx (fun y X' => RB X X' q n v F (zP v n f 1 dd p) y))) ∧
  (∀ (dd p : Nat) (X : ZG), dd ≤ 8 → LE X q T Fa n v F → AT X q n v p → 4 * (n - p) + 3 ≤ f → zMet E l mX3_readAny (3 * (8 - dd) + 12) 0 [.ref q, .int (Int32.ofNat dd)] X (zIx (fun y X' => RB X X' q n v F (zP v n f 3 dd p) y)))
theorem nw01 {y : Int32} (h : y = 0 ∨ y = 1) : narrow .boolean (.int y) = .int y := by rcases h with rfl | rfl <;> decide
theorem and01 {x y : Int32} (hx : x = 0 ∨ x = 1) (hy : y = 0 ∨ y = 1) : (x &&& y = 0 ∨ x &&& y = 1) ∧ decide (x &&& y = 1) = (decide (x = 1) && decide (y = 1)) := by
  rcases hx with rfl | rfl <;> rcases hy with rfl | rfl <;> decide
theorem or01 {x y : Int32} (hx : x = 0 ∨ x = 1) (hy : y = 0 ∨ y = 1) : (x ||| y = 0 ∨ x ||| y = 1) ∧ decide (x ||| y = 1) = (decide (x = 1) || decide (y = 1)) := by
  rcases hx with rfl | rfl <;> rcases hy with rfl | rfl <;> decide
section ZDh
variable {E : ZE} {l : Launch} {X X' X2 : ZG} {q T Fa n : Nat} {v F : Nat → Int32} {p e : Nat}
theorem ev_1 {c : ZCD} {st : List Bool} : ev F [c] st = evs F c st := rfl
theorem evs_and {x y : Bool} {st : List Bool} : evs F zAND (x :: y :: st) = (y && x) :: st := rfl
theorem evs_or {x y : Bool} {st : List Bool} : evs F zOR (x :: y :: st) = (y || x) :: st := rfl
theorem evs_not {x : Bool} {st : List Bool} : evs F zNOT (x :: st) = (!x) :: st := rfl
theorem RB.fl {r : ZPR} {y : Int32} (hf : LFr X X' q) (hy : y = 0 ∨ y = 1) (hr : r = .inl e) (hF : FL X' q n e) : RB X X' q n v F r y := by
  subst hr; exact ⟨hf, hy, hF⟩
theorem RB.at {r : ZPR} {y : Int32} {c : List ZCD} (hf : LFr X X' q) (hy : y = 0 ∨ y = 1) (hr : r = .inr (p, c)) (hA : AT X' q n v p) (hc : ∀ st, ev F c st = decide (y = 1) :: st) : RB X X' q n v F r y := by
  subst hr; exact ⟨hf, hy, hA, hc⟩
/-- the value of a condition -/
def EV (F : Nat → Int32) (c : List ZCD) (y : Int32) : Prop := ∀ st, ev F c st = decide (y = 1) :: st
/-- behind an atom: and .. -/
theorem l_and {f dd : Nat} (hdd : dd ≤ 8) (hA : ∀ g, g < f → CB E l q T Fa n v F g) (X0 : ZG) {R : ZPR} : ∀ g, g < f → ∀ (p i : Nat) (c0 : List ZCD) (y0 : Int32) (X : ZG) (k : Nat), (y0 = 0 ∨ y0 = 1) → i ≤ p → LE X q T Fa n v F → AT X q n v p → LFr X0 X q → EV F c0 y0 → 4 * (n - p) + 1 ≤ g → R = pbind (zP v n g 2 dd p) (fun p2 c2 => .inr (p2, c0 ++ c2)) →
    zW E l mX3_readAll (3 * (8 - dd) + 11) 0 X0 (zIx (fun y X' => RB X0 X' q n v F R y)) k 8 [some (.ref q), some (.int (Int32.ofNat dd)), some (.int y0), some (.int (Int32.ofNat i))] [] X := by
  intro g
  induction g with
  | zero => intro _ p i c0 y0 X k _ _ _ _ _ _ hg; omega
  | succ h ih =>
    intro hgf p i c0 y0 X k hy0 hip hE hT hf0 hc0 hg hR
    have hn := hE.n4
    have hp := hT.1
    have a3 := wen_le (w := v) hp
    rw [zP_and] at hR
    have stop : ¬ wdat v n p 5 → narrow .boolean (.int y0) = .int y0 ∧ zIx (fun y X' => RB X0 X' q n v F R y) (.inl (some (.int y0))) X := fun hw => by
      rw [if_neg hw] at hR
      refine ⟨nw01 hy0, _, rfl, RB.at hf0 hy0 hR hT.sk (fun st => ?_)⟩
      rw [List.append_nil]; exact hc0 st
    refine wpt_X3_readAll_8 ?_; unfold wp_X3_readAll_8
    rw [hE.t3, hE.tn]
    refine ⟨hE.o, Or.inl hE.ta, fun d => stop (fun hw => ?_), fun d => ⟨hE.o, cI (c_isWordL hE hT (c := 5) (by omega)) (by omega) ⟨fun d2 => stop (zb_0.mp d2), fun d2 => ?_⟩⟩⟩
    · rw [n_le (by omega) (by omega)] at d
      have := wdat_len hp (by omega) hw
      have := skp_ge (w := v) hp
      omega
    · have hw : wdat v n p 5 := Classical.byContradiction fun z => d2 (zbz z)
      have hl := wdat_len hp (by omega) hw
      have hs := skp_ge (w := v) hp
      rw [if_pos hw] at hR
      have ca := c_advT (E := E) (l := l) hE hT
      rw [tnx_wd (by omega) hp hw] at ca
      refine ⟨hE.o, cVx ca (by omega) (Nat.zero_le _) (fun G4 h4 => ?_)⟩
      have e4 := hE.go h4.2
      refine ⟨e4.o, cIx ((hA h (by omega)).1 dd (wen v n p) G4 hdd e4 h4.1 (by omega)) (by omega) (Nat.zero_le _) (fun y G7 h7 => ?_)⟩
      obtain ⟨f7, hy, h7⟩ := h7
      have e7 := e4.go f7
      have f07 := (hf0.trans h4.2).trans f7
      obtain ⟨hy2, hd2⟩ := and01 hy0 hy
      have zok := zP_ok (w := v) (n := n) h 0 dd (wen v n p) a3 (by omega)
      rw [n_p1]
      cases hz : zP v n h 0 dd (wen v n p) with
      | inl e =>
        rw [hz] at hR h7
        have hR : R = .inl e := hR
        have h7 : FL G7 q n e := h7
        have out : narrow .boolean (.int (y0 &&& y)) = .int (y0 &&& y) ∧ zIx (fun y X' => RB X0 X' q n v F R y) (.inl (some (.int (y0 &&& y)))) G7 := ⟨nw01 hy2, _, rfl, RB.fl f07 hy2 hR h7⟩
        refine wpt_X3_readAll_8 ?_; unfold wp_X3_readAll_8
        refine ⟨e7.o, by rw [e7.t3]; exact Or.inl e7.ta, fun _ => out, fun _ => ⟨e7.o, cI (c_isWordF e7.o h7) (by omega) (it rfl out)⟩⟩
      | inr r =>
        obtain ⟨p1, c1⟩ := r
        rw [hz] at hR h7 zok
        obtain ⟨h7, hc1⟩ := h7
        obtain ⟨b1, b2, b3⟩ := zok
        have b1 : wen v n p + 1 ≤ p1 := b1
        refine ih (by omega) p1 (i + 1) (c0 ++ c1 ++ [zAND]) (y0 &&& y) G7 _ hy2 (by omega) e7 h7 f07 (fun st => ?_) (by omega) ?_
        · rw [ev_app, ev_app, hc0 st, hc1]
          rw [ev_1, evs_and, hd2]
        · rw [hR]
          show pbind (pbind (zP v n h 2 dd p1) (fun p2 c2 => .inr (p2, c1 ++ zAND :: c2))) (fun p2 c2 => .inr (p2, c0 ++ c2)) = pbind (zP v n h 2 dd p1) (fun p2 c2 => .inr (p2, c0 ++ c1 ++ [zAND] ++ c2))
          cases zP v n h 2 dd p1 with
          | inl e => rfl
          | inr r =>
            obtain ⟨p2, c2⟩ := r
            show (Sum.inr (p2, c0 ++ (c1 ++ zAND :: c2)) : ZPR) = Sum.inr (p2, c0 ++ c1 ++ [zAND] ++ c2)
            simp
/-- behind an all: or .. -/
theorem l_or {f dd : Nat} (hdd : dd ≤ 8) (hA : ∀ g, g < f → CB E l q T Fa n v F g) (X0 : ZG) {R : ZPR} : ∀ g, g < f → ∀ (p i : Nat) (c0 : List ZCD) (y0 : Int32) (X : ZG) (k : Nat), (y0 = 0 ∨ y0 = 1) → i ≤ p → LE X q T Fa n v F → AT X q n v p → LFr X0 X q → EV F c0 y0 → 4 * (n - p) + 1 ≤ g → R = pbind (zP v n g 4 dd p) (fun p2 c2 => .inr (p2, c0 ++ c2)) →
    zW E l mX3_readAny (3 * (8 - dd) + 12) 0 X0 (zIx (fun y X' => RB X0 X' q n v F R y)) k 8 [some (.ref q), some (.int (Int32.ofNat dd)), some (.int y0), some (.int (Int32.ofNat i))] [] X := by
  intro g
  induction g with
  | zero => intro _ p i c0 y0 X k _ _ _ _ _ _ hg; omega
  | succ h ih =>
    intro hgf p i c0 y0 X k hy0 hip hE hT hf0 hc0 hg hR
    have hn := hE.n4
    have hp := hT.1
    have a3 := wen_le (w := v) hp
    rw [zP_or] at hR
    have stop : ¬ wdat v n p 6 → narrow .boolean (.int y0) = .int y0 ∧ zIx (fun y X' => RB X0 X' q n v F R y) (.inl (some (.int y0))) X := fun hw => by
      rw [if_neg hw] at hR
      refine ⟨nw01 hy0, _, rfl, RB.at hf0 hy0 hR hT.sk (fun st => ?_)⟩
      rw [List.append_nil]; exact hc0 st
    refine wpt_X3_readAny_8 ?_; unfold wp_X3_readAny_8
    rw [hE.t3, hE.tn]
    refine ⟨hE.o, Or.inl hE.ta, fun d => stop (fun hw => ?_), fun d => ⟨hE.o, cI (c_isWordL hE hT (c := 6) (by omega)) (by omega) ⟨fun d2 => stop (zb_0.mp d2), fun d2 => ?_⟩⟩⟩
    · rw [n_le (by omega) (by omega)] at d
      have := wdat_len hp (by omega) hw
      have := skp_ge (w := v) hp
      omega
    · have hw : wdat v n p 6 := Classical.byContradiction fun z => d2 (zbz z)
      have hl := wdat_len hp (by omega) hw
      have hs := skp_ge (w := v) hp
      rw [if_pos hw] at hR
      have ca := c_advT (E := E) (l := l) hE hT
      rw [tnx_wd (by omega) hp hw] at ca
      refine ⟨hE.o, cVx ca (by omega) (Nat.zero_le _) (fun G4 h4 => ?_)⟩
      have e4 := hE.go h4.2
      refine ⟨e4.o, cIx ((hA h (by omega)).2.1 dd (wen v n p) G4 hdd e4 h4.1 (by omega)) (by omega) (Nat.zero_le _) (fun y G7 h7 => ?_)⟩
      obtain ⟨f7, hy, h7⟩ := h7
      have e7 := e4.go f7
      have f07 := (hf0.trans h4.2).trans f7
      obtain ⟨hy2, hd2⟩ := or01 hy0 hy
      have zok := zP_ok (w := v) (n := n) h 1 dd (wen v n p) a3 (by omega)
      rw [n_p1]
      cases hz : zP v n h 1 dd (wen v n p) with
      | inl e =>
        rw [hz] at hR h7
        have hR : R = .inl e := hR
        have h7 : FL G7 q n e := h7
        have out : narrow .boolean (.int (y0 ||| y)) = .int (y0 ||| y) ∧ zIx (fun y X' => RB X0 X' q n v F R y) (.inl (some (.int (y0 ||| y)))) G7 := ⟨nw01 hy2, _, rfl, RB.fl f07 hy2 hR h7⟩
        refine wpt_X3_readAny_8 ?_; unfold wp_X3_readAny_8
        refine ⟨e7.o, by rw [e7.t3]; exact Or.inl e7.ta, fun _ => out, fun _ => ⟨e7.o, cI (c_isWordF e7.o h7) (by omega) (it rfl out)⟩⟩
      | inr r =>
        obtain ⟨p1, c1⟩ := r
        rw [hz] at hR h7 zok
        obtain ⟨h7, hc1⟩ := h7
        obtain ⟨b1, b2, b3⟩ := zok
        have b1 : wen v n p + 1 ≤ p1 := b1
        refine ih (by omega) p1 (i + 1) (c0 ++ c1 ++ [zOR]) (y0 ||| y) G7 _ hy2 (by omega) e7 h7 f07 (fun st => ?_) (by omega) ?_
        · rw [ev_app, ev_app, hc0 st, hc1]
          rw [ev_1, evs_or, hd2]
        · rw [hR]
          show pbind (pbind (zP v n h 4 dd p1) (fun p2 c2 => .inr (p2, c1 ++ zOR :: c2))) (fun p2 c2 => .inr (p2, c0 ++ c2)) = pbind (zP v n h 4 dd p1) (fun p2 c2 => .inr (p2, c0 ++ c1 ++ [zOR] ++ c2))
          cases zP v n h 4 dd p1 with
          | inl e => rfl
          | inr r =>
            obtain ⟨p2, c2⟩ := r
            show (Sum.inr (p2, c0 ++ (c1 ++ zOR :: c2)) : ZPR) = Sum.inr (p2, c0 ++ c1 ++ [zOR] ++ c2)
            simp
theorem t40 : tof 40 = 3 := tof_3.mpr ⟨fun z => z.1 (by decide), fun z => z.1 (by decide)⟩
theorem t41 : tof 41 = 3 := tof_3.mpr ⟨fun z => z.1 (by decide), fun z => z.1 (by decide)⟩
theorem t59 : tof 59 = 3 := tof_3.mpr ⟨fun z => z.1 (by decide), fun z => z.2 (by decide)⟩
theorem c_readAtom {f dd : Nat} (hdd : dd ≤ 8) (hA : ∀ g, g < f → CB E l q T Fa n v F g) (hE : LE X q T Fa n v F) (hT : AT X q n v p) (hf : 4 * (n - p) + 1 ≤ f) : zMet E l mX3_readAtom (3 * (8 - dd) + 10) 0 [.ref q, .int (Int32.ofNat dd)] X (zIx (fun y X' => RB X X' q n v F (zP v n f 0 dd p) y)) := by
  have hn := hE.n4
  have hp := hT.1
  have a1 := skp_ge (w := v) hp
  have a2 := skp_le (w := v) hp
  have a3 := wen_le (w := v) hp
  obtain ⟨h, rfl⟩ : ∃ h, f = h + 1 := ⟨f - 1, by omega⟩
  generalize hR : zP v n (h + 1) 0 dd p = R
  rw [zP_atom] at hR
  generalize hQ : (zIx (fun y X' => RB X X' q n v F R y)) = Q
  have sgwd : ∀ {c}, sgat v n p c → tof c = 3 → ¬ wdat v n p 3 := fun hs hc hw => by
    obtain ⟨z1, z2⟩ := wdat_lo (by omega) hw hp
    rw [(sgat_eq.mp hs).2] at z2
    exact (tof_3.mp hc).1 z2
  -- '(' or not
  have i25 : ∀ x, (x = 0 ∧ sgat v n p 40 ∧ ¬ wdat v n p 3) ∨ (x = 1 ∧ wdat v n p 3 ∧ ¬ sgat v n p 40) → ∀ k, zW E l mX3_readAtom (3 * (8 - dd) + 10) 0 X Q k 25 [some (.ref q), some (.int (Int32.ofNat dd)), some (.int x), none] [] X := by
    intro x hx k
    refine wpt_X3_readAtom_25 ?_; unfold wp_X3_readAtom_25
    rw [show (8 : Int32) = Int32.ofNat 8 from rfl, n_lt (by omega) (by omega)]
    refine ⟨fun d => ⟨hE.o, cVx (c_advT hE hT) (by omega) (Nat.zero_le _) (fun G1 h1 => ?_)⟩, fun d => ⟨hE.o, cVx (c_fail (n := n) hE.o a2 hT.2.2.1 hT.2.1) (by omega) (Nat.zero_le _) (fun G16 h16 => ?_)⟩⟩
    · have e1 := hE.go h1.2
      rw [n_p1]
      refine ⟨fun dx => ⟨e1.o, ?_⟩, fun dx => ⟨e1.o, ?_⟩⟩
      · obtain ⟨-, hs, hw⟩ := hx.resolve_right (fun z => by rw [z.1] at dx; exact absurd dx (by decide))
        have hs1 := hs.1
        rw [if_pos hs, if_neg (show ¬ dd = 8 by omega)] at hR
        rw [tnx_sg hs t40] at h1
        refine cIx ((hA h (by omega)).2.2 (dd + 1) (skp v n p + 1) G1 (by omega) e1 h1.1 (by omega)) (by omega) (Nat.zero_le _) (fun y G4 h4 => ?_)
        obtain ⟨f4, hy, h4⟩ := h4
        have e4 := e1.go f4
        have f04 := h1.2.trans f4
        have zok := zP_ok (w := v) (n := n) h 3 (dd + 1) (skp v n p + 1) (by omega) (by omega)
        cases hz : zP v n h 3 (dd + 1) (skp v n p + 1) with
        | inl e =>
          rw [hz] at hR h4
          have hR : .inl e = R := hR
          have h4 : FL G4 q n e := h4
          refine ⟨e4.o, cI (c_isSignF e4.o h4) (by omega) (it rfl ⟨e4.o, cVx (c_failF e4.o hn h4) (by omega) (Nat.zero_le _) (fun G9 h9 => ⟨nw01 hy, ?_⟩)⟩)⟩
          rw [← hQ]
          exact ⟨_, rfl, RB.fl (f04.trans h9.2) hy hR.symm h9.1⟩
        | inr r =>
          obtain ⟨p1, c1⟩ := r
          rw [hz] at hR h4 zok
          obtain ⟨h4, hc1⟩ := h4
          have hR : zPclose v n p1 c1 = R := hR
          unfold zPclose at hR
          refine ⟨e4.o, cI (c_isSign e4 h4 t41) (by omega) ⟨fun d2 => ⟨e4.o, cVx (c_fail (n := n) e4.o (skp_le h4.1) h4.2.2.1 h4.2.1) (by omega) (Nat.zero_le _) (fun G9 h9 => ⟨nw01 hy, ?_⟩)⟩, fun d2 => ⟨e4.o, cVx (c_advT e4 h4) (by omega) (Nat.zero_le _) (fun G11 h11 => ⟨nw01 hy, ?_⟩)⟩⟩⟩
          · rw [if_neg (zb_0.mp d2)] at hR
            rw [← hQ]
            exact ⟨_, rfl, RB.fl (f04.trans h9.2) hy hR.symm h9.1⟩
          · have d3 : sgat v n p1 41 := Classical.byContradiction fun z => d2 (zbz z)
            rw [if_pos d3] at hR
            rw [tnx_sg d3 t41] at h11
            rw [← hQ]
            exact ⟨_, rfl, RB.at (f04.trans h11.2) hy hR.symm h11.1 hc1⟩
      · obtain ⟨-, hw, hs⟩ := hx.resolve_left (fun z => dx z.1)
        have hl := wdat_len hp (by omega) hw
        rw [if_neg hs, if_pos hw, if_neg (show ¬ dd = 8 by omega)] at hR
        rw [tnx_wd (by omega) hp hw] at h1
        refine cIx ((hA h (by omega)).1 (dd + 1) (wen v n p) G1 (by omega) e1 h1.1 (by omega)) (by omega) (Nat.zero_le _) (fun y G14 h14 => ?_)
        obtain ⟨f14, hy, h14⟩ := h14
        have f014 := h1.2.trans f14
        have fin : ∀ b : Int32, (b = 0 ∨ b = 1) → decide (b = 1) = (!decide (y = 1)) → Q (.inl (some (.int b))) G14 := by
          intro b hb hv
          rw [← hQ]
          refine ⟨b, rfl, ?_⟩
          cases hz : zP v n h 0 (dd + 1) (wen v n p) with
          | inl e =>
            rw [hz] at hR h14
            have hR : .inl e = R := hR
            have h14 : FL G14 q n e := h14
            exact RB.fl f014 hb hR.symm h14
          | inr r =>
            obtain ⟨p1, c1⟩ := r
            rw [hz] at hR h14
            obtain ⟨h14, hc1⟩ := h14
            have hR : .inr (p1, c1 ++ [zNOT]) = R := hR
            refine RB.at f014 hb hR.symm h14 (fun st => ?_)
            rw [ev_app, hc1]
            rw [ev_1, evs_not, hv]
        refine ⟨fun d2 => fin 0 (Or.inl rfl) ?_, fun d2 => fin 1 (Or.inr rfl) ?_⟩
        · rw [hy.resolve_left d2]; rfl
        · rw [Classical.not_not.mp d2]; rfl
    · have e8 : dd = 8 := by omega
      rw [← hQ]
      refine ⟨_, rfl, ?_⟩
      have hR : .inl (skp v n p) = R := by
        rw [← hR]
        rcases hx with ⟨-, hs, -⟩ | ⟨-, hw, hs⟩
        · rw [if_pos hs, if_pos e8]
        · rw [if_neg hs, if_pos hw, if_pos e8]
      exact RB.fl h16.2 (Or.inl rfl) hR.symm h16.1
  refine z_meth (by decide) (Nat.le_of_ble_eq_true rfl) (by simp [Value.category]) (wpt_X3_readAtom_0 ?_); unfold wp_X3_readAtom_0
  refine ⟨hE.o, cI (c_isWordL hE hT (c := 3) (by omega)) (by omega) ⟨fun d => ?_, fun d => ⟨hE.o, cI (c_isSign hE hT t40) (by omega) ⟨fun d2 => ?_, fun d2 => ⟨hE.o, cIx (c_readFact hE hT) (by omega) (Nat.zero_le _) (fun y G8 h8 => ⟨nw01 h8.2.1, ?_⟩)⟩⟩⟩⟩⟩
  · have hw : wdat v n p 3 := Classical.byContradiction fun z => d (zbz z)
    rw [zb_t hw]
    exact i25 1 (Or.inr ⟨rfl, hw, fun z => sgwd z t40 hw⟩) _
  · have hs : sgat v n p 40 := Classical.byContradiction fun z => d2 (zbz z)
    have hw : ¬ wdat v n p 3 := zb_0.mp (Classical.not_not.mp d)
    rw [zbz hw]
    exact i25 0 (Or.inl ⟨rfl, hs, hw⟩) _
  · have hs : ¬ sgat v n p 40 := zb_0.mp (Classical.not_not.mp d2)
    have hw : ¬ wdat v n p 3 := zb_0.mp (Classical.not_not.mp d)
    rw [if_neg hs, if_neg hw] at hR
    rw [← hQ, ← hR]
    exact ⟨_, rfl, h8⟩
theorem c_readAll {f dd : Nat} (hdd : dd ≤ 8) (hA : ∀ g, g < f → CB E l q T Fa n v F g) (hE : LE X q T Fa n v F) (hT : AT X q n v p) (hf : 4 * (n - p) + 2 ≤ f) : zMet E l mX3_readAll (3 * (8 - dd) + 11) 0 [.ref q, .int (Int32.ofNat dd)] X (zIx (fun y X' => RB X X' q n v F (zP v n f 1 dd p) y)) := by
  have hn := hE.n4
  have hp := hT.1
  obtain ⟨h, rfl⟩ : ∃ h, f = h + 1 := ⟨f - 1, by omega⟩
  generalize hR : zP v n (h + 1) 1 dd p = R
  rw [zP_all] at hR
  refine z_meth (by decide) (Nat.le_of_ble_eq_true rfl) (by simp [Value.category]) (wpt_X3_readAll_0 ?_); unfold wp_X3_readAll_0
  refine ⟨hE.o, cIx ((hA h (by omega)).1 dd p X hdd hE hT (by omega)) (by omega) (Nat.zero_le _) (fun y G2 h2 => ?_)⟩
  obtain ⟨f2, hy, h2⟩ := h2
  have e2 := hE.go f2
  have zok := zP_ok (w := v) (n := n) h 0 dd p hp (by omega)
  cases hz : zP v n h 0 dd p with
  | inl e =>
    rw [hz] at hR h2
    have hR : .inl e = R := hR
    have h2 : FL G2 q n e := h2
    have out : narrow .boolean (.int y) = .int y ∧ zIx (fun y X' => RB X X' q n v F R y) (.inl (some (.int y))) G2 := ⟨nw01 hy, _, rfl, RB.fl f2 hy hR.symm h2⟩
    refine wpt_X3_readAll_8 ?_; unfold wp_X3_readAll_8
    exact ⟨e2.o, by rw [e2.t3]; exact Or.inl e2.ta, fun _ => out, fun _ => ⟨e2.o, cI (c_isWordF e2.o h2) (by omega) (it rfl out)⟩⟩
  | inr r =>
    obtain ⟨p1, c1⟩ := r
    rw [hz] at hR h2 zok
    obtain ⟨h2, hc1⟩ := h2
    obtain ⟨b1, b2, b3⟩ := zok
    have b1 : p + 1 ≤ p1 := b1
    exact l_and hdd hA X h (by omega) p1 0 c1 y G2 _ hy (by omega) e2 h2 f2 hc1 (by omega) hR.symm
theorem c_readAny {f dd : Nat} (hdd : dd ≤ 8) (hA : ∀ g, g < f → CB E l q T Fa n v F g) (hE : LE X q T Fa n v F) (hT : AT X q n v p) (hf : 4 * (n - p) + 3 ≤ f) : zMet E l mX3_readAny (3 * (8 - dd) + 12) 0 [.ref q, .int (Int32.ofNat dd)] X (zIx (fun y X' => RB X X' q n v F (zP v n f 3 dd p) y)) := by
  have hn := hE.n4
  have hp := hT.1
  obtain ⟨h, rfl⟩ : ∃ h, f = h + 1 := ⟨f - 1, by omega⟩
  generalize hR : zP v n (h + 1) 3 dd p = R
  rw [zP_any] at hR
  refine z_meth (by decide) (Nat.le_of_ble_eq_true rfl) (by simp [Value.category]) (wpt_X3_readAny_0 ?_); unfold wp_X3_readAny_0
  refine ⟨hE.o, cIx ((hA h (by omega)).2.1 dd p X hdd hE hT (by omega)) (by omega) (Nat.zero_le _) (fun y G2 h2 => ?_)⟩
  obtain ⟨f2, hy, h2⟩ := h2
  have e2 := hE.go f2
  have zok := zP_ok (w := v) (n := n) h 1 dd p hp (by omega)
  cases hz : zP v n h 1 dd p with
  | inl e =>
    rw [hz] at hR h2
    have hR : .inl e = R := hR
    have h2 : FL G2 q n e := h2
    have out : narrow .boolean (.int y) = .int y ∧ zIx (fun y X' => RB X X' q n v F R y) (.inl (some (.int y))) G2 := ⟨nw01 hy, _, rfl, RB.fl f2 hy hR.symm h2⟩
    refine wpt_X3_readAny_8 ?_; unfold wp_X3_readAny_8
    exact ⟨e2.o, by rw [e2.t3]; exact Or.inl e2.ta, fun _ => out, fun _ => ⟨e2.o, cI (c_isWordF e2.o h2) (by omega) (it rfl out)⟩⟩
  | inr r =>
    obtain ⟨p1, c1⟩ := r
    rw [hz] at hR h2 zok
    obtain ⟨h2, hc1⟩ := h2
    obtain ⟨b1, b2, b3⟩ := zok
    have b1 : p + 1 ≤ p1 := b1
    exact l_or hdd hA X h (by omega) p1 0 c1 y G2 _ hy (by omega) e2 h2 f2 hc1 (by omega) hR.symm
theorem CB_all : ∀ f, CB E l q T Fa n v F f := by
  intro f
  induction f using Nat.strongRecOn with
  | _ f ih => exact ⟨fun dd p X h1 h2 h3 h4 => c_readAtom h1 ih h2 h3 h4, fun dd p X h1 h2 h3 h4 => c_readAll h1 ih h2 h3 h4, fun dd p X h1 h2 h3 h4 => c_readAny h1 ih h2 h3 h4⟩
end ZDh
