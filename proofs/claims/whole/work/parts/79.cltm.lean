/-! judging: what it looks at, what it leaves -/
/-- what judging looks at in the office -/
def SV (S : ZS9) (m : Nat) (X : ZG) : Prop := (zob X (zp 224 0) 7 ∧ zrv X (zp 224 0) 4 = zp 5 0 ∧ ziv X (zp 224 0) 5 = S 416 71 ∧ ziv X (zp 224 0) 6 = S 416 1) ∧ zAL X 5 m (zp 64) ∧ zcn X 64 = m ∧ nB S ≤ m ∧ m ≤ 150 ∧ ∀ b, b < nB S → ∀ k, k < 4 → ziv X (zp 64 b) k = S (1167 + k) b
def JV (S : ZS9) (m : Nat) (X : ZG) : Prop := POo X ∧ PLa S X ∧ CP S X ∧ SV S m X ∧ ∀ c, c < 32 → zstr X c
/-- the facts, those below i put -/
def JA (X G : ZG) (F : Nat → Int32) (i : Nat) : Prop := zfr [1036] X G ∧ zcn G 1036 = zcn X 1036 + 1 ∧ zln G (zp 1036 (zcn X 1036)) = 9 ∧ (∀ j, j < i → ziv G (zp 1036 (zcn X 1036)) j = F j) ∧ ∀ j, j < zcn X 1036 → zln G (zp 1036 j) = zln X (zp 1036 j) ∧ ziv G (zp 1036 j) = ziv X (zp 1036 j) ∧ zrv G (zp 1036 j) = zrv X (zp 1036 j)
/-- what judging leaves -/
def JQ (X X' : ZG) (y : Nat) (J : ZJ) : Prop := y = zp 352 (zcn X 352) ∧ zob X' y 11 ∧ zcn X' 352 = zcn X 352 + 1 ∧ VJ X' y J ∧ okb J ∧ zfr [128, 352, 1036] X X' ∧ zcn X' 128 = zcn X 128 ∧ (∀ t i, t < 4096 → t ≠ 128 → i < zcn X t → zln X' (zp t i) = zln X (zp t i) ∧ ziv X' (zp t i) = ziv X (zp t i) ∧ zrv X' (zp t i) = zrv X (zp t i)) ∧ ∀ i, zln X' (zp 128 i) = zln X (zp 128 i) ∧ ziv X' (zp 128 i) 0 = ziv X (zp 128 i) 0 ∧ ziv X' (zp 128 i) 1 = ziv X (zp 128 i) 1 ∧ zrv X' (zp 128 i) 3 = zrv X (zp 128 i) 3
section ZDm
variable {E : ZE} {l : Launch} {K : ZG} {m n1 m1 i : Nat} {S S' : ZS9} {X X' G : ZG} {r : Int32} {F : Nat → Int32}
theorem SO.v (h : SO 0 S r m X) : SV S m X := ⟨⟨h.1.1, h.1.2.2.2.2.2.1, h.fo (k := 5) (by decide), h.fo (k := 6) (by decide)⟩, h.2.2⟩
theorem SV.fr {T : List Nat} (h : SV S m X) (hf : zfr T X X') (h1 : 224 ∉ T) (h2 : 5 ∉ T) (h3 : 3077 ∉ T) (h4 : 4095 ∉ T) (h5 : 64 ∉ T) : SV S m X' := by
  obtain ⟨⟨a1, a2, a3, a4⟩, b1, b2, b3, b4, b5⟩ := h
  refine ⟨⟨hf.ob a1, by rw [hf.rv (by omega) h1]; exact a2, by rw [hf.iv (by omega) h1]; exact a3, by rw [hf.iv (by omega) h1]; exact a4⟩, b1.fr hf (by omega) h2 h3 h4, by rw [hf.2.1 _ h5]; exact b2, b3, b4, fun b hb k hk => ?_⟩
  rw [hf.iv (by omega) h5]; exact b5 b hb k hk
theorem SV.bo (h : SV S m X) {b : Nat} (hb : b < nB S) : zob X (zp 64 b) 2 := zob_zp (by omega) (by omega) (by have h1 := h.2.2.1; have h2 := h.2.2.2.1; omega)
theorem c_bookletAtV (h : SV S m X) (hR : RI S) {b : Nat} (hb : b < nB S) : zMet E l mX6_bookletAt 3 0 [.ref (zp 224 0), .int (Int32.ofNat b)] X (zRf (zp 64 b) X) := by
  have hB := hR.2.2.1
  obtain ⟨⟨a1, a2, a3, a4⟩, b1, b2, b3, b4, b5⟩ := id h
  refine z_meth (by decide) (Nat.le_of_ble_eq_true rfl) (by simp [Value.category]) (wpt_X6_bookletAt_0 ?_); unfold wp_X6_bookletAt_0
  rw [a3, a2]
  refine ie (n_neg (by omega)) ⟨a1, ie (by rw [hB.1, n_le (by omega) (by omega)]; omega) ⟨a1, zobL b1 (by omega), csize b1 (by omega) (by decide) (ie (by rw [n_le (by omega) (by omega)]; omega) (ie (by decide) ⟨a1, by rw [a2]; exact zobL b1 (by omega), ?_⟩))⟩⟩
  rw [a2]
  exact cget b1 (by omega) (by omega) (by omega) (by decide) ⟨h.bo hb, rfl, rfl⟩
theorem c_isValidOnV (h : SV S m X) {b : Nat} (hb : b < nB S) (day : Int32) : zMet E l mX1_isValidOn 0 0 [.ref (zp 64 b), .int day] X (zI (zb (¬ day < S 1168 b ∧ ¬ S 1169 b ≤ day)) X) := by
  have ho := h.bo hb
  have e1 : ziv X (zp 64 b) 1 = S 1168 b := h.2.2.2.2.2 b hb 1 (by omega)
  have e2 : ziv X (zp 64 b) 2 = S 1169 b := h.2.2.2.2.2 b hb 2 (by omega)
  refine z_meth (by decide) (Nat.le_of_ble_eq_true rfl) (by simp [Value.category]) (wpt_X1_isValidOn_0 ?_); unfold wp_X1_isValidOn_0
  rw [e1, e2]
  refine ⟨ho, fun c => ⟨?_, rfl⟩, fun c => ⟨ho, fun c2 => ⟨?_, rfl⟩, fun c2 => ⟨?_, rfl⟩⟩⟩
  · rw [zbz (fun z => z.1 c)]
  · rw [zbz (fun z => z.2 c2)]
  · rw [zb_t ⟨c, c2⟩]
theorem c_validOfV (h : SV S m X) (hR : RI S) (hC : CP S X) {p : Nat} (hp : p < nP S) (day : Int32) : zMet E l mX6_validOf 4 0 [.ref (zp 224 0), .ref (zp 288 p), .int day] X (zI (zcnt (zval S (Int32.ofNat p) day) (nB S)) X) := by
  have hB := hR.2.2.1
  obtain ⟨⟨n1, -, -⟩, -, -⟩ := hC.2.2.2.2 p hp
  obtain ⟨⟨a1, a2, a3, a4⟩, b1, b2, b3, b4, b5⟩ := id h
  refine z_meth (by decide) (Nat.le_of_ble_eq_true rfl) (by simp [Value.category]) (wpt_X6_validOf_0 ?_); unfold wp_X6_validOf_0
  have key : ∀ i, i ≤ nB S → ∀ k, zW E l mX6_validOf 4 0 X (zI (zcnt (zval S (Int32.ofNat p) day) (nB S)) X) k 5 [some (.ref (zp 224 0)), some (.ref (zp 288 p)), some (.int day), some (.int (zcnt (zval S (Int32.ofNat p) day) i)), some (.int (Int32.ofNat i)), none] [] X := by
    refine zdown (fun k => ?_) (fun i hi ih k => ?_)
    · refine wpt_X6_validOf_5 ?_; unfold wp_X6_validOf_5
      rw [a3, hB.1]
      exact ⟨a1, it (by rw [n_le (by omega) (by omega)]; omega) ⟨rfl, rfl⟩⟩
    · have ih := ih k
      have ho := h.bo hi
      have e0 : ziv X (zp 64 i) 0 = S 1167 i := b5 i hi 0 (by omega)
      refine wpt_X6_validOf_5 ?_; unfold wp_X6_validOf_5
      rw [a3, hB.1, n_p1]
      refine ⟨a1, ie (by rw [n_le (by omega) (by omega)]; omega) ⟨a1, cR (c_bookletAtV h hR hi) (by decide) (ie (zpn (by omega)) ⟨ho, hC.ob hp, ?_⟩)⟩⟩
      rw [e0, n1]
      refine ⟨fun c => ?_, fun c => ⟨ho, cI (c_isValidOnV h hi day) (by decide) ⟨fun c2 => ?_, fun c2 => ?_⟩⟩⟩
      · rw [zcnt_f (fun z => c z.1)] at ih; exact ih
      · have c2 := zb_0.mp c2
        rw [zcnt_f (fun z => c2 z.2)] at ih; exact ih
      · have c2 := Classical.not_not.mp (fun z => c2 (zbz z))
        rw [zcnt_t ⟨Classical.not_not.mp c, c2⟩] at ih; exact ih
  exact key 0 (by omega) _
theorem PO.jv (h : PO K S m n1 m1 X) : JV S m X := ⟨h.o, h.2.2.1, h.of.cp, h.of.so.v, fun c hc => h.wm.str hc⟩
/-- tags that judging doesn't look at -/
theorem JV.fr {T : List Nat} (h : JV S m X) (hf : zfr T X X') (hT : ∀ t, t ∈ T → t = 1036 ∨ t = 32) : JV S m X' := by
  have no : ∀ t, t ≠ 1036 → t ≠ 32 → t ∉ T := fun t h1 h2 h3 => by have := hT t h3; omega
  obtain ⟨a, b, c, d, e⟩ := h
  exact ⟨a.fr hf (no _ (by omega) (by omega)), b.fr hf (no _ (by omega) (by omega)) (no _ (by omega) (by omega)) (no _ (by omega) (by omega)) (no _ (by omega) (by omega)) (no _ (by omega) (by omega)), c.fr hf (no _ (by omega) (by omega)) (no _ (by omega) (by omega)) (no _ (by omega) (by omega)) (no _ (by omega) (by omega)) (no _ (by omega) (by omega)) (no _ (by omega) (by omega)) (no _ (by omega) (by omega)), d.fr hf (no _ (by omega) (by omega)) (no _ (by omega) (by omega)) (no _ (by omega) (by omega)) (no _ (by omega) (by omega)) (no _ (by omega) (by omega)), fun n hn => zstr_fr (e n hn) hf hn (no _ (by omega) (by omega))⟩
theorem JA.nw : JA X (znw X 1036 9) F 0 := by
  refine ⟨zfr.nw (by omega) (by simp), by rw [zcn_nw, if_pos rfl], by rw [zln_nw, if_pos rfl], fun j hj => absurd hj (Nat.not_lt_zero _), fun j hj => ?_⟩
  have hne : zp 1036 j ≠ zp 1036 (zcn X 1036) := zp_ni (by omega) (by omega)
  refine ⟨by rw [zln_nw, if_neg hne], ?_, ?_⟩
  · funext k; rw [ziv_nw, if_neg hne]
  · funext k; rw [zrv_nw, if_neg hne]
theorem JA.st {x : Int32} (h : JA X G F i) (hx : x = F i) : JA X (zsi G (zp 1036 (zcn X 1036)) i x) F (i + 1) := by
  obtain ⟨a, b, c, d, e⟩ := h
  refine ⟨a.trans (zfr.si (by rw [zp_mod (by omega)]; simp)), b, c, fun j hj => ?_, fun j hj => ?_⟩
  · by_cases e0 : j = i
    · rw [e0, iv_s]; exact hx
    · rw [iv_k e0]; exact d j (by omega)
  · obtain ⟨e1, e2, e3⟩ := e j hj
    refine ⟨e1, ?_, e3⟩
    funext k
    rw [iv_n (zp_ni (by omega) (by omega)), e2]
theorem JA.ar (h : JA X G F i) : zar G (zp 1036 (zcn X 1036)) 0 := zar_zp (by omega) (by omega) (by omega) (by rw [h.2.1]; omega)
theorem JA.vp {k : Nat} (h : JA X G F i) (hk : k < 9) : vp_in (Int32.ofNat k) (zln G (zp 1036 (zcn X 1036))) := by rw [h.2.2.1]; exact n_in hk (by omega)
theorem JA.jv (h : JA X G F i) (hJ : JV S m X) : JV S m G := hJ.fr h.1 (by simp)
theorem VQ.jq {i n x y : Nat} {v : Nat → Int32} {L : List ZCLS} (hA : JA X G F 9) (h : VQ G X' (zp 128 i) n v F x (.inr L) y) (h1 : ziv X (zp 128 i) 1 = Int32.ofNat L.length) : JQ X X' y (jall F L j0) := by
  obtain ⟨a1, a2, a3, a4, a5⟩ := hA
  obtain ⟨b1, b2, b3, b4, b5, b6, b7, b8, b9, b10, b11, b12⟩ := h
  have c352 : zcn G 352 = zcn X 352 := a1.2.1 _ (by simp)
  rw [c352] at b1 b3
  have gi : ∀ t j, t < 4096 → t ≠ 128 → j < zcn X t → zp t j ≠ zp 128 i ∧ zp t j ≠ y := fun t j h4 h128 hj => by
    refine ⟨zp_ne h4 (by omega) h128, fun e => ?_⟩
    rw [b1] at e
    obtain ⟨e1, e2⟩ := zp_inj h4 (by omega) e
    rw [e1] at hj; omega
  refine ⟨b1, b8, b3, b11, b12, ⟨fun t => ?_, fun t ht => ?_, fun q hq => ?_⟩, ?_, fun t j h4 h128 hj => ?_, fun j => ?_⟩
  · by_cases c : t = 352
    · rw [c, b3]; omega
    · rw [b2 t c]; exact a1.1 t
  · simp at ht
    rw [b2 t ht.2.1, a1.2.1 t (by simp; exact ht.2.2)]
  · simp at hq
    have n1 : q ≠ zp 128 i := fun e => hq.1 (by rw [e, zp_mod (by omega)])
    have n2 : q ≠ y := fun e => hq.2.1 (by rw [e, b1, zp_mod (by omega)])
    obtain ⟨z1, z2, z3⟩ := a1.2.2 q (by simp; exact hq.2.2)
    exact ⟨(b4 q n2).trans z1, (b5 q n1 n2).1.trans z2, (b5 q n1 n2).2.trans z3⟩
  · rw [b2 _ (by omega), a1.2.1 _ (by simp)]
  · obtain ⟨n1, n2⟩ := gi t j h4 h128 hj
    by_cases c : t = 1036
    · subst c
      obtain ⟨z1, z2, z3⟩ := a5 j hj
      exact ⟨(b4 _ n2).trans z1, (b5 _ n1 n2).1.trans z2, (b5 _ n1 n2).2.trans z3⟩
    · have no : t ∉ [1036] := by simp [c]
      exact ⟨(b4 _ n2).trans (a1.ln h4 no), (b5 _ n1 n2).1.trans (a1.iv h4 no), (b5 _ n1 n2).2.trans (a1.rv h4 no)⟩
  · have n2 : zp 128 j ≠ y := by rw [b1]; exact zp_ne (by omega) (by omega) (by omega)
    have no : 128 ∉ [1036] := by simp
    refine ⟨(b4 _ n2).trans (a1.ln (by omega) no), ?_⟩
    by_cases c : j = i
    · subst c
      exact ⟨by rw [b6, a1.iv (by omega) no], by rw [b10, h1], by rw [b7, a1.rv (by omega) no]⟩
    · obtain ⟨z1, z2⟩ := b5 (zp 128 j) (zp_ni (by omega) c) n2
      rw [z1, z2, a1.iv (by omega) no, a1.rv (by omega) no]
      exact ⟨rfl, rfl, rfl⟩
theorem PO.jud (h : PO K S m n1 m1 X) (hf : zfr [128] X X') (hi : ∀ i, ziv X' (zp 128 i) 0 = ziv X (zp 128 i) 0 ∧ ziv X' (zp 128 i) 1 = ziv X (zp 128 i) 1 ∧ zrv X' (zp 128 i) 3 = zrv X (zp 128 i) 3) : PO K S m n1 m1 X' := by
  have no : ∀ t, t ≠ 128 → t ∉ [128] := fun t h => by simp [h]
  have nw : ∀ t, t ∈ [1, 3073, 4095, 1035] → t ∉ [128] := by decide
  obtain ⟨p1, p2, ⟨f, a, b, ⟨x, y0, y1, y2, y3, y4, y5⟩, nl⟩, p4, p5, p6, p7, p8⟩ := h
  have nl' : NL9 S X' := by
    obtain ⟨z1, z2, z3⟩ := hi 0
    exact ⟨⟨x, Nat.lt_of_lt_of_le y0 (hf.1 _), by rw [z1]; exact y1, by rw [z2]; exact y2, Nat.lt_of_lt_of_le y3 (hf.1 _), by rw [z3]; exact y4, by rw [hf.ln (by omega) (no _ (by omega))]; exact y5⟩, nl⟩
  refine ⟨p1.fr hf (no _ (by omega)), p2.fr hf (no _ (by omega)) (no _ (by omega)), ⟨f, a.fr hf (by omega) (no _ (by omega)) (no _ (by omega)) (no _ (by omega)), fun j hj => ?_, nl'⟩, p4.fr hf (no _ (by omega)) (no _ (by omega)) (no _ (by omega)), p5.fr hf (no _ (by omega)) (no _ (by omega)) (by decide), ?_, p7.fr hf (no _ (by omega)) (no _ (by omega)) (no _ (by omega)) (no _ (by omega)) (no _ (by omega)) (no _ (by omega)) (no _ (by omega)) (no _ (by omega)) (no _ (by omega)), p8⟩
  · obtain ⟨i, i1, i2, i3, i4, x, x1, x2, tv, x3, L, x4, x5, x6⟩ := b j hj
    obtain ⟨y1, y2, y3⟩ := hi i
    refine ⟨i, Nat.lt_of_lt_of_le i1 (hf.1 _), i2, ?_, ?_, x, Nat.lt_of_lt_of_le x1 (hf.1 _), ?_, tv, ?_, L, ?_, x5, x6⟩
    · rw [i2, y1, ← i2]; exact i3
    · rw [i2, y2, ← i2]; exact i4
    · rw [i2, y3, ← i2]; exact x2
    · unfold TVl; rw [hf.ln (by omega) (no _ (by omega)), hf.iv (by omega) (no _ (by omega))]; exact x3
    · rw [hf.ln (by omega) (no _ (by omega))]; exact x4
  · have o := p6
    exact o.mk2 hf (fun t ht => no t (by omega)) o.ri o.rj (o.cp.fr hf (no _ (by omega)) (no _ (by omega)) (no _ (by omega)) (no _ (by omega)) (no _ (by omega)) (no _ (by omega)) (no _ (by omega))) (o.cd.fr hf (no _ (by omega)) (no _ (by omega)) (no _ (by omega)) (no _ (by omega)) (no _ (by omega)) (no _ (by omega))) (fun _ _ _ => rfl)
theorem zp_dm {q t : Nat} (h : q % 4096 = t) : q = zp t (q / 4096) := by unfold zp; omega
theorem PO.jq {y : Nat} {J : ZJ} (h : PO K S m n1 m1 X) (hj : JQ X X' y J) : PO K S m n1 m1 X' := by
  obtain ⟨j1, j2, j3, -, -, j4, j5, j6, j7⟩ := hj
  obtain ⟨X1, e1, e2, e3, e4⟩ : ∃ X1 : ZG, zcn X1 = zcn X ∧ zln X1 = zln X ∧ (∀ a, ziv X1 a = if a % 4096 = 128 then ziv X' a else ziv X a) ∧ ∀ a, zrv X1 a = if a % 4096 = 128 then zrv X' a else zrv X a := ⟨(zcn X, zln X, fun a => if a % 4096 = 128 then ziv X' a else ziv X a, fun a => if a % 4096 = 128 then zrv X' a else zrv X a), rfl, rfl, fun _ => rfl, fun _ => rfl⟩
  have hf : zfr [128] X X1 := by
    refine ⟨fun t => by rw [e1]; exact Nat.le_refl _, fun t _ => by rw [e1], fun q hq => ?_⟩
    simp at hq
    exact ⟨by rw [e2], by rw [e3, if_neg hq], by rw [e4, if_neg hq]⟩
  have m128 : ∀ i, zp 128 i % 4096 = 128 := fun i => zp_mod (by omega)
  have h1 : PO K S m n1 m1 X1 := h.jud hf (fun i => by
    obtain ⟨-, a, b, c⟩ := j7 i
    rw [e3, e4, if_pos (m128 i), if_pos (m128 i)]
    exact ⟨a, b, c⟩)
  have hg : zgr [352, 1036] X1 X' := by
    refine ⟨⟨fun t => by rw [e1]; exact j4.1 t, fun t ht => ?_, fun q hq => ?_⟩, by decide, fun t i h4 hi => ?_⟩
    · simp at ht
      rw [e1]
      by_cases c : t = 128
      · rw [c]; exact j5
      · exact j4.2.1 t (by simp; exact ⟨c, ht.1, ht.2⟩)
    · simp at hq
      by_cases c : q % 4096 = 128
      · rw [e2, e3, e4, if_pos c, if_pos c]
        refine ⟨?_, rfl, rfl⟩
        rw [zp_dm c]; exact (j7 _).1
      · rw [e2, e3, e4, if_neg c, if_neg c]
        exact j4.2.2 q (by simp; exact ⟨c, hq.1, hq.2⟩)
    · rw [e1] at hi
      by_cases c : t = 128
      · subst c
        rw [e2, e3, e4, if_pos (m128 i), if_pos (m128 i)]
        exact ⟨(j7 i).1, rfl, rfl⟩
      · have : ¬ zp t i % 4096 = 128 := by rw [zp_mod h4]; exact c
        rw [e2, e3, e4, if_neg this, if_neg this]
        exact j6 t i h4 c hi
  exact h1.gr hg
end ZDm
