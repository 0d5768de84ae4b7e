/-! the whole of the class's store -/
def NM (S : ZS9) (X : ZG) (p : Nat) : Prop := (S 2133 p = 0 ∧ zrv X (zp 288 p) 3 = 0) ∨ (¬ S 2133 p = 0 ∧ ∃ i, i < zcn X 192 ∧ zrv X (zp 288 p) 3 = zp 192 i ∧ ∃ j, j < zcn X 1032 ∧ zrv X (zp 192 i) 0 = zp 1032 j ∧ zln X (zp 1032 j) = 24 ∧ ∀ k, k < 24 → ziv X (zp 1032 j) k = S 1132 (24 * p + k))
/-- a law's text -/
def TVl (X : ZG) (q : Nat) (tv : Nat → Int32) : Prop := zln X q ≤ 400 ∧ ∀ b, b < zln X q → ziv X q b = tv b ∧ ∃ m, m < 256 ∧ tv b = Int32.ofNat m
def LW9 (S : ZS9) (X : ZG) (j q : Nat) : Prop := ∃ i, i < zcn X 128 ∧ q = zp 128 i ∧ ziv X q 0 = S 1110 j ∧ ziv X q 1 = S 1111 j ∧ ∃ x, x < zcn X 1035 ∧ zrv X q 3 = zp 1035 x ∧ ∃ tv, TVl X (zp 1035 x) tv ∧ ∃ L, zLaw tv (zln X (zp 1035 x)) = .inr L ∧ zLS S j L ∧ okL L
def POo (X : ZG) : Prop := zob X (zp 384 0) 12 ∧ zrv X (zp 384 0) 0 = zp 1034 0 ∧ zrv X (zp 384 0) 3 = zp 1 0 ∧ zrv X (zp 384 0) 5 = zp 256 0 ∧ zrv X (zp 384 0) 6 = zp 96 0 ∧ zrv X (zp 384 0) 7 = zp 320 0 ∧ zrv X (zp 384 0) 8 = zp 224 0 ∧ zrv X (zp 384 0) 9 = zp 225 0 ∧ zrv X (zp 384 0) 4 = zp 128 0
def PTa (S : ZS9) (X : ZG) : Prop := zar X (zp 1034 0) 0 ∧ zln X (zp 1034 0) = 400 ∧ ziv X (zp 384 0) 1 = S 416 3 ∧ (∀ j, j < nTp S → ziv X (zp 1034 0) j = S 1602 j &&& 255) ∧ ziv X (zp 384 0) 2 = S 416 8
/-- the law that says nothing is there; no law is of a day ahead of day 0 -/
def NL9 (S : ZS9) (X : ZG) : Prop := (∃ x, 0 < zcn X 128 ∧ ziv X (zp 128 0) 0 = -1 ∧ ziv X (zp 128 0) 1 = 0 ∧ x < zcn X 1035 ∧ zrv X (zp 128 0) 3 = zp 1035 x ∧ zln X (zp 1035 x) = 0) ∧ ∀ j, j < nL S → ¬ S 1110 j < 0
def PLa (S : ZS9) (X : ZG) : Prop := ∃ f, zAL X 1 (nL S) f ∧ (∀ j, j < nL S → LW9 S X j (f j)) ∧ NL9 S X
def PNa (S : ZS9) (X : ZG) : Prop := ∀ p, p < nP S → NM S X p
def mrk : List Int32 := [196, 228, 198, 230, 214, 246, 216, 248, 220, 252, 223, 197, 229, 209, 241, 201, 233, 200, 232, 199, 231]
/-- the tags that the class writes -/
def CT : List Nat := [384, 1034, 1, 3073, 128, 1035, 1036, 1037, 288, 192, 1032, 256, 2, 3074, 1030, 1031, 96, 3, 3075, 1033, 160, 320, 224, 32, 4, 3076, 5, 3077, 64, 352, 225, 33, 6, 3078, 7, 3079, 65]
def PWm (K X : ZG) : Prop := (zrd X (zp 3600 0) .int ∧ zln X (zp 3600 0) = 3 ∧ ∀ k, k < 3 → ziv X (zp 3600 0) k = if k = 0 then 7 else if k = 1 then 3 else 1) ∧ zrd X (zp 3601 0) .int ∧ zln X (zp 3601 0) = 21 ∧ (∀ k, k < 21 → ziv X (zp 3601 0) k = (mrk[k]?).getD 0) ∧ zfr CT K X ∧ ∀ n, n < 32 → zstr K n
/-- K: the store when the call began (only the class's own tags have changed since) -/
def PO (K : ZG) (S : ZS9) (m n1 m1 : Nat) (X : ZG) : Prop := POo X ∧ PTa S X ∧ PLa S X ∧ PNa S X ∧ PWm K X ∧ OF 0 S (S 416 42) m X ∧ TR S n1 m1 X ∧ SI S
/-- the cells of the tape -/
def tk (t k : Nat) : Prop := (t = 416 ∧ (k = 3 ∨ k = 8)) ∨ t = 1602
/-- the cells that PO speaks of beside the office's and the tape's -/
def pk (t k : Nat) : Prop := (t = 416 ∧ (k = 19 ∨ k = 34 ∨ k = 66)) ∨ t = 1110 ∨ t = 1111 ∨ ((1112 ≤ t ∧ t ≤ 1115) ∧ k < 192) ∨ ((1116 ≤ t ∧ t ≤ 1118) ∧ k < 4800) ∨ t = 1132 ∨ t = 2133 ∨ t = 1153 ∨ t = 1154 ∨ t = 1155 ∨ t = 1156 ∨ t = 2158 ∨ (1159 ≤ t ∧ t ≤ 1164) ∨ t = 2163
theorem POo.fr {X X' : ZG} {T : List Nat} (h : POo X) (hf : zfr T X X') (h1 : 384 ∉ T) : POo X' := by
  unfold POo at *
  rw [hf.rv (by omega) h1]
  exact ⟨hf.ob h.1, h.2⟩
theorem PTa.fr {S : ZS9} {X X' : ZG} {T : List Nat} (h : PTa S X) (hf : zfr T X X') (h1 : 384 ∉ T) (h2 : 1034 ∉ T) : PTa S X' := by
  unfold PTa at *
  rw [hf.ln (by omega) h2, hf.iv (by omega) h1, hf.iv (by omega) h2]
  exact ⟨hf.ar h.1, h.2⟩
theorem PTa.cg {S S' : ZS9} {X : ZG} (h : PTa S X) (hS : ∀ t k, tk t k → S' t k = S t k) : PTa S' X := by
  unfold PTa nTp at *
  rw [hS 416 3 (by unfold tk; omega), hS 416 8 (by unfold tk; omega)]
  exact ⟨h.1, h.2.1, h.2.2.1, fun j hj => by rw [hS 1602 j (by unfold tk; omega)]; exact h.2.2.2.1 j hj, h.2.2.2.2⟩
theorem zLS.cg {S S' : ZS9} {j : Nat} {L : List ZCLS} (h : zLS S j L) (hj : j < 12) (hS : ∀ t k, pk t k → S' t k = S t k) : zLS S' j L := by
  obtain ⟨h1, h2, h3, h4, h5⟩ := h
  refine ⟨by rw [hS _ _ (by unfold pk; omega)]; exact h1, h2, h3, fun m hm => ?_, fun i hi => ?_⟩
  · have := h4 m hm
    unfold zrow at *
    rw [hS 1112 (16 * j + m) (by unfold pk; omega), hS 1113 (16 * j + m) (by unfold pk; omega), hS 1114 (16 * j + m) (by unfold pk; omega), hS 1115 (16 * j + m) (by unfold pk; omega)]
    exact this
  · rw [hS 1116 (400 * j + i) (by unfold pk; omega), hS 1117 (400 * j + i) (by unfold pk; omega), hS 1118 (400 * j + i) (by unfold pk; omega)]
    exact h5 i hi
theorem NL9.fr {S : ZS9} {X X' : ZG} {T : List Nat} (h : NL9 S X) (hf : zfr T X X') (h4 : 128 ∉ T) (h5 : 1035 ∉ T) : NL9 S X' := by
  obtain ⟨⟨x, a0, a1, a2, a3, a4, a5⟩, b⟩ := h
  exact ⟨⟨x, Nat.lt_of_lt_of_le a0 (hf.1 _), by rw [hf.iv (by omega) h4]; exact a1, by rw [hf.iv (by omega) h4]; exact a2, Nat.lt_of_lt_of_le a3 (hf.1 _), by rw [hf.rv (by omega) h4]; exact a4, by rw [hf.ln (by omega) h5]; exact a5⟩, b⟩
theorem NL9.cg {S S' : ZS9} {X : ZG} (h : NL9 S X) (e : nL S' = nL S) (hS : ∀ k, k < nL S → S' 1110 k = S 1110 k) : NL9 S' X := ⟨h.1, fun j hj => by rw [e] at hj; rw [hS j hj]; exact h.2 j hj⟩
theorem PLa.fr {S : ZS9} {X X' : ZG} {T : List Nat} (h : PLa S X) (hf : zfr T X X') (h1 : 1 ∉ T) (h2 : 3073 ∉ T) (h3 : 4095 ∉ T) (h4 : 128 ∉ T) (h5 : 1035 ∉ T) : PLa S X' := by
  obtain ⟨f, a, b, nl⟩ := h
  refine ⟨f, a.fr hf (by omega) h1 h2 h3, fun j hj => ?_, nl.fr hf h4 h5⟩
  obtain ⟨i, i1, i2, i3, i4, x, x1, x2, tv, x3, L, x4, x5, x6⟩ := b j hj
  refine ⟨i, Nat.lt_of_lt_of_le i1 (hf.1 _), i2, ?_, ?_, x, Nat.lt_of_lt_of_le x1 (hf.1 _), ?_, tv, ?_, L, ?_, x5, x6⟩
  · rw [i2, hf.iv (by omega) h4, ← i2]; exact i3
  · rw [i2, hf.iv (by omega) h4, ← i2]; exact i4
  · rw [i2, hf.rv (by omega) h4, ← i2]; exact x2
  · unfold TVl; rw [hf.ln (by omega) h5, hf.iv (by omega) h5]; exact x3
  · rw [hf.ln (by omega) h5]; exact x4
theorem PLa.cg {S S' : ZS9} {X : ZG} (h : PLa S X) (hn : nL S ≤ 12) (hS : ∀ t k, pk t k → S' t k = S t k) : PLa S' X := by
  have e : nL S' = nL S := by unfold nL; rw [hS _ _ (by unfold pk; omega)]
  obtain ⟨f, a, b, nl⟩ := h
  refine ⟨f, by rw [e]; exact a, fun j hj => ?_, nl.cg e (fun k hk => hS _ _ (by unfold pk; omega))⟩
  rw [e] at hj
  obtain ⟨i, i1, i2, i3, i4, x, x1, x2, tv, x3, L, x4, x5, x6⟩ := b j hj
  exact ⟨i, i1, i2, by rw [hS _ _ (by unfold pk; omega)]; exact i3, by rw [hS _ _ (by unfold pk; omega)]; exact i4, x, x1, x2, tv, x3, L, x4, x5.cg (by omega) hS, x6⟩
theorem PNa.fr {S : ZS9} {X X' : ZG} {T : List Nat} (h : PNa S X) (hf : zfr T X X') (h1 : 288 ∉ T) (h2 : 192 ∉ T) (h3 : 1032 ∉ T) : PNa S X' := by
  intro p hp
  have := h p hp
  unfold NM at *
  rw [hf.rv (t := 288) (by omega) h1]
  rcases this with h | ⟨h0, i, i1, i2, j, j1, j2, j3, j4⟩
  · exact Or.inl h
  · exact Or.inr ⟨h0, i, Nat.lt_of_lt_of_le i1 (hf.1 _), i2, j, Nat.lt_of_lt_of_le j1 (hf.1 _), by rw [hf.rv (by omega) h2]; exact j2, by rw [hf.ln (by omega) h3]; exact j3, fun k hk => by rw [hf.iv (by omega) h3]; exact j4 k hk⟩
theorem PNa.cg {S S' : ZS9} {X : ZG} (h : PNa S X) (hS : ∀ t k, pk t k → S' t k = S t k) : PNa S' X := by
  have e : nP S' = nP S := by unfold nP; rw [hS _ _ (by unfold pk; omega)]
  intro p hp
  rw [e] at hp
  have := h p hp
  unfold NM at *
  rw [hS 2133 _ (by unfold pk; omega)]
  rcases this with h | ⟨h0, i, i1, i2, j, j1, j2, j3, j4⟩
  · exact Or.inl h
  · exact Or.inr ⟨h0, i, i1, i2, j, j1, j2, j3, fun k hk => by rw [hS 1132 _ (by unfold pk; omega)]; exact j4 k hk⟩
theorem PWm.fr {K X X' : ZG} {T : List Nat} (h : PWm K X) (hf : zfr T X X') (h1 : 3600 ∉ T) (h2 : 3601 ∉ T) (hT : ∀ t, t ∈ T → t ∈ CT) : PWm K X' := by
  unfold PWm at *
  rw [hf.ln (by omega) h1, hf.iv (by omega) h1, hf.ln (by omega) h2, hf.iv (by omega) h2]
  exact ⟨⟨hf.rd h.1.1, h.1.2⟩, hf.rd h.2.1, h.2.2.1, h.2.2.2.1, h.2.2.2.2.1.trans (hf.mono hT), h.2.2.2.2.2⟩
theorem TR.fr {S : ZS9} {X X' : ZG} {T : List Nat} {n m : Nat} (h : TR S n m X) (hf : zfr T X X') (h1 : 225 ∉ T) (h2 : 6 ∉ T) (h3 : 3078 ∉ T) (h4 : 33 ∉ T) (h5 : 352 ∉ T) (h6 : 7 ∉ T) (h7 : 3079 ∉ T) (h8 : 65 ∉ T) (h9 : 4095 ∉ T) : TR S n m X' := by
  obtain ⟨⟨o1, o2⟩, ⟨a1, a2, a3, a4⟩, b1, b2, b3⟩ := h
  refine ⟨⟨hf.ob o1, ?_⟩, ⟨a1.fr hf (by omega) h2 h3 h9, by rw [hf.2.1 _ h4]; exact a2, a3, fun a ha => ?_⟩, b1.fr hf (by omega) h6 h7 h9, by rw [hf.2.1 _ h8]; exact b2, b3⟩
  · rw [hf.rv (by omega) h1]; exact o2
  · exact (a4 a ha).st (hf.1 _) (hf.rv (by omega) h4) (fun k _ => by rw [hf.iv (by omega) h4]) (fun v _ => hf.iv (by omega) h5)
theorem TF.cg {S S' : ZS9} {X : ZG} {a : Nat} (h : TF S X a) (hS : ∀ t k, pk t k → S' t k = S t k) : TF S' X a := by
  obtain ⟨p1, ⟨v, v1, v2, v3⟩, p3⟩ := h
  refine ⟨by unfold pn; rw [hS 1153 _ (by unfold pk; omega)]; exact p1, ⟨v, v1, v2, ?_⟩, fun k k1 k2 => ?_⟩
  · unfold VD at *
    rw [hS 1159 _ (by unfold pk; omega), hS 1160 _ (by unfold pk; omega), hS 1162 _ (by unfold pk; omega), hS 1164 _ (by unfold pk; omega), hS 2163 _ (by unfold pk; omega), hS 1161 _ (by unfold pk; omega)]
    exact v3
  · rw [p3 k k1 k2]
    match k, k1, k2 with
    | 0, _, _ => rfl
    | 2, _, _ => show S 1154 a = S' 1154 a; rw [hS _ _ (by unfold pk; omega)]
    | 3, _, _ => show S 1155 a = S' 1155 a; rw [hS _ _ (by unfold pk; omega)]
    | 4, _, _ => show S 1156 a = S' 1156 a; rw [hS _ _ (by unfold pk; omega)]
    | 5, _, _ => show S 2158 a = S' 2158 a; rw [hS _ _ (by unfold pk; omega)]
theorem TR.cg {S S' : ZS9} {X : ZG} {n m : Nat} (h : TR S n m X) (hS : ∀ t k, pk t k → S' t k = S t k) : TR S' n m X := by
  have e : nA S' = nA S := by unfold nA; rw [hS _ _ (by unfold pk; omega)]
  obtain ⟨o, ⟨a1, a2, a3, a4⟩, b⟩ := h
  exact ⟨o, ⟨a1, a2, by rw [e]; exact a3, fun a ha => (a4 a ha).cg hS⟩, b⟩
