/-! the reference's public methods: what they answer, in words of its numbers. (code of the exception, answer, numbers behind it) -/
def zscr (t k : Nat) : Prop := (t = 416 ∧ (k = 0 ∨ (4 ≤ k ∧ k ≤ 7) ∨ k = 20 ∨ (23 ≤ k ∧ k ≤ 28) ∨ k = 78)) ∨ t = 1109 ∨ t = 1121 ∨ t = 2122 ∨ t = 1136 ∨ t = 1177 ∨ t = 1179 ∨ t = 1180 ∨ t = 1181 ∨ t = 1182 ∨ ((1112 ≤ t ∧ t ≤ 1115) ∧ 192 ≤ k) ∨ ((1116 ≤ t ∧ t ≤ 1118) ∧ 4800 ≤ k)
/-- the same but for what is written on the way -/
def zsim (S S' : ZS9) : Prop := ∀ t k, ¬ zscr t k → S' t k = S t k
theorem zsim.rf {S : ZS9} : zsim S S := fun _ _ _ => rfl
theorem zsim.tr {S S1 S2 : ZS9} (h : zsim S S1) (h2 : zsim S1 S2) : zsim S S2 := fun t k hc => (h2 t k hc).trans (h t k hc)
theorem zsim.up {S T : ZS9} {t k : Nat} {x : Int32} (h : zsim S T) (hc : zscr t k) : zsim S (zup T t k x) := fun a j h2 => by
  rw [zup_at, if_neg]
  · exact h a j h2
  · rintro ⟨rfl, rfl⟩; exact h2 hc
theorem zsim.cg {S T : ZS9} {t k : Nat} {x : Int32} (h : zsim S T) : zsim (zup S t k x) (zup T t k x) := fun a j h2 => by
  rw [zup_at, zup_at]
  split
  · rfl
  · exact h a j h2
theorem zs0 {S T : ZS9} {x : Int32} (h : zsim S T) : zsim S (zup T 416 0 x) := h.up (Or.inl ⟨rfl, Or.inl rfl⟩)
abbrev ZO : Type := Int32 × Int32 × ZS9
def rR (o : ZO) : Option Value → ZS9 → Prop := fun r S' => (∃ y, r = some (.int y) ∧ (o.1 = 0 → y = o.2.1)) ∧ S' 416 0 = o.1 ∧ zsim o.2.2 S'
def rN (o : ZO) : Option Value → ZS9 → Prop := fun r S' => r = none ∧ S' 416 0 = o.1 ∧ zsim o.2.2 S'
theorem rR1 {S T : ZS9} {c v y : Int32} (h : zsim S T) (hc : ¬ c = 0) : rR (c, v, S) (some (.int y)) (zup T 416 0 c) := ⟨⟨y, rfl, fun h => absurd h hc⟩, zup_s _ _ _ _, zs0 h⟩
theorem rR0 {S T : ZS9} {v y : Int32} (h : zsim S T) (h0 : T 416 0 = 0) (hy : y = v) : rR (0, v, S) (some (.int y)) T := ⟨⟨y, rfl, fun _ => hy⟩, h0, h⟩
theorem rN1 {S T : ZS9} {c v : Int32} (h : zsim S T) : rN (c, v, S) none (zup T 416 0 c) := ⟨rfl, zup_s _ _ _ _, zs0 h⟩
theorem rN0 {S T : ZS9} {v : Int32} (h : zsim S T) (h0 : T 416 0 = 0) : rN (0, v, S) none T := ⟨rfl, h0, h⟩
/-! the triples -/
noncomputable def fCalls3 (c1 : Prop) (o1 : ZO) (o2 : ZO) : ZO := @ite _ c1 (Classical.propDecidable _) o1 o2
theorem f3t {c1 : Prop} {o1 o2 : ZO} (h : c1) : fCalls3 c1 o1 o2 = o1 := if_pos h
theorem f3f {c1 : Prop} {o1 o2 : ZO} (h : ¬ c1) : fCalls3 c1 o1 o2 = o2 := if_neg h
noncomputable def fEnd (S : ZS9) (n : Int32) : ZO := fCalls3 (¬ n < 0 ∧ n ≤ S 416 3) (0, 1, zup S 416 3 n) (0, 0, S)
def fFault (S : ZS9) : ZO := (0, S 416 8, S)
noncomputable def fSign (S : ZS9) (p i : Int32) : ZO := fCalls3 (¬ zin p (nP S)) (1, 0, S) (fCalls3 (¬ S 2133 p.toNatClampNeg = 0 ∧ inn i 0 23) (0, S 1132 (24 * p.toNatClampNeg + i.toNatClampNeg), S) (0, -1, S))
noncomputable def fFar (S : ZS9) (p q : Int32) : ZO := fCalls3 (¬ (zin p (nP S) ∧ zin q (nP S))) (1, 0, S) (0, zfar S p.toNatClampNeg q.toNatClampNeg, S)
noncomputable def fHands (S : ZS9) (d n : Int32) : ZO := fCalls3 (¬ inn d 0 3) (1, 0, S) (fCalls3 (¬ inn n 0 30) (2, 0, S) (0, 0, zup S 1146 d.toNatClampNeg n))
def zlend (S : ZS9) (d n f t tr : Int32) : ZS9 := zup (zup (zup (zup (zup (zup S 1147 (nT S) d) 1148 (nT S) n) 1149 (nT S) f) 1150 (nT S) t) 1151 (nT S) tr) 416 52 (S 416 52 + 1)
noncomputable def fLend (S : ZS9) (d n f t tr : Int32) : ZO := fCalls3 (¬ inn d 0 3) (1, 0, S) (fCalls3 (¬ (inn n 1 30 ∧ ¬ f < S 416 1 ∧ ¬ t < f ∧ ¬ 1000 < t ∧ inn tr 0 30)) (2, 0, S) (fCalls3 (nT S = 20) (0, -1, S) (0, S 416 52 + 1, zlend S d n f t tr)))
noncomputable def fUnits (S : ZS9) (d day : Int32) : ZO := fCalls3 (¬ inn d 0 3) (1, 0, S) (0, zunits S d.toNatClampNeg day (nT S), S)
def zrules (S : ZS9) (a b c d e : Int32) : ZS9 := zup (zup (zup (zup (zup S 416 37 a) 416 38 b) 416 39 c) 416 40 d) 416 41 e
noncomputable def fRules (S : ZS9) (a b c d e : Int32) : ZO := fCalls3 (¬ (inn a 1 200 ∧ inn b 0 10000 ∧ inn c 0 1000 ∧ inn d 0 60 ∧ inn e 0 60)) (1, 0, S) (0, 0, zrules S a b c d e)
noncomputable def fOrder (S : ZS9) (r : Int32) : ZO := fCalls3 (¬ inn r 0 2) (1, 0, S) (0, 0, zup S 416 42 r)
noncomputable def fBlanks (S : ZS9) (n : Int32) : ZO := fCalls3 (¬ (inn n 0 1000 ∧ S 416 43 + n ≤ 10000)) (1, 0, S) (0, S 416 43 + n, zup S 416 43 (S 416 43 + n))
noncomputable def fBroken (S : ZS9) (f t : Int32) : ZO := fCalls3 (¬ f ≤ t) (1, 0, S) (0, 0, zup (zup S 416 44 f) 416 45 t)
/-- so many days, as far as today may go -/
noncomputable def zdaysT (r : Int32) : Nat → ZS9 → ZS9
  | 0, S => S
  | n + 1, S => if 1000 ≤ S 416 1 then S else zdaysT r n (zday S r)
/-- no exception yet -/
def zs (S : ZS9) : ZS9 := zup S 416 0 0
noncomputable def fDays (S : ZS9) (n : Int32) : ZO := fCalls3 (¬ inn n 0 60) (1, 0, S) (0, zdaysT (S 416 42) n.toNatClampNeg (zs S) 416 1, zdaysT (S 416 42) n.toNatClampNeg (zs S))
noncomputable def fRefuse (S : ZS9) (a : Int32) : ZO := fCalls3 (¬ zin a (nA S)) (1, 0, S) (fCalls3 (¬ S 1165 (7 * a.toNatClampNeg + 0) ≤ 5) (2, 0, S) (0, 0, zup S 1165 (7 * a.toNatClampNeg + 0) 9))
def zlose (S : ZS9) (a : Nat) : ZS9 := zup (zup S 1165 (7 * a + 0) 8) 1169 (S 1165 (7 * a + 1)).toNatClampNeg (if S 416 1 < S 1169 (S 1165 (7 * a + 1)).toNatClampNeg then S 416 1 else S 1169 (S 1165 (7 * a + 1)).toNatClampNeg)
noncomputable def fLose (S : ZS9) (a : Int32) : ZO := fCalls3 (¬ zin a (nA S)) (1, 0, S) (fCalls3 (¬ S 1165 (7 * a.toNatClampNeg + 0) = 6) (2, 0, S) (0, 0, zlose S a.toNatClampNeg))
noncomputable def fAgain (S : ZS9) (a : Int32) : ZO := fCalls3 (¬ zin a (nA S)) (1, 0, S) (fCalls3 (¬ S 1165 (7 * a.toNatClampNeg + 0) = 8) (2, 0, S) (0, 0, zup (zup S 1165 (7 * a.toNatClampNeg + 0) 5) 1165 (7 * a.toNatClampNeg + 4) (-1)))
def zled (S : ZS9) (a : Nat) (w : Int32) : Int32 × Int32 :=
  if w = 0 then (0, S 1165 (7 * a + 0)) else if w = 1 then (0, S 1153 a) else if w = 2 then (0, S 1154 a) else if w = 3 then (0, S 1155 a) else if w = 4 then (0, S 1156 a) else if w = 5 then (0, S 1157 a) else if w = 6 then (0, rLacks S a) else if w = 7 then (0, S 1160 a) else if w = 8 then (0, S 1165 (7 * a + 6)) else if w = 9 then (0, S 1162 a) else if w = 10 then (0, S 1161 a) else if w = 11 then (0, S 1165 (7 * a + 1)) else if w = 12 then (0, S 1165 (7 * a + 2)) else if w = 13 then (0, S 1165 (7 * a + 3)) else if w = 14 then (0, S 1165 (7 * a + 4)) else if w = 15 then (0, S 1165 (7 * a + 5)) else (2, 0)
noncomputable def fLed (S : ZS9) (a w : Int32) : ZO := fCalls3 (¬ zin a (nA S)) (1, 0, S) ((zled S a.toNatClampNeg w).1, (zled S a.toNatClampNeg w).2, S)
noncomputable def fQueue (S : ZS9) (d : Int32) : ZO := fCalls3 (¬ inn d 0 3) (1, 0, S) (0, Int32.ofNat (zline S (S 416 42) (rStateAt d) (nA S)).length, S)
/-- those ahead of a, whose state is st -/
noncomputable def zahead (S : ZS9) (a : Nat) (n : Nat) : Int32 := zcnt (fun b => b ≠ a ∧ S 1165 (7 * b + 0) = S 1165 (7 * a + 0) ∧ zlt S (S 416 42) b a) n
def zatdesk (x : Int32) : Prop := x = 0 ∨ x = 2 ∨ x = 4 ∨ x = 5
noncomputable def fAhead (S : ZS9) (a : Int32) : ZO := fCalls3 (¬ zin a (nA S)) (1, 0, S) (fCalls3 (zatdesk (S 1165 (7 * a.toNatClampNeg + 0))) (0, zahead S a.toNatClampNeg (nA S), S) (0, -1, S))
noncomputable def fBooklet (S : ZS9) (b w : Int32) : ZO := fCalls3 (¬ zin b (nB S)) (1, 0, S) (fCalls3 (inn w 0 3) (0, S (1167 + w.toNatClampNeg) b.toNatClampNeg, S) (2, 0, S))
noncomputable def fValid (S : ZS9) (p day : Int32) : ZO := fCalls3 (¬ zin p (nP S)) (1, 0, S) (0, zcnt (zval S p day) (nB S), S)
noncomputable def fEnds (S : ZS9) (lo hi : Int32) : ZO := (0, zcnt (fun b => inn (S 1169 b) lo hi) (nB S), S)
noncomputable def zinst (S : ZS9) (lo hi : Int32) : Int32 := zcnt (fun a => inn (S 1165 (7 * a + 0)) lo hi) (nA S)
def nL (S : ZS9) : Nat := (S 416 19).toNatClampNeg
noncomputable def zcount (S : ZS9) (w : Int32) : Int32 :=
  if w = 0 then S 416 1 else if w = 1 then S 416 34 else if w = 2 then S 416 19 else if w = 3 then S 416 66 else if w = 4 then zinst S 0 5 else if w = 5 then zinst S 7 7 else if w = 6 then zinst S 3 3 else if w = 7 then S 416 71 else if w = 8 then S 416 43 else if w = 9 then S 416 72 else if w = 10 then S 416 73 else if w = 11 then S 416 74 else if w = 12 then S 416 75 else if w = 13 then S 416 52 else if w = 14 then S 416 76 else if w = 15 then (match zlaw S (S 416 1) (nL S) with | none => 0 | some j => S 1111 j) else if w = 16 then zinst S 9 9 else if w = 17 then zinst S 8 8 else -1
noncomputable def fCount (S : ZS9) (w : Int32) : ZO := (0, zcount S w, S)
def zgive (S : ZS9) (a : Nat) (i : Int32) : ZS9 := zup S 1157 a (S 1157 a ||| i)
def zgive2 (S : ZS9) (a : Nat) : ZS9 := if rLacks S a = 0 then zup S 1165 (7 * a + 0) 0 else S
noncomputable def fGive (S : ZS9) (a i : Int32) : ZO := fCalls3 (¬ zin a (nA S)) (1, 0, S) (fCalls3 (¬ inn i 0 255) (2, 0, S) (fCalls3 (¬ S 1165 (7 * a.toNatClampNeg + 0) = 1) (3, 0, S) (0, rLacks (zgive S a.toNatClampNeg i) a.toNatClampNeg, zgive2 (zgive S a.toNatClampNeg i) a.toNatClampNeg)))
def zperson (S : ZS9) (born ab a b c d e : Int32) : ZS9 := zup (zup (zup (zup (zup (zup (zup (zup S 1129 (nP S) born) 2130 (nP S) ab) 1131 (5 * nP S) a) 1131 (5 * nP S + 1) b) 1131 (5 * nP S + 2) c) 1131 (5 * nP S + 3) d) 1131 (5 * nP S + 4) e) 416 34 (S 416 34 + 1)
noncomputable def fPerson (S : ZS9) (born ab a b c d e : Int32) : ZO := fCalls3 (¬ (inn born (-40000) (S 416 1) ∧ inn a 0 99 ∧ inn b 0 99 ∧ inn c 0 99 ∧ inn d 0 99 ∧ inn e 0 99)) (1, 0, S) (fCalls3 (nP S = 80) (2, 0, S) (0, S 416 34, zperson S born ab a b c d e))
def ztold (S : ZS9) (p q : Nat) (v : Int32) : ZS9 := zup (zup S 1135 (80 * p + q) v) 1135 (80 * q + p) v
/-- the held ones are checked again: how many are freed, and the numbers -/
noncomputable def zheld (S : ZS9) : Nat → Int32 × ZS9
  | 0 => (0, S)
  | i + 1 => if (zheld S i).2 1165 (7 * i + 0) = 3 then (if zst (zheld S i).2 i = 3 then (zheld S i).1 else (zheld S i).1 + 1, zchk (zheld S i).2 i) else zheld S i
noncomputable def ztell (S : ZS9) (p q : Nat) (s : Int32) : ZS9 := ztold (zs S) p q (if s = 0 then 1 else 2)
noncomputable def fTell (S : ZS9) (p q s : Int32) : ZO := fCalls3 (¬ (zin p (nP S) ∧ zin q (nP S))) (1, 0, S) (fCalls3 (p = q) (2, 0, S) (0, (zheld (ztell S p.toNatClampNeg q.toNatClampNeg s) (nA S)).1, (zheld (ztell S p.toNatClampNeg q.toNatClampNeg s) (nA S)).2))
def figW (k : Nat) : Int32 := if k % 3 = 0 then 7 else if k % 3 = 1 then 3 else 1
def figN (S : ZS9) (p : Nat) : Nat → Int32
  | 0 => 0
  | k + 1 => figN S p k + (if S 1132 (24 * p + k) = 60 then 0 else S 1132 (24 * p + k) - 65 + 10) * figW k
noncomputable def fFigure (S : ZS9) (p : Int32) : ZO := fCalls3 (¬ zin p (nP S)) (1, 0, S) (fCalls3 (S 2133 p.toNatClampNeg = 0) (0, -1, S) (0, figN S p.toNatClampNeg 24 - figN S p.toNatClampNeg 24 / 10 * 10, S))
def zbyte (S : ZS9) (five : Nat → Int32) (j : Nat) : Int32 := (five (j / 4) >>> ((24 - (8 * Int32.ofNat (j % 4))) &&& 31)).toInt8.toInt32
def z5 (a b c d e : Int32) (j : Nat) : Int32 := if j = 0 then a else if j = 1 then b else if j = 2 then c else if j = 3 then d else e
def nTp (S : ZS9) : Nat := (S 416 3).toNatClampNeg
def zfeed (S : ZS9) (five : Nat → Int32) (i : Nat) : ZS9 := fun t k => if t = 1602 ∧ nTp S ≤ k ∧ k < nTp S + i then zbyte S five (k - nTp S) else S t k
noncomputable def fFeed (S : ZS9) (a b c d e : Int32) : ZO := fCalls3 (S 416 3 + 20 ≤ 400) (0, S 416 3 + 20, zup (zfeed S (z5 a b c d e) 20) 416 3 (S 416 3 + 20)) (0, -1, S)
section ZRh
variable {E : ZE} {l : Launch} {S : ZS9}
theorem gT {d k : Nat} {c : Prop} {x : Int32} {K : Int32 → ZS9 → Nat → Prop} (hd : 1 ≤ d) (h1 : c → K 1 (zup S 416 0 x) k) (h0 : ¬ c → K 0 S k) : rcI E l mX12_throwsIf d [.int (zb c), .int x] S k K := by
  by_cases h : c
  · rw [zb_t h]; exact gI (r_thr1 x) hd (h1 h)
  · rw [zbz h]; exact gI (r_thr0 x) hd (h0 h)
theorem r_end (x : Int32) : rMet E l mX12_end 1 0 [.int x] S (rR (fEnd S x)) := by
  refine r_meth (by decide) (Nat.le_of_ble_eq_true rfl) (by simp [Value.category]) (fun G hK => rwpt_X12_end_0 hK ?_); unfold rwp_X12_end_0
  intro S1 e1; have z1 : ∀ t k, ¬ (t = 416 ∧ k = 0) → S1 t k = S t k := fun t k h => by rw [e1, zup_at, if_neg h]
  rw [z1 416 3 (by decide)]
  have s1 : zsim S S1 := by rw [e1]; exact zs0 zsim.rf
  have t1 : S1 416 0 = 0 := by rw [e1]; exact zup_s _ _ _ _
  refine ⟨fun h => ?_, fun h => ⟨fun h2 S2 e2 => ?_, fun h2 => ?_⟩⟩
  · unfold fEnd; rw [f3f (fun z => z.1 h)]; exact rR0 s1 t1 rfl
  · unfold fEnd; rw [f3t ⟨h, h2⟩, e2]; exact rR0 s1.cg (by rw [zup_at, if_neg (by decide), t1]) rfl
  · unfold fEnd; rw [f3f (fun z => h2 z.2)]; exact rR0 s1 t1 rfl
theorem r_fault : rMet E l mX12_fault 1 0 [] S (rR (fFault S)) := by
  refine r_meth (by decide) (Nat.le_of_ble_eq_true rfl) (by simp [Value.category]) (fun G hK => rwpt_X12_fault_0 hK ?_); unfold rwp_X12_fault_0
  intro S1 e1; have z1 : ∀ t k, ¬ (t = 416 ∧ k = 0) → S1 t k = S t k := fun t k h => by rw [e1, zup_at, if_neg h]
  rw [z1 416 8 (by decide), e1]
  exact rR0 (zs0 zsim.rf) (zup_s _ _ _ _) rfl
end ZRh
