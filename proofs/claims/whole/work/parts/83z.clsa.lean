/-! an asking comes on a day that has been, and is got on that day or later: kept by every call -/
/-- of each asking, of the day on which it was got -/
def SH (P : Nat → Int32 → Prop) (S : ZS9) : Prop := ∀ a, P a (S 1165 (7 * a + 3))
section ZHa
variable {P : Nat → Int32 → Prop}
theorem SH.ot {S : ZS9} {t k : Nat} {x : Int32} (h : SH P S) (ht : ¬ (t = 1165 ∧ k % 7 = 3)) : SH P (zup S t k x) := fun a => by
  rw [zup_ne (by omega)]; exact h a
theorem SH.gets2 {S : ZS9} {a : Nat} (h : SH P S) (ht : ∀ b, P b (S 416 1)) : SH P (zgets2 S a) := fun b => by
  unfold zgets2
  rw [r1165 (by omega) (by omega), r1165 (by omega) (by omega), if_neg (c := b = a ∧ 3 = 0) (by omega)]
  by_cases e : b = a
  · rw [if_pos ⟨e, rfl⟩]; exact ht b
  · rw [if_neg (fun z => e z.1)]; exact h b
theorem SH.gets {S : ZS9} {a : Nat} (h : SH P S) (ht : ∀ b, P b (S 416 1)) : SH P (zgets S a) := by
  have h2 := h.gets2 (a := a) ht
  unfold zgets
  split
  · exact h2
  · exact (h2.ot (by omega)).ot (by omega)
theorem SH.prints {S : ZS9} {a : Nat} (h : SH P S) (ht : ∀ b, P b (S 416 1)) : SH P (zprints S a) := by
  have e1 : ∀ t k, t ≠ 1169 → zprint1 S a t k = S t k := fun t k hk => by
    unfold zprint1
    split
    · rfl
    · exact zend_no (Or.inl hk)
  have h1 : SH P (zprint1 S a) := fun b => by rw [e1 _ _ (by omega)]; exact h b
  have t1 : ∀ b, P b (zprint1 S a 416 1) := fun b => by rw [e1 _ _ (by omega)]; exact ht b
  unfold zprints
  generalize zprint1 S a = T at *
  have h2 : SH P (zprint2 T a) := by
    unfold zprint2
    exact ((((((h1.ot (by omega)).ot (by omega)).ot (by omega)).ot (by omega)).ot (by omega)).ot (by omega)).ot (by omega)
  have t2 : ∀ b, P b (zprint2 T a 416 1) := fun b => by
    unfold zprint2
    rw [zup_ne (by omega), zup_ne (by omega), zup_ne (by omega), zup_ne (by omega), zup_ne (by omega), zup_ne (by omega), zup_ne (by omega)]; exact t1 b
  generalize zprint2 T a = U at *
  unfold zprint3
  split
  · exact (h2.ot (by omega)).gets (fun b => by rw [zup_ne (by omega)]; exact t2 b)
  · exact (h2.ot (by omega)).ot (by omega)
theorem SH.chk {S : ZS9} {a : Nat} (h : SH P S) : SH P (zchk S a) := h.ot (by omega)
theorem SH.does {S : ZS9} {d a : Nat} (h : SH P S) (hd : d < 4) (ht : ∀ b, P b (S 416 1)) : SH P (zdoes S d a) := by
  match d, hd with
  | 0, _ =>
    show SH P (zread S a)
    unfold zread
    exact ((h.ot (by omega)).ot (by omega)).ot (by omega)
  | 1, _ => exact h.chk
  | 2, _ =>
    show SH P (zup S 1165 (7 * a + 0) 5)
    exact h.ot (by omega)
  | 3, _ => exact h.prints ht
theorem SH.srv {d : Nat} (hd : d < 4) : ∀ {L : List Nat} {u : Int32} {S : ZS9}, SH P S → (∀ b, P b (S 416 1)) → SH P (zsrv d L u S).2
  | [], _, _, h, _ => h
  | a :: L, u, S, h, ht => by
    unfold zsrv
    by_cases hc : u < ztakes S d a ∨ (d = 3 ∧ ¬ zcan S)
    · rw [if_pos hc]; exact h
    · rw [if_neg hc]
      exact SH.srv hd (h.does hd ht) (fun b => by rw [zdoes_416 (by decide)]; exact ht b)
theorem SH.works {S : ZS9} {d : Nat} {r : Int32} (h : SH P S) (ht : ∀ b, P b (S 416 1)) (hd : d < 4) : SH P (zworks S d r) := by
  have h0 : SH P (zwork0 S d r) := fun b => by unfold zwork0; rw [zrw_st _ _ (by omega) (by omega)]; exact h b
  have ht0 : ∀ b, P b (zwork0 S d r 416 1) := fun b => by unfold zwork0; rw [zrw_st _ _ (by omega) (by omega)]; exact ht b
  unfold zworks zwork1
  exact (SH.srv hd h0 ht0).ot (by omega)
theorem SH.post {S : ZS9} (h : SH P S) (ht : ∀ b, P b (S 416 1)) : ∀ {n : Nat}, SH P (zpost S n)
  | 0 => h
  | n + 1 => by
    have h1 := SH.post h ht (n := n)
    have t1 : ∀ b, P b (zpost S n 416 1) := fun b => by rw [zpost_416 (by decide)]; exact ht b
    unfold zpost
    split
    · exact h1.gets t1
    · exact h1
theorem SH.day {S : ZS9} {r : Int32} (h : SH P S) (ht : ∀ b, P b (S 416 1 + 1)) : SH P (zday S r) := by
  have h1 : SH P (zup S 416 1 (S 416 1 + 1)) := h.ot (by omega)
  have t1 : ∀ b, P b (zup S 416 1 (S 416 1 + 1) 416 1) := fun b => by rw [zup_s]; exact ht b
  have h2 := h1.post t1 (n := nA S)
  have t2 : ∀ b, P b (zpost (zup S 416 1 (S 416 1 + 1)) (nA S) 416 1) := fun b => by rw [zpost_416 (by decide)]; exact t1 b
  have h3 : SH P (zday0 S) := by
    unfold zday0 zcalls
    exact ((h2.ot (by omega)).ot (by omega)).ot (by omega)
  have t3 : ∀ b, P b (zday0 S 416 1) := fun b => by
    unfold zday0 zcalls
    rw [zup_ne (by omega), zup_ne (by omega), zup_ne (by omega)]; exact t2 b
  unfold zday
  exact (((h3.works t3 (by decide)).works (fun b => by rw [zworks_1]; exact t3 b) (by decide)).works (fun b => by rw [zworks_1, zworks_1]; exact t3 b) (by decide)).works (fun b => by rw [zworks_1, zworks_1, zworks_1]; exact t3 b) (by decide)
end ZHa
theorem SA.cg {S S' : ZS9} (h : SA S) (hS : ∀ t k, (t = 1165 ∧ k % 7 = 3) ∨ t = 1155 ∨ (t = 416 ∧ (k = 1 ∨ k = 66)) → S' t k = S t k) : SA S' := by
  have eA : nA S' = nA S := by unfold nA; rw [hS _ _ (by omega)]
  intro a ha
  rw [eA] at ha
  rw [hS 1155 a (by omega), hS 416 1 (by omega), hS 1165 (7 * a + 3) (by omega)]
  exact h a ha
theorem SA.ot {S : ZS9} {t k : Nat} {x : Int32} (h : SA S) (ht : ¬ ((t = 1165 ∧ k % 7 = 3) ∨ t = 1155 ∨ (t = 416 ∧ (k = 1 ∨ k = 66)))) : SA (zup S t k x) := h.cg (fun u j hc => zup_ne (by omega))
theorem SA.sim {S S' : ZS9} (h : SA S) (hs : zsim S S') : SA S' := h.cg (fun t k hc => hs _ _ (sim_no (by omega)))
theorem SA.day {S : ZS9} {r : Int32} (h : SA S) (hT : ¬ S 416 1 < 0) (c : ¬ 1000 ≤ S 416 1) : SA (zday S r) := by
  have hd := SH.day (P := fun a x => a < nA S → (x = -1 ∨ ¬ x < S 1155 a)) (S := S) (r := r) (fun a ha => (h a ha).2.2) (fun b hb => Or.inr (i_le1 (h b hb).2.1 c hT).1)
  have eA : nA (zday S r) = nA S := nA_dk zday_dk
  intro a ha
  rw [eA] at ha
  have h5 : zday S r 1155 a = S 1155 a := zday_dk _ _ (by unfold zdc; omega)
  rw [h5, zday_1]
  exact ⟨(h a ha).1, (i_le1 (h a ha).2.1 c hT).1, hd a ha⟩
theorem SA.daysT {r : Int32} : ∀ {n : Nat} {S : ZS9}, SA S → TD S → SA (zdaysT r n S)
  | 0, _, h, _ => h
  | n + 1, S, h, ht => by
    unfold zdaysT
    by_cases c : 1000 ≤ S 416 1
    · rw [if_pos c]; exact h
    · rw [if_neg c]
      have hj := i_le1 (y := 0) ht.1 c ht.1
      refine SA.daysT (h.day ht.1 c) ?_
      unfold TD
      rw [zday_1]; exact ⟨hj.2.1, hj.2.2⟩
theorem sa3 {c : Prop} {o1 o2 : ZO} (h1 : c → SA o1.2.2) (h2 : ¬ c → SA o2.2.2) : SA (fCalls3 c o1 o2).2.2 := by
  by_cases h : c
  · rw [f3t h]; exact h1 h
  · rw [f3f h]; exact h2 h
theorem zheld_SA {S : ZS9} (h : SA S) : ∀ n, SA (zheld S n).2 := by
  intro n
  induction n with
  | zero => exact h
  | succ n ih =>
    rw [zheld_s]
    by_cases e : (zheld S n).2 1165 (7 * n + 0) = 3
    · rw [if_pos e]
      show SA (zup (zheld S n).2 1165 (7 * n + 0) (zst (zheld S n).2 n))
      exact ih.ot (by omega)
    · rw [if_neg e]; exact ih
section ZHb
variable {S : ZS9}
theorem saEnd (h : SA S) (n : Int32) : SA (fEnd S n).2.2 := sa3 (fun _ => h.ot (by omega)) (fun _ => h)
theorem saHands (h : SA S) (d n : Int32) : SA (fHands S d n).2.2 := sa3 (fun _ => h) (fun _ => sa3 (fun _ => h) (fun _ => h.ot (by omega)))
theorem saLend (h : SA S) (d n f t tr : Int32) : SA (fLend S d n f t tr).2.2 := sa3 (fun _ => h) (fun _ => sa3 (fun _ => h) (fun _ => sa3 (fun _ => h) (fun _ => SA.cg (S' := zlend S d n f t tr) h (fun u k hc => zlend_o (by omega) (by omega)))))
theorem saRules (h : SA S) (a b c d e : Int32) : SA (fRules S a b c d e).2.2 := sa3 (fun _ => h) (fun _ => ((((h.ot (by omega)).ot (by omega)).ot (by omega)).ot (by omega)).ot (by omega))
theorem saOrder (h : SA S) (r : Int32) : SA (fOrder S r).2.2 := sa3 (fun _ => h) (fun _ => h.ot (by omega))
theorem saBlanks (h : SA S) (n : Int32) : SA (fBlanks S n).2.2 := sa3 (fun _ => h) (fun _ => h.ot (by omega))
theorem saBroken (h : SA S) (f t : Int32) : SA (fBroken S f t).2.2 := sa3 (fun _ => h) (fun _ => (h.ot (by omega)).ot (by omega))
theorem saDays (h : SA S) (hT : TD S) (n : Int32) : SA (fDays S n).2.2 := sa3 (fun _ => h) (fun _ => by
  refine SA.daysT (h.ot (by omega)) ?_
  unfold TD zs
  rw [zup_ne (by omega)]; exact hT)
theorem saRefuse (h : SA S) (a : Int32) : SA (fRefuse S a).2.2 := sa3 (fun _ => h) (fun _ => sa3 (fun _ => h) (fun _ => h.ot (by omega)))
theorem saLose (h : SA S) (a : Int32) : SA (fLose S a).2.2 := sa3 (fun _ => h) (fun _ => sa3 (fun _ => h) (fun _ => (h.ot (by omega)).ot (by omega)))
theorem saAgain (h : SA S) (a : Int32) : SA (fAgain S a).2.2 := sa3 (fun _ => h) (fun _ => sa3 (fun _ => h) (fun _ => (h.ot (by omega)).ot (by omega)))
theorem saGive (h : SA S) (a i : Int32) : SA (fGive S a i).2.2 := sa3 (fun _ => h) (fun _ => sa3 (fun _ => h) (fun _ => sa3 (fun _ => h) (fun _ => by
  have h1 : SA (zgive S a.toNatClampNeg i) := h.ot (by omega)
  show SA (zgive2 (zgive S a.toNatClampNeg i) a.toNatClampNeg)
  unfold zgive2
  split
  · exact h1.ot (by omega)
  · exact h1)))
theorem saPerson (h : SA S) (born ab a b c d e : Int32) : SA (fPerson S born ab a b c d e).2.2 := sa3 (fun _ => h) (fun _ => sa3 (fun _ => h) (fun _ => SA.cg (S' := zperson S born ab a b c d e) h (fun t k hc => zper_o (by omega) (by omega) (by omega))))
theorem saTell (h : SA S) (p q s : Int32) : SA (fTell S p q s).2.2 := sa3 (fun _ => h) (fun _ => sa3 (fun _ => h) (fun _ => zheld_SA (by
  unfold ztell
  refine h.cg (fun t k hc => ?_)
  rw [ztold_o (by omega)]; unfold zs; rw [zup_ne (by omega)]) _))
theorem saFeed (h : SA S) (a b c d e : Int32) : SA (fFeed S a b c d e).2.2 := sa3 (fun _ => by
  refine SA.ot (h.cg (fun t k hc => ?_)) (by omega)
  unfold zfeed; rw [if_neg (by omega)]) (fun _ => h)
theorem saName (h : SA S) (p : Int32) : SA (fName S p).2.2 := sa3 (fun _ => h.ot (by omega)) (fun _ => by
  have h0 : SA (zuse S) := h.ot (by omega)
  cases nmE (wtape S) (nTp S) 0 with
  | some i => exact h0.ot (by omega)
  | none => exact SA.ot (h0.cg (fun t k hc => znam_o (by omega) (by omega))) (by omega))
theorem saAsk {L : List ZCLS} (h : SA S) (hT : TD S) (hA : S 416 66 = Int32.ofNat (nA S) ∧ nA S ≤ 120) (p kind wanted items urgent : Int32) : SA (fAsk S L p kind wanted items urgent).2.2 := sa3 (fun _ => h) (fun _ => sa3 (fun _ => h) (fun _ => sa3 (fun _ => h) (fun _ => by
  show SA (zask S (zJ S L p.toNatClampNeg kind wanted urgent) p kind wanted items urgent)
  generalize hS' : zask S (zJ S L p.toNatClampNeg kind wanted urgent) p kind wanted items urgent = S'
  obtain ⟨z66, -, -, -, z55, -, -, -, -, -, -, -, y3, -⟩ := zask_n S' hS'.symm
  have eA : nA S' = nA S + 1 := by
    show (S' 416 66).toNatClampNeg = _
    rw [z66, hA.1, n_p1, n_nn (by omega)]
  have e1 : S' 416 1 = S 416 1 := by rw [← hS']; exact zask_o (by unfold zaN; omega)
  intro b hb
  rw [eA] at hb
  by_cases c : b = nA S
  · rw [c, z55, y3, e1]
    exact ⟨hT.1, fun z => by rw [i_tl] at z; omega, Or.inl rfl⟩
  · have k5 : S' 1155 b = S 1155 b := by rw [← hS']; exact zask_o (by unfold zaN; omega)
    have k3 : S' 1165 (7 * b + 3) = S 1165 (7 * b + 3) := by rw [← hS']; exact zask_o (by unfold zaN; omega)
    rw [k5, k3, e1]; exact h b (by omega))))
end ZHb
/-- a law told -/
theorem saLaw {S S' : ZS9} (h : SA S) {fr : Int32} {r : Option Value} (hq : QL S fr r S') : SA S' := by
  have h0 : ∀ x, SA (zup (zuse S) 416 8 x) := fun x => SA.ot (h.ot (by omega)) (by omega)
  have h1 : SA (zuse S) := h.ot (by omega)
  obtain ⟨y, -, q1, q2⟩ := hq
  by_cases c : inn fr (S 416 1) 1000
  · have q2 := q2 c
    cases hR : zLaw (wtape S) (nTp S) with
    | inl e => rw [hR] at q2; exact (h0 _).sim q2.2
    | inr L =>
      rw [hR] at q2
      by_cases c2 : nL S = 12
      · exact (h0 _).sim (q2.1 c2).2
      · obtain ⟨-, -, -, -, hz⟩ := q2.2 c2
        have h2 : SA (zup (zup (zuse S) 416 8 (-1)) 416 19 (S 416 19 + 1)) := (h0 _).ot (by omega)
        exact h2.cg (fun t k hc => hz t k (sim_no (by omega)) (zsl_no (by omega)))
  · exact h1.sim (q1 c).2
/-- both -/
def SGA (S : ZS9) : Prop := SG S ∧ SA S
theorem SGA.sim {S S' : ZS9} (h : SGA S) (hs : zsim S S') : SGA S' := ⟨h.1.sim hs, h.2.sim hs⟩
theorem sga3 {c : Prop} {o1 o2 : ZO} (h1 : c → SGA o1.2.2) (h2 : ¬ c → SGA o2.2.2) : SGA (fCalls3 c o1 o2).2.2 := by
  by_cases h : c
  · rw [f3t h]; exact h1 h
  · rw [f3f h]; exact h2 h
section ZHc
variable {S : ZS9}
theorem sgaEnd (h : SGA S) (n : Int32) : SGA (fEnd S n).2.2 := ⟨sgEnd h.1 n, saEnd h.2 n⟩
theorem sgaHands (h : SGA S) (d n : Int32) : SGA (fHands S d n).2.2 := ⟨sgHands h.1 d n, saHands h.2 d n⟩
theorem sgaLend (h : SGA S) (d n f t tr : Int32) : SGA (fLend S d n f t tr).2.2 := ⟨sgLend h.1 d n f t tr, saLend h.2 d n f t tr⟩
theorem sgaRules (h : SGA S) (a b c d e : Int32) : SGA (fRules S a b c d e).2.2 := ⟨sgRules h.1 a b c d e, saRules h.2 a b c d e⟩
theorem sgaOrder (h : SGA S) (r : Int32) : SGA (fOrder S r).2.2 := ⟨sgOrder h.1 r, saOrder h.2 r⟩
theorem sgaBlanks (h : SGA S) (n : Int32) : SGA (fBlanks S n).2.2 := ⟨sgBlanks h.1 n, saBlanks h.2 n⟩
theorem sgaBroken (h : SGA S) (f t : Int32) : SGA (fBroken S f t).2.2 := ⟨sgBroken h.1 f t, saBroken h.2 f t⟩
theorem sgaDays (h : SGA S) (hT : TD S) (n : Int32) : SGA (fDays S n).2.2 := ⟨sgDays h.1 hT n, saDays h.2 hT n⟩
theorem sgaRefuse (h : SGA S) (a : Int32) : SGA (fRefuse S a).2.2 := ⟨sgRefuse h.1 a, saRefuse h.2 a⟩
theorem sgaLose (h : SGA S) (a : Int32) : SGA (fLose S a).2.2 := ⟨sgLose h.1 a, saLose h.2 a⟩
theorem sgaAgain (h : SGA S) (a : Int32) : SGA (fAgain S a).2.2 := ⟨sgAgain h.1 a, saAgain h.2 a⟩
theorem sgaGive (h : SGA S) (a i : Int32) : SGA (fGive S a i).2.2 := ⟨sgGive h.1 a i, saGive h.2 a i⟩
theorem sgaPerson (h : SGA S) (born ab a b c d e : Int32) : SGA (fPerson S born ab a b c d e).2.2 := ⟨sgPerson h.1 born ab a b c d e, saPerson h.2 born ab a b c d e⟩
theorem sgaTell (h : SGA S) (p q s : Int32) : SGA (fTell S p q s).2.2 := ⟨sgTell h.1 p q s, saTell h.2 p q s⟩
theorem sgaFeed (h : SGA S) (a b c d e : Int32) : SGA (fFeed S a b c d e).2.2 := ⟨sgFeed h.1 a b c d e, saFeed h.2 a b c d e⟩
theorem sgaName (h : SGA S) (p : Int32) : SGA (fName S p).2.2 := ⟨sgName h.1 p, saName h.2 p⟩
theorem sgaAsk {L : List ZCLS} (h : SGA S) (hT : TD S) (hA : S 416 66 = Int32.ofNat (nA S) ∧ nA S ≤ 120) (p kind wanted items urgent : Int32) : SGA (fAsk S L p kind wanted items urgent).2.2 := ⟨sgAsk h.1 hA p kind wanted items urgent, saAsk h.2 hT hA p kind wanted items urgent⟩
end ZHc
theorem sgaLaw {S S' : ZS9} (h : SGA S) {fr : Int32} {r : Option Value} (hq : QL S fr r S') : SGA S' := ⟨sgLaw h.1 hq, saLaw h.2 hq⟩
