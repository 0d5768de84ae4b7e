/-! who has got his booklet: kept by every call -/
theorem sg3 {c : Prop} {o1 o2 : ZO} (h1 : c → SG o1.2.2) (h2 : ¬ c → SG o2.2.2) : SG (fCalls3 c o1 o2).2.2 := by
  by_cases h : c
  · rw [f3t h]; exact h1 h
  · rw [f3f h]; exact h2 h
theorem SG.sim {S S' : ZS9} (h : SG S) (hs : zsim S S') : SG S' := h.cg (fun k => hs _ _ (sim_no (by omega))) (by unfold nA; rw [hs _ _ (sim_no (by omega))])
theorem zheld_SG {S : ZS9} (h : SG S) : ∀ n, SG (zheld S n).2 := by
  intro n
  induction n with
  | zero => exact h
  | succ n ih =>
    rw [zheld_s]
    by_cases e : (zheld S n).2 1165 (7 * n + 0) = 3
    · rw [if_pos e]
      exact ih.chk (by rw [e]; decide)
    · rw [if_neg e]; exact ih
section ZDq
variable {S : ZS9}
theorem sgEnd (h : SG S) (n : Int32) : SG (fEnd S n).2.2 := sg3 (fun _ => h.ot (by omega) (by omega)) (fun _ => h)
theorem sgHands (h : SG S) (d n : Int32) : SG (fHands S d n).2.2 := sg3 (fun _ => h) (fun _ => sg3 (fun _ => h) (fun _ => h.ot (by omega) (by omega)))
theorem sgLend (h : SG S) (d n f t tr : Int32) : SG (fLend S d n f t tr).2.2 := sg3 (fun _ => h) (fun _ => sg3 (fun _ => h) (fun _ => sg3 (fun _ => h) (fun _ => SG.cg (S' := zlend S d n f t tr) h (fun k => zlend_o (by omega) (by omega)) (by show (zlend S d n f t tr 416 66).toNatClampNeg = _; rw [zlend_o (by omega) (by omega)]; rfl))))
theorem sgRules (h : SG S) (a b c d e : Int32) : SG (fRules S a b c d e).2.2 := sg3 (fun _ => h) (fun _ => ((((h.ot (by omega) (by omega)).ot (by omega) (by omega)).ot (by omega) (by omega)).ot (by omega) (by omega)).ot (by omega) (by omega))
theorem sgOrder (h : SG S) (r : Int32) : SG (fOrder S r).2.2 := sg3 (fun _ => h) (fun _ => h.ot (by omega) (by omega))
theorem sgBlanks (h : SG S) (n : Int32) : SG (fBlanks S n).2.2 := sg3 (fun _ => h) (fun _ => h.ot (by omega) (by omega))
theorem sgBroken (h : SG S) (f t : Int32) : SG (fBroken S f t).2.2 := sg3 (fun _ => h) (fun _ => (h.ot (by omega) (by omega)).ot (by omega) (by omega))
theorem sgDays (h : SG S) (hT : TD S) (n : Int32) : SG (fDays S n).2.2 := sg3 (fun _ => h) (fun _ => by
  refine SG.daysT (h.ot (by omega) (by omega)) ?_
  unfold TD zs
  rw [zup_ne (by omega)]; exact hT)
theorem sgRefuse (h : SG S) (a : Int32) : SG (fRefuse S a).2.2 := sg3 (fun _ => h) (fun _ => sg3 (fun _ => h) (fun c => h.st (by decide) (fun z => c (by rw [z]; decide))))
theorem sgLose (h : SG S) (a : Int32) : SG (fLose S a).2.2 := sg3 (fun _ => h) (fun _ => sg3 (fun _ => h) (fun c => (h.st (by decide) (by rw [Classical.not_not.mp c]; decide)).ot (by omega) (by omega)))
theorem sgAgain (h : SG S) (a : Int32) : SG (fAgain S a).2.2 := sg3 (fun _ => h) (fun _ => sg3 (fun _ => h) (fun c => (h.st (by decide) (by rw [Classical.not_not.mp c]; decide)).up (by omega)))
theorem sgGive (h : SG S) (a i : Int32) : SG (fGive S a i).2.2 := sg3 (fun _ => h) (fun _ => sg3 (fun _ => h) (fun _ => sg3 (fun _ => h) (fun c => by
  have h1 : SG (zgive S a.toNatClampNeg i) := h.ot (by omega) (by omega)
  show SG (zgive2 (zgive S a.toNatClampNeg i) a.toNatClampNeg)
  unfold zgive2
  split
  · refine h1.st (by decide) ?_
    unfold zgive
    rw [zup_ne (by omega), Classical.not_not.mp c]; decide
  · exact h1)))
theorem sgPerson (h : SG S) (born ab a b c d e : Int32) : SG (fPerson S born ab a b c d e).2.2 := sg3 (fun _ => h) (fun _ => sg3 (fun _ => h) (fun _ => SG.cg (S' := zperson S born ab a b c d e) h (fun k => zper_o (by omega) (by omega) (by omega)) (by show (zperson S born ab a b c d e 416 66).toNatClampNeg = _; rw [zper_o (by omega) (by omega) (by omega)]; rfl)))
theorem sgTell (h : SG S) (p q s : Int32) : SG (fTell S p q s).2.2 := sg3 (fun _ => h) (fun _ => sg3 (fun _ => h) (fun _ => zheld_SG (by
  unfold ztell
  refine h.cg (fun k => ?_) ?_
  · rw [ztold_o (by omega)]; unfold zs; rw [zup_ne (by omega)]
  · unfold nA; rw [ztold_o (by omega)]; unfold zs; rw [zup_ne (by omega)]) _))
theorem sgFeed (h : SG S) (a b c d e : Int32) : SG (fFeed S a b c d e).2.2 := sg3 (fun _ => by
  refine SG.ot (h.cg (fun k => ?_) ?_) (by omega) (by omega)
  · unfold zfeed; rw [if_neg (by omega)]
  · unfold nA zfeed; rw [if_neg (by omega)]) (fun _ => h)
theorem sgName (h : SG S) (p : Int32) : SG (fName S p).2.2 := sg3 (fun _ => h.ot (by omega) (by omega)) (fun _ => by
  have h0 : SG (zuse S) := h.ot (by omega) (by omega)
  cases nmE (wtape S) (nTp S) 0 with
  | some i => exact h0.ot (by omega) (by omega)
  | none =>
    refine SG.ot (h0.cg (fun k => ?_) ?_) (by omega) (by omega)
    · exact znam_o (by omega) (by omega)
    · unfold nA; rw [znam_o (by omega) (by omega)])
theorem sgAsk {L : List ZCLS} (h : SG S) (hA : S 416 66 = Int32.ofNat (nA S) ∧ nA S ≤ 120) (p kind wanted items urgent : Int32) : SG (fAsk S L p kind wanted items urgent).2.2 := sg3 (fun _ => h) (fun _ => sg3 (fun _ => h) (fun _ => sg3 (fun _ => h) (fun _ => by
  show SG (zask S (zJ S L p.toNatClampNeg kind wanted urgent) p kind wanted items urgent)
  generalize hS' : zask S (zJ S L p.toNatClampNeg kind wanted urgent) p kind wanted items urgent = S'
  obtain ⟨z66, -, -, -, -, -, -, -, -, y0, -, -, y3, -⟩ := zask_n S' hS'.symm
  have eA : nA S' = nA S + 1 := by
    show (S' 416 66).toNatClampNeg = _
    rw [z66, hA.1, n_p1, n_nn (by omega)]
  intro b hb
  rw [eA] at hb
  by_cases c : b = nA S
  · rw [c, y0, y3]; exact ⟨fun z => absurd z (by decide), fun z => absurd (by decide) z⟩
  · have k : ∀ j, j < 7 → S' 1165 (7 * b + j) = S 1165 (7 * b + j) := fun j hj => by rw [← hS']; exact zask_o (by unfold zaN; omega)
    rw [k 0 (by omega), k 3 (by omega)]; exact h b (by omega))))
end ZDq
/-- a law told -/
theorem sgLaw {S S' : ZS9} (h : SG S) {fr : Int32} {r : Option Value} (hq : QL S fr r S') : SG S' := by
  have h0 : ∀ x, SG (zup (zuse S) 416 8 x) := fun x => (h.ot (by omega) (by omega)).ot (by omega) (by omega)
  have h1 : SG (zuse S) := h.ot (by omega) (by omega)
  obtain ⟨y, -, q1, q2⟩ := hq
  by_cases c : inn fr (S 416 1) 1000
  · have q2 := q2 c
    cases hR : zLaw (wtape S) (nTp S) with
    | inl e => rw [hR] at q2; exact (h0 _).sim q2.2
    | inr L =>
      rw [hR] at q2
      by_cases c2 : nL S = 12
      · exact (h0 _).sim (q2.1 c2).2
      · obtain ⟨-, -, -, -, hz⟩ := q2.2 c2
        have k : ∀ t k, (t = 1165 ∨ (t = 416 ∧ k = 66)) → S' t k = zup (zup (zuse S) 416 8 (-1)) 416 19 (S 416 19 + 1) t k := fun t k hc => hz t k (sim_no (by omega)) (zsl_no (by omega))
        have h2 : SG (zup (zup (zuse S) 416 8 (-1)) 416 19 (S 416 19 + 1)) := (h0 _).ot (by omega) (by omega)
        exact h2.cg (fun j => k _ _ (by omega)) (by unfold nA; rw [k _ _ (by omega)])
  · exact h1.sim (q1 c).2
