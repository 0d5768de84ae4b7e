/-! an office: what it changes -/
theorem zp_ne {t t' i i' : Nat} (ht : t < 4096) (ht' : t' < 4096) (h : t ≠ t') : zp t i ≠ zp t' i' := fun e => h (zp_inj ht ht' e).1
theorem zp_ni {t i i' : Nat} (ht : t < 4096) (h : i ≠ i') : zp t i ≠ zp t i' := fun e => h (zp_inj ht ht e).2
theorem iv_n {G : ZG} {q q' k j : Nat} {x : Int32} (h : q' ≠ q) : ziv (zsi G q k x) q' j = ziv G q' j := by rw [ziv_si, if_neg (fun z => h z.1)]
theorem iv_k {G : ZG} {q q' k j : Nat} {x : Int32} (h : j ≠ k) : ziv (zsi G q k x) q' j = ziv G q' j := by rw [ziv_si, if_neg (fun z => h z.2)]
theorem iv_s {G : ZG} {q k : Nat} {x : Int32} : ziv (zsi G q k x) q k = x := by rw [ziv_si, if_pos ⟨rfl, rfl⟩]
/-- the tags that an office writes -/
def TW (w : Nat) : List Nat := [224 + w, 32 + w, 64 + w, 5 + 2 * w, 3077 + 2 * w]
theorem TWn {w t : Nat} (h : t ≠ 224 + w ∧ t ≠ 32 + w ∧ t ≠ 64 + w ∧ t ≠ 5 + 2 * w ∧ t ≠ 3077 + 2 * w) : t ∉ TW w := by
  unfold TW; simp; omega
theorem CP.cg {S S' : ZS9} {X : ZG} (h : CP S X) (h34 : S' 416 34 = S 416 34) (hp : ∀ t k, t = 1129 ∨ t = 2130 ∨ t = 1131 ∨ t = 1135 → S' t k = S t k) : CP S' X := by
  have hn : nP S' = nP S := by unfold nP; rw [h34]
  obtain ⟨h1, h2, h3, h4, h5⟩ := h
  unfold CP
  rw [hn]
  refine ⟨h1, h2, h3, h4, fun p hp2 => ?_⟩
  obtain ⟨⟨a1, a2, a3⟩, ⟨b1, b2, b3⟩, ⟨c1, c2, c3⟩⟩ := h5 p hp2
  exact ⟨⟨a1, by rw [hp _ _ (by omega)]; exact a2, by rw [hp _ _ (by omega)]; exact a3⟩, ⟨b1, b2, fun k hk => by rw [hp _ _ (by omega)]; exact b3 k hk⟩, ⟨c1, c2, fun q hq => by rw [hp _ _ (by omega)]; exact c3 q hq⟩⟩
theorem CP.fr {S : ZS9} {X X' : ZG} {T : List Nat} (h : CP S X) (hf : zfr T X X') (h1 : 256 ∉ T) (h2 : 2 ∉ T) (h3 : 3074 ∉ T) (h4 : 288 ∉ T) (h5 : 1030 ∉ T) (h6 : 1031 ∉ T) (h7 : 4095 ∉ T) : CP S X' := by
  obtain ⟨a1, a2, a3, ⟨a4, a5, a6⟩, a7⟩ := h
  refine ⟨hf.ob a1, by rw [hf.rv (by omega) h1]; exact a2, a3.fr hf (by omega) h2 h3 h7, ⟨by rw [hf.2.1 _ h4]; exact a4, by rw [hf.2.1 _ h5]; exact a5, by rw [hf.2.1 _ h6]; exact a6⟩, fun p hp => ?_⟩
  have := a7 p hp
  unfold PR at *
  rw [hf.iv (by omega) h4, hf.rv (by omega) h4, hf.ln (by omega) h5, hf.iv (by omega) h5, hf.ln (by omega) h6, hf.iv (by omega) h6]
  exact this
theorem CD.cg {S S' : ZS9} {X : ZG} (h : CD S X) (h52 : S' 416 52 = S 416 52) (hp : ∀ t k, t = 1146 ∨ t = 1147 ∨ t = 1148 ∨ t = 1149 ∨ t = 1150 ∨ t = 1151 → S' t k = S t k) : CD S' X := by
  have hn : nT S' = nT S := by unfold nT; rw [h52]
  obtain ⟨h1, h2, h3, ⟨h4, h5, h6⟩, h7, h8, h9⟩ := h
  unfold CD
  rw [hn]
  refine ⟨h1, h2, h3, ⟨h4, h5, fun d hd => by rw [hp _ _ (by omega)]; exact h6 d hd⟩, h7, h8, fun k hk => ?_⟩
  obtain ⟨l0, l1, l2, l3, l4⟩ := h9 k hk
  exact ⟨by rw [hp _ _ (by omega)]; exact l0, by rw [hp _ _ (by omega)]; exact l1, by rw [hp _ _ (by omega)]; exact l2, by rw [hp _ _ (by omega)]; exact l3, by rw [hp _ _ (by omega)]; exact l4⟩
theorem CD.fr {S : ZS9} {X X' : ZG} {T : List Nat} (h : CD S X) (hf : zfr T X X') (h1 : 96 ∉ T) (h2 : 3 ∉ T) (h3 : 3075 ∉ T) (h4 : 1033 ∉ T) (h5 : 160 ∉ T) (h7 : 4095 ∉ T) : CD S X' := by
  obtain ⟨a1, a2, a3, ⟨a4, a5, a6⟩, a7, a8, a9⟩ := h
  refine ⟨hf.ob a1, by rw [hf.rv (by omega) h1]; exact a2, by rw [hf.rv (by omega) h1]; exact a3, ⟨hf.ar a4, by rw [hf.ln (by omega) h4]; exact a5, fun d hd => by rw [hf.iv (by omega) h4]; exact a6 d hd⟩, a7.fr hf (by omega) h2 h3 h7, by rw [hf.2.1 _ h5]; exact a8, fun k hk => ?_⟩
  have := a9 k hk
  unfold LR at *
  rw [hf.iv (by omega) h5]
  exact this
theorem CR.cg {S S' : ZS9} {X : ZG} (h : CR S X) (hp : ∀ k, (37 ≤ k ∧ k ≤ 41) ∨ k = 44 ∨ k = 45 → S' 416 k = S 416 k) : CR S' X := by
  unfold CR at *
  rw [hp _ (by omega), hp _ (by omega), hp _ (by omega), hp _ (by omega), hp _ (by omega), hp _ (by omega), hp _ (by omega)]
  exact h
theorem CR.fr {S : ZS9} {X X' : ZG} {T : List Nat} (h : CR S X) (hf : zfr T X X') (h1 : 320 ∉ T) : CR S X' := by
  obtain ⟨a1, a2⟩ := h
  refine ⟨hf.ob a1, ?_⟩
  rw [hf.iv (by omega) h1]
  exact a2
theorem CS.fr {X X' : ZG} {T : List Nat} (h : CS X) (hf : zfr T X X') (h1 : 3602 ∉ T) : CS X' := by
  obtain ⟨a1, a2, a3⟩ := h
  exact ⟨hf.rd a1, by rw [hf.ln (by omega) h1]; exact a2, fun d hd => by rw [hf.iv (by omega) h1]; exact a3 d hd⟩
theorem TS.cg {S S' : ZS9} (h : TS S) (hp : ∀ k, S' 1135 k = S 1135 k) : TS S' := ⟨fun p q => by rw [hp]; exact h.1 p q, fun p q h1 h2 => by rw [hp, hp]; exact h.2 p q h1 h2⟩
theorem RJ.dk {S S' : ZS9} (h : RJ S) (hk : zdk S S') (h2 : ∀ a, S' 1165 (7 * a + 2) = S 1165 (7 * a + 2) ∨ ¬ S' 1165 (7 * a + 2) < 0) (h1 : ¬ S' 416 1 < 0) : RJ S' := by
  refine ⟨h.1.cg (fun k => hk _ _ (by unfold zdc; omega)), fun a => ?_, fun a => ?_, h1⟩
  · rcases h2 a with e | e
    · rw [e]; exact h.2.1 a
    · exact Or.inr e
  · rw [hk _ _ (by unfold zdc; omega)]; exact h.2.2.1 a
theorem OF.step {w m m' : Nat} {S S' : ZS9} {r : Int32} {X X' : ZG} (h : OF w S r m X) (hk : zdk S S') (hR : RI S') (hJ : RJ S') (hS : SO w S' r m' X') (hf : zfr (TW w) X X') : OF w S' r m' X' := by
  obtain ⟨hw, -, -, c1, c2, c3, c4, -⟩ := h
  refine ⟨hw, hR, hJ, (c1.cg (hk _ _ (by unfold zdc; omega)) (fun t k ht => hk _ _ (by unfold zdc; omega))).fr hf (TWn (by omega)) (TWn (by omega)) (TWn (by omega)) (TWn (by omega)) (TWn (by omega)) (TWn (by omega)) (TWn (by omega)), (c2.cg (hk _ _ (by unfold zdc; omega)) (fun t k ht => hk _ _ (by unfold zdc; omega))).fr hf (TWn (by omega)) (TWn (by omega)) (TWn (by omega)) (TWn (by omega)) (TWn (by omega)) (TWn (by omega)), (c3.cg (fun k hk9 => hk _ _ (by unfold zdc; omega))).fr hf (TWn (by omega)), c4.fr hf (TWn (by omega)), hS⟩
section ZCc
variable {w m : Nat} {S : ZS9} {r : Int32} {X : ZG}
theorem fsi {w t i k : Nat} {x : Int32} {X : ZG} (ht : t < 4096) (h : t ∈ TW w) : zfr (TW w) X (zsi X (zp t i) k x) := zfr.si (by rw [zp_mod ht]; exact h)
theorem TWo {w : Nat} : 224 + w ∈ TW w := by unfold TW; simp
theorem TWa {w : Nat} : 32 + w ∈ TW w := by unfold TW; simp
theorem TWb {w : Nat} : 64 + w ∈ TW w := by unfold TW; simp
/-- the places of an asking's changing numbers -/
def gk (j k : Nat) : Prop := (j = 0 ∧ k = 7) ∨ (j = 6 ∧ k = 9) ∨ (j = 1 ∧ k = 10) ∨ (j = 2 ∧ k = 11) ∨ (j = 3 ∧ k = 12) ∨ (j = 4 ∧ k = 13) ∨ (j = 5 ∧ k = 14)
theorem aFld_up {S : ZS9} {a0 j k0 a k : Nat} {v : Int32} (hg : gk j k0) (hk : k < 15 ∧ k ≠ 1 ∧ k ≠ 6) : aFld (zup S 1165 (7 * a0 + j) v) a k = if a = a0 ∧ k = k0 then v else aFld S a k := by
  have key : ∀ c, c < 7 → zup S 1165 (7 * a0 + j) v 1165 (7 * a + c) = if a = a0 ∧ c = j then v else S 1165 (7 * a + c) := by
    intro c hc
    rw [zup_at]
    unfold gk at hg
    by_cases h : a = a0 ∧ c = j
    · rw [if_pos (by omega), if_pos h]
    · rw [if_neg (by omega), if_neg h]
  unfold aFld
  rw [key 0 (by omega), key 1 (by omega), key 2 (by omega), key 3 (by omega), key 4 (by omega), key 5 (by omega), key 6 (by omega), zup_ne (t := 1165) (a := 1154) (by omega), zup_ne (t := 1165) (a := 1155) (by omega), zup_ne (t := 1165) (a := 1156) (by omega), zup_ne (t := 1165) (a := 1157) (by omega), zup_ne (t := 1165) (a := 2158) (by omega)]
  unfold gk at hg
  obtain ⟨k1, k2, k3⟩ := hk
  match k, k1, k2, k3 with
  | 0, _, _, _ => simp; omega
  | 2, _, _, _ => simp; omega
  | 3, _, _, _ => simp; omega
  | 4, _, _, _ => simp; omega
  | 5, _, _, _ => simp; omega
  | 8, _, _, _ => simp; omega
  | 7, _, _, _ => rcases hg with ⟨rfl, rfl⟩ | ⟨rfl, rfl⟩ | ⟨rfl, rfl⟩ | ⟨rfl, rfl⟩ | ⟨rfl, rfl⟩ | ⟨rfl, rfl⟩ | ⟨rfl, rfl⟩ <;> simp
  | 9, _, _, _ => rcases hg with ⟨rfl, rfl⟩ | ⟨rfl, rfl⟩ | ⟨rfl, rfl⟩ | ⟨rfl, rfl⟩ | ⟨rfl, rfl⟩ | ⟨rfl, rfl⟩ | ⟨rfl, rfl⟩ <;> simp
  | 10, _, _, _ => rcases hg with ⟨rfl, rfl⟩ | ⟨rfl, rfl⟩ | ⟨rfl, rfl⟩ | ⟨rfl, rfl⟩ | ⟨rfl, rfl⟩ | ⟨rfl, rfl⟩ | ⟨rfl, rfl⟩ <;> simp
  | 11, _, _, _ => rcases hg with ⟨rfl, rfl⟩ | ⟨rfl, rfl⟩ | ⟨rfl, rfl⟩ | ⟨rfl, rfl⟩ | ⟨rfl, rfl⟩ | ⟨rfl, rfl⟩ | ⟨rfl, rfl⟩ <;> simp
  | 12, _, _, _ => rcases hg with ⟨rfl, rfl⟩ | ⟨rfl, rfl⟩ | ⟨rfl, rfl⟩ | ⟨rfl, rfl⟩ | ⟨rfl, rfl⟩ | ⟨rfl, rfl⟩ | ⟨rfl, rfl⟩ <;> simp
  | 13, _, _, _ => rcases hg with ⟨rfl, rfl⟩ | ⟨rfl, rfl⟩ | ⟨rfl, rfl⟩ | ⟨rfl, rfl⟩ | ⟨rfl, rfl⟩ | ⟨rfl, rfl⟩ | ⟨rfl, rfl⟩ <;> simp
  | 14, _, _, _ => rcases hg with ⟨rfl, rfl⟩ | ⟨rfl, rfl⟩ | ⟨rfl, rfl⟩ | ⟨rfl, rfl⟩ | ⟨rfl, rfl⟩ | ⟨rfl, rfl⟩ | ⟨rfl, rfl⟩ <;> simp
/-- an asking's field is set -/
theorem SO.putA (h : SO w S r m X) (hw : w < 2) {a0 j k0 : Nat} {v : Int32} (hg : gk j k0) : SO w (zup S 1165 (7 * a0 + j) v) r m (zsi X (zp (32 + w) a0) k0 v) := by
  obtain ⟨⟨o1, o2, o3, o4, o5, o6, o7⟩, ⟨a1, a2, a3⟩, ⟨b1, b2, b3, b4, b5⟩⟩ := h
  have hf : zfr [32 + w] X (zsi X (zp (32 + w) a0) k0 v) := zfr.si (by rw [zp_mod (by omega)]; simp)
  have ni : ∀ t, t ≠ 32 + w → t ∉ [32 + w] := fun t h => by simp [h]
  have hA : nA (zup S 1165 (7 * a0 + j) v) = nA S := nA_up (by omega)
  have hB : nB (zup S 1165 (7 * a0 + j) v) = nB S := nB_up (by omega)
  have h416 : ∀ k, zup S 1165 (7 * a0 + j) v 416 k = S 416 k := fun k => zup_ne (by omega)
  refine ⟨⟨o1, o2, o3, o4, o5, o6, fun k h1 h2 => ?_⟩, ⟨?_, ?_, fun a ha => ⟨?_, ?_, fun k h1 h2 h3 => ?_⟩⟩, ⟨?_, b2, ?_, b4, fun b hb k hk => ?_⟩⟩
  · rw [iv_n (zp_ne (by omega) (by omega) (by omega)), o7 k h1 h2]
    unfold oFld; rw [h416, h416, h416, h416, h416, h416, h416, h416]
  · rw [hA]; exact a1.fr hf (by omega) (ni _ (by omega)) (ni _ (by omega)) (ni _ (by omega))
  · rw [hA]; exact a2
  · rw [hA] at ha
    show zrv X (zp (32 + w) a) 1 = _
    rw [(a3 a ha).1]; unfold pn; rw [zup_ne (by omega)]
  · rw [hA] at ha
    obtain ⟨-, ⟨v', v1, v2, v3⟩, -⟩ := a3 a ha
    refine ⟨v', v1, v2, ?_⟩
    unfold VD at *
    rw [iv_n (zp_ne (by omega) (by omega) (by omega)), iv_n (zp_ne (by omega) (by omega) (by omega)), iv_n (zp_ne (by omega) (by omega) (by omega)), iv_n (zp_ne (by omega) (by omega) (by omega)), iv_n (zp_ne (by omega) (by omega) (by omega)), iv_n (zp_ne (by omega) (by omega) (by omega)), zup_ne (by omega), zup_ne (by omega), zup_ne (by omega), zup_ne (by omega), zup_ne (by omega), zup_ne (by omega)]
    exact v3
  · rw [hA] at ha
    rw [aFld_up hg ⟨h1, h2, h3⟩, ziv_si]
    by_cases c : a = a0 ∧ k = k0
    · rw [if_pos c, if_pos ⟨by rw [c.1], c.2⟩]
    · rw [if_neg c, if_neg (fun z => c ⟨(zp_inj (by omega) (by omega) z.1).2, z.2⟩)]
      exact (a3 a ha).2.2 k h1 h2 h3
  · exact b1.fr hf (by omega) (ni _ (by omega)) (ni _ (by omega)) (ni _ (by omega))
  · rw [hB]; exact b3
  · rw [hB] at hb
    rw [iv_n (zp_ne (by omega) (by omega) (by omega)), zup_ne (by omega)]
    exact b5 b hb k hk
/-- the office's own fields -/
def ok9 (j k : Nat) : Prop := (j = 1 ∧ k = 6) ∨ (j = 43 ∧ k = 8) ∨ (j = 72 ∧ k = 9) ∨ (j = 73 ∧ k = 10) ∨ (j = 74 ∧ k = 11) ∨ (j = 75 ∧ k = 12) ∨ (j = 76 ∧ k = 13)
theorem oFld_up {S : ZS9} {r v : Int32} {j k0 k : Nat} (hg : ok9 j k0) (h1 : 5 ≤ k) (h2 : k < 14) : oFld (zup S 416 j v) r k = if k = k0 then v else oFld S r k := by
  unfold ok9 at hg
  unfold oFld
  simp only [zup_at]
  match k, h1, h2 with
  | 5, _, _ => rcases hg with ⟨rfl, rfl⟩ | ⟨rfl, rfl⟩ | ⟨rfl, rfl⟩ | ⟨rfl, rfl⟩ | ⟨rfl, rfl⟩ | ⟨rfl, rfl⟩ | ⟨rfl, rfl⟩ <;> simp
  | 6, _, _ => rcases hg with ⟨rfl, rfl⟩ | ⟨rfl, rfl⟩ | ⟨rfl, rfl⟩ | ⟨rfl, rfl⟩ | ⟨rfl, rfl⟩ | ⟨rfl, rfl⟩ | ⟨rfl, rfl⟩ <;> simp
  | 7, _, _ => rcases hg with ⟨rfl, rfl⟩ | ⟨rfl, rfl⟩ | ⟨rfl, rfl⟩ | ⟨rfl, rfl⟩ | ⟨rfl, rfl⟩ | ⟨rfl, rfl⟩ | ⟨rfl, rfl⟩ <;> simp
  | 8, _, _ => rcases hg with ⟨rfl, rfl⟩ | ⟨rfl, rfl⟩ | ⟨rfl, rfl⟩ | ⟨rfl, rfl⟩ | ⟨rfl, rfl⟩ | ⟨rfl, rfl⟩ | ⟨rfl, rfl⟩ <;> simp
  | 9, _, _ => rcases hg with ⟨rfl, rfl⟩ | ⟨rfl, rfl⟩ | ⟨rfl, rfl⟩ | ⟨rfl, rfl⟩ | ⟨rfl, rfl⟩ | ⟨rfl, rfl⟩ | ⟨rfl, rfl⟩ <;> simp
  | 10, _, _ => rcases hg with ⟨rfl, rfl⟩ | ⟨rfl, rfl⟩ | ⟨rfl, rfl⟩ | ⟨rfl, rfl⟩ | ⟨rfl, rfl⟩ | ⟨rfl, rfl⟩ | ⟨rfl, rfl⟩ <;> simp
  | 11, _, _ => rcases hg with ⟨rfl, rfl⟩ | ⟨rfl, rfl⟩ | ⟨rfl, rfl⟩ | ⟨rfl, rfl⟩ | ⟨rfl, rfl⟩ | ⟨rfl, rfl⟩ | ⟨rfl, rfl⟩ <;> simp
  | 12, _, _ => rcases hg with ⟨rfl, rfl⟩ | ⟨rfl, rfl⟩ | ⟨rfl, rfl⟩ | ⟨rfl, rfl⟩ | ⟨rfl, rfl⟩ | ⟨rfl, rfl⟩ | ⟨rfl, rfl⟩ <;> simp
  | 13, _, _ => rcases hg with ⟨rfl, rfl⟩ | ⟨rfl, rfl⟩ | ⟨rfl, rfl⟩ | ⟨rfl, rfl⟩ | ⟨rfl, rfl⟩ | ⟨rfl, rfl⟩ | ⟨rfl, rfl⟩ <;> simp
/-- AOK speaks of these numbers alone -/
theorem AOK.cg {S S' : ZS9} {X : ZG} {w a : Nat} (h : AOK S X w a) (hp : ∀ t k, (1153 ≤ t ∧ t ≤ 1165) ∨ t = 2158 ∨ t = 2163 → S' t k = S t k) : AOK S' X w a := by
  obtain ⟨a1, ⟨v, v1, v2, v3⟩, a3⟩ := h
  refine ⟨by unfold pn; rw [hp _ _ (by omega)]; exact a1, ⟨v, v1, v2, ?_⟩, fun k h1 h2 h3 => ?_⟩
  · unfold VD at *
    rw [hp 1159 _ (by omega), hp 1160 _ (by omega), hp 1162 _ (by omega), hp 1164 _ (by omega), hp 2163 _ (by omega), hp 1161 _ (by omega)]
    exact v3
  · have : aFld S' a k = aFld S a k := by
      unfold aFld
      rw [hp 1154 _ (by omega), hp 1155 _ (by omega), hp 1156 _ (by omega), hp 1157 _ (by omega), hp 2158 _ (by omega), hp 1165 _ (by omega), hp 1165 _ (by omega), hp 1165 _ (by omega), hp 1165 _ (by omega), hp 1165 _ (by omega), hp 1165 _ (by omega), hp 1165 _ (by omega)]
    rw [this]; exact a3 k h1 h2 h3
/-- the things of an asking lie as they lay -/
theorem AOK.st {S : ZS9} {X X' : ZG} {w a : Nat} (h : AOK S X w a) (hc : zcn X 352 ≤ zcn X' 352) (ha : zrv X' (zp (32 + w) a) = zrv X (zp (32 + w) a) ∧ ziv X' (zp (32 + w) a) = ziv X (zp (32 + w) a)) (hv : ∀ v, v < zcn X 352 → ziv X' (zp 352 v) = ziv X (zp 352 v)) : AOK S X' w a := by
  obtain ⟨a1, ⟨v, v1, v2, v3⟩, a3⟩ := h
  refine ⟨by rw [ha.1]; exact a1, ⟨v, by omega, by rw [ha.1]; exact v2, ?_⟩, fun k h1 h2 h3 => by rw [ha.2]; exact a3 k h1 h2 h3⟩
  unfold VD at *
  rw [hv v v1]; exact v3
theorem SO.putO (h : SO w S r m X) (hw : w < 2) {j k0 : Nat} {v : Int32} (hg : ok9 j k0) : SO w (zup S 416 j v) r m (zsi X (zp (224 + w) 0) k0 v) := by
  obtain ⟨⟨o1, o2, o3, o4, o5, o6, o7⟩, ⟨a1, a2, a3⟩, ⟨b1, b2, b3, b4, b5⟩⟩ := h
  have hf : zfr [224 + w] X (zsi X (zp (224 + w) 0) k0 v) := zfr.si (by rw [zp_mod (by omega)]; simp)
  have ni : ∀ t, t ≠ 224 + w → t ∉ [224 + w] := fun t h => by simp [h]
  have hj : j ≠ 66 ∧ j ≠ 71 := by unfold ok9 at hg; omega
  have hA : nA (zup S 416 j v) = nA S := nA_up (by omega)
  have hB : nB (zup S 416 j v) = nB S := nB_up (by omega)
  refine ⟨⟨o1, o2, o3, o4, o5, o6, fun k h1 h2 => ?_⟩, ⟨?_, ?_, fun a ha => ?_⟩, ⟨?_, b2, ?_, b4, fun b hb k hk => ?_⟩⟩
  · rw [oFld_up hg h1 h2, ziv_si]
    by_cases c : k = k0
    · rw [if_pos c, if_pos ⟨rfl, c⟩]
    · rw [if_neg c, if_neg (fun z => c z.2)]; exact o7 k h1 h2
  · rw [hA]; exact a1.fr hf (by omega) (ni _ (by omega)) (ni _ (by omega)) (ni _ (by omega))
  · rw [hA]; exact a2
  · rw [hA] at ha
    exact (AOK.st (X' := zsi X (zp (224 + w) 0) k0 v) (a3 a ha) (Nat.le_refl _) ⟨rfl, hf.iv (t := 32 + w) (by omega) (ni _ (by omega))⟩ (fun v' _ => hf.iv (t := 352) (by omega) (ni _ (by omega)))).cg (fun t k ht => zup_ne (by omega))
  · exact b1.fr hf (by omega) (ni _ (by omega)) (ni _ (by omega)) (ni _ (by omega))
  · rw [hB]; exact b3
  · rw [hB] at hb
    rw [iv_n (zp_ne (by omega) (by omega) (by omega)), zup_ne (by omega)]
    exact b5 b hb k hk
theorem SO.putB (h : SO w S r m X) (hw : w < 2) {b0 k0 : Nat} {v : Int32} (hk0 : k0 < 4) : SO w (zup S (1167 + k0) b0 v) r m (zsi X (zp (64 + w) b0) k0 v) := by
  obtain ⟨⟨o1, o2, o3, o4, o5, o6, o7⟩, ⟨a1, a2, a3⟩, ⟨b1, b2, b3, b4, b5⟩⟩ := h
  have hf : zfr [64 + w] X (zsi X (zp (64 + w) b0) k0 v) := zfr.si (by rw [zp_mod (by omega)]; simp)
  have ni : ∀ t, t ≠ 64 + w → t ∉ [64 + w] := fun t h => by simp [h]
  have hA : nA (zup S (1167 + k0) b0 v) = nA S := nA_up (by omega)
  have hB : nB (zup S (1167 + k0) b0 v) = nB S := nB_up (by omega)
  have h416 : ∀ k, zup S (1167 + k0) b0 v 416 k = S 416 k := fun k => zup_ne (by omega)
  refine ⟨⟨o1, o2, o3, o4, o5, o6, fun k h1 h2 => ?_⟩, ⟨?_, ?_, fun a ha => ?_⟩, ⟨?_, b2, ?_, b4, fun b hb k hk => ?_⟩⟩
  · rw [iv_n (zp_ne (by omega) (by omega) (by omega)), o7 k h1 h2]
    unfold oFld; rw [h416, h416, h416, h416, h416, h416, h416, h416]
  · rw [hA]; exact a1.fr hf (by omega) (ni _ (by omega)) (ni _ (by omega)) (ni _ (by omega))
  · rw [hA]; exact a2
  · rw [hA] at ha
    exact (AOK.st (X' := zsi X (zp (64 + w) b0) k0 v) (a3 a ha) (Nat.le_refl _) ⟨rfl, hf.iv (t := 32 + w) (by omega) (ni _ (by omega))⟩ (fun v' _ => hf.iv (t := 352) (by omega) (ni _ (by omega)))).cg (fun t k ht => zup_ne (by omega))
  · exact b1.fr hf (by omega) (ni _ (by omega)) (ni _ (by omega)) (ni _ (by omega))
  · rw [hB]; exact b3
  · rw [hB] at hb
    rw [ziv_si, zup_at]
    by_cases c : b = b0 ∧ k = k0
    · rw [if_pos ⟨by rw [c.1], c.2⟩, if_pos ⟨by omega, c.1⟩]
    · rw [if_neg (fun z => c ⟨(zp_inj (by omega) (by omega) z.1).2, z.2⟩), if_neg (fun z => c ⟨z.2, by omega⟩)]
      exact b5 b hb k hk
end ZCc
