/-! RULES: fields, arrays, makings, ends -/
theorem z_lay_good (C : String) (T : u_T) (k : Nat) : goodWord (u_lay C T k) = true := by
  unfold u_lay
  split <;> rfl
theorem z_cw {ci : Nat} (h : ci < 14) : ∀ w ∈ u_ws (zC ci) (zT ci) (zN ci), w ∈ zgood := by
  have h1 : ∀ w ∈ u_ws (zC ci) (zT ci) (zN ci), w ∈ lw_tbl := by
    match ci, h with
    | 0, _ => exact z_cw0
    | 1, _ => exact z_cw1
    | 2, _ => exact z_cw2
    | 3, _ => exact z_cw3
    | 4, _ => exact z_cw4
    | 5, _ => exact z_cw5
    | 6, _ => exact z_cw6
    | 7, _ => exact z_cw7
    | 8, _ => exact z_cw8
    | 9, _ => exact z_cw9
    | 10, _ => exact z_cw10
    | 11, _ => exact z_cw11
    | 12, _ => exact z_cw12
    | 13, _ => exact z_cw13
  intro w hw
  refine List.mem_filter.mpr ⟨h1 w hw, ?_⟩
  obtain ⟨k, -, rfl⟩ := List.mem_map.mp hw
  exact z_lay_good _ _ _
/-- how javac spells the field's owner -/
def zsame (ref : String) (ci kf : Nat) : Prop := ref = (zT ci kf).1 ∨ Cond.sameField ref (zT ci kf).1 (zT ci kf).2.1 (zT ci kf).2.2.1 ∈ zgood
theorem zsame.use {ref : String} {ci kf : Nat} (h : zsame ref ci kf) {args : Array Value} {s : State} (hts : ∀ w ∈ zgood, w.before args s = true) : ∀ x, s.fieldFound? (zT ci kf).1 (zT ci kf).2.1 (zT ci kf).2.2.1 = some x → s.fieldFound? ref (zT ci kf).2.1 (zT ci kf).2.2.1 = some x := by
  intro x hx
  rcases h with h | h
  · rw [h]; exact hx
  · exact u_same (hts _ h) x hx
/-- an object of class ci -/
def zob (G : ZG) (q ci : Nat) : Prop := zal G q ∧ q % 4096 < 448 ∧ q % 4096 / 32 = ci
theorem ZR.ob {E : ZE} {U : State} {ρ : Nat → Nat} {G : ZG} {H : Heap} (h : ZR E U ρ G H) {q ci : Nat} (hq : zob G q ci) : t_OB (ρ q) (E.1.1 ci) (zN ci) (E.1.2 ci) H (zF ρ G q) := by
  obtain ⟨h1, h2, h3⟩ := hq
  have := (h.1 q h1).1
  unfold zcell at this
  rw [if_pos h2, h3] at this
  exact this
theorem ZR.ne0 {E : ZE} {U : State} {ρ : Nat → Nat} {G : ZG} {H : Heap} (h : ZR E U ρ G H) {q : Nat} (hq : zal G q) : q ≠ 0 := fun e => by
  subst e
  have : 0 / 4096 < zcn G (0 % 4096) := hq
  rw [show 0 % 4096 = 0 from rfl, h.2.2.2.1] at this
  omega
theorem zF_si {ρ : Nat → Nat} {G : ZG} {q kf : Nat} (x : Int32) (ht : zref (zty (q % 4096 / 32) kf) = false) (j : Nat) : updV (zF ρ G q) kf (.int x) j = zF ρ (zsi G q kf x) q j := by
  unfold updV
  split
  · rename_i h
    subst h
    simp [zF, ht, ziv_si]
  · rename_i h
    simp [zF, ziv_si, zrv_si, h]
theorem zF_sr {ρ : Nat → Nat} {G : ZG} {q kf : Nat} (r : Nat) (ht : zref (zty (q % 4096 / 32) kf) = true) (j : Nat) : updV (zF ρ G q) kf (zv ρ (.ref r)) j = zF ρ (zsr G q kf r) q j := by
  unfold updV
  split
  · rename_i h
    subst h
    simp [zF, ht, zrv_sr]
  · rename_i h
    simp [zF, ziv_sr, zrv_sr, h]
theorem zv_fits (ρ : Nat → Nat) (r : Nat) {ty : FieldType} (h : zref ty = true) : narrow ty (zv ρ (.ref r)) = zv ρ (.ref r) ∧ fits ty (zv ρ (.ref r)) = true := by
  cases ty <;> first | (cases h; done) | (simp only [zv]; split <;> exact ⟨rfl, rfl⟩)
/-- an int that a field or array of the type keeps as it is -/
def zok (ty : FieldType) (x : Int32) : Prop := narrow ty (.int x) = .int x ∧ fits ty (.int x) = true
theorem zok_int (x : Int32) : zok .int x := ⟨rfl, rfl⟩
def zB (c : Bool) : Int32 := if c = true then 1 else 0
theorem zok_B (c : Bool) : zok .boolean (zB c) := by cases c <;> exact ⟨by decide, by decide⟩
theorem zok_0 : zok .boolean 0 := ⟨by decide, by decide⟩
theorem zok_1 : zok .boolean 1 := ⟨by decide, by decide⟩
/-- an array of kind k -/
def zar (G : ZG) (q k : Nat) : Prop := zal G q ∧ 1024 ≤ q % 4096 ∧ q % 4096 < 3584 ∧ (q % 4096 - 1024) / 512 = k
theorem ZR.ar {E : ZE} {U : State} {ρ : Nat → Nat} {G : ZG} {H : Heap} (h : ZR E U ρ G H) {q k : Nat} (hq : zar G q k) : H[ρ q]? = some (arrV (E.2.1 k) (zln G q) (zAf ρ G q k)) := by
  obtain ⟨h1, h2, h3, h4⟩ := hq
  have := (h.1 q h1).1
  unfold zcell at this
  rw [if_neg (by omega), if_neg (by omega), if_pos h3, h4] at this
  exact this
/-- an array that nobody writes -/
def zrd (G : ZG) (q : Nat) (ty : FieldType) : Prop := zal G q ∧ 3584 ≤ q % 4096 ∧ zROt (q % 4096) = ty
theorem ZR.rd {E : ZE} {U : State} {ρ : Nat → Nat} {G : ZG} {H : Heap} (h : ZR E U ρ G H) {q : Nat} {ty : FieldType} (hq : zrd G q ty) : zRO U H (ρ q) (zln G q) (ziv G q) ty := by
  obtain ⟨h1, h2, h3⟩ := hq
  have := (h.1 q h1).1
  unfold zcell at this
  rw [if_neg (by omega), if_neg (by omega), if_neg (by omega), h3] at this
  exact this
theorem ZK.arr {E : ZE} {U : State} (h : ZK E U) {k : Nat} (hk : k < 5) : ArrOfT U (E.2.1 k) (zAk k) ∧ va_RA U (E.2.1 k) (zAk k) := by
  match k, hk with
  | 0, _ => exact h.2 0 _ rfl
  | 1, _ => exact h.2 1 _ rfl
  | 2, _ => exact h.2 2 _ rfl
  | 3, _ => exact h.2 3 _ rfl
  | 4, _ => exact h.2 4 _ rfl
theorem zcell.ob {E : ZE} {U : State} {ρ : Nat → Nat} {G : ZG} {q ci : Nat} {H : Heap} (h2 : q % 4096 < 448) (h3 : q % 4096 / 32 = ci) (h : t_OB (ρ q) (E.1.1 ci) (zN ci) (E.1.2 ci) H (zF ρ G q)) : zcell E U ρ G q H := by
  unfold zcell
  rw [if_pos h2, h3]
  exact h
theorem zcell.ar {E : ZE} {U : State} {ρ : Nat → Nat} {G : ZG} {q k : Nat} {H : Heap} (h2 : 1024 ≤ q % 4096) (h3 : q % 4096 < 3584) (h4 : (q % 4096 - 1024) / 512 = k) (h : H[ρ q]? = some (arrV (E.2.1 k) (zln G q) (zAf ρ G q k))) : zcell E U ρ G q H := by
  unfold zcell
  rw [if_neg (by omega), if_neg (by omega), if_pos h3, h4]
  exact h
section ZHeap
variable {E : ZE} {l : Launch} {M : ZM} {d b : Nat} {G0 : ZG} {Q : ZQ} {k pc pc' : Nat} {ls : List (Option Value)} {st : List Value} {G : ZG}
theorem z_getI {idx q ci kf : Nat} {ref : String} (hd : decode M.2.1 pc = .ok (.getfield idx, 3)) (hw : Cond.fieldLink M.1.cls idx ref (zT ci kf).2.1 (zT ci kf).2.2.1 ∈ zgood) (hsm : zsame ref ci kf) (hci : ci < 14) (hk : kf < zN ci) (ht : zref (zty ci kf) = false) (hp : pc + 3 = pc') (hq : zob G q ci)
    (kk : zW E l M d b G0 Q k pc' ls (.int (ziv G q kf) :: st) G) : zW E l M d b G0 Q k pc ls (.ref q :: st) G := by
  subst hp
  intro p e R s m args below meth c H locs cells slots ρ0 ρ la C hS hR hx hg h1 h2 hl
  obtain ⟨cell, q1, q2, q3, q4⟩ := hR.ob hq
  have hts := C.2.2.2.2.2.2.1
  have hK : ZK E s := C.2.2.2.2.2.2.2.2.2.2.2.2.2.2.1
  obtain ⟨hSl, hfc, kC, hkC, hkind⟩ := hK.1 ci _ (z_cl hci)
  obtain ⟨cf, kf', fi, f, hi, hsl⟩ := hSl kf hk
  have hv : zF ρ G q kf = .int (ziv G q kf) := by unfold zF; rw [hq.2.2, ht]; rfl
  simp only [List.map_cons, zv_ref ρ (hR.ne0 hq.1)]
  refine W.getf C.1 C.2.1 C.2.2.2.2.2.1 (hts _ hw) (hsm.use hts _ hi) (u_facts hfc hkC (u_lays hts (z_cw hci) hk) hi).1 q1 (by rw [q3]; exact fun h => by cases h) (v := .int (ziv G q kf)) (by rw [hsl, q4 kf hk, hv]) rfl rfl hd ?_
  exact kk p e R s m args below meth c H locs cells slots ρ0 ρ la C hS hR hx (hg.pop.push trivial) h1 h2 hl
theorem z_getR {idx q ci kf : Nat} {ref : String} (hd : decode M.2.1 pc = .ok (.getfield idx, 3)) (hw : Cond.fieldLink M.1.cls idx ref (zT ci kf).2.1 (zT ci kf).2.2.1 ∈ zgood) (hsm : zsame ref ci kf) (hci : ci < 14) (hk : kf < zN ci) (ht : zref (zty ci kf) = true) (hp : pc + 3 = pc') (hq : zob G q ci)
    (kk : zW E l M d b G0 Q k pc' ls (.ref (zrv G q kf) :: st) G) : zW E l M d b G0 Q k pc ls (.ref q :: st) G := by
  subst hp
  intro p e R s m args below meth c H locs cells slots ρ0 ρ la C hS hR hx hg h1 h2 hl
  obtain ⟨cell, q1, q2, q3, q4⟩ := hR.ob hq
  have hts := C.2.2.2.2.2.2.1
  have hK : ZK E s := C.2.2.2.2.2.2.2.2.2.2.2.2.2.2.1
  obtain ⟨hSl, hfc, kC, hkC, hkind⟩ := hK.1 ci _ (z_cl hci)
  obtain ⟨cf, kf', fi, f, hi, hsl⟩ := hSl kf hk
  have hv : zF ρ G q kf = zv ρ (.ref (zrv G q kf)) := by unfold zF; rw [hq.2.2, ht]; rfl
  have k2 := kk p e R s m args below meth c H locs cells slots ρ0 ρ la C hS hR hx (hg.pop.push ((hR.1 q hq.1).2.1 kf)) h1 h2 hl
  rw [List.map_cons] at k2
  simp only [List.map_cons, zv_ref ρ (hR.ne0 hq.1)]
  exact W.getf C.1 C.2.1 C.2.2.2.2.2.1 (hts _ hw) (hsm.use hts _ hi) (u_facts hfc hkC (u_lays hts (z_cw hci) hk) hi).1 q1 (by rw [q3]; exact fun h => by cases h) (v := zv ρ (.ref (zrv G q kf))) (by rw [hsl, q4 kf hk, hv]) rfl rfl hd k2
/-- a field is written: v is what it gets, G' the store behind -/
theorem z_putK {idx q ci kf : Nat} {ref : String} {u : Value} {G' : ZG} (hd : decode M.2.1 pc = .ok (.putfield idx, 3)) (hw : Cond.fieldLink M.1.cls idx ref (zT ci kf).2.1 (zT ci kf).2.2.1 ∈ zgood) (hsm : zsame ref ci kf) (hci : ci < 14) (hk : kf < zN ci) (hfin : (zT ci kf).2.2.2 = false ∨ (M.1.name = "<init>" ∧ (zT ci kf).1 = M.1.cls)) (hp : pc + 3 = pc') (hq : zob G q ci)
    (hfit : ∀ ρ : Nat → Nat, narrow (zty ci kf) (zv ρ u) = zv ρ u ∧ fits (zty ci kf) (zv ρ u) = true) (hc : zcn G' = zcn G) (ho : ∀ q', q' ≠ q → zln G' q' = zln G q' ∧ (∀ k, ziv G' q' k = ziv G q' k) ∧ ∀ k, zrv G' q' k = zrv G q' k)
    (hF : ∀ (ρ : Nat → Nat) (j : Nat), updV (zF ρ G q) kf (zv ρ u) j = zF ρ G' q j) (hgn : zgd G u → ∀ k, zgq G (zrv G q k) → zgq G (zrv G' q k))
    (kk : zW E l M d b G0 Q k pc' ls st G') : zW E l M d b G0 Q k pc ls (u :: .ref q :: st) G := by
  subst hp
  intro p e R s m args below meth c H locs cells slots ρ0 ρ la C hS hR hx hg h1 h2 hl
  obtain ⟨cell, q1, q2, q3, q4⟩ := hR.ob hq
  have hts := C.2.2.2.2.2.2.1
  have hown := C.2.2.2.2.2.1
  have hK : ZK E s := C.2.2.2.2.2.2.2.2.2.2.2.2.2.2.1
  have hc9 := z_cl hci
  have hap := va_apart (own := M.1.cls) hts (z_cw hci) (zty ci) (z_ty hci) (z_nm hci) hK hc9
  obtain ⟨hSl, hfc, kC, hkC, hkind⟩ := hK.1 ci _ hc9
  obtain ⟨cf, kf', fi, f, hi, hsl⟩ := hSl kf hk
  have hst := (u_facts hfc hkC (u_lays hts (z_cw hci) hk) hi).1
  have hx' : zext G ρ G' ρ := ⟨fun t => by rw [hc]; exact Nat.le_refl _, fun _ _ => rfl⟩
  have fin : ∀ H' : Heap, H'[ρ q]? = some (cell.setSlot f.slot (zv ρ u)) → H'.size = H.size → (∀ a, a ≠ ρ q → H'[a]? = H[a]?) → W p l e R s m args below meth c H' (locs ++ [⟨ρ q, f.slot⟩]) cells slots (vx_MQ below (zQc E ρ0 G0 Q) (zXC E ρ0 G0 Q) args s b b (zA E)) (F0 m (pc + 3) la (st.map (zv ρ))) := by
    intro H' e1 e2 e3
    rw [hsl] at e1
    have hcell : zcell E s ρ G' q H' := zcell.ob hq.2.1 hq.2.2 (t_OB.to (V := updV (zF ρ G q) kf (zv ρ u)) ⟨_, e1, q2, q3, t_set q4 hap hk _⟩ (fun j _ => hF ρ j))
    have hR' : ZR E s ρ G' H' := hR.upd hq.1 e2 e3 hc ho hcell (fun k => hgn hg.top k ((hR.1 q hq.1).2.1 k))
    have hA : zA E (ρ q) := (hR.1 q hq.1).2.2.2 (fun hf => by have := hq.2.1; unfold zfx at hf; omega)
    exact kk p e R s m args below meth c H' _ cells slots ρ0 ρ la C (hS.put e2 e3 hA) hR' (hx.trans hx') (hg.pop.pop.go hx') h1 h2 hl
  simp only [List.map_cons, zv_ref ρ (hR.ne0 hq.1)]
  obtain ⟨n1, n2⟩ := hfit ρ
  have hlay := hts _ (z_cw hci _ (u_in_lay hk))
  unfold u_lay at hlay
  by_cases hfb : (zT ci kf).2.2.2 = true
  · rcases hfin with hf | ⟨hin2, hdecl⟩
    · rw [hf] at hfb; cases hfb
    · rw [if_pos hfb] at hlay
      have hcf : m.cls = cf := by
        obtain ⟨_, _, c', _, _, _, -, -, hf', -, -, -, hown2, -⟩ := Cond.laysFinal_spec hlay
        have e1 : c' = cf := by have := hi.symm.trans hf'; simp at this; exact this.1.symm
        rw [hdecl] at hown2
        rw [← e1]; exact Option.some.inj (hown.symm.trans hown2)
      have h6 := u_fits hfc hkC hkind (Or.inr hlay) hi (z_ty hci kf hk) n1 n2
      exact W.putFinK C.1 C.2.1 hown (hts _ hw) (hsm.use hts _ hi) hst hcf (C.2.2.2.2.2.2.2.1.trans hin2) (by rw [q2]; exact h6) q1 q3 (by rw [hsl]; exact k2_hasslot (q4 kf hk)) rfl rfl hd fin
  · rw [if_neg hfb] at hlay
    have h6 := u_store hfc hkC hkind hlay hi (z_ty hci kf hk) n1 n2
    exact W.putK C.1 C.2.1 (f := f) ⟨hown, hts _ hw, ⟨_, _, _, hsm.use hts _ hi⟩, hst⟩ (by rw [q2]; exact h6) q1 q3 (by rw [hsl]; exact k2_hasslot (q4 kf hk)) rfl rfl hd fin
theorem z_putI {idx q ci kf : Nat} {ref : String} {x : Int32} (hd : decode M.2.1 pc = .ok (.putfield idx, 3)) (hw : Cond.fieldLink M.1.cls idx ref (zT ci kf).2.1 (zT ci kf).2.2.1 ∈ zgood) (hsm : zsame ref ci kf) (hci : ci < 14) (hk : kf < zN ci) (ht : zref (zty ci kf) = false) (hfin : (zT ci kf).2.2.2 = false ∨ (M.1.name = "<init>" ∧ (zT ci kf).1 = M.1.cls)) (hp : pc + 3 = pc') (hq : zob G q ci) (hok : zok (zty ci kf) x)
    (kk : zW E l M d b G0 Q k pc' ls st (zsi G q kf x)) : zW E l M d b G0 Q k pc ls (.int x :: .ref q :: st) G :=
  z_putK (G' := zsi G q kf x) hd hw hsm hci hk hfin hp hq (fun _ => hok) rfl (fun q' hq' => ⟨rfl, fun k => by rw [ziv_si, if_neg (fun h => hq' h.1)], fun k => rfl⟩) (fun ρ j => zF_si x (by rw [hq.2.2]; exact ht) j) (fun _ k hk => hk) kk
theorem z_putR {idx q ci kf r : Nat} {ref : String} (hd : decode M.2.1 pc = .ok (.putfield idx, 3)) (hw : Cond.fieldLink M.1.cls idx ref (zT ci kf).2.1 (zT ci kf).2.2.1 ∈ zgood) (hsm : zsame ref ci kf) (hci : ci < 14) (hk : kf < zN ci) (ht : zref (zty ci kf) = true) (hfin : (zT ci kf).2.2.2 = false ∨ (M.1.name = "<init>" ∧ (zT ci kf).1 = M.1.cls)) (hp : pc + 3 = pc') (hq : zob G q ci)
    (kk : zW E l M d b G0 Q k pc' ls st (zsr G q kf r)) : zW E l M d b G0 Q k pc ls (.ref r :: .ref q :: st) G :=
  z_putK (G' := zsr G q kf r) hd hw hsm hci hk hfin hp hq (fun ρ => zv_fits ρ r ht) rfl (fun q' hq' => ⟨rfl, fun k => rfl, fun k => by rw [zrv_sr, if_neg (fun h => hq' h.1)]⟩) (fun ρ j => zF_sr r (by rw [hq.2.2]; exact ht) j) (fun hr k hk => by rw [zrv_sr]; split; exact hr; exact hk) kk
theorem z_iald {q : Nat} {i : Int32} (hd : decode M.2.1 pc = .ok (.iaload, 1)) (hp : pc + 1 = pc') (hq : zar G q 0 ∨ zrd G q .int) (hin : vp_in i (zln G q)) (kk : zW E l M d b G0 Q k pc' ls (.int (ziv G q i.toNatClampNeg) :: st) G) : zW E l M d b G0 Q k pc ls (.int i :: .ref q :: st) G := by
  subst hp
  intro p e R s m args below meth c H locs cells slots ρ0 ρ la C hS hR hx hg h1 h2 hl
  have hal : zal G q := hq.elim (·.1) (·.1)
  have k2 := kk p e R s m args below meth c H locs cells slots ρ0 ρ la C hS hR hx (hg.pop.pop.push trivial) h1 h2 hl
  have hlt : i.toNatClampNeg < zln G q := Nat.not_le.mp fun z => hin (Or.inr z)
  have hK : ZK E s := C.2.2.2.2.2.2.2.2.2.2.2.2.2.2.1
  simp only [List.map_cons, zv_ref ρ (hR.ne0 hal)]
  rcases hq with hq | hq
  · exact W.iald (v := .int (ziv G q i.toNatClampNeg)) C.1 C.2.1 (hR.ar hq) ((hK.arr (k := 0) (by decide)).1 _ _) (fun z => by cases z) (by show ¬ (i < 0 ∨ (arrV _ _ _).slots.size ≤ _); rw [arrV_size]; exact hin) (by show (arrV _ _ _).slots[_]? = _; rw [arrV_read _ _ hlt]; rfl) rfl rfl hd k2
  · obtain ⟨cell, r1, r2, r3, r4, r5, r6⟩ := hR.rd hq
    exact W.iald (v := .int (ziv G q i.toNatClampNeg)) C.1 C.2.1 r1 r2 r3 (fun z => hin (z.imp id (fun z => by omega))) (r6 _ hlt) rfl rfl hd k2
theorem z_bald {q : Nat} {i : Int32} (hd : decode M.2.1 pc = .ok (.baload, 1)) (hp : pc + 1 = pc') (hq : zar G q 1 ∨ zrd G q .byte) (hin : vp_in i (zln G q)) (kk : zW E l M d b G0 Q k pc' ls (.int (ziv G q i.toNatClampNeg) :: st) G) : zW E l M d b G0 Q k pc ls (.int i :: .ref q :: st) G := by
  subst hp
  intro p e R s m args below meth c H locs cells slots ρ0 ρ la C hS hR hx hg h1 h2 hl
  have hal : zal G q := hq.elim (·.1) (·.1)
  have k2 := kk p e R s m args below meth c H locs cells slots ρ0 ρ la C hS hR hx (hg.pop.pop.push trivial) h1 h2 hl
  have hlt : i.toNatClampNeg < zln G q := Nat.not_le.mp fun z => hin (Or.inr z)
  have hK : ZK E s := C.2.2.2.2.2.2.2.2.2.2.2.2.2.2.1
  simp only [List.map_cons, zv_ref ρ (hR.ne0 hal)]
  rcases hq with hq | hq
  · exact W.bald (v := .int (ziv G q i.toNatClampNeg)) C.1 C.2.1 (hR.ar hq) ((hK.arr (k := 1) (by decide)).1 _ _) (fun z => by cases z) (by show ¬ (i < 0 ∨ (arrV _ _ _).slots.size ≤ _); rw [arrV_size]; exact hin) (by show (arrV _ _ _).slots[_]? = _; rw [arrV_read _ _ hlt]; rfl) rfl rfl hd k2
  · obtain ⟨cell, r1, r2, r3, r4, r5, r6⟩ := hR.rd hq
    exact W.bald (v := .int (ziv G q i.toNatClampNeg)) C.1 C.2.1 r1 r2 r3 (fun z => hin (z.imp id (fun z => by omega))) (r6 _ hlt) rfl rfl hd k2
theorem z_zald {q : Nat} {i : Int32} (hd : decode M.2.1 pc = .ok (.baload, 1)) (hp : pc + 1 = pc') (hq : zar G q 2) (hin : vp_in i (zln G q)) (kk : zW E l M d b G0 Q k pc' ls (.int (ziv G q i.toNatClampNeg) :: st) G) : zW E l M d b G0 Q k pc ls (.int i :: .ref q :: st) G := by
  subst hp
  intro p e R s m args below meth c H locs cells slots ρ0 ρ la C hS hR hx hg h1 h2 hl
  have k2 := kk p e R s m args below meth c H locs cells slots ρ0 ρ la C hS hR hx (hg.pop.pop.push trivial) h1 h2 hl
  have hlt : i.toNatClampNeg < zln G q := Nat.not_le.mp fun z => hin (Or.inr z)
  have hK : ZK E s := C.2.2.2.2.2.2.2.2.2.2.2.2.2.2.1
  simp only [List.map_cons, zv_ref ρ (hR.ne0 hq.1)]
  exact W.zald (v := .int (ziv G q i.toNatClampNeg)) C.1 C.2.1 (hR.ar hq) ((hK.arr (k := 2) (by decide)).1 _ _) (fun z => by cases z) (by show ¬ (i < 0 ∨ (arrV _ _ _).slots.size ≤ _); rw [arrV_size]; exact hin) (by show (arrV _ _ _).slots[_]? = _; rw [arrV_read _ _ hlt]; rfl) rfl rfl hd k2
theorem z_lald {q : Nat} {i : Int32} (hd : decode M.2.1 pc = .ok (.laload, 1)) (hp : pc + 1 = pc') (hq : zar G q 3) (hin : vp_in i (zln G q)) (kk : zW E l M d b G0 Q k pc' ls (.long (ziv G q i.toNatClampNeg).toInt64 :: st) G) : zW E l M d b G0 Q k pc ls (.int i :: .ref q :: st) G := by
  subst hp
  intro p e R s m args below meth c H locs cells slots ρ0 ρ la C hS hR hx hg h1 h2 hl
  have k2 := kk p e R s m args below meth c H locs cells slots ρ0 ρ la C hS hR hx (hg.pop.pop.push trivial) h1 h2 hl
  have hlt : i.toNatClampNeg < zln G q := Nat.not_le.mp fun z => hin (Or.inr z)
  have hK : ZK E s := C.2.2.2.2.2.2.2.2.2.2.2.2.2.2.1
  simp only [List.map_cons, zv_ref ρ (hR.ne0 hq.1)]
  exact W.lald (v := .long (ziv G q i.toNatClampNeg).toInt64) C.1 C.2.1 (hR.ar hq) ((hK.arr (k := 3) (by decide)).1 _ _) (fun z => by cases z) (by show ¬ (i < 0 ∨ (arrV _ _ _).slots.size ≤ _); rw [arrV_size]; exact hin) (by show (arrV _ _ _).slots[_]? = _; rw [arrV_read _ _ hlt]; rfl) rfl rfl hd k2
theorem z_aald {q : Nat} {i : Int32} (hd : decode M.2.1 pc = .ok (.aaload, 1)) (hp : pc + 1 = pc') (hq : zar G q 4) (hin : vp_in i (zln G q)) (kk : zW E l M d b G0 Q k pc' ls (.ref (zrv G q i.toNatClampNeg) :: st) G) : zW E l M d b G0 Q k pc ls (.int i :: .ref q :: st) G := by
  subst hp
  intro p e R s m args below meth c H locs cells slots ρ0 ρ la C hS hR hx hg h1 h2 hl
  have k2 := kk p e R s m args below meth c H locs cells slots ρ0 ρ la C hS hR hx (hg.pop.pop.push ((hR.1 q hq.1).2.1 _)) h1 h2 hl
  have hlt : i.toNatClampNeg < zln G q := Nat.not_le.mp fun z => hin (Or.inr z)
  have hK : ZK E s := C.2.2.2.2.2.2.2.2.2.2.2.2.2.2.1
  rw [List.map_cons] at k2
  simp only [List.map_cons, zv_ref ρ (hR.ne0 hq.1)]
  exact W.aald (v := zv ρ (.ref (zrv G q i.toNatClampNeg))) (ty := zAk 4) C.1 C.2.1 (hR.ar hq) ((hK.arr (k := 4) (by decide)).1 _ _) rfl (fun z => by cases z) (by show ¬ (i < 0 ∨ (arrV _ _ _).slots.size ≤ _); rw [arrV_size]; exact hin) (by show (arrV _ _ _).slots[_]? = _; rw [arrV_read _ _ hlt]; rfl) rfl rfl hd k2
theorem z_alen {q : Nat} {n : Int32} (hd : decode M.2.1 pc = .ok (.arraylength, 1)) (hp : pc + 1 = pc') (hq : (∃ j, j < 5 ∧ zar G q j) ∨ ∃ ty, zrd G q ty) (hn : Int32.ofNat (zln G q) = n) (kk : zW E l M d b G0 Q k pc' ls (.int n :: st) G) : zW E l M d b G0 Q k pc ls (.ref q :: st) G := by
  subst hp
  subst hn
  intro p e R s m args below meth c H locs cells slots ρ0 ρ la C hS hR hx hg h1 h2 hl
  have hal : zal G q := hq.elim (fun ⟨_, _, h⟩ => h.1) (fun ⟨_, h⟩ => h.1)
  have k2 := kk p e R s m args below meth c H locs cells slots ρ0 ρ la C hS hR hx (hg.pop.push trivial) h1 h2 hl
  have hK : ZK E s := C.2.2.2.2.2.2.2.2.2.2.2.2.2.2.1
  simp only [List.map_cons, zv_ref ρ (hR.ne0 hal)]
  rcases hq with ⟨j, hj, hq⟩ | ⟨ty, hq⟩
  · exact W.alen (n := Int32.ofNat (zln G q)) C.1 C.2.1 (hR.ar hq) ((hK.arr hj).1 _ _) (by rw [arrV_size]) rfl rfl hd k2
  · obtain ⟨cell, r1, r2, r3, r4, r5, r6⟩ := hR.rd hq
    exact W.alen (n := Int32.ofNat (zln G q)) C.1 C.2.1 r1 r2 r5 rfl rfl hd k2
end ZHeap
