/-! THE STORE: objects and arrays by logical addresses: zp t i is the i-th thing of tag t. Tags below 448: objects of class t / 32 of vwCl; 448 to 1023: things whose cells nobody looks at here (String constants); 1024 to 3583: arrays that may be written, of kind (t - 1024) / 512 (int, byte, boolean, long, Object); from 3584 on: arrays that nobody writes, at fixed places. Reference 0 is null. -/
def zp (t i : Nat) : Nat := 4096 * i + t
theorem zp_mod {t i : Nat} (h : t < 4096) : zp t i % 4096 = t := by unfold zp; omega
theorem zp_div {t i : Nat} (h : t < 4096) : zp t i / 4096 = i := by unfold zp; omega
theorem zp_inj {t i t' i' : Nat} (h : t < 4096) (h' : t' < 4096) (e : zp t i = zp t' i') : t = t' ∧ i = i' := by unfold zp at e; omega
/-- how many of a tag; lengths of arrays; ints; references -/
abbrev ZG : Type := (Nat → Nat) × (Nat → Nat) × (Nat → Nat → Int32) × (Nat → Nat → Nat)
def zcn (G : ZG) : Nat → Nat := G.1
def zln (G : ZG) : Nat → Nat := G.2.1
def ziv (G : ZG) : Nat → Nat → Int32 := G.2.2.1
def zrv (G : ZG) : Nat → Nat → Nat := G.2.2.2
def zal (G : ZG) (q : Nat) : Prop := q / 4096 < zcn G (q % 4096)
def zsi (G : ZG) (q k : Nat) (x : Int32) : ZG := (G.1, G.2.1, fun a j => if a = q ∧ j = k then x else G.2.2.1 a j, G.2.2.2)
def zsr (G : ZG) (q k r : Nat) : ZG := (G.1, G.2.1, G.2.2.1, fun a j => if a = q ∧ j = k then r else G.2.2.2 a j)
def znw (G : ZG) (t n : Nat) : ZG := (fun u => if u = t then zcn G t + 1 else zcn G u, fun q => if q = zp t (zcn G t) then n else zln G q, fun q k => if q = zp t (zcn G t) then 0 else ziv G q k, fun q k => if q = zp t (zcn G t) then 0 else zrv G q k)
theorem zcn_si (G : ZG) (q k : Nat) (x : Int32) : zcn (zsi G q k x) = zcn G := rfl
theorem zln_si (G : ZG) (q k : Nat) (x : Int32) : zln (zsi G q k x) = zln G := rfl
theorem zrv_si (G : ZG) (q k : Nat) (x : Int32) : zrv (zsi G q k x) = zrv G := rfl
theorem ziv_si (G : ZG) (q k : Nat) (x : Int32) (a j : Nat) : ziv (zsi G q k x) a j = if a = q ∧ j = k then x else ziv G a j := rfl
theorem zcn_sr (G : ZG) (q k r : Nat) : zcn (zsr G q k r) = zcn G := rfl
theorem zln_sr (G : ZG) (q k r : Nat) : zln (zsr G q k r) = zln G := rfl
theorem ziv_sr (G : ZG) (q k r : Nat) : ziv (zsr G q k r) = ziv G := rfl
theorem zrv_sr (G : ZG) (q k r : Nat) (a j : Nat) : zrv (zsr G q k r) a j = if a = q ∧ j = k then r else zrv G a j := rfl
theorem zcn_nw (G : ZG) (t n u : Nat) : zcn (znw G t n) u = if u = t then zcn G t + 1 else zcn G u := rfl
theorem zln_nw (G : ZG) (t n q : Nat) : zln (znw G t n) q = if q = zp t (zcn G t) then n else zln G q := rfl
theorem ziv_nw (G : ZG) (t n q k : Nat) : ziv (znw G t n) q k = if q = zp t (zcn G t) then 0 else ziv G q k := rfl
theorem zrv_nw (G : ZG) (t n q k : Nat) : zrv (znw G t n) q k = if q = zp t (zcn G t) then 0 else zrv G q k := rfl
theorem zal_si {G : ZG} {q k : Nat} {x : Int32} {a : Nat} : zal (zsi G q k x) a ↔ zal G a := Iff.rfl
theorem zal_sr {G : ZG} {q k r : Nat} {a : Nat} : zal (zsr G q k r) a ↔ zal G a := Iff.rfl
theorem zal_zp {G : ZG} {t i : Nat} (h : t < 4096) : zal G (zp t i) ↔ i < zcn G t := by unfold zal; rw [zp_mod h, zp_div h]
/-- the machine's side: the classes' numbers and slots, the array classes, the first free cell, the fixed places -/
abbrev ZE : Type := va_G × (Nat → ClassId) × Nat × (Nat → Nat)
def zty (ci k : Nat) : FieldType := match ci with
  | 0 => tyJx4a65c k
  | 1 => tyX0 k
  | 2 => tyX1 k
  | 3 => tyX2 k
  | 4 => tyX3 k
  | 5 => tyX4 k
  | 6 => tyX5 k
  | 7 => tyX6 k
  | 8 => tyX7 k
  | 9 => tyX8 k
  | 10 => tyX9 k
  | 11 => tyX10 k
  | 12 => tyX11 k
  | _ => tyX12 k
theorem z_cl {ci : Nat} (h : ci < 14) : vwCl[ci]? = some (zC ci, zT ci, zN ci) := by
  have : ∀ ci, ci < 14 → vwCl[ci]? = some (zC ci, zT ci, zN ci) := by
    intro ci h
    match ci, h with
    | 0, _ => rfl
    | 1, _ => rfl
    | 2, _ => rfl
    | 3, _ => rfl
    | 4, _ => rfl
    | 5, _ => rfl
    | 6, _ => rfl
    | 7, _ => rfl
    | 8, _ => rfl
    | 9, _ => rfl
    | 10, _ => rfl
    | 11, _ => rfl
    | 12, _ => rfl
    | 13, _ => rfl
  exact this ci h
theorem z_ty {ci : Nat} (h : ci < 14) : ∀ k, k < zN ci → parseFieldDescriptor (zT ci k).2.2.1 = some (zty ci k) := by
  match ci, h with
  | 0, _ => exact tyJx4a65c_ok
  | 1, _ => exact tyX0_ok
  | 2, _ => exact tyX1_ok
  | 3, _ => exact tyX2_ok
  | 4, _ => exact tyX3_ok
  | 5, _ => exact tyX4_ok
  | 6, _ => exact tyX5_ok
  | 7, _ => exact tyX6_ok
  | 8, _ => exact tyX7_ok
  | 9, _ => exact tyX8_ok
  | 10, _ => exact tyX9_ok
  | 11, _ => exact tyX10_ok
  | 12, _ => exact tyX11_ok
  | 13, _ => exact tyX12_ok
theorem z_nm {ci : Nat} (h : ci < 14) : ∀ a, a < zN ci → ∀ b, b < zN ci → a ≠ b → (zT ci a).2.1 ≠ (zT ci b).2.1 := by
  match ci, h with
  | 0, _ => exact nmJx4a65c
  | 1, _ => exact nmX0
  | 2, _ => exact nmX1
  | 3, _ => exact nmX2
  | 4, _ => exact nmX3
  | 5, _ => exact nmX4
  | 6, _ => exact nmX5
  | 7, _ => exact nmX6
  | 8, _ => exact nmX7
  | 9, _ => exact nmX8
  | 10, _ => exact nmX9
  | 11, _ => exact nmX10
  | 12, _ => exact nmX11
  | 13, _ => exact nmX12
def zref (ty : FieldType) : Bool := match ty with
  | .object _ => true
  | .array _ => true
  | _ => false
/-- what a logical value is on the machine -/
def zv (ρ : Nat → Nat) (v : Value) : Value := match v with
  | .ref q => if q = 0 then .null else .ref (ρ q)
  | w => w
theorem zv_int (ρ : Nat → Nat) (x : Int32) : zv ρ (.int x) = .int x := rfl
theorem zv_long (ρ : Nat → Nat) (x : Int64) : zv ρ (.long x) = .long x := rfl
theorem zv_null (ρ : Nat → Nat) : zv ρ (.ref 0) = .null := rfl
theorem zv_ref (ρ : Nat → Nat) {q : Nat} (h : q ≠ 0) : zv ρ (.ref q) = .ref (ρ q) := if_neg h
theorem zv_cat (ρ : Nat → Nat) (v : Value) : (zv ρ v).category = v.category := by
  cases v <;> simp only [zv] <;> try rfl
  split <;> rfl
def zF (ρ : Nat → Nat) (G : ZG) (q k : Nat) : Value := if zref (zty (q % 4096 / 32) k) = true then zv ρ (.ref (zrv G q k)) else .int (ziv G q k)
def zAk (k : Nat) : FieldType := match k with
  | 0 => .int
  | 1 => .byte
  | 2 => .boolean
  | 3 => .long
  | _ => .object "java/lang/Object"
def zAf (ρ : Nat → Nat) (G : ZG) (q k : Nat) : Nat → Value := match k with
  | 3 => fun j => .long (ziv G q j).toInt64
  | 4 => fun j => zv ρ (.ref (zrv G q j))
  | _ => fun j => .int (ziv G q j)
/-- an array that nobody writes -/
def zRO (U : State) (H : Heap) (a n : Nat) (f : Nat → Int32) (ty : FieldType) : Prop := ∃ cell : Cell, H[a]? = some cell ∧ U.isArrayOf cell ty ∧ cell.vm ≠ .unknown ∧ n ≤ cell.slots.size ∧ cell.slots.size.toInt32 = Int32.ofNat n ∧ ∀ j, j < n → cell.slots[j]? = some (.int (f j))
/-- its type, by the tag -/
def zROt (t : Nat) : FieldType := if t = 4095 then .object "java/lang/Object" else if 3840 ≤ t then .byte else .int
/-- fixed places -/
def zfx (q : Nat) : Prop := (448 ≤ q % 4096 ∧ q % 4096 < 1024) ∨ 3584 ≤ q % 4096
def zcell (E : ZE) (U : State) (ρ : Nat → Nat) (G : ZG) (q : Nat) (H : Heap) : Prop :=
  if q % 4096 < 448 then t_OB (ρ q) (E.1.1 (q % 4096 / 32)) (zN (q % 4096 / 32)) (E.1.2 (q % 4096 / 32)) H (zF ρ G q)
  else if q % 4096 < 1024 then True
  else if q % 4096 < 3584 then H[ρ q]? = some (arrV (E.2.1 ((q % 4096 - 1024) / 512)) (zln G q) (zAf ρ G q ((q % 4096 - 1024) / 512)))
  else zRO U H (ρ q) (zln G q) (ziv G q) (zROt (q % 4096))
/-- a reference that means something -/
def zgq (G : ZG) (q : Nat) : Prop := q = 0 ∨ zal G q ∨ zfx q
def zgd (G : ZG) (v : Value) : Prop := match v with
  | .int _ => True
  | .long _ => True
  | .ref q => zgq G q
  | _ => False
def ZR (E : ZE) (U : State) (ρ : Nat → Nat) (G : ZG) (H : Heap) : Prop :=
  (∀ q, zal G q → zcell E U ρ G q H ∧ (∀ k, zgq G (zrv G q k)) ∧ ρ q < H.size ∧ (¬ zfx q → E.2.2.1 ≤ ρ q)) ∧
  (∀ q q', zal G q → zal G q' → ρ q = ρ q' → q = q') ∧ (∀ q, zfx q → ρ q = E.2.2.2 q) ∧ zcn G 0 = 0 ∧ ∀ t, 4096 ≤ t → zcn G t = 0
def zext (G : ZG) (ρ : Nat → Nat) (G' : ZG) (ρ' : Nat → Nat) : Prop := (∀ t, zcn G t ≤ zcn G' t) ∧ ∀ q, zal G q → ρ' q = ρ q
theorem zext.rf {G : ZG} {ρ : Nat → Nat} : zext G ρ G ρ := ⟨fun _ => Nat.le_refl _, fun _ _ => rfl⟩
theorem zext.al {G G' : ZG} {ρ ρ' : Nat → Nat} (h : zext G ρ G' ρ') {q : Nat} (hq : zal G q) : zal G' q := Nat.lt_of_lt_of_le hq (h.1 _)
theorem zext.trans {G G' G2 : ZG} {ρ ρ' ρ2 : Nat → Nat} (h : zext G ρ G' ρ') (h2 : zext G' ρ' G2 ρ2) : zext G ρ G2 ρ2 :=
  ⟨fun t => Nat.le_trans (h.1 t) (h2.1 t), fun q hq => (h2.2 q (h.al hq)).trans (h.2 q hq)⟩
theorem zext.gq {G G' : ZG} {ρ ρ' : Nat → Nat} (h : zext G ρ G' ρ') {q : Nat} (hq : zgq G q) : zgq G' q := by
  rcases hq with h1 | h1 | h1
  · exact Or.inl h1
  · exact Or.inr (Or.inl (h.al h1))
  · exact Or.inr (Or.inr h1)
theorem zext.gd {G G' : ZG} {ρ ρ' : Nat → Nat} (h : zext G ρ G' ρ') {v : Value} (hv : zgd G v) : zgd G' v := by
  cases v with
  | ref q => exact h.gq hv
  | _ => exact hv
/-- a value means the same when the store has grown -/
theorem zv_ext {E : ZE} {U U' : State} {G G' : ZG} {ρ ρ' : Nat → Nat} {H H' : Heap} (hR : ZR E U ρ G H) (hR' : ZR E U' ρ' G' H') (h : zext G ρ G' ρ') {v : Value} (hv : zgd G v) : zv ρ' v = zv ρ v := by
  cases v with
  | ref q =>
    rcases hv with h1 | h1 | h1
    · subst h1; rfl
    · simp only [zv, h.2 q h1]
    · simp only [zv, hR.2.2.1 q h1, hR'.2.2.1 q h1]
  | _ => rfl
theorem zRO.kept {U : State} {H H1 : Heap} {a n : Nat} {f : Nat → Int32} {ty : FieldType} (h : zRO U H a n f ty) (hq : H1[a]? = H[a]?) : zRO U H1 a n f ty := by
  obtain ⟨cell, h1, h2⟩ := h
  exact ⟨cell, by rw [hq]; exact h1, h2⟩
theorem zRO.moved {u U : State} (hvm : u.vm.Alike U.vm) {H : Heap} {a n : Nat} {f : Nat → Int32} {ty : FieldType} (h : zRO u H a n f ty) : zRO U H a n f ty := by
  obtain ⟨cell, h1, h2, h3⟩ := h
  exact ⟨cell, h1, State.isArrayOf_alike hvm h2, h3⟩
theorem zcell.kept {E : ZE} {U : State} {ρ : Nat → Nat} {G : ZG} {q : Nat} {H H1 : Heap} (h : zcell E U ρ G q H) (hq : H1[ρ q]? = H[ρ q]?) : zcell E U ρ G q H1 := by
  unfold zcell at h ⊢
  split
  · rename_i h1
    rw [if_pos h1] at h
    exact h.kept hq
  · rename_i h1
    rw [if_neg h1] at h
    split
    · trivial
    · rename_i h2
      rw [if_neg h2] at h
      split
      · rename_i h3
        rw [if_pos h3] at h
        exact hq.trans h
      · rename_i h3
        rw [if_neg h3] at h
        exact h.kept hq
theorem zcell.moved {E : ZE} {u U : State} (hvm : u.vm.Alike U.vm) {ρ : Nat → Nat} {G : ZG} {q : Nat} {H : Heap} (h : zcell E u ρ G q H) : zcell E U ρ G q H := by
  unfold zcell at h ⊢
  split
  · rename_i h1
    rw [if_pos h1] at h
    exact h
  · rename_i h1
    rw [if_neg h1] at h
    split
    · trivial
    · rename_i h2
      rw [if_neg h2] at h
      split
      · rename_i h3
        rw [if_pos h3] at h
        exact h
      · rename_i h3
        rw [if_neg h3] at h
        exact h.moved hvm
/-- only the thing's own contents count, and where its references lie -/
theorem zcell.same {E : ZE} {U : State} {ρ ρ' : Nat → Nat} {G G' : ZG} {q : Nat} {H : Heap} (h : zcell E U ρ G q H) (hρ : ρ' q = ρ q) (h1 : zln G' q = zln G q) (h2 : ∀ k, ziv G' q k = ziv G q k) (h3 : ∀ k, zv ρ' (.ref (zrv G' q k)) = zv ρ (.ref (zrv G q k))) : zcell E U ρ' G' q H := by
  have e1 : zF ρ' G' q = zF ρ G q := by
    funext k
    simp only [zF, h2, h3]
  have e2 : ∀ k, zAf ρ' G' q k = zAf ρ G q k := by
    intro k
    unfold zAf
    split <;> funext j <;> simp only [h2, h3]
  have e3 : ziv G' q = ziv G q := funext h2
  unfold zcell at h ⊢
  rw [hρ, h1, e1, e2, e3]
  exact h
theorem ZR.keep {E : ZE} {U : State} {ρ : Nat → Nat} {G : ZG} {H H1 : Heap} (h : ZR E U ρ G H) (hz : H.size ≤ H1.size) (hq : ∀ a, a < H.size → H1[a]? = H[a]?) : ZR E U ρ G H1 :=
  ⟨fun q hal => by
    obtain ⟨a1, a2, a3, a4⟩ := h.1 q hal
    exact ⟨a1.kept (hq _ a3), a2, Nat.lt_of_lt_of_le a3 hz, a4⟩, h.2⟩
theorem ZR.moved {E : ZE} {u U : State} (hvm : u.vm.Alike U.vm) {ρ : Nat → Nat} {G : ZG} {H : Heap} (h : ZR E u ρ G H) : ZR E U ρ G H :=
  ⟨fun q hal => by
    obtain ⟨a1, a2, a3, a4⟩ := h.1 q hal
    exact ⟨a1.moved hvm, a2, a3, a4⟩, h.2⟩
/-- one thing is written -/
theorem ZR.upd {E : ZE} {U : State} {ρ : Nat → Nat} {G G' : ZG} {H H' : Heap} (h : ZR E U ρ G H) {q : Nat} (hq : zal G q) (hz : H'.size = H.size) (hH : ∀ a, a ≠ ρ q → H'[a]? = H[a]?) (hc : zcn G' = zcn G)
    (ho : ∀ q', q' ≠ q → zln G' q' = zln G q' ∧ (∀ k, ziv G' q' k = ziv G q' k) ∧ ∀ k, zrv G' q' k = zrv G q' k) (hn : zcell E U ρ G' q H') (hg : ∀ k, zgq G (zrv G' q k)) : ZR E U ρ G' H' := by
  have al : ∀ a, zal G' a ↔ zal G a := fun a => by unfold zal; rw [hc]
  have gq : ∀ a, zgq G a → zgq G' a := fun a ha => by
    rcases ha with h1 | h1 | h1
    · exact Or.inl h1
    · exact Or.inr (Or.inl ((al a).mpr h1))
    · exact Or.inr (Or.inr h1)
  refine ⟨fun a ha => ?_, fun a b ha hb => h.2.1 a b ((al a).mp ha) ((al b).mp hb), h.2.2.1, by rw [hc]; exact h.2.2.2.1, by rw [hc]; exact h.2.2.2.2⟩
  obtain ⟨a1, a2, a3, a4⟩ := h.1 a ((al a).mp ha)
  by_cases hqa : a = q
  · subst hqa
    exact ⟨hn, fun k => gq _ (hg k), by rw [hz]; exact a3, a4⟩
  · obtain ⟨o1, o2, o3⟩ := ho a hqa
    have hρ : ρ a ≠ ρ q := fun e => hqa (h.2.1 a q ((al a).mp ha) hq e)
    exact ⟨(a1.same rfl o1 o2 (fun k => by rw [o3 k])).kept (hH _ hρ), fun k => by rw [o3 k]; exact gq _ (a2 k), by rw [hz]; exact a3, a4⟩

/-- one thing is made -/
def upd9 (ρ : Nat → Nat) (q a : Nat) : Nat → Nat := fun b => if b = q then a else ρ b
theorem zal_nw {G : ZG} {t n : Nat} (ht : t < 4096) (a : Nat) : zal (znw G t n) a ↔ zal G a ∨ a = zp t (zcn G t) := by
  unfold zal
  rw [zcn_nw]
  unfold zp
  split
  · rename_i h
    rw [h]
    omega
  · rename_i h
    constructor
    · exact Or.inl
    · rintro (h1 | h1)
      · exact h1
      · omega
theorem zal_q0 {G : ZG} {t : Nat} (ht : t < 4096) : ¬ zal G (zp t (zcn G t)) := by
  unfold zal
  rw [zp_mod ht, zp_div ht]
  omega
theorem ZR.new {E : ZE} {U : State} {ρ : Nat → Nat} {G : ZG} {H H' : Heap} (h : ZR E U ρ G H) {t n : Nat} (h0 : t ≠ 0) (ht : t < 4096) (hf : ¬ ((448 ≤ t ∧ t < 1024) ∨ 3584 ≤ t)) (hb : E.2.2.1 ≤ H.size) (hz : H'.size = H.size + 1) (hH : ∀ a, a < H.size → H'[a]? = H[a]?)
    (hn : zcell E U (upd9 ρ (zp t (zcn G t)) H.size) (znw G t n) (zp t (zcn G t)) H') : ZR E U (upd9 ρ (zp t (zcn G t)) H.size) (znw G t n) H' ∧ zext G ρ (znw G t n) (upd9 ρ (zp t (zcn G t)) H.size) := by
  generalize hq0 : zp t (zcn G t) = q0 at hn ⊢
  have hm : q0 % 4096 = t := by rw [← hq0]; exact zp_mod ht
  have hna : ¬ zal G q0 := by rw [← hq0]; exact zal_q0 ht
  have al : ∀ a, zal (znw G t n) a ↔ zal G a ∨ a = q0 := fun a => by rw [← hq0]; exact zal_nw ht a
  have ne : ∀ a, zal G a → a ≠ q0 := fun a ha e => hna (e ▸ ha)
  have ρo : ∀ a, a ≠ q0 → upd9 ρ q0 H.size a = ρ a := fun a ha => if_neg ha
  have ρn : upd9 ρ q0 H.size q0 = H.size := if_pos rfl
  have gq : ∀ a, zgq G a → zgq (znw G t n) a := fun a ha => by
    rcases ha with h1 | h1 | h1
    · exact Or.inl h1
    · exact Or.inr (Or.inl ((al a).mpr (Or.inl h1)))
    · exact Or.inr (Or.inr h1)
  have zvk : ∀ r, zgq G r → zv (upd9 ρ q0 H.size) (.ref r) = zv ρ (.ref r) := fun r hr => by
    rcases hr with h1 | h1 | h1
    · subst h1; rfl
    · simp only [zv, ρo r (ne r h1)]
    · have : r ≠ q0 := fun e => by subst e; unfold zfx at h1; omega
      simp only [zv, ρo r this]
  have cnt : ∀ u, zcn G u ≤ zcn (znw G t n) u := fun u => by
    rw [zcn_nw]
    split
    · rename_i e; rw [e]; omega
    · omega
  refine ⟨⟨fun a ha => ?_, fun a b ha hb2 e => ?_, fun a ha => ?_, ?_, fun u hu => ?_⟩, cnt, fun a ha => ρo a (ne a ha)⟩
  · rcases (al a).mp ha with h1 | h1
    · obtain ⟨a1, a2, a3, a4⟩ := h.1 a h1
      have hne := ne a h1
      have e1 : ∀ k, zrv (znw G t n) a k = zrv G a k := fun k => by rw [zrv_nw, hq0, if_neg hne]
      have e2 : ∀ k, ziv (znw G t n) a k = ziv G a k := fun k => by rw [ziv_nw, hq0, if_neg hne]
      have e3 : zln (znw G t n) a = zln G a := by rw [zln_nw, hq0, if_neg hne]
      refine ⟨(a1.same (ρo a hne) e3 e2 (fun k => by rw [e1 k]; exact zvk _ (a2 k))).kept ?_, fun k => by rw [e1 k]; exact gq _ (a2 k), ?_, fun hx => ?_⟩
      · rw [ρo a hne]; exact hH _ a3
      · rw [ρo a hne]; omega
      · rw [ρo a hne]; exact a4 hx
    · subst h1
      refine ⟨hn, fun k => ?_, by rw [ρn]; omega, fun _ => by rw [ρn]; exact hb⟩
      rw [zrv_nw, hq0, if_pos rfl]
      exact Or.inl rfl
  · rcases (al a).mp ha with h1 | h1 <;> rcases (al b).mp hb2 with h2 | h2
    · rw [ρo a (ne a h1), ρo b (ne b h2)] at e
      exact h.2.1 a b h1 h2 e
    · subst h2
      rw [ρo a (ne a h1), ρn] at e
      have := (h.1 a h1).2.2.1
      omega
    · subst h1
      rw [ρo b (ne b h2), ρn] at e
      have := (h.1 b h2).2.2.1
      omega
    · rw [h1, h2]
  · have : a ≠ q0 := fun e => by subst e; unfold zfx at ha; omega
    rw [ρo a this]
    exact h.2.2.1 a ha
  · rw [zcn_nw, if_neg (fun e => h0 e.symm)]; exact h.2.2.2.1
  · rw [zcn_nw, if_neg (by omega)]; exact h.2.2.2.2 u hu
