/-! the heap as my memory: cell 1, 2 .. of mine is cell base + 0, base + 1 .. of the machine's; M 0 0 is how many there are; M a (-2) is what a cell is, M a (-1) an array's length -/
/-- base, the heap ahead, the state ahead, addresses of text constants, numbers of classes and slots -/
abbrev EnvT : Type := Nat × Heap × State × (Int → Nat) × va_G
def ek (t : Int) : Int := if t = 10 then 0 else if t = 11 then 1 else if t = 12 then 4 else if t = 13 then 3 else if t = 14 then 10 else if t = 15 then 11 else 28
def aT (t : Int) : FieldType := if t = 10 then .int else if t = 11 then .long else if t = 12 then .byte else if t = 13 then .boolean else if t = 14 then .array .int else if t = 15 then .array .long else .object "WaterTurns$World"
def rf (E : EnvT) (x : Int) : Value := if x = 0 then .null else if 0 < x then .ref (E.1 + (x - 1).toNat) else .ref (E.2.2.2.1 x)
def enc (E : EnvT) (kd x : Int) : Value := if kd = 1 then .long (Int64.ofInt x) else if 10 ≤ kd ∨ kd = 2 then rf E x else .int (Int32.ofInt x)
def fk (ci k : Nat) : Int := (fkT.getD ci []).getD k 0
def fN (ci : Nat) : Nat := (fkT.getD ci []).length
def okx (M : Mem) (kd x : Int) : Prop := if kd = 0 then r32 x else if kd = 1 then r64 x else if kd = 3 then (x = 0 ∨ x = 1) else if kd = 4 then (-128 ≤ x ∧ x ≤ 127) else if kd = 2 then (x = 0 ∨ x = -1 ∨ x = -2 ∨ x = -3 ∨ x = -4 ∨ x = -11 ∨ x = -12) else (x = 0 ∨ (1 ≤ x ∧ x ≤ M 0 0 ∧ M x (-2) = kd))
def upd2 (M : Mem) (a k v : Int) : Mem := fun x y => if x = a ∧ y = k then v else M x y
def newm (M : Mem) (t n : Int) : Mem := fun x y => if x = 0 ∧ y = 0 then M 0 0 + 1 else if x = M 0 0 + 1 then (if y = -2 then t else if y = -1 then n else 0) else M x y
def CR (E : EnvT) (M : Mem) (a : Int) (cell : Cell) : Prop := cell.vm = .none ∧
  ((10 ≤ M a (-2) ∧ M a (-2) ≤ 16 ∧ 0 ≤ M a (-1) ∧ M a (-1) ≤ 2147483647 ∧ (∀ i, 0 ≤ i → i < M a (-1) → okx M (ek (M a (-2))) (M a i)) ∧ ∃ cA : ClassId, ArrOfT E.2.2.1 cA (aT (M a (-2))) ∧ va_RA E.2.2.1 cA (aT (M a (-2))) ∧ cell = arrV cA (M a (-1)).toNat (fun j => enc E (ek (M a (-2))) (M a j)))
  ∨ (∃ ci : Nat, ci < 11 ∧ M a (-2) = 20 + ci ∧ cell.cls = E.2.2.2.2.1 ci ∧ ∀ k : Nat, k < fN ci → okx M (fk ci k) (M a k) ∧ cell.slots[E.2.2.2.2.2 ci k]? = some (enc E (fk ci k) (M a k))))
def HR (E : EnvT) (M : Mem) (H : Heap) : Prop := H.size = E.1 + (M 0 0).toNat ∧ 0 ≤ M 0 0 ∧ (∀ q : Nat, q < E.1 → H[q]? = E.2.1[q]?) ∧ ∀ a : Int, 1 ≤ a → a ≤ M 0 0 → ∃ cell : Cell, H[E.1 + (a - 1).toNat]? = some cell ∧ CR E M a cell
/-- what stays: cells stay cells of their kind and length -/
def Ext (M M' : Mem) : Prop := M 0 0 ≤ M' 0 0 ∧ ∀ a : Int, 1 ≤ a → a ≤ M 0 0 → M' a (-2) = M a (-2) ∧ M' a (-1) = M a (-1)
theorem Ext.rf {M : Mem} : Ext M M := ⟨Int.le_refl _, fun _ _ _ => ⟨rfl, rfl⟩⟩
theorem Ext.tr {A B C : Mem} (h : Ext A B) (h2 : Ext B C) : Ext A C :=
  ⟨Int.le_trans h.1 h2.1, fun a h1 h3 => ⟨(h2.2 a h1 (Int.le_trans h3 h.1)).1.trans (h.2 a h1 h3).1, (h2.2 a h1 (Int.le_trans h3 h.1)).2.trans (h.2 a h1 h3).2⟩⟩
theorem okx_ext {M M' : Mem} (h : Ext M M') {kd x : Int} (ho : okx M kd x) : okx M' kd x := by
  unfold okx at ho ⊢
  split <;> rename_i h0
  · rw [if_pos h0] at ho; exact ho
  rw [if_neg h0] at ho
  split <;> rename_i h1
  · rw [if_pos h1] at ho; exact ho
  rw [if_neg h1] at ho
  split <;> rename_i h2
  · rw [if_pos h2] at ho; exact ho
  rw [if_neg h2] at ho
  split <;> rename_i h3
  · rw [if_pos h3] at ho; exact ho
  rw [if_neg h3] at ho
  split <;> rename_i h4
  · rw [if_pos h4] at ho; exact ho
  rw [if_neg h4] at ho
  rcases ho with h5 | ⟨h5, h6, h7⟩
  · exact Or.inl h5
  · exact Or.inr ⟨h5, Int.le_trans h6 h.1, by rw [(h.2 x h5 h6).1]; exact h7⟩
theorem ext_upd {M : Mem} {a k v : Int} (ha : 1 ≤ a) (hk : 0 ≤ k) : Ext M (upd2 M a k v) := by
  refine ⟨?_, fun b h1 h2 => ⟨?_, ?_⟩⟩ <;> unfold upd2 <;> rw [if_neg (by omega)] <;> exact Int.le_refl _
theorem ext_upd' {M : Mem} {a k v : Int} (ha : 1 ≤ a) (hk : 0 ≤ k) : Ext (upd2 M a k v) M := by
  refine ⟨?_, fun b h1 h2 => ⟨?_, ?_⟩⟩ <;> unfold upd2 <;> rw [if_neg (by omega)] <;> exact Int.le_refl _
theorem ext_new {M : Mem} {t n : Int} (h0 : 0 ≤ M 0 0) : Ext M (newm M t n) := by
  refine ⟨?_, fun b h1 h2 => ⟨?_, ?_⟩⟩
  · unfold newm; rw [if_pos ⟨rfl, rfl⟩]; omega
  · unfold newm; rw [if_neg (by omega), if_neg (by omega)]
  · unfold newm; rw [if_neg (by omega), if_neg (by omega)]
theorem CR_ext {E : EnvT} {M M' : Mem} {a : Int} {cell : Cell} (h : Ext M M') (hr : ∀ k, M' a k = M a k) (hc : CR E M a cell) : CR E M' a cell := by
  obtain ⟨h0, hc⟩ := hc
  refine ⟨h0, ?_⟩
  simp only [hr]
  rcases hc with ⟨h1, h2, h3, h4, h5, h6⟩ | ⟨ci, h1, h2, h3, h4⟩
  · exact Or.inl ⟨h1, h2, h3, h4, fun i q1 q2 => okx_ext h (h5 i q1 q2), h6⟩
  · exact Or.inr ⟨ci, h1, h2, h3, fun k hk => ⟨okx_ext h (h4 k hk).1, (h4 k hk).2⟩⟩
theorem HR.addr {E : EnvT} {M : Mem} {H : Heap} (h : HR E M H) {a : Int} (h1 : 1 ≤ a) (h2 : a ≤ M 0 0) : E.1 + (a - 1).toNat < H.size := by
  rw [h.1]; omega
/-- one cell changes -/
theorem HR.set {E : EnvT} {M M' : Mem} {H H' : Heap} {a : Int} {cell' : Cell} (h : HR E M H) (h1 : 1 ≤ a) (h2 : a ≤ M 0 0) (he : Ext M M') (hn : M' 0 0 = M 0 0) (hr : ∀ b k, b ≠ a → M' b k = M b k) (hc : H'[E.1 + (a - 1).toNat]? = some cell') (hz : H'.size = H.size) (ho : ∀ q, q ≠ E.1 + (a - 1).toNat → H'[q]? = H[q]?) (hcr : CR E M' a cell') : HR E M' H' := by
  obtain ⟨e1, e2, e3, e4⟩ := h
  refine ⟨by rw [hz, e1, hn], by rw [hn]; exact e2, fun q hq => ?_, fun b b1 b2 => ?_⟩
  · rw [ho q (by omega)]; exact e3 q hq
  · by_cases hb : b = a
    · subst hb; exact ⟨cell', hc, hcr⟩
    · rw [hn] at b2
      obtain ⟨cell, c1, c2⟩ := e4 b b1 b2
      exact ⟨cell, by rw [ho _ (by omega)]; exact c1, CR_ext he (fun k => hr b k hb) c2⟩
/-- a cell more -/
theorem HR.push {E : EnvT} {M : Mem} {H H' : Heap} {t n : Int} {cell' : Cell} (h : HR E M H) (hc : H'[H.size]? = some cell') (hz : H'.size = H.size + 1) (ho : ∀ q, q < H.size → H'[q]? = H[q]?) (hcr : CR E (newm M t n) (M 0 0 + 1) cell') : HR E (newm M t n) H' := by
  obtain ⟨e1, e2, e3, e4⟩ := h
  have hn : newm M t n 0 0 = M 0 0 + 1 := by unfold newm; rw [if_pos ⟨rfl, rfl⟩]
  have hsz : H.size = E.1 + ((M 0 0 + 1) - 1).toNat := by rw [e1]; omega
  refine ⟨by rw [hz, e1, hn]; omega, by rw [hn]; omega, fun q hq => ?_, fun b b1 b2 => ?_⟩
  · rw [ho q (by omega)]; exact e3 q hq
  · by_cases hb : b = M 0 0 + 1
    · subst hb; exact ⟨cell', by rw [← hsz]; exact hc, hcr⟩
    · rw [hn] at b2
      obtain ⟨cell, c1, c2⟩ := e4 b b1 (by omega)
      refine ⟨cell, by rw [ho _ (by omega)]; exact c1, CR_ext (ext_new e2) (fun k => ?_) c2⟩
      unfold newm; rw [if_neg (by omega), if_neg hb]
theorem okx_ref {M : Mem} {kd x : Int} (h : okx M kd x) (hk : 10 ≤ kd) (hx : x ≠ 0) : 1 ≤ x ∧ x ≤ M 0 0 ∧ M x (-2) = kd := by
  unfold okx at h
  rw [if_neg (by omega), if_neg (by omega), if_neg (by omega), if_neg (by omega), if_neg (by omega)] at h
  rcases h with h | h
  · exact absurd h hx
  · exact h
theorem okx_mk {M : Mem} {kd x : Int} (hk : 10 ≤ kd) (h : x = 0 ∨ (1 ≤ x ∧ x ≤ M 0 0 ∧ M x (-2) = kd)) : okx M kd x := by
  unfold okx
  rw [if_neg (by omega), if_neg (by omega), if_neg (by omega), if_neg (by omega), if_neg (by omega)]
  exact h
theorem okx_0 {M : Mem} {x : Int} : okx M 0 x ↔ r32 x := by unfold okx; simp
theorem okx_1 {M : Mem} {x : Int} : okx M 1 x ↔ r64 x := by unfold okx; simp
theorem okx_3 {M : Mem} {x : Int} : okx M 3 x ↔ (x = 0 ∨ x = 1) := by unfold okx; simp
theorem okx_4 {M : Mem} {x : Int} : okx M 4 x ↔ (-128 ≤ x ∧ x ≤ 127) := by unfold okx; simp
theorem enc_0 {E : EnvT} {x : Int} : enc E 0 x = .int (Int32.ofInt x) := by simp [enc]
theorem enc_1 {E : EnvT} {x : Int} : enc E 1 x = .long (Int64.ofInt x) := by simp [enc]
theorem enc_3 {E : EnvT} {x : Int} : enc E 3 x = .int (Int32.ofInt x) := by simp [enc]
theorem enc_4 {E : EnvT} {x : Int} : enc E 4 x = .int (Int32.ofInt x) := by simp [enc]
theorem enc_r {E : EnvT} {kd x : Int} (hk : 10 ≤ kd) : enc E kd x = rf E x := by
  unfold enc; rw [if_neg (by omega), if_pos (Or.inl hk)]
theorem rf_pos {E : EnvT} {x : Int} (h : 1 ≤ x) : rf E x = .ref (E.1 + (x - 1).toNat) := by
  unfold rf; rw [if_neg (by omega), if_pos (by omega)]
theorem enc_cat {E : EnvT} {kd x : Int} (h : kd ≠ 1) : (enc E kd x).category = 1 := by
  unfold enc; rw [if_neg h]
  split
  · unfold rf; split
    · rfl
    · split <;> rfl
  · rfl
theorem enc_cat2 {E : EnvT} {x : Int} : (enc E 1 x).category = 2 := by rw [enc_1]; rfl
/-- a cell that is an object -/
theorem HR.obj {E : EnvT} {M : Mem} {H : Heap} (h : HR E M H) {a : Int} (h1 : 1 ≤ a) (h2 : a ≤ M 0 0) {ci : Nat} (ht : M a (-2) = 20 + ci) : ∃ cell : Cell, H[E.1 + (a - 1).toNat]? = some cell ∧ cell.vm = .none ∧ cell.cls = E.2.2.2.2.1 ci ∧ ci < 11 ∧ ∀ k : Nat, k < fN ci → okx M (fk ci k) (M a k) ∧ cell.slots[E.2.2.2.2.2 ci k]? = some (enc E (fk ci k) (M a k)) := by
  obtain ⟨cell, c1, c2, c3⟩ := h.2.2.2 a h1 h2
  rcases c3 with c3 | ⟨cj, c3, c4, c5, c6⟩
  · omega
  · have : cj = ci := by omega
    subst this
    exact ⟨cell, c1, c2, c5, c3, c6⟩
/-- a cell that is an array -/
theorem HR.arr {E : EnvT} {M : Mem} {H : Heap} (h : HR E M H) {a t : Int} (h1 : 1 ≤ a) (h2 : a ≤ M 0 0) (ht : M a (-2) = t) (hl : 10 ≤ t) (hu : t ≤ 16) : ∃ cA : ClassId, H[E.1 + (a - 1).toNat]? = some (arrV cA (M a (-1)).toNat (fun j => enc E (ek t) (M a j))) ∧ 0 ≤ M a (-1) ∧ M a (-1) ≤ 2147483647 ∧ (∀ i, 0 ≤ i → i < M a (-1) → okx M (ek t) (M a i)) ∧ ArrOfT E.2.2.1 cA (aT t) ∧ va_RA E.2.2.1 cA (aT t) := by
  obtain ⟨cell, c1, c2, c3⟩ := h.2.2.2 a h1 h2
  subst ht
  rcases c3 with ⟨d1, d2, d3, d4, d5, cA, d6, d7, d8⟩ | ⟨cj, c3, c4, c5, c6⟩
  · subst d8
    exact ⟨cA, c1, d3, d4, d5, d6, d7⟩
  · omega
/-- a place of an array is written -/
theorem HR.aput {E : EnvT} {M : Mem} {H H' : Heap} {cA : ClassId} {a t i v : Int} (h : HR E M H) (h1 : 1 ≤ a) (h2 : a ≤ M 0 0) (ht : M a (-2) = t) (hl : 10 ≤ t) (hu : t ≤ 16) (i0 : 0 ≤ i) (i1 : i < M a (-1)) (hv : okx M (ek t) v) (hold : H[E.1 + (a - 1).toNat]? = some (arrV cA (M a (-1)).toNat (fun j => enc E (ek t) (M a j)))) (hc : H'[E.1 + (a - 1).toNat]? = some ((arrV cA (M a (-1)).toNat (fun j => enc E (ek t) (M a j))).setSlot i.toNat (enc E (ek t) v))) (hz : H'.size = H.size) (ho : ∀ q, q ≠ E.1 + (a - 1).toNat → H'[q]? = H[q]?) : HR E (upd2 M a i v) H' := by
  have he := ext_upd (M := M) (v := v) h1 i0
  have e2 : upd2 M a i v a (-2) = M a (-2) := (he.2 a h1 h2).1
  have e3 : upd2 M a i v a (-1) = M a (-1) := (he.2 a h1 h2).2
  refine h.set h1 h2 he (by unfold upd2; rw [if_neg (by omega)]) (fun b k hb => by unfold upd2; rw [if_neg (fun q => hb q.1)]) hc hz ho ?_
  obtain ⟨cB, q1, q2, q3, q4, q5, q6⟩ := h.arr h1 h2 ht hl hu
  have hcc : cA = cB := by
    rw [hold] at q1
    exact congrArg Cell.cls (Option.some.inj q1)
  subst hcc
  refine ⟨rfl, Or.inl ?_⟩
  rw [e2, e3, ht]
  refine ⟨hl, hu, q2, q3, fun j j0 j1 => ?_, cA, q5, q6, ?_⟩
  · unfold upd2
    split
    · exact okx_ext he hv
    · exact okx_ext he (q4 j j0 j1)
  · rw [arrV_store]
    refine congrArg (arrV cA (M a (-1)).toNat) (funext fun j => ?_)
    unfold updV upd2
    by_cases hj : j = i.toNat
    · rw [if_pos hj, if_pos ⟨rfl, by omega⟩]
    · rw [if_neg hj, if_neg (fun q => hj (by omega))]
/-- a field is written -/
theorem HR.fput {E : EnvT} {M : Mem} {H H' : Heap} {cell : Cell} {a v : Int} {ci k : Nat} (h : HR E M H) (h1 : 1 ≤ a) (h2 : a ≤ M 0 0) (ht : M a (-2) = 20 + ci) (hk : k < fN ci) (hap : ∀ x y, x < fN ci → y < fN ci → x ≠ y → E.2.2.2.2.2 ci x ≠ E.2.2.2.2.2 ci y) (hv : okx M (fk ci k) v) (hold : H[E.1 + (a - 1).toNat]? = some cell) (hc : H'[E.1 + (a - 1).toNat]? = some (cell.setSlot (E.2.2.2.2.2 ci k) (enc E (fk ci k) v))) (hz : H'.size = H.size) (ho : ∀ q, q ≠ E.1 + (a - 1).toNat → H'[q]? = H[q]?) : HR E (upd2 M a k v) H' := by
  have he := ext_upd (M := M) (v := v) h1 (show (0 : Int) ≤ (k : Int) by omega)
  have e2 : upd2 M a k v a (-2) = M a (-2) := (he.2 a h1 h2).1
  refine h.set h1 h2 he (by unfold upd2; rw [if_neg (by omega)]) (fun b k hb => by unfold upd2; rw [if_neg (fun q => hb q.1)]) hc hz ho ?_
  obtain ⟨cB, q1, q2, q3, q4, q5⟩ := h.obj h1 h2 ht
  rw [hold] at q1
  cases q1
  refine ⟨q2, Or.inr ⟨ci, q4, by rw [e2]; exact ht, q3, fun j hj => ?_⟩⟩
  by_cases hjk : j = k
  · subst hjk
    have e3 : upd2 M a j v a j = v := by unfold upd2; rw [if_pos ⟨rfl, rfl⟩]
    rw [e3]
    exact ⟨okx_ext he hv, Cell.slots_setSlot_self _ (k2_hasslot (q5 j hj).2)⟩
  · have e3 : upd2 M a k v a j = M a j := by unfold upd2; rw [if_neg (fun q => hjk (by omega))]
    rw [e3]
    exact ⟨okx_ext he (q5 j hj).1, by rw [slot_ne _ _ (hap k j hk hj (Ne.symm hjk))]; exact (q5 j hj).2⟩
