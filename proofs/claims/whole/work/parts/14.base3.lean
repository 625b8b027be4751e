/-! what my functions are written in: each takes what comes behind it -/
def letv {ρ : Type} (x : Int) (k : Int → Option ρ) : Option ρ := k x
def jn {α ρ : Type} (j : α) (b : α → Option ρ) : Option ρ := b j
def getf {ρ : Type} (M : Mem) (r f : Int) (k : Int → Option ρ) : Option ρ := if r = 0 then none else k (M r f)
def putf {ρ : Type} (M : Mem) (r f v : Int) (k : Mem → Option ρ) : Option ρ := if r = 0 then none else k (upd2 M r f v)
def putz {ρ : Type} (M : Mem) (r f v : Int) (k : Mem → Option ρ) : Option ρ := if r = 0 then none else if v = 0 ∨ v = 1 then k (upd2 M r f v) else none
def alen {ρ : Type} (M : Mem) (a : Int) (k : Int → Option ρ) : Option ρ := if a = 0 then none else k (M a (-1))
def geti {ρ : Type} (M : Mem) (a i : Int) (k : Int → Option ρ) : Option ρ := if a = 0 then none else if 0 ≤ i ∧ i < M a (-1) then k (M a i) else none
def seti {ρ : Type} (M : Mem) (a i v : Int) (k : Mem → Option ρ) : Option ρ := if a = 0 then none else if 0 ≤ i ∧ i < M a (-1) then k (upd2 M a i v) else none
def setz {ρ : Type} (M : Mem) (a i v : Int) (k : Mem → Option ρ) : Option ρ := if a = 0 then none else if 0 ≤ i ∧ i < M a (-1) then (if v = 0 ∨ v = 1 then k (upd2 M a i v) else none) else none
def seta {ρ : Type} (M : Mem) (a i v : Int) (k : Mem → Option ρ) : Option ρ := if a = 0 then none else if v = 0 then none else if 0 ≤ i ∧ i < M a (-1) then k (upd2 M a i v) else none
def call {ρ : Type} (o : Option (Int × Mem)) (k : Int → Mem → Option ρ) : Option ρ := match o with | none => none | some q => k q.1 q.2
def callp {ρ : Type} (o : Option Int) (k : Int → Option ρ) : Option ρ := match o with | none => none | some q => k q
def callv {ρ : Type} (o : Option Mem) (k : Mem → Option ρ) : Option ρ := match o with | none => none | some q => k q
def idivc {ρ : Type} (a b : Int) (k : Int → Option ρ) : Option ρ := if b = 0 then none else k (idivv a b)
def iremc {ρ : Type} (a b : Int) (k : Int → Option ρ) : Option ρ := if b = 0 then none else k (iremv a b)
def ldivc {ρ : Type} (a b : Int) (k : Int → Option ρ) : Option ρ := if b = 0 then none else k (ldivv a b)
def lremc {ρ : Type} (a b : Int) (k : Int → Option ρ) : Option ρ := if b = 0 then none else k (lremv a b)
def newo {ρ : Type} (M : Mem) (t n : Int) (k : Int → Mem → Option ρ) : Option ρ := k (M 0 0 + 1) (newm M t n)
def newm2 (M : Mem) (t u n m : Int) : Mem := fun x y => if x = 0 ∧ y = 0 then M 0 0 + 1 + n else if x = M 0 0 + 1 then (if y = -2 then t else if y = -1 then n else if 0 ≤ y ∧ y < n then M 0 0 + 2 + y else 0) else if M 0 0 + 2 ≤ x ∧ x < M 0 0 + 2 + n then (if y = -2 then u else if y = -1 then m else 0) else M x y
def newg {ρ : Type} (M : Mem) (t u n m : Int) (k : Int → Mem → Option ρ) : Option ρ := k (M 0 0 + 1) (newm2 M t u n m)
def copym (M : Mem) (a i b j n : Int) : Mem := fun x y => if x = b ∧ j ≤ y ∧ y < j + n then M a (i + (y - j)) else M x y
def acopy {ρ : Type} (M : Mem) (a i b j n : Int) (k : Mem → Option ρ) : Option ρ := if a = 0 ∨ b = 0 then none else if 0 ≤ i ∧ 0 ≤ j ∧ 0 ≤ n ∧ i + n ≤ M a (-1) ∧ j + n ≤ M b (-1) then k (copym M a i b j n) else none
/-- text constants: -1 the class's, -2 the reference's -/
def retz (x : Int) : Option Int := if x = 0 ∨ x = 1 then some x else none
def retzm (x : Int) (M : Mem) : Option (Int × Mem) := if x = 0 ∨ x = 1 then some (x, M) else none
/-- how often a loop may go round -/
def KF : Nat := 200000
/-! the tables -/
def Gw : List Cond := lw_tbl.filter goodWord
theorem gw_t (i : Nat) {w : Cond} (h : tables_1[i]? = some w) (g : goodWord w = true) : w ∈ Gw :=
  List.mem_filter.mpr ⟨List.mem_append_right _ (List.mem_of_getElem? h), g⟩
theorem gw_m {w : Cond} (h : w ∈ tables_1) (g : goodWord w = true) : w ∈ Gw := List.mem_filter.mpr ⟨List.mem_append_right _ h, g⟩
theorem gw_1 (i : Nat) {w : Cond} (h : tables_1_1[i]? = some w) (g : goodWord w = true) : w ∈ Gw := gw_m (List.mem_append_left _ (List.mem_of_getElem? h)) g
theorem gw_2 (i : Nat) {w : Cond} (h : tables_1_2[i]? = some w) (g : goodWord w = true) : w ∈ Gw := gw_m (List.mem_append_right _ (List.mem_append_left _ (List.mem_of_getElem? h))) g
theorem gw_3 (i : Nat) {w : Cond} (h : tables_1_3[i]? = some w) (g : goodWord w = true) : w ∈ Gw := gw_m (List.mem_append_right _ (List.mem_append_right _ (List.mem_append_left _ (List.mem_of_getElem? h)))) g
theorem gw_4 (i : Nat) {w : Cond} (h : tables_1_4[i]? = some w) (g : goodWord w = true) : w ∈ Gw := gw_m (List.mem_append_right _ (List.mem_append_right _ (List.mem_append_right _ (List.mem_append_left _ (List.mem_of_getElem? h))))) g
theorem gw_5 (i : Nat) {w : Cond} (h : tables_1_5[i]? = some w) (g : goodWord w = true) : w ∈ Gw := gw_m (List.mem_append_right _ (List.mem_append_right _ (List.mem_append_right _ (List.mem_append_right _ (List.mem_append_left _ (List.mem_of_getElem? h)))))) g
theorem gw_6 (i : Nat) {w : Cond} (h : tables_1_6[i]? = some w) (g : goodWord w = true) : w ∈ Gw := gw_m (List.mem_append_right _ (List.mem_append_right _ (List.mem_append_right _ (List.mem_append_right _ (List.mem_append_right _ (List.mem_append_left _ (List.mem_of_getElem? h))))))) g
theorem gw_7 (i : Nat) {w : Cond} (h : tables_1_7[i]? = some w) (g : goodWord w = true) : w ∈ Gw := gw_m (List.mem_append_right _ (List.mem_append_right _ (List.mem_append_right _ (List.mem_append_right _ (List.mem_append_right _ (List.mem_append_right _ (List.mem_append_left _ (List.mem_of_getElem? h)))))))) g
theorem gw_8 (i : Nat) {w : Cond} (h : tables_1_8[i]? = some w) (g : goodWord w = true) : w ∈ Gw := gw_m (List.mem_append_right _ (List.mem_append_right _ (List.mem_append_right _ (List.mem_append_right _ (List.mem_append_right _ (List.mem_append_right _ (List.mem_append_right _ (List.mem_append_left _ (List.mem_of_getElem? h))))))))) g
theorem gw_9 (i : Nat) {w : Cond} (h : tables_1_9[i]? = some w) (g : goodWord w = true) : w ∈ Gw := gw_m (List.mem_append_right _ (List.mem_append_right _ (List.mem_append_right _ (List.mem_append_right _ (List.mem_append_right _ (List.mem_append_right _ (List.mem_append_right _ (List.mem_append_right _ (List.mem_of_getElem? h))))))))) g
theorem gw_s (i : Nat) {w : Cond} (h : (k2_sels lw_privs)[i]? = some w) (g : goodWord w = true) : w ∈ Gw :=
  List.mem_filter.mpr ⟨List.mem_append_left _ (List.mem_of_getElem? h), g⟩
theorem gw_good {y : MethodName} {b : ByteArray} {n : Nat} {r : Option FieldType} {w : Cond} (h : Cond.code y b n r ∈ Gw) : GoodIn (w :: Gw) (Cond.code y b n r :: Gw) := by
  intro w1 h1
  have h2 : w1 ∈ Gw := by
    rcases List.mem_cons.mp h1 with e | e
    · rw [e]; exact h
    · exact e
  exact ⟨List.mem_cons_of_mem _ h2, good_of_word (List.mem_filter.mp h2).2⟩
def ao (t : FieldType) (U : State) : Prop := (Cond.arrayOver (.array t)).before #[] U = true
theorem ao_moved {t : FieldType} {u U : State} (hvm : u.vm.Alike U.vm) (h : ao t u) : ao t U := by
  obtain ⟨comp, c, k, h1, h2, h3, h4, h5⟩ := arrayOverA_spec h
  obtain ⟨k', hk', he⟩ := hvm.2.2 _ _ h3
  have hi : (U.vm.classes.findIdx? fun (x : Class) => match x.kind with | .array component _ => component == comp | _ => false) = some c := by
    have e1 := va_idx_bare U.vm comp
    have e2 := va_idx_bare u.vm comp
    have e3 : U.vm.bare = u.vm.bare := by first | exact hvm.bare_eq | exact hvm.bare_eq.symm
    rw [e3] at e1
    exact (e1.symm.trans e2).trans h2
  have hkind : k'.kind = .array comp (.array t) := by rw [he]; exact h4
  have f1 : U.vm.findClass (FieldType.array t).toString = some comp := by rw [hvm.findClass]; exact h1
  have f2 : U.vm.findClass ("[" ++ (FieldType.array t).toString) = some c := by rw [hvm.findClass]; exact h5
  unfold ao Cond.before Cond.holds
  simp only [Cond.value]
  rw [f1, Option.bind_some]
  refine (congrArg (fun o : Option Nat => (o.bind (fun c => (U.vm.classes[c]?).map fun (k : Class) => match k.kind with | .array _ ty => decide (ty = FieldType.array t) && decide (U.vm.findClass ("[" ++ (FieldType.array t).toString) = some c) | _ => false) == some true)) hi).trans ?_
  simp [hk', hkind, f2]

def nestL : List (String × Nat × MethodName) := [(RX11, 11, yX7_init), (RX11, 25, yX10_init), (RX10, 11, yX8_init), (RX10, 20, yX0_init), (RX10, 27, yX4_init), (RX11, 32, yX5_init), (RX5, 11, yX3_init), (RX11, 39, yX2_init), (RX11, 46, yX4_init), (RX11, 61, yX8_init), (RX11, 68, yX0_init)]
def tx1 : String := "head span begins reach of loses in carries shut to owner field on shares needs by open swap lend pay flow dry pass when turn owes rich loop end stop "
def tx2 : String := " head span reach owner field begins of loses in carries shut to on shares needs by open swap lend pay flow dry pass when loop end stop turn owes rich "
def sB1 : List Int32 := [104, 101, 97, 100, 32, 115, 112, 97, 110, 32, 98, 101, 103, 105, 110, 115, 32, 114, 101, 97, 99, 104, 32, 111, 102, 32, 108, 111, 115, 101, 115, 32, 105, 110, 32, 99, 97, 114, 114, 105, 101, 115, 32, 115, 104, 117, 116, 32, 116, 111, 32, 111, 119, 110, 101, 114, 32, 102, 105, 101, 108, 100, 32, 111, 110, 32, 115, 104, 97, 114, 101, 115, 32, 110, 101, 101, 100, 115, 32, 98, 121, 32, 111, 112, 101, 110, 32, 115, 119, 97, 112, 32, 108, 101, 110, 100, 32, 112, 97, 121, 32, 102, 108, 111, 119, 32, 100, 114, 121, 32, 112, 97, 115, 115, 32, 119, 104, 101, 110, 32, 116, 117, 114, 110, 32, 111, 119, 101, 115, 32, 114, 105, 99, 104, 32, 108, 111, 111, 112, 32, 101, 110, 100, 32, 115, 116, 111, 112, 32]
def sI1 : List Int := [104, 101, 97, 100, 32, 115, 112, 97, 110, 32, 98, 101, 103, 105, 110, 115, 32, 114, 101, 97, 99, 104, 32, 111, 102, 32, 108, 111, 115, 101, 115, 32, 105, 110, 32, 99, 97, 114, 114, 105, 101, 115, 32, 115, 104, 117, 116, 32, 116, 111, 32, 111, 119, 110, 101, 114, 32, 102, 105, 101, 108, 100, 32, 111, 110, 32, 115, 104, 97, 114, 101, 115, 32, 110, 101, 101, 100, 115, 32, 98, 121, 32, 111, 112, 101, 110, 32, 115, 119, 97, 112, 32, 108, 101, 110, 100, 32, 112, 97, 121, 32, 102, 108, 111, 119, 32, 100, 114, 121, 32, 112, 97, 115, 115, 32, 119, 104, 101, 110, 32, 116, 117, 114, 110, 32, 111, 119, 101, 115, 32, 114, 105, 99, 104, 32, 108, 111, 111, 112, 32, 101, 110, 100, 32, 115, 116, 111, 112, 32]
def sB2 : List Int32 := [32, 104, 101, 97, 100, 32, 115, 112, 97, 110, 32, 114, 101, 97, 99, 104, 32, 111, 119, 110, 101, 114, 32, 102, 105, 101, 108, 100, 32, 98, 101, 103, 105, 110, 115, 32, 111, 102, 32, 108, 111, 115, 101, 115, 32, 105, 110, 32, 99, 97, 114, 114, 105, 101, 115, 32, 115, 104, 117, 116, 32, 116, 111, 32, 111, 110, 32, 115, 104, 97, 114, 101, 115, 32, 110, 101, 101, 100, 115, 32, 98, 121, 32, 111, 112, 101, 110, 32, 115, 119, 97, 112, 32, 108, 101, 110, 100, 32, 112, 97, 121, 32, 102, 108, 111, 119, 32, 100, 114, 121, 32, 112, 97, 115, 115, 32, 119, 104, 101, 110, 32, 108, 111, 111, 112, 32, 101, 110, 100, 32, 115, 116, 111, 112, 32, 116, 117, 114, 110, 32, 111, 119, 101, 115, 32, 114, 105, 99, 104, 32]
def sI2 : List Int := [32, 104, 101, 97, 100, 32, 115, 112, 97, 110, 32, 114, 101, 97, 99, 104, 32, 111, 119, 110, 101, 114, 32, 102, 105, 101, 108, 100, 32, 98, 101, 103, 105, 110, 115, 32, 111, 102, 32, 108, 111, 115, 101, 115, 32, 105, 110, 32, 99, 97, 114, 114, 105, 101, 115, 32, 115, 104, 117, 116, 32, 116, 111, 32, 111, 110, 32, 115, 104, 97, 114, 101, 115, 32, 110, 101, 101, 100, 115, 32, 98, 121, 32, 111, 112, 101, 110, 32, 115, 119, 97, 112, 32, 108, 101, 110, 100, 32, 112, 97, 121, 32, 102, 108, 111, 119, 32, 100, 114, 121, 32, 112, 97, 115, 115, 32, 119, 104, 101, 110, 32, 108, 111, 111, 112, 32, 101, 110, 100, 32, 115, 116, 111, 112, 32, 116, 117, 114, 110, 32, 111, 119, 101, 115, 32, 114, 105, 99, 104, 32]
def sLen : List Nat := [149, 150]
def sByt : List (List Int32) := [sB1, sB2]
def sOf (r : Int) : List Int := if r = -1 then sI1 else sI2
def s_len (r : Int) : Option Int := if r = -1 ∨ r = -2 then some ((sOf r).length) else none
def s_chr (r i : Int) : Option Int := if (r = -1 ∨ r = -2) ∧ 0 ≤ i ∧ i < (sOf r).length then some ((sOf r).getD i.toNat 0) else none
def KS (E : EnvT) (U : State) : Prop := vk_R "WaterTurns$Tape" 54 tx1 (E.2.2.2.1 (-1)) U ∧ vk_R "WaterTurnsModel" 187 tx2 (E.2.2.2.1 (-2)) U ∧ vk_S 2 sLen sByt (fun i => E.2.2.2.1 (-1 - i)) (fun i => E.2.2.2.1 (-11 - i)) (fun q => E.1 ≤ q) U E.2.1 ∧ va_Z "java/lang/String" "COMPACT_STRINGS" "Z" (.int 1) (fun q => E.1 ≤ q) U E.2.1 ∧ (va_Z "jdk/internal/util/Preconditions" "SIOOBE_FORMATTER" "Ljava/util/function/BiFunction;" .null (fun q => E.1 ≤ q) U E.2.1 ∨ va_Z "jdk/internal/util/Preconditions" "SIOOBE_FORMATTER" "Ljava/util/function/BiFunction;" (.ref (E.2.2.2.1 (-4))) (fun q => E.1 ≤ q) U E.2.1)
/-- what holds of the tables at every method's start -/
def KK (E : EnvT) (U : State) : Prop := E.2.2.1.vm.Alike U.vm ∧ (∀ (ci : Nat) (q : vw_C), vwCl[ci]? = some q → u_Kn U q.1 q.2.1 q.2.2 (E.2.2.2.2.1 ci) (E.2.2.2.2.2 ci)) ∧ (∀ ci x y, x < fN ci → y < fN ci → x ≠ y → E.2.2.2.2.2 ci x ≠ E.2.2.2.2.2 ci y) ∧ (∀ q ∈ nestL, va_Nw (.methodLinkNest q.1 q.2.1 q.2.2 "WaterTurns") U) ∧ va_AO "WaterTurns$World" U ∧ ao .int U ∧ ao .long U ∧ KS E U
theorem KK.warm {E : EnvT} {s U : State} (hW : s.WarmedH U.vm) (h : KK E s) : KK E U := by
  obtain ⟨h1, h2, h3, h4, h5, h6, h7, h8, h9, h10, h11, h12⟩ := h
  exact ⟨h1.trans hW.alike, fun ci q hq => u_Kn_moved hW.alike (h2 ci q hq), h3, fun q hq => va_Nw.warmM hW (h4 q hq), va_AO.moved hW.alike h5, ao_moved hW.alike h6, ao_moved hW.alike h7, vk_R.warm hW h8, vk_R.warm hW h9, vk_S.moved hW.alike h10, va_Z.moved hW.alike h11, h12.imp (va_Z.moved hW.alike) (va_Z.moved hW.alike)⟩
theorem KK.same {E : EnvT} {u U : State} (e : U.vm = u.vm) (h : KK E u) : KK E U := by
  obtain ⟨h1, h2, h3, h4, h5, h6, h7, h8, h9, h10, h11, h12⟩ := h
  have ha : u.vm.Alike U.vm := by rw [e]; exact Vm.Alike.refl _
  exact ⟨h1.trans ha, fun ci q hq => u_Kn_moved ha (h2 ci q hq), h3, fun q hq => va_Nw.same rfl e.symm (h4 q hq), va_AO.moved ha h5, ao_moved ha h6, ao_moved ha h7, vk_R.same e h8, vk_R.same e h9, vk_S.moved ha h10, va_Z.moved ha h11, h12.imp (va_Z.moved ha) (va_Z.moved ha)⟩
/-! the machine in a method -/
abbrev Cx : Type := Program × Launch × Env × Room × State × MethodId × Array Value × List Frame × Method × Code × (State → Prop)
abbrev cxW (C : Cx) (H : Heap) (locs : List Loc) (cl sl : Nat) (g : JFrame) : Prop := W C.1 C.2.1 C.2.2.1 C.2.2.2.1 C.2.2.2.2.1 C.2.2.2.2.2.1 C.2.2.2.2.2.2.1 C.2.2.2.2.2.2.2.1 C.2.2.2.2.2.2.2.2.1 C.2.2.2.2.2.2.2.2.2.1 H locs cl sl C.2.2.2.2.2.2.2.2.2.2 g
abbrev cS (C : Cx) : State := C.2.2.2.2.1
abbrev cM (C : Cx) : MethodId := C.2.2.2.2.2.1
abbrev cA (C : Cx) : Array Value := C.2.2.2.2.2.2.1
abbrev cR (C : Cx) : Room := C.2.2.2.1
abbrev cMeth (C : Cx) : Method := C.2.2.2.2.2.2.2.2.1
abbrev cCode (C : Cx) : Code := C.2.2.2.2.2.2.2.2.2.1
def CxOK (E : EnvT) (C : Cx) (cc : ByteArray) (nL : Nat) (own : String) (h mc ms : Nat) : Prop := C.1.tables.exec = Jvm.exec ∧ (cCode C).code = cc ∧ (cCode C).maxLocals = nL ∧ (cS C).vm.findClass own = some (cM C).cls ∧ (∀ w ∈ Gw, w.before (cA C) (cS C) = true) ∧ KK E (cS C) ∧ h ≤ (cR C).frames ∧ 100 * h ≤ (cR C).locals ∧ mc ≤ (cR C).cells ∧ ms ≤ (cR C).slots ∧ E.1 ≤ (cS C).heap.size
def encl (E : EnvT) (ls : List (Nat × Int × Int)) : List (Nat × Value) := ls.map (fun q => (q.1, enc E q.2.1 q.2.2))
def encs (E : EnvT) (st : List (Int × Int)) : List Value := st.map (fun q => enc E q.1 q.2)
def okl (M : Mem) (ls : List (Nat × Int × Int)) : Prop := ∀ q ∈ ls, okx M q.2.1 q.2.2
def oks (M : Mem) (st : List (Int × Int)) : Prop := ∀ q ∈ st, okx M q.1 q.2
/-- from here on the machine does what o says, if o ends in x0 -/
def Bk (E : EnvT) (C : Cx) (nL : Nat) (Mi : Mem) {ρ : Type} (x0 : ρ) (pc : Nat) (ls : List (Nat × Int × Int)) (st : List (Int × Int)) (M : Mem) (cl sl : Nat) (o : Option ρ) : Prop :=
  o = some x0 → Ext Mi M → okl M ls → oks M st → ∀ (H : Heap) (locs : List Loc) (la : Array Slot), HR E M H → (∀ q ∈ locs, E.1 ≤ q.base) → lv_has la nL (encl E ls) → cxW C H locs cl sl (F0 (cM C) pc la (encs E st))
theorem okl_ext {M M' : Mem} (h : Ext M M') {ls : List (Nat × Int × Int)} (ho : okl M ls) : okl M' ls := fun q hq => okx_ext h (ho q hq)
theorem oks_ext {M M' : Mem} (h : Ext M M') {st : List (Int × Int)} (ho : oks M st) : oks M' st := fun q hq => okx_ext h (ho q hq)
theorem oks_c {M : Mem} {k x : Int} {st : List (Int × Int)} : oks M ((k, x) :: st) ↔ okx M k x ∧ oks M st := by
  unfold oks; simp
theorem okl_c {M : Mem} {i : Nat} {k x : Int} {st : List (Nat × Int × Int)} : okl M ((i, k, x) :: st) ↔ okx M k x ∧ okl M st := by
  unfold okl; simp
theorem encl_at {E : EnvT} {ls : List (Nat × Int × Int)} {p i : Nat} {kd x : Int} (h : ls[p]? = some (i, kd, x)) : (encl E ls)[p]? = some (i, enc E kd x) := by
  unfold encl; rw [List.getElem?_map, h]; rfl
theorem okl_at {M : Mem} {ls : List (Nat × Int × Int)} {p i : Nat} {kd x : Int} (ho : okl M ls) (h : ls[p]? = some (i, kd, x)) : okx M kd x := ho _ (List.mem_of_getElem? h)
/-- locals behind a store -/
def lset (ls : List (Nat × Int × Int)) (i : Nat) (kd x : Int) : List (Nat × Int × Int) := (i, kd, x) :: ls.filter (fun q => !(q.1 == i) && !(q.1 + 1 == i && q.2.1 == 1))
def lset2 (ls : List (Nat × Int × Int)) (i : Nat) (x : Int) : List (Nat × Int × Int) := (i, 1, x) :: ls.filter (fun q => !(q.1 == i) && (!(q.1 == i + 1) && !(q.1 + 1 == i && q.2.1 == 1)))
theorem cat_enc (E : EnvT) (kd x : Int) : ((enc E kd x).category == 2) = (kd == 1) := by
  by_cases h : kd = 1
  · subst h; rw [enc_cat2]; rfl
  · rw [enc_cat h]; simp [h]
theorem encl_lset {E : EnvT} {ls : List (Nat × Int × Int)} {i : Nat} {kd x : Int} : (i, enc E kd x) :: (encl E ls).filter (fun q => !(q.1 == i) && !(q.1 + 1 == i && q.2.category == 2)) = encl E (lset ls i kd x) := by
  unfold encl lset
  rw [List.map_cons, List.filter_map]
  congr 2
  refine List.filter_congr fun q _ => ?_
  simp only [Function.comp, cat_enc]
theorem encl_lset2 {E : EnvT} {ls : List (Nat × Int × Int)} {i : Nat} {x : Int} : (i, enc E 1 x) :: (encl E ls).filter (fun q => !(q.1 == i) && (!(q.1 == i + 1) && !(q.1 + 1 == i && q.2.category == 2))) = encl E (lset2 ls i x) := by
  unfold encl lset2
  rw [List.map_cons, List.filter_map]
  congr 2
  refine List.filter_congr fun q _ => ?_
  simp only [Function.comp, cat_enc]
theorem okl_lset {M : Mem} {ls : List (Nat × Int × Int)} {i : Nat} {kd x : Int} (h : okl M ls) (hx : okx M kd x) : okl M (lset ls i kd x) := by
  intro q hq
  rcases List.mem_cons.mp hq with rfl | hq
  · exact hx
  · exact h q (List.mem_filter.mp hq).1
theorem okl_lset2 {M : Mem} {ls : List (Nat × Int × Int)} {i : Nat} {x : Int} (h : okl M ls) (hx : okx M 1 x) : okl M (lset2 ls i x) := by
  intro q hq
  rcases List.mem_cons.mp hq with rfl | hq
  · exact hx
  · exact h q (List.mem_filter.mp hq).1

