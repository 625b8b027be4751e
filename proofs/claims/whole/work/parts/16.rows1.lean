section ROWS
variable {E : EnvT} {C : Cx} {ρ : Type} {x0 : ρ} {Mi M : Mem} {cc : ByteArray} {nL h mc ms cl sl : Nat} {own : String} {ls : List (Nat × Int × Int)} {st : List (Int × Int)} {o : Option ρ}
theorem cxo {x y : Int} (hx : okx M 0 x) : r32 x := okx_0.mp hx

theorem r_iconst (pc : Nat) (hC : CxOK E C cc nL own h mc ms) {n : Int} (hr : r32 n) (hd : decode cc pc = .ok (.iconst n, 1)) (kk : Bk E C nL Mi x0 (pc + 1) ls ((0, n) :: st) M cl sl o) : Bk E C nL Mi x0 pc ls st M cl sl o := by
  intro ho hE hl hs H locs la hH hL hla
  obtain ⟨hx, hb, hn, hown, hts, hKK, -⟩ := hC
  have k := kk ho hE hl (oks_c.mpr ⟨okx_0.mpr hr, hs⟩) H locs la hH hL hla
  simp only [encs, List.map_cons, enc_0] at k ⊢
  exact lv_iconst hx hb hd rfl k
theorem r_bipush (pc : Nat) (hC : CxOK E C cc nL own h mc ms) {n : Int} (hr : (Int8.ofInt n).toInt32 = Int32.ofInt n ∧ r32 n) (hd : decode cc pc = .ok (.bipush n, 2)) (kk : Bk E C nL Mi x0 (pc + 2) ls ((0, n) :: st) M cl sl o) : Bk E C nL Mi x0 pc ls st M cl sl o := by
  intro ho hE hl hs H locs la hH hL hla
  obtain ⟨hx, hb, hn, hown, hts, hKK, -⟩ := hC
  have k := kk ho hE hl (oks_c.mpr ⟨okx_0.mpr hr.2, hs⟩) H locs la hH hL hla
  simp only [encs, List.map_cons, enc_0] at k ⊢
  exact lv_bipush hx hb hd hr.1 k
theorem r_sipush (pc : Nat) (hC : CxOK E C cc nL own h mc ms) {n : Int} (hr : (Int16.ofInt n).toInt32 = Int32.ofInt n ∧ r32 n) (hd : decode cc pc = .ok (.sipush n, 3)) (kk : Bk E C nL Mi x0 (pc + 3) ls ((0, n) :: st) M cl sl o) : Bk E C nL Mi x0 pc ls st M cl sl o := by
  intro ho hE hl hs H locs la hH hL hla
  obtain ⟨hx, hb, hn, hown, hts, hKK, -⟩ := hC
  have k := kk ho hE hl (oks_c.mpr ⟨okx_0.mpr hr.2, hs⟩) H locs la hH hL hla
  simp only [encs, List.map_cons, enc_0] at k ⊢
  exact lv_sipush hx hb hd hr.1 k
theorem r_lconst (pc : Nat) (hC : CxOK E C cc nL own h mc ms) {n : Fin 2} {x : Int} (hr : Int64.ofNat (n : Nat) = Int64.ofInt x ∧ r64 x) (hd : decode cc pc = .ok (.lconst n, 1)) (kk : Bk E C nL Mi x0 (pc + 1) ls ((1, x) :: st) M cl sl o) : Bk E C nL Mi x0 pc ls st M cl sl o := by
  intro ho hE hl hs H locs la hH hL hla
  obtain ⟨hx, hb, hn, hown, hts, hKK, -⟩ := hC
  have k := kk ho hE hl (oks_c.mpr ⟨okx_1.mpr hr.2, hs⟩) H locs la hH hL hla
  simp only [encs, List.map_cons, enc_1] at k ⊢
  exact lv_lconst hx hb hd hr.1 k
theorem r_ldc (pc : Nat) (hC : CxOK E C cc nL own h mc ms) {i : Nat} {v : Int32} {x : Int} (hw : Cond.constant own i v ∈ Gw) (hv : v = Int32.ofInt x ∧ r32 x) (hd : decode cc pc = .ok (.ldc i, 2)) (kk : Bk E C nL Mi x0 (pc + 2) ls ((0, x) :: st) M cl sl o) : Bk E C nL Mi x0 pc ls st M cl sl o := by
  intro ho hE hl hs H locs la hH hL hla
  obtain ⟨hx, hb, hn, hown, hts, hKK, -⟩ := hC
  have k := kk ho hE hl (oks_c.mpr ⟨okx_0.mpr hv.2, hs⟩) H locs la hH hL hla
  simp only [encs, List.map_cons, enc_0] at k ⊢
  rw [← hv.1] at k
  exact lv_ldc hx hb hown (hts _ hw) hd k
theorem r_ldcw (pc : Nat) (hC : CxOK E C cc nL own h mc ms) {i : Nat} {v : Int32} {x : Int} (hw : Cond.constant own i v ∈ Gw) (hv : v = Int32.ofInt x ∧ r32 x) (hd : decode cc pc = .ok (.ldc_w i, 3)) (kk : Bk E C nL Mi x0 (pc + 3) ls ((0, x) :: st) M cl sl o) : Bk E C nL Mi x0 pc ls st M cl sl o := by
  intro ho hE hl hs H locs la hH hL hla
  obtain ⟨hx, hb, hn, hown, hts, hKK, -⟩ := hC
  have k := kk ho hE hl (oks_c.mpr ⟨okx_0.mpr hv.2, hs⟩) H locs la hH hL hla
  simp only [encs, List.map_cons, enc_0] at k ⊢
  rw [← hv.1] at k
  exact lv_ldcw hx hb hown (hts _ hw) hd k
theorem r_ldc2 (pc : Nat) (hC : CxOK E C cc nL own h mc ms) {i : Nat} {v : Int64} {x : Int} (hw : Cond.constantLong own i v ∈ Gw) (hv : v = Int64.ofInt x ∧ r64 x) (hd : decode cc pc = .ok (.ldc2_w i, 3)) (kk : Bk E C nL Mi x0 (pc + 3) ls ((1, x) :: st) M cl sl o) : Bk E C nL Mi x0 pc ls st M cl sl o := by
  intro ho hE hl hs H locs la hH hL hla
  obtain ⟨hx, hb, hn, hown, hts, hKK, -⟩ := hC
  have k := kk ho hE hl (oks_c.mpr ⟨okx_1.mpr hv.2, hs⟩) H locs la hH hL hla
  simp only [encs, List.map_cons, enc_1] at k ⊢
  rw [← hv.1] at k
  exact lv_ldc2 hx hb hown (hts _ hw) hd k
theorem r_iload_n (pc : Nat) (hC : CxOK E C cc nL own h mc ms) {kf : Fin 4} {i : Nat} {x : Int} (p : Nat) (hi : (kf : Nat) = i) (hp : ls[p]? = some (i, 0, x)) (hd : decode cc pc = .ok (.iload_n kf, 1)) (kk : Bk E C nL Mi x0 (pc + 1) ls ((0, x) :: st) M cl sl o) : Bk E C nL Mi x0 pc ls st M cl sl o := by
  intro ho hE hl hs H locs la hH hL hla
  obtain ⟨hx, hb, hn, hown, hts, hKK, -⟩ := hC
  have k := kk ho hE hl (oks_c.mpr ⟨okl_at hl hp, hs⟩) H locs la hH hL hla
  have hv := lv_at hla p (encl_at hp)
  simp only [encs, List.map_cons, enc_0] at k hv ⊢
  exact lv_iload_n hx hb hd hi hv k
theorem r_iload (pc : Nat) (hC : CxOK E C cc nL own h mc ms) {i : Nat} {x : Int} (p : Nat) (hp : ls[p]? = some (i, 0, x)) (hd : decode cc pc = .ok (.iload i, 2)) (kk : Bk E C nL Mi x0 (pc + 2) ls ((0, x) :: st) M cl sl o) : Bk E C nL Mi x0 pc ls st M cl sl o := by
  intro ho hE hl hs H locs la hH hL hla
  obtain ⟨hx, hb, hn, hown, hts, hKK, -⟩ := hC
  have k := kk ho hE hl (oks_c.mpr ⟨okl_at hl hp, hs⟩) H locs la hH hL hla
  have hv := lv_at hla p (encl_at hp)
  simp only [encs, List.map_cons, enc_0] at k hv ⊢
  exact lv_iload hx hb hd hv k
theorem r_lload_n (pc : Nat) (hC : CxOK E C cc nL own h mc ms) {kf : Fin 4} {i : Nat} {x : Int} (p : Nat) (hi : (kf : Nat) = i) (hp : ls[p]? = some (i, 1, x)) (hd : decode cc pc = .ok (.lload_n kf, 1)) (kk : Bk E C nL Mi x0 (pc + 1) ls ((1, x) :: st) M cl sl o) : Bk E C nL Mi x0 pc ls st M cl sl o := by
  intro ho hE hl hs H locs la hH hL hla
  obtain ⟨hx, hb, hn, hown, hts, hKK, -⟩ := hC
  have k := kk ho hE hl (oks_c.mpr ⟨okl_at hl hp, hs⟩) H locs la hH hL hla
  have hv := lv_at hla p (encl_at hp)
  simp only [encs, List.map_cons, enc_1] at k hv ⊢
  exact lv_lload_n hx hb hd hi hv k
theorem r_lload (pc : Nat) (hC : CxOK E C cc nL own h mc ms) {i : Nat} {x : Int} (p : Nat) (hp : ls[p]? = some (i, 1, x)) (hd : decode cc pc = .ok (.lload i, 2)) (kk : Bk E C nL Mi x0 (pc + 2) ls ((1, x) :: st) M cl sl o) : Bk E C nL Mi x0 pc ls st M cl sl o := by
  intro ho hE hl hs H locs la hH hL hla
  obtain ⟨hx, hb, hn, hown, hts, hKK, -⟩ := hC
  have k := kk ho hE hl (oks_c.mpr ⟨okl_at hl hp, hs⟩) H locs la hH hL hla
  have hv := lv_at hla p (encl_at hp)
  simp only [encs, List.map_cons, enc_1] at k hv ⊢
  exact lv_lload hx hb hd hv k
theorem enc_ref {E : EnvT} {kd x : Int} (hk : 10 ≤ kd ∨ kd = 2) : enc E kd x = .null ∨ ∃ a, enc E kd x = .ref a := by
  unfold enc; rw [if_neg (by omega), if_pos hk]; unfold rf
  split
  · exact Or.inl rfl
  · split <;> exact Or.inr ⟨_, rfl⟩
theorem r_aload_n (pc : Nat) (hC : CxOK E C cc nL own h mc ms) {kf : Fin 4} {i : Nat} {kd x : Int} (p : Nat) (hi : (kf : Nat) = i) (hk : 10 ≤ kd ∨ kd = 2) (hp : ls[p]? = some (i, kd, x)) (hd : decode cc pc = .ok (.aload_n kf, 1)) (kk : Bk E C nL Mi x0 (pc + 1) ls ((kd, x) :: st) M cl sl o) : Bk E C nL Mi x0 pc ls st M cl sl o := by
  intro ho hE hl hs H locs la hH hL hla
  obtain ⟨hx, hb, hn, hown, hts, hKK, -⟩ := hC
  have k := kk ho hE hl (oks_c.mpr ⟨okl_at hl hp, hs⟩) H locs la hH hL hla
  have hv := lv_at hla p (encl_at hp)
  simp only [encs, List.map_cons] at k hv ⊢
  rcases enc_ref (E := E) (x := x) hk with e | ⟨a, e⟩
  · rw [e] at k hv
    exact lv_aload_nN hx hb hd hi hv k
  · rw [e] at k hv
    exact lv_aload_n hx hb hd hi hv k
theorem r_aload (pc : Nat) (hC : CxOK E C cc nL own h mc ms) {i : Nat} {kd x : Int} (p : Nat) (hk : 10 ≤ kd ∨ kd = 2) (hp : ls[p]? = some (i, kd, x)) (hd : decode cc pc = .ok (.aload i, 2)) (kk : Bk E C nL Mi x0 (pc + 2) ls ((kd, x) :: st) M cl sl o) : Bk E C nL Mi x0 pc ls st M cl sl o := by
  intro ho hE hl hs H locs la hH hL hla
  obtain ⟨hx, hb, hn, hown, hts, hKK, -⟩ := hC
  have k := kk ho hE hl (oks_c.mpr ⟨okl_at hl hp, hs⟩) H locs la hH hL hla
  have hv := lv_at hla p (encl_at hp)
  simp only [encs, List.map_cons] at k hv ⊢
  rcases enc_ref (E := E) (x := x) hk with e | ⟨a, e⟩
  · rw [e] at k hv
    exact lv_aloadN hx hb hd hv k
  · rw [e] at k hv
    exact lv_aload hx hb hd hv k
theorem r_istore_n (pc : Nat) (hC : CxOK E C cc nL own h mc ms) {kf : Fin 4} {i : Nat} {x : Int} (hi : (kf : Nat) = i) (hnl : i < nL) (hd : decode cc pc = .ok (.istore_n kf, 1)) (kk : Bk E C nL Mi x0 (pc + 1) (lset ls i 0 x) st M cl sl o) : Bk E C nL Mi x0 pc ls ((0, x) :: st) M cl sl o := by
  intro ho hE hl hs H locs la hH hL hla
  obtain ⟨hx, hb, hn, hown, hts, hKK, -⟩ := hC
  rw [oks_c] at hs
  have k0 := kk ho hE
  have e0 := encl_lset (E := E) (ls := ls) (i := i) (kd := 0) (x := x)
  simp only [encs, List.map_cons, enc_0] at k0 e0 ⊢
  exact lv_istore_n hx hb hd hi hla hnl e0 (fun la2 hla2 => k0 (okl_lset hl hs.1) hs.2 H locs la2 hH hL hla2)
theorem r_istore_nL (pc : Nat) (hC : CxOK E C cc nL own h mc ms) {kf : Fin 4} {i : Nat} {x : Int} (hi : (kf : Nat) = i) (hnl : i < nL) (hd : decode cc pc = .ok (.istore_n kf, 1)) {f : Int → Option ρ} (kk : ∀ y, Bk E C nL Mi x0 (pc + 1) (lset ls i 0 y) st M cl sl (f y)) : Bk E C nL Mi x0 pc ls ((0, x) :: st) M cl sl (letv x f) := by
  intro ho hE hl hs H locs la hH hL hla
  obtain ⟨hx, hb, hn, hown, hts, hKK, -⟩ := hC
  rw [oks_c] at hs
  have k0 := kk x ho hE
  have e0 := encl_lset (E := E) (ls := ls) (i := i) (kd := 0) (x := x)
  simp only [encs, List.map_cons, enc_0] at k0 e0 ⊢
  exact lv_istore_n hx hb hd hi hla hnl e0 (fun la2 hla2 => k0 (okl_lset hl hs.1) hs.2 H locs la2 hH hL hla2)
theorem r_lstore_n (pc : Nat) (hC : CxOK E C cc nL own h mc ms) {kf : Fin 4} {i : Nat} {x : Int} (hi : (kf : Nat) = i) (hnl : i + 1 < nL) (hd : decode cc pc = .ok (.lstore_n kf, 1)) (kk : Bk E C nL Mi x0 (pc + 1) (lset2 ls i x) st M cl sl o) : Bk E C nL Mi x0 pc ls ((1, x) :: st) M cl sl o := by
  intro ho hE hl hs H locs la hH hL hla
  obtain ⟨hx, hb, hn, hown, hts, hKK, -⟩ := hC
  rw [oks_c] at hs
  have k0 := kk ho hE
  have e0 := encl_lset2 (E := E) (ls := ls) (i := i) (x := x)
  simp only [encs, List.map_cons, enc_1] at k0 e0 ⊢
  exact lv_lstore_n hx hb hd hi hla hnl e0 (fun la2 hla2 => k0 (okl_lset2 hl hs.1) hs.2 H locs la2 hH hL hla2)
theorem r_lstore_nL (pc : Nat) (hC : CxOK E C cc nL own h mc ms) {kf : Fin 4} {i : Nat} {x : Int} (hi : (kf : Nat) = i) (hnl : i + 1 < nL) (hd : decode cc pc = .ok (.lstore_n kf, 1)) {f : Int → Option ρ} (kk : ∀ y, Bk E C nL Mi x0 (pc + 1) (lset2 ls i y) st M cl sl (f y)) : Bk E C nL Mi x0 pc ls ((1, x) :: st) M cl sl (letv x f) := by
  intro ho hE hl hs H locs la hH hL hla
  obtain ⟨hx, hb, hn, hown, hts, hKK, -⟩ := hC
  rw [oks_c] at hs
  have k0 := kk x ho hE
  have e0 := encl_lset2 (E := E) (ls := ls) (i := i) (x := x)
  simp only [encs, List.map_cons, enc_1] at k0 e0 ⊢
  exact lv_lstore_n hx hb hd hi hla hnl e0 (fun la2 hla2 => k0 (okl_lset2 hl hs.1) hs.2 H locs la2 hH hL hla2)
theorem r_astore_n (pc : Nat) (hC : CxOK E C cc nL own h mc ms) {kf : Fin 4} {i : Nat} {kd : Int} {x : Int} (hi : (kf : Nat) = i) (hk : 10 ≤ kd ∨ kd = 2) (hnl : i < nL) (hd : decode cc pc = .ok (.astore_n kf, 1)) (kk : Bk E C nL Mi x0 (pc + 1) (lset ls i kd x) st M cl sl o) : Bk E C nL Mi x0 pc ls ((kd, x) :: st) M cl sl o := by
  intro ho hE hl hs H locs la hH hL hla
  obtain ⟨hx, hb, hn, hown, hts, hKK, -⟩ := hC
  rw [oks_c] at hs
  have k0 := kk ho hE
  have e0 := encl_lset (E := E) (ls := ls) (i := i) (kd := kd) (x := x)
  simp only [encs, List.map_cons] at k0 ⊢
  rcases enc_ref (E := E) (x := x) hk with e | ⟨a, e⟩
  · rw [e] at e0 ⊢
    exact lv_astore_nN hx hb hd hi hla hnl e0 (fun la2 hla2 => k0 (okl_lset hl hs.1) hs.2 H locs la2 hH hL hla2)
  · rw [e] at e0 ⊢
    exact lv_astore_n hx hb hd hi hla hnl e0 (fun la2 hla2 => k0 (okl_lset hl hs.1) hs.2 H locs la2 hH hL hla2)
theorem r_istore (pc : Nat) (hC : CxOK E C cc nL own h mc ms) {i : Nat} {x : Int} (hnl : i < nL) (hd : decode cc pc = .ok (.istore i, 2)) (kk : Bk E C nL Mi x0 (pc + 2) (lset ls i 0 x) st M cl sl o) : Bk E C nL Mi x0 pc ls ((0, x) :: st) M cl sl o := by
  intro ho hE hl hs H locs la hH hL hla
  obtain ⟨hx, hb, hn, hown, hts, hKK, -⟩ := hC
  rw [oks_c] at hs
  have k0 := kk ho hE
  have e0 := encl_lset (E := E) (ls := ls) (i := i) (kd := 0) (x := x)
  simp only [encs, List.map_cons, enc_0] at k0 e0 ⊢
  exact lv_istore hx hb hd hla hnl e0 (fun la2 hla2 => k0 (okl_lset hl hs.1) hs.2 H locs la2 hH hL hla2)
theorem r_istoreL (pc : Nat) (hC : CxOK E C cc nL own h mc ms) {i : Nat} {x : Int} (hnl : i < nL) (hd : decode cc pc = .ok (.istore i, 2)) {f : Int → Option ρ} (kk : ∀ y, Bk E C nL Mi x0 (pc + 2) (lset ls i 0 y) st M cl sl (f y)) : Bk E C nL Mi x0 pc ls ((0, x) :: st) M cl sl (letv x f) := by
  intro ho hE hl hs H locs la hH hL hla
  obtain ⟨hx, hb, hn, hown, hts, hKK, -⟩ := hC
  rw [oks_c] at hs
  have k0 := kk x ho hE
  have e0 := encl_lset (E := E) (ls := ls) (i := i) (kd := 0) (x := x)
  simp only [encs, List.map_cons, enc_0] at k0 e0 ⊢
  exact lv_istore hx hb hd hla hnl e0 (fun la2 hla2 => k0 (okl_lset hl hs.1) hs.2 H locs la2 hH hL hla2)
theorem r_lstore (pc : Nat) (hC : CxOK E C cc nL own h mc ms) {i : Nat} {x : Int} (hnl : i + 1 < nL) (hd : decode cc pc = .ok (.lstore i, 2)) (kk : Bk E C nL Mi x0 (pc + 2) (lset2 ls i x) st M cl sl o) : Bk E C nL Mi x0 pc ls ((1, x) :: st) M cl sl o := by
  intro ho hE hl hs H locs la hH hL hla
  obtain ⟨hx, hb, hn, hown, hts, hKK, -⟩ := hC
  rw [oks_c] at hs
  have k0 := kk ho hE
  have e0 := encl_lset2 (E := E) (ls := ls) (i := i) (x := x)
  simp only [encs, List.map_cons, enc_1] at k0 e0 ⊢
  exact lv_lstore hx hb hd hla hnl e0 (fun la2 hla2 => k0 (okl_lset2 hl hs.1) hs.2 H locs la2 hH hL hla2)
theorem r_lstoreL (pc : Nat) (hC : CxOK E C cc nL own h mc ms) {i : Nat} {x : Int} (hnl : i + 1 < nL) (hd : decode cc pc = .ok (.lstore i, 2)) {f : Int → Option ρ} (kk : ∀ y, Bk E C nL Mi x0 (pc + 2) (lset2 ls i y) st M cl sl (f y)) : Bk E C nL Mi x0 pc ls ((1, x) :: st) M cl sl (letv x f) := by
  intro ho hE hl hs H locs la hH hL hla
  obtain ⟨hx, hb, hn, hown, hts, hKK, -⟩ := hC
  rw [oks_c] at hs
  have k0 := kk x ho hE
  have e0 := encl_lset2 (E := E) (ls := ls) (i := i) (x := x)
  simp only [encs, List.map_cons, enc_1] at k0 e0 ⊢
  exact lv_lstore hx hb hd hla hnl e0 (fun la2 hla2 => k0 (okl_lset2 hl hs.1) hs.2 H locs la2 hH hL hla2)
theorem r_astore (pc : Nat) (hC : CxOK E C cc nL own h mc ms) {i : Nat} {kd : Int} {x : Int} (hk : 10 ≤ kd ∨ kd = 2) (hnl : i < nL) (hd : decode cc pc = .ok (.astore i, 2)) (kk : Bk E C nL Mi x0 (pc + 2) (lset ls i kd x) st M cl sl o) : Bk E C nL Mi x0 pc ls ((kd, x) :: st) M cl sl o := by
  intro ho hE hl hs H locs la hH hL hla
  obtain ⟨hx, hb, hn, hown, hts, hKK, -⟩ := hC
  rw [oks_c] at hs
  have k0 := kk ho hE
  have e0 := encl_lset (E := E) (ls := ls) (i := i) (kd := kd) (x := x)
  simp only [encs, List.map_cons] at k0 ⊢
  rcases enc_ref (E := E) (x := x) hk with e | ⟨a, e⟩
  · rw [e] at e0 ⊢
    exact lv_astoreN hx hb hd hla hnl e0 (fun la2 hla2 => k0 (okl_lset hl hs.1) hs.2 H locs la2 hH hL hla2)
  · rw [e] at e0 ⊢
    exact lv_astore hx hb hd hla hnl e0 (fun la2 hla2 => k0 (okl_lset hl hs.1) hs.2 H locs la2 hH hL hla2)
theorem r_iinc (pc : Nat) (hC : CxOK E C cc nL own h mc ms) {i : Nat} {n x : Int} (p : Nat) (hp : ls[p]? = some (i, 0, x)) (hnl : i < nL) (hd : decode cc pc = .ok (.iinc i n, 3)) (kk : Bk E C nL Mi x0 (pc + 3) (lset ls i 0 (w32 (x + n))) st M cl sl o) : Bk E C nL Mi x0 pc ls st M cl sl o := by
  intro ho hE hl hs H locs la hH hL hla
  obtain ⟨hx, hb, hn, hown, hts, hKK, -⟩ := hC
  have k0 := kk ho hE
  have e0 := encl_lset (E := E) (ls := ls) (i := i) (kd := 0) (x := w32 (x + n))
  have hv := encl_at (E := E) hp
  simp only [encs, enc_0] at k0 e0 hv ⊢
  exact lv_iinc hx hb hd hla hv (a_iadd x n) hnl e0 (fun la2 hla2 => k0 (okl_lset hl (okx_0.mpr (r32_w _))) hs H locs la2 hH hL hla2)
theorem r_iadd (pc : Nat) (hC : CxOK E C cc nL own h mc ms) {a b : Int} (hd : decode cc pc = .ok (.iadd, 1)) (kk : Bk E C nL Mi x0 (pc + 1) ls ((0, w32 (a + b)) :: st) M cl sl o) : Bk E C nL Mi x0 pc ls ((0, b) :: (0, a) :: st) M cl sl o := by
  intro ho hE hl hs H locs la hH hL hla
  obtain ⟨hx, hb, hn, hown, hts, hKK, -⟩ := hC
  rw [oks_c, oks_c] at hs
  have k := kk ho hE hl (oks_c.mpr ⟨okx_0.mpr (r32_w _), hs.2.2⟩) H locs la hH hL hla
  simp only [encs, List.map_cons, enc_0] at k ⊢
  rw [← a_iadd] at k
  exact lv_iadd hx hb hd k
theorem r_isub (pc : Nat) (hC : CxOK E C cc nL own h mc ms) {a b : Int} (hd : decode cc pc = .ok (.isub, 1)) (kk : Bk E C nL Mi x0 (pc + 1) ls ((0, w32 (a - b)) :: st) M cl sl o) : Bk E C nL Mi x0 pc ls ((0, b) :: (0, a) :: st) M cl sl o := by
  intro ho hE hl hs H locs la hH hL hla
  obtain ⟨hx, hb, hn, hown, hts, hKK, -⟩ := hC
  rw [oks_c, oks_c] at hs
  have k := kk ho hE hl (oks_c.mpr ⟨okx_0.mpr (r32_w _), hs.2.2⟩) H locs la hH hL hla
  simp only [encs, List.map_cons, enc_0] at k ⊢
  rw [← a_isub] at k
  exact lv_isub hx hb hd k
theorem r_imul (pc : Nat) (hC : CxOK E C cc nL own h mc ms) {a b : Int} (hd : decode cc pc = .ok (.imul, 1)) (kk : Bk E C nL Mi x0 (pc + 1) ls ((0, w32 (a * b)) :: st) M cl sl o) : Bk E C nL Mi x0 pc ls ((0, b) :: (0, a) :: st) M cl sl o := by
  intro ho hE hl hs H locs la hH hL hla
  obtain ⟨hx, hb, hn, hown, hts, hKK, -⟩ := hC
  rw [oks_c, oks_c] at hs
  have k := kk ho hE hl (oks_c.mpr ⟨okx_0.mpr (r32_w _), hs.2.2⟩) H locs la hH hL hla
  simp only [encs, List.map_cons, enc_0] at k ⊢
  rw [← a_imul (okx_0.mp hs.2.1) (okx_0.mp hs.1)] at k
  exact lv_imul hx hb hd k
theorem r_ladd (pc : Nat) (hC : CxOK E C cc nL own h mc ms) {a b : Int} (hd : decode cc pc = .ok (.ladd, 1)) (kk : Bk E C nL Mi x0 (pc + 1) ls ((1, w64 (a + b)) :: st) M cl sl o) : Bk E C nL Mi x0 pc ls ((1, b) :: (1, a) :: st) M cl sl o := by
  intro ho hE hl hs H locs la hH hL hla
  obtain ⟨hx, hb, hn, hown, hts, hKK, -⟩ := hC
  rw [oks_c, oks_c] at hs
  have k := kk ho hE hl (oks_c.mpr ⟨okx_1.mpr (r64_w _), hs.2.2⟩) H locs la hH hL hla
  simp only [encs, List.map_cons, enc_1] at k ⊢
  rw [← a_ladd] at k
  exact lv_ladd hx hb hd k
theorem r_lsub (pc : Nat) (hC : CxOK E C cc nL own h mc ms) {a b : Int} (hd : decode cc pc = .ok (.lsub, 1)) (kk : Bk E C nL Mi x0 (pc + 1) ls ((1, w64 (a - b)) :: st) M cl sl o) : Bk E C nL Mi x0 pc ls ((1, b) :: (1, a) :: st) M cl sl o := by
  intro ho hE hl hs H locs la hH hL hla
  obtain ⟨hx, hb, hn, hown, hts, hKK, -⟩ := hC
  rw [oks_c, oks_c] at hs
  have k := kk ho hE hl (oks_c.mpr ⟨okx_1.mpr (r64_w _), hs.2.2⟩) H locs la hH hL hla
  simp only [encs, List.map_cons, enc_1] at k ⊢
  rw [← a_lsub] at k
  exact lv_lsub hx hb hd k
theorem r_lmul (pc : Nat) (hC : CxOK E C cc nL own h mc ms) {a b : Int} (hd : decode cc pc = .ok (.lmul, 1)) (kk : Bk E C nL Mi x0 (pc + 1) ls ((1, w64 (a * b)) :: st) M cl sl o) : Bk E C nL Mi x0 pc ls ((1, b) :: (1, a) :: st) M cl sl o := by
  intro ho hE hl hs H locs la hH hL hla
  obtain ⟨hx, hb, hn, hown, hts, hKK, -⟩ := hC
  rw [oks_c, oks_c] at hs
  have k := kk ho hE hl (oks_c.mpr ⟨okx_1.mpr (r64_w _), hs.2.2⟩) H locs la hH hL hla
  simp only [encs, List.map_cons, enc_1] at k ⊢
  rw [← a_lmul (okx_1.mp hs.2.1) (okx_1.mp hs.1)] at k
  exact lv_lmul hx hb hd k
theorem r_iand (pc : Nat) (hC : CxOK E C cc nL own h mc ms) {a b : Int} (hd : decode cc pc = .ok (.iand, 1)) (kk : Bk E C nL Mi x0 (pc + 1) ls ((0, iandv a b) :: st) M cl sl o) : Bk E C nL Mi x0 pc ls ((0, b) :: (0, a) :: st) M cl sl o := by
  intro ho hE hl hs H locs la hH hL hla
  obtain ⟨hx, hb, hn, hown, hts, hKK, -⟩ := hC
  rw [oks_c, oks_c] at hs
  have k := kk ho hE hl (oks_c.mpr ⟨okx_0.mpr (r32_toInt _), hs.2.2⟩) H locs la hH hL hla
  simp only [encs, List.map_cons, enc_0] at k ⊢
  rw [show Int32.ofInt (iandv a b) = _ from (of32_of rfl).symm] at k
  exact lv_iand hx hb hd k
theorem r_ior (pc : Nat) (hC : CxOK E C cc nL own h mc ms) {a b : Int} (hd : decode cc pc = .ok (.ior, 1)) (kk : Bk E C nL Mi x0 (pc + 1) ls ((0, iorv a b) :: st) M cl sl o) : Bk E C nL Mi x0 pc ls ((0, b) :: (0, a) :: st) M cl sl o := by
  intro ho hE hl hs H locs la hH hL hla
  obtain ⟨hx, hb, hn, hown, hts, hKK, -⟩ := hC
  rw [oks_c, oks_c] at hs
  have k := kk ho hE hl (oks_c.mpr ⟨okx_0.mpr (r32_toInt _), hs.2.2⟩) H locs la hH hL hla
  simp only [encs, List.map_cons, enc_0] at k ⊢
  rw [show Int32.ofInt (iorv a b) = _ from (of32_of rfl).symm] at k
  exact lv_ior hx hb hd k
theorem r_ixor (pc : Nat) (hC : CxOK E C cc nL own h mc ms) {a b : Int} (hd : decode cc pc = .ok (.ixor, 1)) (kk : Bk E C nL Mi x0 (pc + 1) ls ((0, ixorv a b) :: st) M cl sl o) : Bk E C nL Mi x0 pc ls ((0, b) :: (0, a) :: st) M cl sl o := by
  intro ho hE hl hs H locs la hH hL hla
  obtain ⟨hx, hb, hn, hown, hts, hKK, -⟩ := hC
  rw [oks_c, oks_c] at hs
  have k := kk ho hE hl (oks_c.mpr ⟨okx_0.mpr (r32_toInt _), hs.2.2⟩) H locs la hH hL hla
  simp only [encs, List.map_cons, enc_0] at k ⊢
  rw [show Int32.ofInt (ixorv a b) = _ from (of32_of rfl).symm] at k
  exact lv_ixor hx hb hd k
theorem r_ishl (pc : Nat) (hC : CxOK E C cc nL own h mc ms) {a b : Int} (hd : decode cc pc = .ok (.ishl, 1)) (kk : Bk E C nL Mi x0 (pc + 1) ls ((0, ishlv a b) :: st) M cl sl o) : Bk E C nL Mi x0 pc ls ((0, b) :: (0, a) :: st) M cl sl o := by
  intro ho hE hl hs H locs la hH hL hla
  obtain ⟨hx, hb, hn, hown, hts, hKK, -⟩ := hC
  rw [oks_c, oks_c] at hs
  have k := kk ho hE hl (oks_c.mpr ⟨okx_0.mpr (r32_toInt _), hs.2.2⟩) H locs la hH hL hla
  simp only [encs, List.map_cons, enc_0] at k ⊢
  rw [show Int32.ofInt (ishlv a b) = _ from (of32_of rfl).symm] at k
  exact lv_ishl hx hb hd k
theorem r_ishr (pc : Nat) (hC : CxOK E C cc nL own h mc ms) {a b : Int} (hd : decode cc pc = .ok (.ishr, 1)) (kk : Bk E C nL Mi x0 (pc + 1) ls ((0, ishrv a b) :: st) M cl sl o) : Bk E C nL Mi x0 pc ls ((0, b) :: (0, a) :: st) M cl sl o := by
  intro ho hE hl hs H locs la hH hL hla
  obtain ⟨hx, hb, hn, hown, hts, hKK, -⟩ := hC
  rw [oks_c, oks_c] at hs
  have k := kk ho hE hl (oks_c.mpr ⟨okx_0.mpr (r32_toInt _), hs.2.2⟩) H locs la hH hL hla
  simp only [encs, List.map_cons, enc_0] at k ⊢
  rw [show Int32.ofInt (ishrv a b) = _ from (of32_of rfl).symm] at k
  exact lv_ishr hx hb hd k
theorem r_land (pc : Nat) (hC : CxOK E C cc nL own h mc ms) {a b : Int} (hd : decode cc pc = .ok (.land, 1)) (kk : Bk E C nL Mi x0 (pc + 1) ls ((1, landv a b) :: st) M cl sl o) : Bk E C nL Mi x0 pc ls ((1, b) :: (1, a) :: st) M cl sl o := by
  intro ho hE hl hs H locs la hH hL hla
  obtain ⟨hx, hb, hn, hown, hts, hKK, -⟩ := hC
  rw [oks_c, oks_c] at hs
  have k := kk ho hE hl (oks_c.mpr ⟨okx_1.mpr (r64_toInt _), hs.2.2⟩) H locs la hH hL hla
  simp only [encs, List.map_cons, enc_1] at k ⊢
  rw [show Int64.ofInt (landv a b) = _ from (of64_of rfl).symm] at k
  exact lv_land hx hb hd k
theorem r_lor (pc : Nat) (hC : CxOK E C cc nL own h mc ms) {a b : Int} (hd : decode cc pc = .ok (.lor, 1)) (kk : Bk E C nL Mi x0 (pc + 1) ls ((1, lorv a b) :: st) M cl sl o) : Bk E C nL Mi x0 pc ls ((1, b) :: (1, a) :: st) M cl sl o := by
  intro ho hE hl hs H locs la hH hL hla
  obtain ⟨hx, hb, hn, hown, hts, hKK, -⟩ := hC
  rw [oks_c, oks_c] at hs
  have k := kk ho hE hl (oks_c.mpr ⟨okx_1.mpr (r64_toInt _), hs.2.2⟩) H locs la hH hL hla
  simp only [encs, List.map_cons, enc_1] at k ⊢
  rw [show Int64.ofInt (lorv a b) = _ from (of64_of rfl).symm] at k
  exact lv_lor hx hb hd k
theorem r_lshl (pc : Nat) (hC : CxOK E C cc nL own h mc ms) {a b : Int} (hd : decode cc pc = .ok (.lshl, 1)) (kk : Bk E C nL Mi x0 (pc + 1) ls ((1, lshlv a b) :: st) M cl sl o) : Bk E C nL Mi x0 pc ls ((0, b) :: (1, a) :: st) M cl sl o := by
  intro ho hE hl hs H locs la hH hL hla
  obtain ⟨hx, hb, hn, hown, hts, hKK, -⟩ := hC
  rw [oks_c, oks_c] at hs
  have k := kk ho hE hl (oks_c.mpr ⟨okx_1.mpr (r64_toInt _), hs.2.2⟩) H locs la hH hL hla
  simp only [encs, List.map_cons, enc_0, enc_1] at k ⊢
  exact lv_lshl hx hb hd (of64_of rfl) k
theorem r_lcmp (pc : Nat) (hC : CxOK E C cc nL own h mc ms) {a b : Int} (hd : decode cc pc = .ok (.lcmp, 1)) (kk : Bk E C nL Mi x0 (pc + 1) ls ((0, lcmpv a b) :: st) M cl sl o) : Bk E C nL Mi x0 pc ls ((1, b) :: (1, a) :: st) M cl sl o := by
  intro ho hE hl hs H locs la hH hL hla
  obtain ⟨hx, hb, hn, hown, hts, hKK, -⟩ := hC
  rw [oks_c, oks_c] at hs
  have k := kk ho hE hl (oks_c.mpr ⟨okx_0.mpr (by unfold lcmpv r32; split <;> (try split) <;> omega), hs.2.2⟩) H locs la hH hL hla
  simp only [encs, List.map_cons, enc_0, enc_1] at k ⊢
  rw [← a_lcmp (okx_1.mp hs.2.1) (okx_1.mp hs.1)] at k
  exact W.lcmp hx hb hd k
theorem r_idiv (pc : Nat) (hC : CxOK E C cc nL own h mc ms) {a b : Int} {f : Int → Option ρ} (hd : decode cc pc = .ok (.idiv, 1)) (kk : ∀ y, Bk E C nL Mi x0 (pc + 1) ls ((0, y) :: st) M cl sl (f y)) : Bk E C nL Mi x0 pc ls ((0, b) :: (0, a) :: st) M cl sl (idivc a b f) := by
  intro ho hE hl hs H locs la hH hL hla
  obtain ⟨hx, hb, hn, hown, hts, hKK, -⟩ := hC
  rw [oks_c, oks_c] at hs
  unfold idivc at ho
  by_cases hz : b = 0
  · rw [if_pos hz] at ho; cases ho
  rw [if_neg hz] at ho
  have k := kk _ ho hE hl (oks_c.mpr ⟨okx_0.mpr (r32_w _), hs.2.2⟩) H locs la hH hL hla
  simp only [encs, List.map_cons, enc_0] at k ⊢
  rw [← a_idiv (okx_0.mp hs.2.1) (okx_0.mp hs.1)] at k
  exact lv_idiv hx hb hd (ne32 (okx_0.mp hs.1) hz) k
theorem r_irem (pc : Nat) (hC : CxOK E C cc nL own h mc ms) {a b : Int} {f : Int → Option ρ} (hd : decode cc pc = .ok (.irem, 1)) (kk : ∀ y, Bk E C nL Mi x0 (pc + 1) ls ((0, y) :: st) M cl sl (f y)) : Bk E C nL Mi x0 pc ls ((0, b) :: (0, a) :: st) M cl sl (iremc a b f) := by
  intro ho hE hl hs H locs la hH hL hla
  obtain ⟨hx, hb, hn, hown, hts, hKK, -⟩ := hC
  rw [oks_c, oks_c] at hs
  unfold iremc at ho
  by_cases hz : b = 0
  · rw [if_pos hz] at ho; cases ho
  rw [if_neg hz] at ho
  have k := kk _ ho hE hl (oks_c.mpr ⟨okx_0.mpr (r32_w _), hs.2.2⟩) H locs la hH hL hla
  simp only [encs, List.map_cons, enc_0] at k ⊢
  rw [← a_irem (okx_0.mp hs.2.1) (okx_0.mp hs.1)] at k
  exact lv_irem hx hb hd (ne32 (okx_0.mp hs.1) hz) k
theorem r_ldiv (pc : Nat) (hC : CxOK E C cc nL own h mc ms) {a b : Int} {f : Int → Option ρ} (hd : decode cc pc = .ok (.ldiv, 1)) (kk : ∀ y, Bk E C nL Mi x0 (pc + 1) ls ((1, y) :: st) M cl sl (f y)) : Bk E C nL Mi x0 pc ls ((1, b) :: (1, a) :: st) M cl sl (ldivc a b f) := by
  intro ho hE hl hs H locs la hH hL hla
  obtain ⟨hx, hb, hn, hown, hts, hKK, -⟩ := hC
  rw [oks_c, oks_c] at hs
  unfold ldivc at ho
  by_cases hz : b = 0
  · rw [if_pos hz] at ho; cases ho
  rw [if_neg hz] at ho
  have k := kk _ ho hE hl (oks_c.mpr ⟨okx_1.mpr (r64_w _), hs.2.2⟩) H locs la hH hL hla
  simp only [encs, List.map_cons, enc_1] at k ⊢
  rw [← a_ldiv (okx_1.mp hs.2.1) (okx_1.mp hs.1)] at k
  exact lv_ldiv hx hb hd (ne64 (okx_1.mp hs.1) hz) k
theorem r_lrem (pc : Nat) (hC : CxOK E C cc nL own h mc ms) {a b : Int} {f : Int → Option ρ} (hd : decode cc pc = .ok (.lrem, 1)) (kk : ∀ y, Bk E C nL Mi x0 (pc + 1) ls ((1, y) :: st) M cl sl (f y)) : Bk E C nL Mi x0 pc ls ((1, b) :: (1, a) :: st) M cl sl (lremc a b f) := by
  intro ho hE hl hs H locs la hH hL hla
  obtain ⟨hx, hb, hn, hown, hts, hKK, -⟩ := hC
  rw [oks_c, oks_c] at hs
  unfold lremc at ho
  by_cases hz : b = 0
  · rw [if_pos hz] at ho; cases ho
  rw [if_neg hz] at ho
  have k := kk _ ho hE hl (oks_c.mpr ⟨okx_1.mpr (r64_w _), hs.2.2⟩) H locs la hH hL hla
  simp only [encs, List.map_cons, enc_1] at k ⊢
  rw [← a_lrem (okx_1.mp hs.2.1) (okx_1.mp hs.1)] at k
  exact lv_lrem hx hb hd (ne64 (okx_1.mp hs.1) hz) k
theorem r_i2l (pc : Nat) (hC : CxOK E C cc nL own h mc ms) {a : Int} (hd : decode cc pc = .ok (.i2l, 1)) (kk : Bk E C nL Mi x0 (pc + 1) ls ((1, a) :: st) M cl sl o) : Bk E C nL Mi x0 pc ls ((0, a) :: st) M cl sl o := by
  intro ho hE hl hs H locs la hH hL hla
  obtain ⟨hx, hb, hn, hown, hts, hKK, -⟩ := hC
  rw [oks_c] at hs
  have k := kk ho hE hl (oks_c.mpr ⟨okx_1.mpr (by have := okx_0.mp hs.1; unfold r32 at this; unfold r64; omega), hs.2⟩) H locs la hH hL hla
  simp only [encs, List.map_cons, enc_0, enc_1] at k ⊢
  exact lv_i2l hx hb hd (a_i2l (okx_0.mp hs.1)) k
theorem r_l2i (pc : Nat) (hC : CxOK E C cc nL own h mc ms) {a : Int} (hd : decode cc pc = .ok (.l2i, 1)) (kk : Bk E C nL Mi x0 (pc + 1) ls ((0, w32 a) :: st) M cl sl o) : Bk E C nL Mi x0 pc ls ((1, a) :: st) M cl sl o := by
  intro ho hE hl hs H locs la hH hL hla
  obtain ⟨hx, hb, hn, hown, hts, hKK, -⟩ := hC
  rw [oks_c] at hs
  have k := kk ho hE hl (oks_c.mpr ⟨okx_0.mpr (r32_w _), hs.2⟩) H locs la hH hL hla
  simp only [encs, List.map_cons, enc_0, enc_1] at k ⊢
  exact lv_l2i hx hb hd (a_l2i a) k
theorem r_i2b (pc : Nat) (hC : CxOK E C cc nL own h mc ms) {a : Int} (hd : decode cc pc = .ok (.i2b, 1)) (kk : Bk E C nL Mi x0 (pc + 1) ls ((0, w8 a) :: st) M cl sl o) : Bk E C nL Mi x0 pc ls ((0, a) :: st) M cl sl o := by
  intro ho hE hl hs H locs la hH hL hla
  obtain ⟨hx, hb, hn, hown, hts, hKK, -⟩ := hC
  rw [oks_c] at hs
  have k := kk ho hE hl (oks_c.mpr ⟨okx_0.mpr (by unfold w8 r32; omega), hs.2⟩) H locs la hH hL hla
  simp only [encs, List.map_cons, enc_0] at k ⊢
  exact lv_i2b hx hb hd (a_i2b a) k
theorem r_i2s (pc : Nat) (hC : CxOK E C cc nL own h mc ms) {a : Int} (hd : decode cc pc = .ok (.i2s, 1)) (kk : Bk E C nL Mi x0 (pc + 1) ls ((0, w16 a) :: st) M cl sl o) : Bk E C nL Mi x0 pc ls ((0, a) :: st) M cl sl o := by
  intro ho hE hl hs H locs la hH hL hla
  obtain ⟨hx, hb, hn, hown, hts, hKK, -⟩ := hC
  rw [oks_c] at hs
  have k := kk ho hE hl (oks_c.mpr ⟨okx_0.mpr (by unfold w16 r32; omega), hs.2⟩) H locs la hH hL hla
  simp only [encs, List.map_cons, enc_0] at k ⊢
  exact lv_i2s hx hb hd (a_i2s a) k
theorem r_ineg (pc : Nat) (hC : CxOK E C cc nL own h mc ms) {a : Int} (hd : decode cc pc = .ok (.ineg, 1)) (kk : Bk E C nL Mi x0 (pc + 1) ls ((0, w32 (-a)) :: st) M cl sl o) : Bk E C nL Mi x0 pc ls ((0, a) :: st) M cl sl o := by
  intro ho hE hl hs H locs la hH hL hla
  obtain ⟨hx, hb, hn, hown, hts, hKK, -⟩ := hC
  rw [oks_c] at hs
  have k := kk ho hE hl (oks_c.mpr ⟨okx_0.mpr (r32_w _), hs.2⟩) H locs la hH hL hla
  simp only [encs, List.map_cons, enc_0] at k ⊢
  rw [← a_ineg] at k
  exact lv_ineg hx hb hd k
theorem r_dup (pc : Nat) (hC : CxOK E C cc nL own h mc ms) {kd x : Int} (hk : kd ≠ 1) (hd : decode cc pc = .ok (.dup, 1)) (kk : Bk E C nL Mi x0 (pc + 1) ls ((kd, x) :: (kd, x) :: st) M cl sl o) : Bk E C nL Mi x0 pc ls ((kd, x) :: st) M cl sl o := by
  intro ho hE hl hs H locs la hH hL hla
  obtain ⟨hx, hb, hn, hown, hts, hKK, -⟩ := hC
  have h1 := hs
  rw [oks_c] at h1
  exact lv_dup hx hb hd (enc_cat hk) (kk ho hE hl (oks_c.mpr ⟨h1.1, hs⟩) H locs la hH hL hla)
theorem r_pop (pc : Nat) (hC : CxOK E C cc nL own h mc ms) {kd x : Int} (hk : kd ≠ 1) (hd : decode cc pc = .ok (.pop, 1)) (kk : Bk E C nL Mi x0 (pc + 1) ls st M cl sl o) : Bk E C nL Mi x0 pc ls ((kd, x) :: st) M cl sl o := by
  intro ho hE hl hs H locs la hH hL hla
  obtain ⟨hx, hb, hn, hown, hts, hKK, -⟩ := hC
  rw [oks_c] at hs
  exact lv_pop hx hb hd (enc_cat hk) (kk ho hE hl hs.2 H locs la hH hL hla)
theorem r_dup2 (pc : Nat) (hC : CxOK E C cc nL own h mc ms) {kd x kd2 x2 : Int} (hk : kd ≠ 1 ∧ kd2 ≠ 1) (hd : decode cc pc = .ok (.dup2, 1)) (kk : Bk E C nL Mi x0 (pc + 1) ls ((kd, x) :: (kd2, x2) :: (kd, x) :: (kd2, x2) :: st) M cl sl o) : Bk E C nL Mi x0 pc ls ((kd, x) :: (kd2, x2) :: st) M cl sl o := by
  intro ho hE hl hs H locs la hH hL hla
  obtain ⟨hx, hb, hn, hown, hts, hKK, -⟩ := hC
  have h1 := hs
  rw [oks_c, oks_c] at h1
  exact lv_dup2_11 hx hb hd (enc_cat hk.1) (enc_cat hk.2) (kk ho hE hl (oks_c.mpr ⟨h1.1, oks_c.mpr ⟨h1.2.1, hs⟩⟩) H locs la hH hL hla)
theorem r_dup2L (pc : Nat) (hC : CxOK E C cc nL own h mc ms) {x : Int} (hd : decode cc pc = .ok (.dup2, 1)) (kk : Bk E C nL Mi x0 (pc + 1) ls ((1, x) :: (1, x) :: st) M cl sl o) : Bk E C nL Mi x0 pc ls ((1, x) :: st) M cl sl o := by
  intro ho hE hl hs H locs la hH hL hla
  obtain ⟨hx, hb, hn, hown, hts, hKK, -⟩ := hC
  have h1 := hs
  rw [oks_c] at h1
  exact lv_dup2_2 hx hb hd enc_cat2 (kk ho hE hl (oks_c.mpr ⟨h1.1, hs⟩) H locs la hH hL hla)
theorem r_goto (pc : Nat) (hC : CxOK E C cc nL own h mc ms) {off : Int} {tgt : Nat} (ht : (pc : Int) + off = (tgt : Int)) (hd : decode cc pc = .ok (.goto off, 3)) (kk : Bk E C nL Mi x0 tgt ls st M cl sl o) : Bk E C nL Mi x0 pc ls st M cl sl o := by
  intro ho hE hl hs H locs la hH hL hla
  obtain ⟨hx, hb, hn, hown, hts, hKK, -⟩ := hC
  exact lv_goto hx hb hd ht (kk ho hE hl hs H locs la hH hL hla)
theorem r_icmp_eq (pc : Nat) (hC : CxOK E C cc nL own h mc ms) {a b off : Int} {tgt : Nat} {o1 o2 : Option ρ} (ht : (pc : Int) + off = (tgt : Int)) (hd : decode cc pc = .ok (.if_icmp .eq off, 3)) (k1 : Bk E C nL Mi x0 tgt ls st M cl sl o1) (k2 : Bk E C nL Mi x0 (pc + 3) ls st M cl sl o2) : Bk E C nL Mi x0 pc ls ((0, b) :: (0, a) :: st) M cl sl (if a = b then o1 else o2) := by
  intro ho hE hl hs H locs la hH hL hla
  obtain ⟨hx, hb, hn, hown, hts, hKK, -⟩ := hC
  rw [oks_c, oks_c] at hs
  have q := eq32 (okx_0.mp hs.2.1) (okx_0.mp hs.1)
  simp only [encs, List.map_cons, enc_0]
  refine lv_icmp_eq hx hb hd ht (fun hc => ?_) (fun hc => ?_)
  · have hc2 : a = b := by first | exact q.mp hc | exact fun e => hc (q.mpr e)
    rw [if_pos hc2] at ho
    exact k1 ho hE hl hs.2.2 H locs la hH hL hla
  · have hc2 : ¬ (a = b) := by first | exact fun e => hc (q.mpr e) | exact fun e => hc (fun z => e (q.mp z)) | exact fun e => e (q.mp (by simpa using hc))
    rw [if_neg hc2] at ho
    exact k2 ho hE hl hs.2.2 H locs la hH hL hla
theorem r_if_eq (pc : Nat) (hC : CxOK E C cc nL own h mc ms) {a off : Int} {tgt : Nat} {o1 o2 : Option ρ} (ht : (pc : Int) + off = (tgt : Int)) (hd : decode cc pc = .ok (.ifCond .eq off, 3)) (k1 : Bk E C nL Mi x0 tgt ls st M cl sl o1) (k2 : Bk E C nL Mi x0 (pc + 3) ls st M cl sl o2) : Bk E C nL Mi x0 pc ls ((0, a) :: st) M cl sl (if a = 0 then o1 else o2) := by
  intro ho hE hl hs H locs la hH hL hla
  obtain ⟨hx, hb, hn, hown, hts, hKK, -⟩ := hC
  rw [oks_c] at hs
  have q := eq32 (okx_0.mp hs.1) (show r32 0 by unfold r32; omega)
  rw [← zero32] at q
  simp only [encs, List.map_cons, enc_0]
  refine lv_if_eq hx hb hd ht (fun hc => ?_) (fun hc => ?_)
  · have hc2 : a = 0 := by first | exact q.mp hc | exact fun e => hc (q.mpr e)
    rw [if_pos hc2] at ho
    exact k1 ho hE hl hs.2 H locs la hH hL hla
  · have hc2 : ¬ (a = 0) := by first | exact fun e => hc (q.mpr e) | exact fun e => hc (fun z => e (q.mp z)) | exact fun e => e (q.mp (by simpa using hc))
    rw [if_neg hc2] at ho
    exact k2 ho hE hl hs.2 H locs la hH hL hla
theorem r_lcmp_eq (pc : Nat) (hC : CxOK E C cc nL own h mc ms) {a b off : Int} {tgt : Nat} {o1 o2 : Option ρ} (ht : ((pc + 1 : Nat) : Int) + off = (tgt : Int)) (hd0 : decode cc pc = .ok (.lcmp, 1)) (hd : decode cc (pc + 1) = .ok (.ifCond .eq off, 3)) (k1 : Bk E C nL Mi x0 tgt ls st M cl sl o1) (k2 : Bk E C nL Mi x0 (pc + 4) ls st M cl sl o2) : Bk E C nL Mi x0 pc ls ((1, b) :: (1, a) :: st) M cl sl (if a = b then o1 else o2) := by
  have e : (if a = b then o1 else o2) = (if lcmpv a b = 0 then o1 else o2) := by
    have : (a = b) ↔ (lcmpv a b = 0) := by unfold lcmpv; split <;> (try split) <;> omega
    by_cases hq : (a = b)
    · rw [if_pos hq, if_pos (this.mp hq)]
    · rw [if_neg hq, if_neg (fun z => hq (this.mpr z))]
  rw [e]
  exact r_lcmp pc hC hd0 (r_if_eq (pc + 1) hC ht hd k1 k2)
theorem r_icmp_ne (pc : Nat) (hC : CxOK E C cc nL own h mc ms) {a b off : Int} {tgt : Nat} {o1 o2 : Option ρ} (ht : (pc : Int) + off = (tgt : Int)) (hd : decode cc pc = .ok (.if_icmp .ne off, 3)) (k1 : Bk E C nL Mi x0 tgt ls st M cl sl o1) (k2 : Bk E C nL Mi x0 (pc + 3) ls st M cl sl o2) : Bk E C nL Mi x0 pc ls ((0, b) :: (0, a) :: st) M cl sl (if a ≠ b then o1 else o2) := by
  intro ho hE hl hs H locs la hH hL hla
  obtain ⟨hx, hb, hn, hown, hts, hKK, -⟩ := hC
  rw [oks_c, oks_c] at hs
  have q := eq32 (okx_0.mp hs.2.1) (okx_0.mp hs.1)
  simp only [encs, List.map_cons, enc_0]
  refine lv_icmp_ne hx hb hd ht (fun hc => ?_) (fun hc => ?_)
  · have hc2 : a ≠ b := by first | exact q.mp hc | exact fun e => hc (q.mpr e)
    rw [if_pos hc2] at ho
    exact k1 ho hE hl hs.2.2 H locs la hH hL hla
  · have hc2 : ¬ (a ≠ b) := by first | exact fun e => hc (q.mpr e) | exact fun e => hc (fun z => e (q.mp z)) | exact fun e => e (q.mp (by simpa using hc))
    rw [if_neg hc2] at ho
    exact k2 ho hE hl hs.2.2 H locs la hH hL hla
theorem r_if_ne (pc : Nat) (hC : CxOK E C cc nL own h mc ms) {a off : Int} {tgt : Nat} {o1 o2 : Option ρ} (ht : (pc : Int) + off = (tgt : Int)) (hd : decode cc pc = .ok (.ifCond .ne off, 3)) (k1 : Bk E C nL Mi x0 tgt ls st M cl sl o1) (k2 : Bk E C nL Mi x0 (pc + 3) ls st M cl sl o2) : Bk E C nL Mi x0 pc ls ((0, a) :: st) M cl sl (if a ≠ 0 then o1 else o2) := by
  intro ho hE hl hs H locs la hH hL hla
  obtain ⟨hx, hb, hn, hown, hts, hKK, -⟩ := hC
  rw [oks_c] at hs
  have q := eq32 (okx_0.mp hs.1) (show r32 0 by unfold r32; omega)
  rw [← zero32] at q
  simp only [encs, List.map_cons, enc_0]
  refine lv_if_ne hx hb hd ht (fun hc => ?_) (fun hc => ?_)
  · have hc2 : a ≠ 0 := by first | exact q.mp hc | exact fun e => hc (q.mpr e)
    rw [if_pos hc2] at ho
    exact k1 ho hE hl hs.2 H locs la hH hL hla
  · have hc2 : ¬ (a ≠ 0) := by first | exact fun e => hc (q.mpr e) | exact fun e => hc (fun z => e (q.mp z)) | exact fun e => e (q.mp (by simpa using hc))
    rw [if_neg hc2] at ho
    exact k2 ho hE hl hs.2 H locs la hH hL hla
theorem r_lcmp_ne (pc : Nat) (hC : CxOK E C cc nL own h mc ms) {a b off : Int} {tgt : Nat} {o1 o2 : Option ρ} (ht : ((pc + 1 : Nat) : Int) + off = (tgt : Int)) (hd0 : decode cc pc = .ok (.lcmp, 1)) (hd : decode cc (pc + 1) = .ok (.ifCond .ne off, 3)) (k1 : Bk E C nL Mi x0 tgt ls st M cl sl o1) (k2 : Bk E C nL Mi x0 (pc + 4) ls st M cl sl o2) : Bk E C nL Mi x0 pc ls ((1, b) :: (1, a) :: st) M cl sl (if a ≠ b then o1 else o2) := by
  have e : (if a ≠ b then o1 else o2) = (if lcmpv a b ≠ 0 then o1 else o2) := by
    have : (a ≠ b) ↔ (lcmpv a b ≠ 0) := by unfold lcmpv; split <;> (try split) <;> omega
    by_cases hq : (a ≠ b)
    · rw [if_pos hq, if_pos (this.mp hq)]
    · rw [if_neg hq, if_neg (fun z => hq (this.mpr z))]
  rw [e]
  exact r_lcmp pc hC hd0 (r_if_ne (pc + 1) hC ht hd k1 k2)
theorem r_icmp_lt (pc : Nat) (hC : CxOK E C cc nL own h mc ms) {a b off : Int} {tgt : Nat} {o1 o2 : Option ρ} (ht : (pc : Int) + off = (tgt : Int)) (hd : decode cc pc = .ok (.if_icmp .lt off, 3)) (k1 : Bk E C nL Mi x0 tgt ls st M cl sl o1) (k2 : Bk E C nL Mi x0 (pc + 3) ls st M cl sl o2) : Bk E C nL Mi x0 pc ls ((0, b) :: (0, a) :: st) M cl sl (if a < b then o1 else o2) := by
  intro ho hE hl hs H locs la hH hL hla
  obtain ⟨hx, hb, hn, hown, hts, hKK, -⟩ := hC
  rw [oks_c, oks_c] at hs
  have q := lt32 (okx_0.mp hs.2.1) (okx_0.mp hs.1)
  simp only [encs, List.map_cons, enc_0]
  refine lv_icmp_lt hx hb hd ht (fun hc => ?_) (fun hc => ?_)
  · have hc2 : a < b := by first | exact q.mp hc | exact fun e => hc (q.mpr e)
    rw [if_pos hc2] at ho
    exact k1 ho hE hl hs.2.2 H locs la hH hL hla
  · have hc2 : ¬ (a < b) := by first | exact fun e => hc (q.mpr e) | exact fun e => hc (fun z => e (q.mp z)) | exact fun e => e (q.mp (by simpa using hc))
    rw [if_neg hc2] at ho
    exact k2 ho hE hl hs.2.2 H locs la hH hL hla
theorem r_if_lt (pc : Nat) (hC : CxOK E C cc nL own h mc ms) {a off : Int} {tgt : Nat} {o1 o2 : Option ρ} (ht : (pc : Int) + off = (tgt : Int)) (hd : decode cc pc = .ok (.ifCond .lt off, 3)) (k1 : Bk E C nL Mi x0 tgt ls st M cl sl o1) (k2 : Bk E C nL Mi x0 (pc + 3) ls st M cl sl o2) : Bk E C nL Mi x0 pc ls ((0, a) :: st) M cl sl (if a < 0 then o1 else o2) := by
  intro ho hE hl hs H locs la hH hL hla
  obtain ⟨hx, hb, hn, hown, hts, hKK, -⟩ := hC
  rw [oks_c] at hs
  have q := lt32 (okx_0.mp hs.1) (show r32 0 by unfold r32; omega)
  rw [← zero32] at q
  simp only [encs, List.map_cons, enc_0]
  refine lv_if_lt hx hb hd ht (fun hc => ?_) (fun hc => ?_)
  · have hc2 : a < 0 := by first | exact q.mp hc | exact fun e => hc (q.mpr e)
    rw [if_pos hc2] at ho
    exact k1 ho hE hl hs.2 H locs la hH hL hla
  · have hc2 : ¬ (a < 0) := by first | exact fun e => hc (q.mpr e) | exact fun e => hc (fun z => e (q.mp z)) | exact fun e => e (q.mp (by simpa using hc))
    rw [if_neg hc2] at ho
    exact k2 ho hE hl hs.2 H locs la hH hL hla
theorem r_lcmp_lt (pc : Nat) (hC : CxOK E C cc nL own h mc ms) {a b off : Int} {tgt : Nat} {o1 o2 : Option ρ} (ht : ((pc + 1 : Nat) : Int) + off = (tgt : Int)) (hd0 : decode cc pc = .ok (.lcmp, 1)) (hd : decode cc (pc + 1) = .ok (.ifCond .lt off, 3)) (k1 : Bk E C nL Mi x0 tgt ls st M cl sl o1) (k2 : Bk E C nL Mi x0 (pc + 4) ls st M cl sl o2) : Bk E C nL Mi x0 pc ls ((1, b) :: (1, a) :: st) M cl sl (if a < b then o1 else o2) := by
  have e : (if a < b then o1 else o2) = (if lcmpv a b < 0 then o1 else o2) := by
    have : (a < b) ↔ (lcmpv a b < 0) := by unfold lcmpv; split <;> (try split) <;> omega
    by_cases hq : (a < b)
    · rw [if_pos hq, if_pos (this.mp hq)]
    · rw [if_neg hq, if_neg (fun z => hq (this.mpr z))]
  rw [e]
  exact r_lcmp pc hC hd0 (r_if_lt (pc + 1) hC ht hd k1 k2)
theorem r_icmp_ge (pc : Nat) (hC : CxOK E C cc nL own h mc ms) {a b off : Int} {tgt : Nat} {o1 o2 : Option ρ} (ht : (pc : Int) + off = (tgt : Int)) (hd : decode cc pc = .ok (.if_icmp .ge off, 3)) (k1 : Bk E C nL Mi x0 tgt ls st M cl sl o1) (k2 : Bk E C nL Mi x0 (pc + 3) ls st M cl sl o2) : Bk E C nL Mi x0 pc ls ((0, b) :: (0, a) :: st) M cl sl (if b ≤ a then o1 else o2) := by
  intro ho hE hl hs H locs la hH hL hla
  obtain ⟨hx, hb, hn, hown, hts, hKK, -⟩ := hC
  rw [oks_c, oks_c] at hs
  have q := le32 (okx_0.mp hs.1) (okx_0.mp hs.2.1)
  simp only [encs, List.map_cons, enc_0]
  refine lv_icmp_ge hx hb hd ht (fun hc => ?_) (fun hc => ?_)
  · have hc2 : b ≤ a := by first | exact q.mp hc | exact fun e => hc (q.mpr e)
    rw [if_pos hc2] at ho
    exact k1 ho hE hl hs.2.2 H locs la hH hL hla
  · have hc2 : ¬ (b ≤ a) := by first | exact fun e => hc (q.mpr e) | exact fun e => hc (fun z => e (q.mp z)) | exact fun e => e (q.mp (by simpa using hc))
    rw [if_neg hc2] at ho
    exact k2 ho hE hl hs.2.2 H locs la hH hL hla
theorem r_if_ge (pc : Nat) (hC : CxOK E C cc nL own h mc ms) {a off : Int} {tgt : Nat} {o1 o2 : Option ρ} (ht : (pc : Int) + off = (tgt : Int)) (hd : decode cc pc = .ok (.ifCond .ge off, 3)) (k1 : Bk E C nL Mi x0 tgt ls st M cl sl o1) (k2 : Bk E C nL Mi x0 (pc + 3) ls st M cl sl o2) : Bk E C nL Mi x0 pc ls ((0, a) :: st) M cl sl (if 0 ≤ a then o1 else o2) := by
  intro ho hE hl hs H locs la hH hL hla
  obtain ⟨hx, hb, hn, hown, hts, hKK, -⟩ := hC
  rw [oks_c] at hs
  have q := le32 (show r32 0 by unfold r32; omega) (okx_0.mp hs.1)
  rw [← zero32] at q
  simp only [encs, List.map_cons, enc_0]
  refine lv_if_ge hx hb hd ht (fun hc => ?_) (fun hc => ?_)
  · have hc2 : 0 ≤ a := by first | exact q.mp hc | exact fun e => hc (q.mpr e)
    rw [if_pos hc2] at ho
    exact k1 ho hE hl hs.2 H locs la hH hL hla
  · have hc2 : ¬ (0 ≤ a) := by first | exact fun e => hc (q.mpr e) | exact fun e => hc (fun z => e (q.mp z)) | exact fun e => e (q.mp (by simpa using hc))
    rw [if_neg hc2] at ho
    exact k2 ho hE hl hs.2 H locs la hH hL hla
theorem r_lcmp_ge (pc : Nat) (hC : CxOK E C cc nL own h mc ms) {a b off : Int} {tgt : Nat} {o1 o2 : Option ρ} (ht : ((pc + 1 : Nat) : Int) + off = (tgt : Int)) (hd0 : decode cc pc = .ok (.lcmp, 1)) (hd : decode cc (pc + 1) = .ok (.ifCond .ge off, 3)) (k1 : Bk E C nL Mi x0 tgt ls st M cl sl o1) (k2 : Bk E C nL Mi x0 (pc + 4) ls st M cl sl o2) : Bk E C nL Mi x0 pc ls ((1, b) :: (1, a) :: st) M cl sl (if b ≤ a then o1 else o2) := by
  have e : (if b ≤ a then o1 else o2) = (if 0 ≤ lcmpv a b then o1 else o2) := by
    have : (b ≤ a) ↔ (0 ≤ lcmpv a b) := by unfold lcmpv; split <;> (try split) <;> omega
    by_cases hq : (b ≤ a)
    · rw [if_pos hq, if_pos (this.mp hq)]
    · rw [if_neg hq, if_neg (fun z => hq (this.mpr z))]
  rw [e]
  exact r_lcmp pc hC hd0 (r_if_ge (pc + 1) hC ht hd k1 k2)
theorem r_icmp_gt (pc : Nat) (hC : CxOK E C cc nL own h mc ms) {a b off : Int} {tgt : Nat} {o1 o2 : Option ρ} (ht : (pc : Int) + off = (tgt : Int)) (hd : decode cc pc = .ok (.if_icmp .gt off, 3)) (k1 : Bk E C nL Mi x0 tgt ls st M cl sl o1) (k2 : Bk E C nL Mi x0 (pc + 3) ls st M cl sl o2) : Bk E C nL Mi x0 pc ls ((0, b) :: (0, a) :: st) M cl sl (if b < a then o1 else o2) := by
  intro ho hE hl hs H locs la hH hL hla
  obtain ⟨hx, hb, hn, hown, hts, hKK, -⟩ := hC
  rw [oks_c, oks_c] at hs
  have q := lt32 (okx_0.mp hs.1) (okx_0.mp hs.2.1)
  simp only [encs, List.map_cons, enc_0]
  refine lv_icmp_gt hx hb hd ht (fun hc => ?_) (fun hc => ?_)
  · have hc2 : b < a := by first | exact q.mp hc | exact fun e => hc (q.mpr e)
    rw [if_pos hc2] at ho
    exact k1 ho hE hl hs.2.2 H locs la hH hL hla
  · have hc2 : ¬ (b < a) := by first | exact fun e => hc (q.mpr e) | exact fun e => hc (fun z => e (q.mp z)) | exact fun e => e (q.mp (by simpa using hc))
    rw [if_neg hc2] at ho
    exact k2 ho hE hl hs.2.2 H locs la hH hL hla
theorem r_if_gt (pc : Nat) (hC : CxOK E C cc nL own h mc ms) {a off : Int} {tgt : Nat} {o1 o2 : Option ρ} (ht : (pc : Int) + off = (tgt : Int)) (hd : decode cc pc = .ok (.ifCond .gt off, 3)) (k1 : Bk E C nL Mi x0 tgt ls st M cl sl o1) (k2 : Bk E C nL Mi x0 (pc + 3) ls st M cl sl o2) : Bk E C nL Mi x0 pc ls ((0, a) :: st) M cl sl (if 0 < a then o1 else o2) := by
  intro ho hE hl hs H locs la hH hL hla
  obtain ⟨hx, hb, hn, hown, hts, hKK, -⟩ := hC
  rw [oks_c] at hs
  have q := lt32 (show r32 0 by unfold r32; omega) (okx_0.mp hs.1)
  rw [← zero32] at q
  simp only [encs, List.map_cons, enc_0]
  refine lv_if_gt hx hb hd ht (fun hc => ?_) (fun hc => ?_)
  · have hc2 : 0 < a := by first | exact q.mp hc | exact fun e => hc (q.mpr e)
    rw [if_pos hc2] at ho
    exact k1 ho hE hl hs.2 H locs la hH hL hla
  · have hc2 : ¬ (0 < a) := by first | exact fun e => hc (q.mpr e) | exact fun e => hc (fun z => e (q.mp z)) | exact fun e => e (q.mp (by simpa using hc))
    rw [if_neg hc2] at ho
    exact k2 ho hE hl hs.2 H locs la hH hL hla
theorem r_lcmp_gt (pc : Nat) (hC : CxOK E C cc nL own h mc ms) {a b off : Int} {tgt : Nat} {o1 o2 : Option ρ} (ht : ((pc + 1 : Nat) : Int) + off = (tgt : Int)) (hd0 : decode cc pc = .ok (.lcmp, 1)) (hd : decode cc (pc + 1) = .ok (.ifCond .gt off, 3)) (k1 : Bk E C nL Mi x0 tgt ls st M cl sl o1) (k2 : Bk E C nL Mi x0 (pc + 4) ls st M cl sl o2) : Bk E C nL Mi x0 pc ls ((1, b) :: (1, a) :: st) M cl sl (if b < a then o1 else o2) := by
  have e : (if b < a then o1 else o2) = (if 0 < lcmpv a b then o1 else o2) := by
    have : (b < a) ↔ (0 < lcmpv a b) := by unfold lcmpv; split <;> (try split) <;> omega
    by_cases hq : (b < a)
    · rw [if_pos hq, if_pos (this.mp hq)]
    · rw [if_neg hq, if_neg (fun z => hq (this.mpr z))]
  rw [e]
  exact r_lcmp pc hC hd0 (r_if_gt (pc + 1) hC ht hd k1 k2)
theorem r_icmp_le (pc : Nat) (hC : CxOK E C cc nL own h mc ms) {a b off : Int} {tgt : Nat} {o1 o2 : Option ρ} (ht : (pc : Int) + off = (tgt : Int)) (hd : decode cc pc = .ok (.if_icmp .le off, 3)) (k1 : Bk E C nL Mi x0 tgt ls st M cl sl o1) (k2 : Bk E C nL Mi x0 (pc + 3) ls st M cl sl o2) : Bk E C nL Mi x0 pc ls ((0, b) :: (0, a) :: st) M cl sl (if a ≤ b then o1 else o2) := by
  intro ho hE hl hs H locs la hH hL hla
  obtain ⟨hx, hb, hn, hown, hts, hKK, -⟩ := hC
  rw [oks_c, oks_c] at hs
  have q := le32 (okx_0.mp hs.2.1) (okx_0.mp hs.1)
  simp only [encs, List.map_cons, enc_0]
  refine lv_icmp_le hx hb hd ht (fun hc => ?_) (fun hc => ?_)
  · have hc2 : a ≤ b := by first | exact q.mp hc | exact fun e => hc (q.mpr e)
    rw [if_pos hc2] at ho
    exact k1 ho hE hl hs.2.2 H locs la hH hL hla
  · have hc2 : ¬ (a ≤ b) := by first | exact fun e => hc (q.mpr e) | exact fun e => hc (fun z => e (q.mp z)) | exact fun e => e (q.mp (by simpa using hc))
    rw [if_neg hc2] at ho
    exact k2 ho hE hl hs.2.2 H locs la hH hL hla
theorem r_if_le (pc : Nat) (hC : CxOK E C cc nL own h mc ms) {a off : Int} {tgt : Nat} {o1 o2 : Option ρ} (ht : (pc : Int) + off = (tgt : Int)) (hd : decode cc pc = .ok (.ifCond .le off, 3)) (k1 : Bk E C nL Mi x0 tgt ls st M cl sl o1) (k2 : Bk E C nL Mi x0 (pc + 3) ls st M cl sl o2) : Bk E C nL Mi x0 pc ls ((0, a) :: st) M cl sl (if a ≤ 0 then o1 else o2) := by
  intro ho hE hl hs H locs la hH hL hla
  obtain ⟨hx, hb, hn, hown, hts, hKK, -⟩ := hC
  rw [oks_c] at hs
  have q := le32 (okx_0.mp hs.1) (show r32 0 by unfold r32; omega)
  rw [← zero32] at q
  simp only [encs, List.map_cons, enc_0]
  refine lv_if_le hx hb hd ht (fun hc => ?_) (fun hc => ?_)
  · have hc2 : a ≤ 0 := by first | exact q.mp hc | exact fun e => hc (q.mpr e)
    rw [if_pos hc2] at ho
    exact k1 ho hE hl hs.2 H locs la hH hL hla
  · have hc2 : ¬ (a ≤ 0) := by first | exact fun e => hc (q.mpr e) | exact fun e => hc (fun z => e (q.mp z)) | exact fun e => e (q.mp (by simpa using hc))
    rw [if_neg hc2] at ho
    exact k2 ho hE hl hs.2 H locs la hH hL hla
theorem r_lcmp_le (pc : Nat) (hC : CxOK E C cc nL own h mc ms) {a b off : Int} {tgt : Nat} {o1 o2 : Option ρ} (ht : ((pc + 1 : Nat) : Int) + off = (tgt : Int)) (hd0 : decode cc pc = .ok (.lcmp, 1)) (hd : decode cc (pc + 1) = .ok (.ifCond .le off, 3)) (k1 : Bk E C nL Mi x0 tgt ls st M cl sl o1) (k2 : Bk E C nL Mi x0 (pc + 4) ls st M cl sl o2) : Bk E C nL Mi x0 pc ls ((1, b) :: (1, a) :: st) M cl sl (if a ≤ b then o1 else o2) := by
  have e : (if a ≤ b then o1 else o2) = (if lcmpv a b ≤ 0 then o1 else o2) := by
    have : (a ≤ b) ↔ (lcmpv a b ≤ 0) := by unfold lcmpv; split <;> (try split) <;> omega
    by_cases hq : (a ≤ b)
    · rw [if_pos hq, if_pos (this.mp hq)]
    · rw [if_neg hq, if_neg (fun z => hq (this.mpr z))]
  rw [e]
  exact r_lcmp pc hC hd0 (r_if_le (pc + 1) hC ht hd k1 k2)
theorem r_sw_case (pc : Nat) {tgt : Nat} {x k off : Int} {o1 o2 : Option ρ} {dflt lo hi : Int} {offs : Array Int} {len : Nat} (hC : CxOK E C cc nL own h mc ms) (hd : decode cc pc = .ok (.tableswitch dflt lo hi offs, len)) (hk : lo ≤ k ∧ k ≤ hi ∧ r32 k) (hof : offs[(k - lo).toNat]? = some off) (ht : (pc : Int) + off = (tgt : Int)) (k1 : Bk E C nL Mi x0 tgt ls st M cl sl o1) (k2 : x ≠ k → Bk E C nL Mi x0 pc ls ((0, x) :: st) M cl sl o2) : Bk E C nL Mi x0 pc ls ((0, x) :: st) M cl sl (if x = k then o1 else o2) := by
  intro ho hE hl hs H locs la hH hL hla
  by_cases hxk : x = k
  · rw [if_pos hxk] at ho
    subst hxk
    rw [oks_c] at hs
    have e := toI32r hk.2.2
    obtain ⟨hx, hb, -⟩ := hC
    simp only [encs, List.map_cons, enc_0]
    exact lv_tableIn hx hb hd (by rw [e]; omega) (by rw [e]; omega) (by rw [e]; exact hof) ht (k1 ho hE hl hs.2 H locs la hH hL hla)
  · rw [if_neg hxk] at ho
    exact k2 hxk ho hE hl hs H locs la hH hL hla
theorem r_sw_dflt (pc : Nat) {tgt : Nat} {x : Int} {dflt lo hi : Int} {offs : Array Int} {len : Nat} (hC : CxOK E C cc nL own h mc ms) (hd : decode cc pc = .ok (.tableswitch dflt lo hi offs, len)) (hx0 : x < lo ∨ hi < x) (ht : (pc : Int) + dflt = (tgt : Int)) (k1 : Bk E C nL Mi x0 tgt ls st M cl sl o) : Bk E C nL Mi x0 pc ls ((0, x) :: st) M cl sl o := by
  intro ho hE hl hs H locs la hH hL hla
  rw [oks_c] at hs
  have e := toI32r (okx_0.mp hs.1)
  obtain ⟨hx, hb, -⟩ := hC
  simp only [encs, List.map_cons, enc_0]
  exact lv_tableOut hx hb hd (by rw [e]; exact hx0) ht (k1 ho hE hl hs.2 H locs la hH hL hla)
theorem r_lk_case (pc : Nat) {tgt : Nat} {x k off : Int} {o1 o2 : Option ρ} {dflt : Int} {ps : Array (Int × Int)} {len : Nat} (hC : CxOK E C cc nL own h mc ms) (hd : decode cc pc = .ok (.lookupswitch dflt ps, len)) (hps : (ps.toList.zip (ps.toList.drop 1)).all (fun (a, next) => a.1 < next.1) = true) (hk : r32 k) (hof : Op.lookupswitch.offset ps.toList dflt k = off) (ht : (pc : Int) + off = (tgt : Int)) (k1 : Bk E C nL Mi x0 tgt ls st M cl sl o1) (k2 : x ≠ k → Bk E C nL Mi x0 pc ls ((0, x) :: st) M cl sl o2) : Bk E C nL Mi x0 pc ls ((0, x) :: st) M cl sl (if x = k then o1 else o2) := by
  intro ho hE hl hs H locs la hH hL hla
  by_cases hxk : x = k
  · rw [if_pos hxk] at ho
    subst hxk
    rw [oks_c] at hs
    have e := toI32r hk
    obtain ⟨hx, hb, -⟩ := hC
    simp only [encs, List.map_cons, enc_0]
    exact lv_lookup hx hb hd hps (by rw [e]; exact hof) ht (k1 ho hE hl hs.2 H locs la hH hL hla)
  · rw [if_neg hxk] at ho
    exact k2 hxk ho hE hl hs H locs la hH hL hla
theorem r_lk_dflt (pc : Nat) {tgt : Nat} {x : Int} {dflt : Int} {ps : Array (Int × Int)} {len : Nat} (hC : CxOK E C cc nL own h mc ms) (hd : decode cc pc = .ok (.lookupswitch dflt ps, len)) (hps : (ps.toList.zip (ps.toList.drop 1)).all (fun (a, next) => a.1 < next.1) = true) (hx0 : Op.lookupswitch.offset ps.toList dflt x = dflt) (ht : (pc : Int) + dflt = (tgt : Int)) (k1 : Bk E C nL Mi x0 tgt ls st M cl sl o) : Bk E C nL Mi x0 pc ls ((0, x) :: st) M cl sl o := by
  intro ho hE hl hs H locs la hH hL hla
  rw [oks_c] at hs
  have e := toI32r (okx_0.mp hs.1)
  obtain ⟨hx, hb, -⟩ := hC
  simp only [encs, List.map_cons, enc_0]
  exact lv_lookup hx hb hd hps (by rw [e]; exact hx0) ht (k1 ho hE hl hs.2 H locs la hH hL hla)
theorem r_ifnn (pc : Nat) {tgt : Nat} {kd x off : Int} {o1 o2 : Option ρ} (hC : CxOK E C cc nL own h mc ms) (hk : 10 ≤ kd) (ht : (pc : Int) + off = (tgt : Int)) (hd : decode cc pc = .ok (.ifnonnull off, 3)) (k1 : Bk E C nL Mi x0 tgt ls st M cl sl o1) (k2 : Bk E C nL Mi x0 (pc + 3) ls st M cl sl o2) : Bk E C nL Mi x0 pc ls ((kd, x) :: st) M cl sl (if x ≠ 0 then o1 else o2) := by
  intro ho hE hl hs H locs la hH hL hla
  rw [oks_c] at hs
  obtain ⟨hx, hb, -⟩ := hC
  simp only [encs, List.map_cons]
  by_cases hz : x = 0
  · rw [if_neg (fun q => q hz)] at ho
    rw [enc_r hk, show rf E x = .null by unfold rf; rw [if_pos hz]]
    exact lv_ifnonnullN hx hb hd (k2 ho hE hl hs.2 H locs la hH hL hla)
  · rw [if_pos hz] at ho
    rw [enc_r hk, rf_pos (okx_ref hs.1 hk hz).1]
    exact lv_ifnonnull hx hb hd ht (k1 ho hE hl hs.2 H locs la hH hL hla)
/-- fewer locals -/
theorem r_sub {pc : Nat} {ls' : List (Nat × Int × Int)} (ps : List Nat) (hp : ps.filterMap (fun k => ls[k]?) = ls') (kk : Bk E C nL Mi x0 pc ls' st M cl sl o) : Bk E C nL Mi x0 pc ls st M cl sl o := by
  intro ho hE hl hs H locs la hH hL hla
  refine kk ho hE (fun q hq => ?_) hs H locs la hH hL (lv_sub hla ps ?_)
  · rw [← hp] at hq
    obtain ⟨k, -, hk⟩ := List.mem_filterMap.mp hq
    exact hl q (List.mem_of_getElem? hk)
  · unfold lv_pick encl
    rw [← hp, List.map_filterMap]
    congr 1
    funext k
    rw [List.getElem?_map]
theorem r_jn {α : Type} {pc : Nat} {P : α → Prop} {j : α} {b : α → Option ρ} (hj : P j) (hb : ∀ j', P j' → Bk E C nL Mi x0 pc ls st M cl sl (b j')) : Bk E C nL Mi x0 pc ls st M cl sl (jn j b) := hb j hj
theorem r_eqls {pc : Nat} {ls' : List (Nat × Int × Int)} (e : ls = ls') (kk : Bk E C nL Mi x0 pc ls' st M cl sl o) : Bk E C nL Mi x0 pc ls st M cl sl o := e ▸ kk
end ROWS
