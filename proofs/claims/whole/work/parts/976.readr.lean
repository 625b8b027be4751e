/-! the small steps of reading: the reference -/
def RT (M : Mem) (B : Int → Int) (n s : Int) : Prop := TxR M B n ∧ TkR M B n s ∧ (M 119 18 = 0 ∧ M 119 17 = -1) ∧ 0 ≤ s ∧ s ≤ n
def rpF (a j : Int) : Prop := a = 119 ∧ (12 ≤ j ∧ j ≤ 15 ∨ j = 17 ∨ j = 18)
theorem rpF_n {a j : Int} (h : ¬ rpF a j) : ¬ (a = 119 ∧ (12 ≤ j ∧ j ≤ 15 ∨ j = 17 ∨ j = 18)) := h
theorem rpF_a {a j : Int} (h : a ≠ 119) : ¬ rpF a j := fun q => h q.1
def FrR (M N : Mem) : Prop := ∀ a j, ¬ rpF a j → N a j = M a j
def ErR (N : Mem) (f : Fl) : Prop := N 119 18 = f.1 ∧ N 119 17 = f.2 ∧ 1 ≤ f.1
theorem frr_t {M N P : Mem} (h : FrR M N) (k : FrR N P) : FrR M P := fun a j q => by rw [k a j q, h a j q]
theorem rt_k {M N : Mem} {B : Int → Int} {n s : Int} (h : RT M B n s) (k : ∀ a j, (a = 119 ∧ 9 ≤ j ∧ j ≤ 18) ∨ a = 126 → N a j = M a j) : RT N B n s := by
  obtain ⟨hT, ⟨t1, t2, t3, t4, t5⟩, hf, s0, s1⟩ := h
  refine ⟨txr_k hT (k _ _ (by omega)) (k _ _ (by omega)) (fun j => k _ _ (by omega)), ⟨?_, ?_, ?_, fun c => ?_, fun c => ?_⟩, ?_, s0, s1⟩
  · rw [k _ _ (by omega)]; exact t1
  · rw [k _ _ (by omega)]; exact t2
  · rw [k _ _ (by omega)]; exact t3
  · rw [k _ _ (by omega)]; exact t4 c
  · rw [k _ _ (by omega)]; exact t5 c
  · rw [k 119 18 (by omega), k 119 17 (by omega)]; exact hf
theorem aheadR_e {M : Mem} {B : Int → Int} {n s : Int} {Q : Mem → Prop} (h : RT M B n s) (hq : ∀ N, RT N B n (nx B n s) → FrR M N → Q N) : Tot (f_X12_ahead 119 M) Q := by
  obtain ⟨hT, ⟨t1, t2, t3, t4, t5⟩, hf, s0, s1⟩ := h
  obtain ⟨e1, e2, e3⟩ := tkE_b (B := B) s1
  refine ahead_e hT t2 (by omega) e2 (fun N kN tN => ?_)
  have st : ∀ a j, ¬ (a = 119 ∧ 12 ≤ j ∧ j ≤ 15) → N a j = M a j := fun a j q => kN a j q
  have nb := nx_b (B := B) s1
  exact hq N ⟨txr_k hT (st _ _ (by omega)) (st _ _ (by omega)) (fun j => st _ _ (by omega)), tN, by rw [st 119 18 (by omega), st 119 17 (by omega)]; exact hf, by omega, nb.2.1⟩ (fun a j q => st a j (by have := rpF_n q; omega))
theorem failsR_e {M : Mem} {B : Int → Int} {n s : Int} {Q : Int × Mem → Prop} (h : RT M B n s) (y : Int) (hq : ∀ N, ErR N (flT B n s y) → FrR M N → Q (0, N)) (y1 : 1 ≤ y := by omega) : Tot (f_X12_fails 119 y M) Q := by
  obtain ⟨hT, ⟨t1, t2, t3, t4, t5⟩, hf, s0, s1⟩ := h
  refine t_mono (fails_e y) (fun q hq2 => ?_)
  obtain ⟨q1, q2⟩ := hq2
  have e : q = (0, flM M y) := by rw [← q1, ← q2]
  rw [e]
  unfold flM
  rw [if_neg (by omega), t1, t3]
  refine hq _ ⟨?_, ?_, ?_⟩ (fun a j hh => ?_)
  · rw [upd2_at, if_neg (by omega), upd2_at, if_pos ⟨rfl, rfl⟩]
    have kr := (kR_2 (k := tkK B n s) tk_r.1 tk_r.2).2.1
    unfold flT
    by_cases c : tkK B n s = 4
    · rw [if_pos (kr.mpr c), if_pos c]
    · rw [if_neg (fun z => c (kr.mp z)), if_neg c]
  · rw [upd2_at, if_pos ⟨rfl, rfl⟩]; rfl
  · show 1 ≤ (if tkK B n s = 4 then 1 else y)
    by_cases c : tkK B n s = 4
    · rw [if_pos c]; omega
    · rw [if_neg c]; exact y1
  · have := rpF_n hh
    rw [upd2_at, if_neg (by omega), upd2_at, if_neg (by omega)]
theorem isSign_e {M : Mem} {B : Int → Int} {n s : Int} (h : RT M B n s) (y : Int) : f_X12_isSign 119 y M = some (if tkK B n s = 3 ∧ B s = y then 1 else 0) := by
  obtain ⟨hT, ⟨t1, t2, t3, t4, t5⟩, hf, s0, s1⟩ := h
  have kr := (kR_2 (k := tkK B n s) tk_r.1 tk_r.2).2.2.2.1
  simp only [f_X12_isSign, getf, jn, retz, t3]
  by_cases c : tkK B n s = 3
  · have := t5 c
    have k4 := kr.mpr c
    simp only [k4, this]
    by_cases d : B s = y <;> simp [c, d]
  · have : ¬ kR (tkK B n s) = 4 := fun z => c (kr.mp z)
    simp [this, c]
theorem wantSign_e {M : Mem} {B : Int → Int} {n s : Int} {Q : Int × Mem → Prop} (h : RT M B n s) (he : ∀ N f, smT B n s = .error f → ErR N f → FrR M N → Q (0, N)) (hk : ∀ N t, smT B n s = .ok t → s ≤ t → RT N B n t → FrR M N → Q (1, N)) : Tot (f_X12_wantSign 119 59 M) Q := by
  unfold f_X12_wantSign
  rw [t_callp, isSign_e h, t_some, t_ite]
  refine ⟨fun c => ?_, fun c => ?_⟩
  · have d : tkK B n s = 3 ∧ B s = 59 := by
      by_cases d : tkK B n s = 3 ∧ B s = 59
      · exact d
      · rw [if_neg d] at c; exact absurd rfl c
    rw [t_callv]
    refine aheadR_e h (fun N hN fN => ?_)
    rw [t_retzm]
    exact ⟨by omega, hk N _ (by unfold smT; rw [if_pos d]) (nx_b h.2.2.2.2).1 hN fN⟩
  · have d : ¬ (tkK B n s = 3 ∧ B s = 59) := fun d => by rw [if_pos d] at c; omega
    rw [t_call]
    refine failsR_e h 2 (fun N eN fN => ?_)
    rw [t_retzm]
    exact ⟨by omega, he N _ (by unfold smT; rw [if_neg d]) eN fN⟩
theorem inWords_i {M : Mem} {B K : Int → Int} {n s y : Int} (h : RT M B n s) (hK : KwC K) (y0 : 0 ≤ y) (y1 : y < 30) : Tot (f_X12_inWords 119 (-2) M) (fun u => u = pR y ↔ tkY B K n s = y) := by
  refine t_mono (inWords_e h.1 h.2.1 h.2.2.2.1 hK) (fun u hu => ?_)
  have r := tkY_r (B := B) (K := K) (n := n) (s := s)
  rw [hu]
  exact ⟨fun e => pR_inj r.1 r.2 (by omega) y1 e, fun e => by rw [e]⟩
theorem wantWord_e {M : Mem} {B K : Int → Int} {n s y x : Int} {Q : Int × Mem → Prop} (h : RT M B n s) (hK : KwC K) (y0 : 0 ≤ y) (y1 : y < 30) (hx : pR y = x) (he : ∀ N f, skT B K n y s = .error f → ErR N f → FrR M N → Q (0, N)) (hk : ∀ N t, skT B K n y s = .ok t → s ≤ t → RT N B n t → FrR M N → Q (1, N)) : Tot (f_X12_wantWord 119 (-2) x M) Q := by
  unfold f_X12_wantWord
  rw [t_callp]
  refine t_mono (inWords_i h hK y0 y1) (fun u hu => ?_)
  rw [hx] at hu
  rw [t_ite]
  refine ⟨fun c => ?_, fun c => ?_⟩
  · rw [t_callv]
    refine aheadR_e h (fun N hN fN => ?_)
    rw [t_retzm]
    exact ⟨by omega, hk N _ (by unfold skT; rw [if_pos (hu.mp c)]) (nx_b h.2.2.2.2).1 hN fN⟩
  · rw [t_call]
    refine failsR_e h 2 (fun N eN fN => ?_)
    rw [t_retzm]
    exact ⟨by omega, he N _ (by unfold skT; rw [if_neg (fun z => c (hu.mpr z))]) eN fN⟩
theorem isThere_e {M : Mem} {B K : Int → Int} {n s y x : Int} {Q : Int × Mem → Prop} (h : RT M B n s) (hK : KwC K) (y0 : 0 ≤ y) (y1 : y < 30) (hx : pR y = x) (he : tkY B K n s ≠ y → Q (0, M)) (hk : ∀ N, tkY B K n s = y → RT N B n (nx B n s) → FrR M N → Q (1, N)) : Tot (f_X12_isThere 119 x M) Q := by
  unfold f_X12_isThere
  rw [t_callp]
  refine t_mono (inWords_i h hK y0 y1) (fun u hu => ?_)
  rw [hx] at hu
  rw [t_ite]
  refine ⟨fun c => ?_, fun c => ?_⟩
  · rw [t_callv]
    refine aheadR_e h (fun N hN fN => ?_)
    rw [t_retzm]
    exact ⟨by omega, hk N (hu.mp c) hN fN⟩
  · rw [t_retzm]
    exact ⟨by omega, he (fun z => c (hu.mpr z))⟩
theorem number_e {M : Mem} {B : Int → Int} {n s l m x : Int} {Q : Int × Mem → Prop} (h : RT M B n s) (hr : LR M) (x0 : 0 ≤ x) (x1 : x < 3840) (he : ∀ N f, nuT B n l m s = .error f → ErR N f → FrR M N → Q (0, N)) (hk : ∀ N v t, nuT B n l m s = .ok (v, t) → l ≤ v → v ≤ m → s ≤ t → RT N B n t → N 120 x = v → (∀ a j, ¬ rpF a j → ¬ (a = 120 ∧ j = x) → N a j = M a j) → Q (1, N)) : Tot (f_X12_number 119 x l m M) Q := by
  have h' := h
  obtain ⟨hT, ⟨t1, t2, t3, t4, t5⟩, hf, s0, s1⟩ := h'
  obtain ⟨ra, rl⟩ := lr_a hr
  have kr := (kR_2 (k := tkK B n s) tk_r.1 tk_r.2).2.2.1
  unfold f_X12_number
  rw [t_getf, t3, t_ite]
  refine ⟨by omega, fun c => ?_, fun c => ?_⟩
  rotate_left
  · rw [t_call]
    refine failsR_e h 2 (fun N eN fN => ?_)
    rw [t_retzm]
    exact ⟨by omega, he N _ (by unfold nuT; rw [if_neg (fun z => c (kr.mpr z))]) eN fN⟩
  have k2 := kr.mp c
  have v5 : M 119 15 = numV B n s := t4 k2
  rw [t_getf, v5]
  refine ⟨by omega, ?_⟩
  refine t_jq (fun J : Option (Int × Mem) => ¬ (l ≤ numV B n s ∧ numV B n s ≤ m) → Tot J Q) (fun d => ?_) (fun J hJ => ?_)
  · rw [t_call]
    refine failsR_e h 4 (fun N eN fN => ?_)
    rw [t_retzm]
    exact ⟨by omega, he N _ (by unfold nuT; rw [if_pos k2, if_neg d]) eN fN⟩
  rw [t_ite]
  refine ⟨fun d => hJ (by omega), fun d => ?_⟩
  rw [t_getf, v5, t_ite]
  refine ⟨by omega, fun e => ?_, fun e => hJ (by omega)⟩
  rw [t_getf, ra, t_getf, v5, t_seti, rl, t_callv]
  refine ⟨by omega, by omega, by omega, by omega, by omega, ?_⟩
  have z : ∀ a j, ¬ (a = 120 ∧ j = x) → upd2 M 120 x (numV B n s) a j = M a j := fun a j hh => by rw [upd2_at, if_neg hh]
  refine aheadR_e (rt_k h (fun a j hh => z a j (by omega))) (fun N hN fN => ?_)
  rw [t_retzm]
  refine ⟨by omega, hk N _ _ (by unfold nuT; rw [if_pos k2, if_pos ⟨by omega, e⟩]) (by omega) e (nx_b s1).1 hN ?_ (fun a j q1 q2 => by rw [fN a j q1, z a j q2])⟩
  rw [fN _ _ (rpF_a (by omega)), upd2_at, if_pos ⟨rfl, rfl⟩]
theorem oldOne_e {M : Mem} {B K g : Int → Int} {n s b m o x : Int} {Q : Int × Mem → Prop} (h : RT M B n s) (hr : LR M) (hK : KwC K) (b0 : 0 ≤ b) (o0 : 0 ≤ o) (m0 : 0 ≤ m) (bm : b + o + m ≤ 140) (hg : ∀ k, 0 ≤ k → k < m → NmR (g k) (M 121 (b + o + k))) (x0 : 0 ≤ x) (x1 : x < 3840) (he : ∀ N f, knT B K n g m s = .error f → ErR N f → (∀ a j, ¬ rpF a j → ¬ (a = 120 ∧ j = x) → N a j = M a j) → Q (0, N)) (hk : ∀ N v t, knT B K n g m s = .ok (v, t) → 0 ≤ v → v < m → s ≤ t → RT N B n t → N 120 x = v → (∀ a j, ¬ rpF a j → ¬ (a = 120 ∧ j = x) → N a j = M a j) → Q (1, N)) : Tot (f_X12_oldOne 119 b m o x M) Q := by
  have h' := h
  obtain ⟨hT, hTk, hf, s0, s1⟩ := h'
  obtain ⟨ra, rl⟩ := lr_a hr
  unfold f_X12_oldOne
  rw [t_callp]
  refine t_mono (isName_e hT hTk s0 s1 hK) (fun u hu => ?_)
  rw [t_ite]
  by_cases d : tkY B K n s = -1 ∧ tkN B n s ≠ 0
  rotate_left
  · rw [if_neg (fun z => d z.2)] at hu
    refine ⟨fun c => absurd hu c, fun _ => ?_⟩
    rw [t_call]
    refine failsR_e h 2 (fun N eN fN => ?_)
    rw [t_retzm]
    exact ⟨by omega, he N _ (by unfold knT; rw [if_neg d]) eN (fun a j q1 _ => fN a j q1)⟩
  have k1 := tkN_w d.2
  rw [if_pos ⟨k1, d⟩] at hu
  refine ⟨fun _ => ?_, fun c => by omega⟩
  rw [t_getf, ra, t_callp, w32_s (by omega) (by omega)]
  refine ⟨by omega, t_mono (findHere_e hT hTk s0 k1 ((tkN_0 k1).mp d.2) hr.1.2.1 hr.2.2.1 (by omega) m0 bm hg) (fun v hv => ?_)⟩
  rw [t_seti, rl]
  refine ⟨by omega, by omega, by omega, ?_⟩
  have z : ∀ a j, ¬ (a = 120 ∧ j = x) → upd2 M 120 x v a j = M a j := fun a j hh => by rw [upd2_at, if_neg hh]
  have zx : upd2 M 120 x v 120 x = v := by rw [upd2_at, if_pos ⟨rfl, rfl⟩]
  generalize upd2 M 120 x v = Z at z zx ⊢
  have hZ : RT Z B n s := rt_k h (fun a j hh => z a j (by omega))
  rw [t_getf, z _ _ (by omega), ra, t_geti, z 120 (-1) (by omega), rl, zx, t_ite]
  refine ⟨by omega, by omega, by omega, by omega, fun e => ?_, fun e => ?_⟩
  · rw [t_callv]
    refine aheadR_e hZ (fun N hN fN => ?_)
    rw [t_retzm]
    rw [hv] at e
    rcases fdO_b (g := g) (c := tkN B n s) m0 with q | q
    · exact absurd q.1 e
    · refine ⟨by omega, hk N _ _ (by unfold knT; rw [if_pos d, if_neg e]) q.1 q.2.1 (nx_b s1).1 hN ?_ (fun a j q1 q2 => by rw [fN a j q1, z a j q2])⟩
      rw [fN _ _ (rpF_a (by omega)), zx, hv]
  · rw [t_call]
    refine failsR_e hZ 3 (fun N eN fN => ?_)
    rw [t_retzm]
    rw [hv] at e
    exact ⟨by omega, he N _ (by unfold knT; rw [if_pos d, if_pos (Classical.not_not.mp e)]) eN (fun a j q1 q2 => by rw [fN a j q1, z a j q2])⟩
abbrev tkn (w nm : Int → Int) (c : Int) : Prop := fdO nm (w 3) c ≠ -1 ∨ fdO (fun k => nm (10 + k)) (w 4) c ≠ -1 ∨ fdO (fun k => nm (16 + k)) (w 5) c ≠ -1
def neT (B K : Int → Int) (n : Int) (w nm : Int → Int) (s : Int) : Except Fl (Int × Int) := if tkY B K n s = -1 ∧ tkN B n s ≠ 0 then (if tkn w nm (tkN B n s) then .error (flT B n s 3) else .ok (tkN B n s, nx B n s)) else .error (flT B n s 2)
/-- a new name, of the i-th kind, of which there may be x -/
def noT (B K : Int → Int) (n : Int) (w nm : Int → Int) (i x s : Int) : Except Fl (Int × Int) := if w i = x then .error (flT B n s 6) else neT B K n w nm (nx B n s)
/-- the reference's new world, names -/
def NW (M : Mem) (w : Int → Int) : Prop := ∀ j, 0 ≤ j → j < 640 → M 120 (2560 + j) = w j
def RNw (M : Mem) (o : Int) (w nm : Int → Int) : Prop := (∀ k, 0 ≤ k → k < w 3 → NmR (nm k) (M 121 (o + k))) ∧ (∀ k, 0 ≤ k → k < w 4 → NmR (nm (10 + k)) (M 121 (o + 10 + k))) ∧ (∀ k, 0 ≤ k → k < w 5 → NmR (nm (16 + k)) (M 121 (o + 16 + k)))
def cntW (w : Int → Int) : Prop := (0 ≤ w 3 ∧ w 3 ≤ 10) ∧ (0 ≤ w 4 ∧ w 4 ≤ 6) ∧ (0 ≤ w 5 ∧ w 5 ≤ 10)
theorem newOne_e {M : Mem} {B K w nm : Int → Int} {n s i x o : Int} {Q : Int × Mem → Prop} (h : RT M B n s) (hr : LR M) (hK : KwC K) (hw : NW M w) (hn : RNw M 104 w nm) (hc : cntW w) (hi : (i = 3 ∧ x = 10 ∧ o = 0) ∨ (i = 4 ∧ x = 6 ∧ o = 10) ∨ (i = 5 ∧ x = 10 ∧ o = 16)) (he : ∀ N f, noT B K n w nm i x s = .error f → ErR N f → FrR M N → Q (0, N)) (hk : ∀ N c t r, noT B K n w nm i x s = .ok (c, t) → w i < x → c ≠ 0 → nx B n s ≤ t → RT N B n t → NmR c r → N 121 (104 + o + w i) = r → (∀ a j, ¬ rpF a j → ¬ (a = 121 ∧ j = 104 + o + w i) → N a j = M a j) → Q (1, N)) : Tot (f_X12_newOne 119 i x o M) Q := by
  obtain ⟨c3, c4, c5⟩ := hc
  have wi : M 120 (2560 + i) = w i := hw i (by omega) (by omega)
  have bi : 0 ≤ w i ∧ w i ≤ x := by rcases hi with q | q | q <;> (obtain ⟨rfl, rfl, rfl⟩ := q; omega)
  obtain ⟨ra, rl⟩ := lr_a hr
  unfold f_X12_newOne
  rw [t_getf, ra, t_geti, rl, w32_s (x := 2560 + i) (by omega) (by omega), wi, t_ite]
  refine ⟨by omega, by omega, by omega, by omega, fun c => ?_, fun c => ?_⟩
  rotate_left
  · rw [t_call]
    refine failsR_e h 6 (fun N eN fN => ?_)
    rw [t_retzm]
    exact ⟨by omega, he N _ (by unfold noT; rw [if_pos (by omega)]) eN fN⟩
  have nT : noT B K n w nm i x s = neT B K n w nm (nx B n s) := by unfold noT; rw [if_neg c]
  rw [nT] at he hk
  rw [t_callv]
  refine aheadR_e h (fun Y hY fY => ?_)
  have hrY : LR Y := lr_p hr (fun j _ _ _ q => fY _ _ (fun z => by unfold rpF at z; omega)) (fun a _ _ => fY _ _ (fun z => by unfold rpF at z; omega))
  obtain ⟨rb, rm⟩ := lr_a hrY
  have hwY : NW Y w := fun j a b => by rw [fY _ _ (rpF_a (by omega))]; exact hw j a b
  have hnY : RNw Y 104 w nm := ⟨fun k a b => by rw [fY _ _ (rpF_a (by omega))]; exact hn.1 k a b, fun k a b => by rw [fY _ _ (rpF_a (by omega))]; exact hn.2.1 k a b, fun k a b => by rw [fY _ _ (rpF_a (by omega))]; exact hn.2.2 k a b⟩
  have hY' := hY
  obtain ⟨hT, hTk, hf, s0, s1⟩ := hY'
  generalize nx B n s = p at *
  rw [t_callp]
  refine t_mono (isName_e hT hTk s0 s1 hK) (fun u hu => ?_)
  rw [t_ite]
  by_cases d : tkY B K n p = -1 ∧ tkN B n p ≠ 0
  rotate_left
  · rw [if_neg (fun z => d z.2)] at hu
    refine ⟨fun c => absurd hu c, fun _ => ?_⟩
    rw [t_call]
    refine failsR_e hY 2 (fun N eN fN => ?_)
    rw [t_retzm]
    exact ⟨by omega, he N _ (by unfold neT; rw [if_neg d]) eN (frr_t fY fN)⟩
  have k1 := tkN_w d.2
  have h8 := (tkN_0 k1).mp d.2
  rw [if_pos ⟨k1, d⟩] at hu
  refine ⟨fun _ => ?_, fun c => by omega⟩
  have y3 : Y 120 2563 = w 3 := hwY 3 (by omega) (by omega)
  have y4 : Y 120 2564 = w 4 := hwY 4 (by omega) (by omega)
  have y5 : Y 120 2565 = w 5 := hwY 5 (by omega) (by omega)
  have yi : Y 120 (2560 + i) = w i := hwY i (by omega) (by omega)
  rw [t_getf, rb, t_geti, rm, y3, t_callp]
  refine ⟨by omega, by omega, by omega, by omega, t_mono (findHere_e hT hTk s0 k1 h8 hrY.1.2.1 hrY.2.2.1 (by omega) (by omega) (by omega) hnY.1) (fun v3 hv3 => ?_)⟩
  refine t_jq (fun J : Option (Int × Mem) => tkn w nm (tkN B n p) → Tot J Q) (fun e => ?_) (fun J hJ => ?_)
  · rw [t_call]
    refine failsR_e hY 3 (fun N eN fN => ?_)
    rw [t_retzm]
    exact ⟨by omega, he N _ (by unfold neT; rw [if_pos d, if_pos e]) eN (frr_t fY fN)⟩
  rw [t_ite]
  refine ⟨fun e => hJ (.inl (by rw [← hv3]; exact e)), fun e3 => ?_⟩
  rw [t_getf, rb, t_geti, rm, y4, t_callp]
  refine ⟨by omega, by omega, by omega, by omega, t_mono (findHere_e (b := 114) hT hTk s0 k1 h8 hrY.1.2.1 hrY.2.2.1 (by omega) (by omega) (by omega) hnY.2.1) (fun v4 hv4 => ?_)⟩
  rw [t_ite]
  refine ⟨fun e => hJ (.inr (.inl (by rw [← hv4]; exact e))), fun e4 => ?_⟩
  rw [t_getf, rb, t_geti, rm, y5, t_callp]
  refine ⟨by omega, by omega, by omega, by omega, t_mono (findHere_e (b := 120) hT hTk s0 k1 h8 hrY.1.2.1 hrY.2.2.1 (by omega) (by omega) (by omega) hnY.2.2) (fun v5 hv5 => ?_)⟩
  rw [t_ite]
  refine ⟨fun e5 => ?_, fun e => hJ (.inr (.inr (by rw [← hv5]; exact e)))⟩
  have nt : ¬ tkn w nm (tkN B n p) := by
    rintro (q | q | q)
    · exact q (by omega)
    · exact q (by omega)
    · exact q (by omega)
  have rn : Y 119 1 = 121 := hrY.1.2.1
  have rnl : Y 121 (-1) = 140 := hrY.2.2.1
  rw [t_getf, rn, t_getf, rb, t_geti, rm, yi, t_callp]
  refine ⟨by omega, by omega, by omega, by omega, by omega, t_mono (nameHere_e hT hTk s0 k1 h8) (fun r hrr => ?_)⟩
  rw [t_seti, rnl, w32_s (x := 104 + o) (by omega) (by omega), w32_s (x := 104 + o + w i) (by omega) (by omega), t_callv]
  refine ⟨by omega, by omega, by omega, ?_⟩
  have z : ∀ a j, ¬ (a = 121 ∧ j = 104 + o + w i) → upd2 Y 121 (104 + o + w i) r a j = Y a j := fun a j hh => by rw [upd2_at, if_neg hh]
  refine aheadR_e (rt_k hY (fun a j hh => z a j (by omega))) (fun N hN fN => ?_)
  rw [t_retzm]
  refine ⟨by omega, hk N _ _ r (by unfold neT; rw [if_pos d, if_neg nt]) (by omega) d.2 (nx_b s1).1 hN (by rw [hrr]; exact nmr_t k1 h8) ?_ (fun a j q1 q2 => by rw [fN a j q1, z a j q2, fY a j q1])⟩
  rw [fN _ _ (rpF_a (by omega)), upd2_at, if_pos ⟨rfl, rfl⟩]
