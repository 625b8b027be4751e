/-! the small steps of reading: the class -/
def nx (B : Int → Int) (n s : Int) : Int := rnE blB B n (tkE B n s)
theorem tkE_b {B : Int → Int} {n s : Int} (h : s ≤ n) : s ≤ tkE B n s ∧ tkE B n s ≤ n ∧ (s < n → s < tkE B n s) := by
  by_cases c : n ≤ s
  · rw [(tk_0 (K := B) c).1]; omega
  by_cases w : 97 ≤ B s ∧ B s ≤ 122
  · have q := tk_l (B := B) (n := n) (s := s) (tk_w.mpr ⟨by omega, w⟩)
    exact ⟨by omega, q.2.1, fun _ => q.1⟩
  by_cases d : 48 ≤ B s ∧ B s ≤ 57
  · rw [(tk_2 (K := B) (by omega) d).1]
    obtain ⟨r1, r2, r3, r4⟩ := rn_b (C := rgB 48 57) (B := B) (n := n) (p := s) h
    refine ⟨r1, r2, fun _ => ?_⟩
    by_cases e : rnE (rgB 48 57) B n s = s
    · have := r4 (by omega)
      rw [e, rg_t] at this; exact absurd d this
    · omega
  · rw [(tk_3 (K := B) (by omega) w d).1]; omega
theorem nx_b {B : Int → Int} {n s : Int} (h : s ≤ n) : s ≤ nx B n s ∧ nx B n s ≤ n ∧ (s < n → s < nx B n s) := by
  obtain ⟨a, b, c⟩ := tkE_b (B := B) h
  obtain ⟨r1, r2, _, _⟩ := rn_b (C := blB) (B := B) (n := n) (p := tkE B n s) b
  unfold nx
  exact ⟨by omega, r2, fun q => by have := c q; omega⟩
theorem tk_end {B : Int → Int} {n s : Int} : tkK B n s = 0 ↔ n ≤ s := by
  by_cases c : n ≤ s
  · rw [(tk_0 (K := B) c).2.1]; omega
  by_cases w : 97 ≤ B s ∧ B s ≤ 122
  · rw [(tk_1 (K := B) (by omega) w).2.1]; omega
  by_cases d : 48 ≤ B s ∧ B s ≤ 57
  · rw [(tk_2 (K := B) (by omega) d).2.1]
    by_cases g : rnE (rgB 48 57) B n s - s ≤ 4
    · rw [if_pos g]; omega
    · rw [if_neg g]; omega
  · rw [(tk_3 (K := B) (by omega) w d).2.1]
    by_cases g : B s = 59 ∨ B s = 60 ∨ B s = 61 ∨ B s = 62
    · rw [if_pos g]; omega
    · rw [if_neg g]; omega
theorem tkY_w {B K : Int → Int} {n s : Int} (h : tkY B K n s ≠ -1) : tkK B n s = 1 := by
  rw [tk_w]
  by_cases c : s < n ∧ 97 ≤ B s ∧ B s ≤ 122
  · exact c
  · unfold tkY at h; rw [if_neg c] at h; exact absurd rfl h
theorem tkN_w {B : Int → Int} {n s : Int} (h : tkN B n s ≠ 0) : tkK B n s = 1 := by
  rw [tk_w]
  by_cases c : s < n ∧ 97 ≤ B s ∧ B s ≤ 122
  · exact c
  · unfold tkN at h; rw [if_neg c] at h; exact absurd rfl h
abbrev Fl : Type := Int × Int
def flT (B : Int → Int) (n s y : Int) : Fl := (if tkK B n s = 4 then 1 else y, s)
def skT (B K : Int → Int) (n y s : Int) : Except Fl Int := if tkY B K n s = y then .ok (nx B n s) else .error (flT B n s 2)
def smT (B : Int → Int) (n s : Int) : Except Fl Int := if tkK B n s = 3 ∧ B s = 59 then .ok (nx B n s) else .error (flT B n s 2)
def numV (B : Int → Int) (n s : Int) : Int := numS B (tkE B n s - s).toNat s 0
def nuT (B : Int → Int) (n l m s : Int) : Except Fl (Int × Int) := if tkK B n s = 2 then (if l ≤ numV B n s ∧ numV B n s ≤ m then .ok (numV B n s, nx B n s) else .error (flT B n s 4)) else .error (flT B n s 2)
def knT (B K : Int → Int) (n : Int) (g : Int → Int) (m s : Int) : Except Fl (Int × Int) := if tkY B K n s = -1 ∧ tkN B n s ≠ 0 then (if fdO g m (tkN B n s) = -1 then .error (flT B n s 3) else .ok (fdO g m (tkN B n s), nx B n s)) else .error (flT B n s 2)
/-- the class reads, at the token s -/
def CT (M : Mem) (B K : Int → Int) (n s : Int) : Prop := TpC M n ∧ (M 11 = B ∧ M 12 = K) ∧ TkC M B K n s ∧ (M 10 11 = 0 ∧ M 10 12 = -1) ∧ 0 ≤ s ∧ s ≤ n
def tpF (a j : Int) : Prop := a = 10 ∧ (j = 3 ∨ j = 4 ∨ j = 5 ∨ 7 ≤ j ∧ j ≤ 12)
theorem tpF_n {a j : Int} (h : ¬ tpF a j) : ¬ (a = 10 ∧ (j = 3 ∨ j = 4 ∨ j = 5 ∨ 7 ≤ j ∧ j ≤ 12)) := h
theorem tpF_a {a j : Int} (h : a ≠ 10) : ¬ tpF a j := fun q => h q.1
def FrC (M N : Mem) : Prop := ∀ a j, ¬ tpF a j → N a j = M a j
def ErC (N : Mem) (f : Fl) : Prop := N 10 11 = f.1 ∧ N 10 12 = f.2
theorem frc_t {M N P : Mem} (h : FrC M N) (k : FrC N P) : FrC M P := fun a j q => by rw [k a j q, h a j q]
theorem ct_k {M N : Mem} {B K : Int → Int} {n s : Int} (h : CT M B K n s) (k : ∀ a j, (a = 1 ∧ j = 1) ∨ (10 ≤ a ∧ a ≤ 12) → N a j = M a j) : CT N B K n s := by
  obtain ⟨⟨⟨h1, h2, h3, h4, h5⟩, hn, n0, n1⟩, ⟨hB, hK⟩, ⟨t1, t2, t3, t4, t5, t6, t7⟩, hf, s0, s1⟩ := h
  refine ⟨⟨⟨?_, ?_, ?_, ?_, ?_⟩, ?_, n0, n1⟩, ⟨?_, ?_⟩, ⟨?_, ?_, ?_, fun c => ?_, fun c => ?_, ?_, ?_⟩, ?_, s0, s1⟩
  · rw [k _ _ (by omega)]; exact h1
  · rw [k _ _ (by omega)]; exact h2
  · rw [k _ _ (by omega)]; exact h3
  · rw [k _ _ (by omega)]; exact h4
  · rw [k _ _ (by omega)]; exact h5
  · rw [k _ _ (by omega)]; exact hn
  · rw [← hB]; exact funext (fun j => k _ _ (by omega))
  · rw [← hK]; exact funext (fun j => k _ _ (by omega))
  · rw [k _ _ (by omega)]; exact t1
  · rw [k _ _ (by omega)]; exact t2
  · rw [k _ _ (by omega)]; exact t3
  · rw [k _ _ (by omega)]; exact t4 c
  · rw [k _ _ (by omega)]; exact t5 c
  · rw [k _ _ (by omega)]; exact t6
  · rw [k _ _ (by omega)]; exact t7
  · rw [k 10 11 (by omega), k 10 12 (by omega)]; exact hf
theorem stepC_e {M : Mem} {B K : Int → Int} {n s : Int} {Q : Mem → Prop} (h : CT M B K n s) (hq : ∀ N, CT N B K n (nx B n s) → FrC M N → Q N) : Tot (f_X6_step 10 M) Q := by
  obtain ⟨hT, ⟨hB, hK⟩, ⟨t1, t2, t3, t4, t5, t6, t7⟩, hf, s0, s1⟩ := h
  obtain ⟨e1, e2, e3⟩ := tkE_b (B := B) s1
  have hT' := hT
  obtain ⟨⟨h1, h2, h3, h4, h5⟩, hn, n0, n1⟩ := hT'
  refine step_e hT t2 (by omega) e2 (fun N kN tN => ?_)
  rw [hB, hK] at tN
  have st : ∀ a j, ¬ (a = 10 ∧ (j = 3 ∨ j = 4 ∨ j = 5 ∨ j = 7 ∨ j = 8 ∨ j = 9 ∨ j = 10)) → N a j = M a j := fun a j q => kN a j q
  have nb := nx_b (B := B) s1
  refine hq N ⟨⟨⟨?_, ?_, ?_, ?_, ?_⟩, ?_, n0, n1⟩, ⟨?_, ?_⟩, tN, ?_, by omega, nb.2.1⟩ (fun a j q => st a j (by have := tpF_n q; omega))
  · rw [st _ _ (by omega)]; exact h1
  · rw [st _ _ (by omega)]; exact h2
  · rw [st _ _ (by omega)]; exact h3
  · rw [st _ _ (by omega)]; exact h4
  · rw [st _ _ (by omega)]; exact h5
  · rw [st _ _ (by omega)]; exact hn
  · rw [← hB]; exact funext (fun j => st _ _ (by omega))
  · rw [← hK]; exact funext (fun j => st _ _ (by omega))
  · rw [st 10 11 (by omega), st 10 12 (by omega)]; exact hf
theorem blameC_e {M : Mem} {B K : Int → Int} {n s : Int} {Q : Int × Mem → Prop} (h : CT M B K n s) (y : Int) (hq : ∀ N, ErC N (flT B n s y) → FrC M N → Q (0, N)) : Tot (f_X6_blame 10 y M) Q := by
  obtain ⟨hT, ⟨hB, hK⟩, ⟨t1, t2, t3, t4, t5, t6, t7⟩, hf, s0, s1⟩ := h
  refine t_mono (blame_e y) (fun q hq2 => ?_)
  obtain ⟨q1, q2⟩ := hq2
  have e : q = (0, blM M y) := by rw [← q1, ← q2]
  rw [e]
  unfold blM
  rw [if_neg (by omega), t1, t3]
  refine hq _ ⟨?_, ?_⟩ (fun a j hh => ?_)
  · rw [upd2_at, if_neg (by omega), upd2_at, if_pos ⟨rfl, rfl⟩]; rfl
  · rw [upd2_at, if_pos ⟨rfl, rfl⟩]; rfl
  · have := tpF_n hh
    rw [upd2_at, if_neg (by omega), upd2_at, if_neg (by omega)]
theorem isAt_e {M : Mem} {B K : Int → Int} {n s : Int} (h : CT M B K n s) {y : Int} (y0 : 0 ≤ y) : f_X6_isAt 10 y M = some (if tkY B K n s = y then 1 else 0) := by
  obtain ⟨hT, ⟨hB, hK⟩, ⟨t1, t2, t3, t4, t5, t6, t7⟩, hf, s0, s1⟩ := h
  have w := tkY_w (B := B) (K := K) (n := n) (s := s)
  simp only [f_X6_isAt, getf, jn, retz, t3, t7]
  by_cases c : tkY B K n s = y
  · have := w (by omega)
    simp [this, c]
  · by_cases d : tkK B n s = 1 <;> simp [d, c]
theorem isAtEnd_e {M : Mem} {B K : Int → Int} {n s : Int} (h : CT M B K n s) : f_X6_isAtEnd 10 M = some (if n ≤ s then 1 else 0) := by
  obtain ⟨hT, ⟨hB, hK⟩, ⟨t1, t2, t3, t4, t5, t6, t7⟩, hf, s0, s1⟩ := h
  have e := tk_end (B := B) (n := n) (s := s)
  simp only [f_X6_isAtEnd, getf, jn, retz, t3]
  by_cases c : n ≤ s
  · simp [e.mpr c, c]
  · have : ¬ tkK B n s = 0 := fun z => c (e.mp z)
    simp [this, c]
theorem isAtName_e {M : Mem} {B K : Int → Int} {n s : Int} (h : CT M B K n s) : f_X6_isAtName 10 M = some (if tkY B K n s = -1 ∧ tkN B n s ≠ 0 then 1 else 0) := by
  obtain ⟨hT, ⟨hB, hK⟩, ⟨t1, t2, t3, t4, t5, t6, t7⟩, hf, s0, s1⟩ := h
  have w := tkN_w (B := B) (n := n) (s := s)
  simp only [f_X6_isAtName, getf, jn, retz, t3, t6, t7]
  by_cases c : tkN B n s = 0
  · by_cases d : tkK B n s = 1 <;> by_cases e : tkY B K n s = -1 <;> simp [c, d, e]
  · by_cases e : tkY B K n s = -1 <;> simp [c, e, w c]
theorem skip_e {M : Mem} {B K : Int → Int} {n s y : Int} {Q : Int × Mem → Prop} (h : CT M B K n s) (y0 : 0 ≤ y) (he : ∀ N f, skT B K n y s = .error f → ErC N f → FrC M N → Q (0, N)) (hk : ∀ N t, skT B K n y s = .ok t → s ≤ t → CT N B K n t → FrC M N → Q (1, N)) : Tot (f_X6_skip 10 y M) Q := by
  unfold f_X6_skip
  rw [t_callp, isAt_e h y0, t_some, t_ite]
  refine ⟨fun c => ?_, fun c => ?_⟩
  · have d : tkY B K n s = y := by
      by_cases d : tkY B K n s = y
      · exact d
      · rw [if_neg d] at c; exact absurd rfl c
    rw [t_callv]
    refine stepC_e h (fun N hN fN => ?_)
    rw [t_retzm]
    exact ⟨by omega, hk N _ (by unfold skT; rw [if_pos d]) (nx_b h.2.2.2.2.2).1 hN fN⟩
  · have d : ¬ tkY B K n s = y := fun d => by rw [if_pos d] at c; omega
    rw [t_call]
    refine blameC_e h 2 (fun N eN fN => ?_)
    rw [t_retzm]
    exact ⟨by omega, he N _ (by unfold skT; rw [if_neg d]) eN fN⟩
theorem semi_e {M : Mem} {B K : Int → Int} {n s : Int} {Q : Int × Mem → Prop} (h : CT M B K n s) (he : ∀ N f, smT B n s = .error f → ErC N f → FrC M N → Q (0, N)) (hk : ∀ N t, smT B n s = .ok t → s ≤ t → CT N B K n t → FrC M N → Q (1, N)) : Tot (f_X6_skipSemicolon 10 M) Q := by
  have h' := h
  obtain ⟨hT, ⟨hB, hK⟩, ⟨t1, t2, t3, t4, t5, t6, t7⟩, hf, s0, s1⟩ := h'
  unfold f_X6_skipSemicolon
  rw [t_getf, t3]
  refine ⟨by omega, ?_⟩
  refine t_jq (fun J : Option (Int × Mem) => ¬ (tkK B n s = 3 ∧ B s = 59) → Tot J Q) (fun d => ?_) (fun J hJ => ?_)
  · rw [t_call]
    refine blameC_e h 2 (fun N eN fN => ?_)
    rw [t_retzm]
    exact ⟨by omega, he N _ (by unfold smT; rw [if_neg d]) eN fN⟩
  rw [t_ite]
  refine ⟨fun c => hJ (fun q => c q.1), fun c => ?_⟩
  have k3 : tkK B n s = 3 := Classical.not_not.mp c
  rw [t_getf, t5 k3, t_ite]
  refine ⟨by omega, fun d => ?_, fun d => hJ (fun q => d q.2)⟩
  rw [t_callv]
  refine stepC_e h (fun N hN fN => ?_)
  rw [t_retzm]
  exact ⟨by omega, hk N _ (by unfold smT; rw [if_pos ⟨k3, d⟩]) (nx_b s1).1 hN fN⟩
theorem takeNumber_e {M : Mem} {B K : Int → Int} {n s l m : Int} {Q : Int × Mem → Prop} (h : CT M B K n s) (he : ∀ N f, nuT B n l m s = .error f → ErC N f → FrC M N → Q (-1, N)) (hk : ∀ N v t, nuT B n l m s = .ok (v, t) → l ≤ v → v ≤ m → s ≤ t → CT N B K n t → FrC M N → Q (v, N)) : Tot (f_X6_takeNumber 10 l m M) Q := by
  have h' := h
  obtain ⟨hT, ⟨hB, hK⟩, ⟨t1, t2, t3, t4, t5, t6, t7⟩, hf, s0, s1⟩ := h'
  unfold f_X6_takeNumber
  rw [t_getf, t3, t_ite]
  refine ⟨by omega, fun c => ?_, fun c => ?_⟩
  rotate_left
  · rw [t_call]
    refine blameC_e h 2 (fun N eN fN => ?_)
    rw [t_some]
    exact he N _ (by unfold nuT; rw [if_neg c]) eN fN
  have v5 : M 10 5 = numV B n s := t4 c
  rw [t_getf, v5]
  refine ⟨by omega, ?_⟩
  refine t_jq (fun J : Option (Int × Mem) => ¬ (l ≤ numV B n s ∧ numV B n s ≤ m) → Tot J Q) (fun d => ?_) (fun J hJ => ?_)
  · rw [t_call]
    refine blameC_e h 4 (fun N eN fN => ?_)
    rw [t_some]
    exact he N _ (by unfold nuT; rw [if_pos c, if_neg d]) eN fN
  rw [t_ite]
  refine ⟨fun d => hJ (by omega), fun d => ?_⟩
  rw [t_getf, v5, t_ite]
  refine ⟨by omega, fun e => ?_, fun e => hJ (by omega)⟩
  rw [t_getf, v5, t_callv]
  refine ⟨by omega, stepC_e h (fun N hN fN => ?_)⟩
  rw [t_some]
  exact hk N _ _ (by unfold nuT; rw [if_pos c, if_pos ⟨by omega, e⟩]) (by omega) e (nx_b s1).1 hN fN
theorem takeKnown_e {M : Mem} {B K g : Int → Int} {n s a m : Int} {Q : Int × Mem → Prop} (h : CT M B K n s) (a0 : a ≠ 0) (m0 : 0 ≤ m) (ml : m ≤ M a (-1)) (m1 : m ≤ 1000) (hg : ∀ k, 0 ≤ k → k < m → M a k = g k) (he : ∀ N f, knT B K n g m s = .error f → ErC N f → FrC M N → Q (-1, N)) (hk : ∀ N v t, knT B K n g m s = .ok (v, t) → 0 ≤ v → v < m → s ≤ t → CT N B K n t → FrC M N → Q (v, N)) : Tot (f_X6_takeKnown 10 a m M) Q := by
  have h' := h
  obtain ⟨hT, ⟨hB, hK⟩, ⟨t1, t2, t3, t4, t5, t6, t7⟩, hf, s0, s1⟩ := h'
  unfold f_X6_takeKnown
  rw [t_callp, isAtName_e h, t_some, t_ite]
  refine ⟨fun c => ?_, fun c => ?_⟩
  rotate_left
  · have d : ¬ (tkY B K n s = -1 ∧ tkN B n s ≠ 0) := fun d => by rw [if_pos d] at c; omega
    rw [t_call]
    refine blameC_e h 2 (fun N eN fN => ?_)
    rw [t_some]
    exact he N _ (by unfold knT; rw [if_neg d]) eN fN
  have d : tkY B K n s = -1 ∧ tkN B n s ≠ 0 := by
    by_cases d : tkY B K n s = -1 ∧ tkN B n s ≠ 0
    · exact d
    · rw [if_neg d] at c; exact absurd rfl c
  rw [t_getf, t6, t_callp]
  refine ⟨by omega, t_mono (find_e a0 m0 ml m1) (fun u hu => ?_)⟩
  rw [fdO_congr hg] at hu
  rw [hu, t_ite]
  refine ⟨fun e => ?_, fun e => ?_⟩
  · rw [t_callv]
    refine stepC_e h (fun N hN fN => ?_)
    rw [t_some]
    rcases fdO_b (g := g) (c := tkN B n s) m0 with q | q
    · exact absurd q.1 e
    · exact hk N _ _ (by unfold knT; rw [if_pos d, if_neg e]) q.1 q.2.1 (nx_b s1).1 hN fN
  · rw [t_call]
    refine blameC_e h 3 (fun N eN fN => ?_)
    rw [t_some]
    exact he N _ (by unfold knT; rw [if_pos d, if_pos (Classical.not_not.mp e)]) eN fN
