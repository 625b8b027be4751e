/-! the order of a new valley, pure -/
def selC (p : Int → Bool) : Int → Nat → List Int
  | _, 0 => []
  | lo, k + 1 => (if p lo = true then [lo] else []) ++ selC p (lo + 1) k
theorem sel_snoc {p : Int → Bool} : ∀ (k : Nat) (lo : Int), selC p lo (k + 1) = selC p lo k ++ (if p (lo + k) = true then [lo + k] else [])
  | 0, lo => by
    show (if p lo = true then [lo] else []) ++ [] = [] ++ (if p (lo + ((0 : Nat) : Int)) = true then [lo + ((0 : Nat) : Int)] else [])
    rw [show lo + ((0 : Nat) : Int) = lo by omega, List.append_nil, List.nil_append]
  | k + 1, lo => by
    show (if p lo = true then [lo] else []) ++ selC p (lo + 1) (k + 1) = ((if p lo = true then [lo] else []) ++ selC p (lo + 1) k) ++ (if p (lo + ((k + 1 : Nat) : Int)) = true then [lo + ((k + 1 : Nat) : Int)] else [])
    rw [sel_snoc k, List.append_assoc, show lo + 1 + ((k : Nat) : Int) = lo + ((k + 1 : Nat) : Int) by omega]
theorem sel_mem {p : Int → Bool} : ∀ (k : Nat) (lo x : Int), x ∈ selC p lo k ↔ (lo ≤ x ∧ x < lo + k ∧ p x = true)
  | 0, lo, x => by
    show x ∈ [] ↔ _
    exact ⟨fun h => (nomatch h), fun h => by omega⟩
  | k + 1, lo, x => by
    show x ∈ (if p lo = true then [lo] else []) ++ selC p (lo + 1) k ↔ _
    rw [List.mem_append, sel_mem k]
    by_cases c : p lo = true
    · rw [if_pos c, List.mem_singleton]
      refine ⟨fun h => ?_, fun h => ?_⟩
      · rcases h with h | h
        · rw [h]; exact ⟨by omega, by omega, c⟩
        · exact ⟨by omega, by omega, h.2.2⟩
      · by_cases e : x = lo
        · exact .inl e
        · exact .inr ⟨by omega, by omega, h.2.2⟩
    · rw [if_neg c]
      refine ⟨fun h => ?_, fun h => ?_⟩
      · rcases h with h | h
        · exact nomatch h
        · exact ⟨by omega, by omega, h.2.2⟩
      · by_cases e : x = lo
        · rw [e] at h; exact absurd h.2.2 c
        · exact .inr ⟨by omega, by omega, h.2.2⟩
def ND (L : List Int) : Prop := L.Pairwise (fun a b => a ≠ b)
theorem nd_app {L R : List Int} : ND (L ++ R) ↔ ND L ∧ ND R ∧ ∀ a ∈ L, ∀ b ∈ R, a ≠ b := List.pairwise_append
theorem nd_cons {x : Int} {L : List Int} : ND (x :: L) ↔ (∀ b ∈ L, x ≠ b) ∧ ND L := List.pairwise_cons
theorem nd_nil : ND [] := List.Pairwise.nil
theorem sel_nd {p : Int → Bool} : ∀ (k : Nat) (lo : Int), ND (selC p lo k)
  | 0, _ => nd_nil
  | k + 1, lo => by
    show ND ((if p lo = true then [lo] else []) ++ selC p (lo + 1) k)
    rw [nd_app]
    refine ⟨?_, sel_nd k _, fun a ha b hb => ?_⟩
    · by_cases c : p lo = true
      · rw [if_pos c, nd_cons]; exact ⟨fun b hb => (nomatch hb), nd_nil⟩
      · rw [if_neg c]; exact nd_nil
    · rw [sel_mem] at hb
      by_cases c : p lo = true
      · rw [if_pos c, List.mem_singleton] at ha; omega
      · rw [if_neg c] at ha; exact nomatch ha
theorem nd_sub : ∀ (L R : List Int), ND L → (∀ x ∈ L, x ∈ R) → L.length ≤ R.length
  | [], _, _, _ => Nat.zero_le _
  | x :: L, R, h, hs => by
    rw [nd_cons] at h
    have hx := hs x (List.mem_cons_self ..)
    have := nd_sub L (R.erase x) h.2 (fun y hy => (List.mem_erase_of_ne (fun e => h.1 y hy e.symm)).mpr (hs y (List.mem_cons_of_mem _ hy)))
    rw [List.length_erase_of_mem hx] at this
    have := List.length_pos_of_mem hx
    rw [List.length_cons]; omega
theorem sel_all {n : Nat} : (selC (fun _ => true) 0 n).length = n := by
  induction n with
  | zero => rfl
  | succ n ih =>
    rw [sel_snoc, List.length_append, ih]; rfl
theorem nd_len {L : List Int} {n : Int} (h : ND L) (n0 : 0 ≤ n) (hb : ∀ x ∈ L, 0 ≤ x ∧ x < n) : (L.length : Int) ≤ n := by
  have := nd_sub L (selC (fun _ => true) 0 n.toNat) h (fun x hx => by rw [sel_mem]; have := hb x hx; exact ⟨by omega, by omega, rfl⟩)
  rw [sel_all] at this; omega
theorem nd_full {L : List Int} {n : Int} (n0 : 0 ≤ n) (hb : ∀ x, 0 ≤ x → x < n → x ∈ L) : n ≤ L.length := by
  have := nd_sub (selC (fun _ => true) 0 n.toNat) L (sel_nd _ _) (fun x hx => by rw [sel_mem] at hx; exact hb x (by omega) (by omega))
  rw [sel_all] at this; omega
def chl (w : Int → Int) (r : Int) : List Int := selC (fun q => decide (rc w q 0 = r)) 0 (w 3).toNat
def fld (w : Int → Int) (r : Int) : List Int := selC (fun f => decide (fc w f 0 = r)) 0 (w 5).toNat
theorem mem_chl {w : Int → Int} {r x : Int} (h : 0 ≤ w 3) : x ∈ chl w r ↔ 0 ≤ x ∧ x < w 3 ∧ rc w x 0 = r := by
  unfold chl; rw [sel_mem, decide_eq_true_iff]
  exact ⟨fun q => ⟨by omega, by omega, q.2.2⟩, fun q => ⟨by omega, by omega, q.2.2⟩⟩
theorem mem_fld {w : Int → Int} {r x : Int} (h : 0 ≤ w 5) : x ∈ fld w r ↔ 0 ≤ x ∧ x < w 5 ∧ fc w x 0 = r := by
  unfold fld; rw [sel_mem, decide_eq_true_iff]
  exact ⟨fun q => ⟨by omega, by omega, q.2.2⟩, fun q => ⟨by omega, by omega, q.2.2⟩⟩
def dfs (w : Int → Int) : Nat → Int → List Int
  | 0, _ => []
  | d + 1, r => fld w r ++ (chl w r).flatMap (dfs w d)
theorem fm_congr {L : List Int} {f g : Int → List Int} (h : ∀ x ∈ L, f x = g x) : L.flatMap f = L.flatMap g := by
  induction L with
  | nil => rfl
  | cons x L ih =>
    rw [List.flatMap_cons, List.flatMap_cons, h x (List.mem_cons_self ..), ih (fun y hy => h y (List.mem_cons_of_mem _ hy))]
theorem nil_of {L : List Int} (h : ∀ x, x ∉ L) : L = [] := by
  cases L with
  | nil => rfl
  | cons x L => exact absurd (List.mem_cons_self ..) (h x)
theorem dfs_st {w : Int → Int} (hr : WFr w) (hf : WFf w) (h3 : 0 ≤ w 3) (h5 : 0 ≤ w 5) : ∀ (d : Nat) (r : Int), 0 ≤ r → w 3 - r ≤ d → dfs w (d + 1) r = dfs w d r
  | 0, r, r0, hd => by
    show fld w r ++ (chl w r).flatMap (dfs w 0) = []
    have e1 : fld w r = [] := nil_of (fun x hx => by
      rw [mem_fld h5] at hx
      have := hf x hx.1 hx.2.1; omega)
    have e2 : chl w r = [] := nil_of (fun x hx => by
      rw [mem_chl h3] at hx
      have := hr x hx.1 hx.2.1; omega)
    rw [e1, e2]; rfl
  | d + 1, r, r0, hd => by
    show fld w r ++ (chl w r).flatMap (dfs w (d + 1)) = fld w r ++ (chl w r).flatMap (dfs w d)
    rw [fm_congr (fun x hx => dfs_st hr hf h3 h5 d x (by rw [mem_chl h3] at hx; omega) (by
      rw [mem_chl h3] at hx
      have := hr x hx.1 hx.2.1; omega))]
/-- S: to be visited, V: visited -/
def Vst (w : Int → Int) (S V : List Int) : Prop := ND (V ++ S) ∧ (∀ q ∈ V ++ S, 0 ≤ q ∧ q < w 3 ∧ (rc w q 0 = -1 ∨ rc w q 0 ∈ V)) ∧ ∀ q, 0 ≤ q → q < w 3 → (rc w q 0 = -1 ∨ rc w q 0 ∈ V) → q ∈ V ++ S
theorem vst_0 {w : Int → Int} (h3 : 0 ≤ w 3) : Vst w (chl w (-1)) [] := by
  refine ⟨sel_nd _ _, fun q hq => ?_, fun q q0 q1 h => ?_⟩
  · rw [List.nil_append, mem_chl h3] at hq; exact ⟨hq.1, hq.2.1, .inl hq.2.2⟩
  · rw [List.nil_append, mem_chl h3]
    rcases h with h | h
    · exact ⟨q0, q1, h⟩
    · exact nomatch h
theorem vst_len {w : Int → Int} {S V : List Int} (h3 : 0 ≤ w 3) (h : Vst w S V) : (V.length : Int) + S.length ≤ w 3 := by
  have := nd_len h.1 h3 (fun x hx => ⟨(h.2.1 x hx).1, (h.2.1 x hx).2.1⟩)
  rw [List.length_append] at this; omega
theorem vst_s {w : Int → Int} {S V : List Int} {r : Int} (hr : WFr w) (h3 : 0 ≤ w 3) (h : Vst w (r :: S) V) : Vst w (chl w r ++ S) (V ++ [r]) := by
  obtain ⟨h1, h2, h4⟩ := h
  have hrm := h2 r (List.mem_append_right _ (List.mem_cons_self ..))
  rw [nd_app, nd_cons] at h1
  obtain ⟨nv, ⟨nr, ns⟩, nvs⟩ := h1
  have rV : r ∉ V := fun hv => nvs r hv r (List.mem_cons_self ..) rfl
  have old : ∀ q, q ∈ V ++ [r] ∨ q ∈ S → q ∈ V ++ (r :: S) := fun q hq => by
    rw [List.mem_append] at hq ⊢
    rcases hq with (hq | hq) | hq
    · exact .inl hq
    · rw [List.mem_singleton] at hq; exact .inr (by rw [hq]; exact List.mem_cons_self ..)
    · exact .inr (List.mem_cons_of_mem _ hq)
  have fresh : ∀ c, c ∈ chl w r → c ∉ V ++ [r] ∧ c ∉ S := fun c hc => by
    rw [mem_chl h3] at hc
    have key : c ∉ V ++ (r :: S) := fun hm => by
      rcases (h2 c hm).2.2 with q | q
      · omega
      · rw [hc.2.2] at q; exact rV q
    exact ⟨fun q => key (old c (.inl q)), fun q => key (old c (.inr q))⟩
  refine ⟨?_, fun q hq => ?_, fun q q0 q1 hq => ?_⟩
  · rw [nd_app, nd_app, nd_app]
    refine ⟨⟨nv, nd_cons.mpr ⟨fun b hb => (nomatch hb), nd_nil⟩, fun a ha b hb => ?_⟩, ⟨sel_nd _ _, ns, fun a ha b hb e => (fresh a ha).2 (by rw [e]; exact hb)⟩, fun a ha b hb => ?_⟩
    · rw [List.mem_singleton] at hb; rw [hb]; exact nvs a ha r (List.mem_cons_self ..)
    · rw [List.mem_append] at hb
      rcases hb with hb | hb
      · exact fun e => (fresh b hb).1 (by rw [← e]; exact ha)
      · rw [List.mem_append] at ha
        rcases ha with ha | ha
        · exact nvs a ha b (List.mem_cons_of_mem _ hb)
        · rw [List.mem_singleton] at ha; rw [ha]; exact nr b hb
  · rw [List.mem_append, List.mem_append (s := chl w r)] at hq
    have up : ∀ x, x ∈ V → x ∈ V ++ [r] := fun x hx => List.mem_append_left _ hx
    rcases hq with hq | hq | hq
    · have := h2 q (old q (.inl hq))
      exact ⟨this.1, this.2.1, this.2.2.imp id (up _)⟩
    · rw [mem_chl h3] at hq
      exact ⟨hq.1, hq.2.1, .inr (by rw [hq.2.2]; exact List.mem_append_right _ (List.mem_singleton.mpr rfl))⟩
    · have := h2 q (old q (.inr hq))
      exact ⟨this.1, this.2.1, this.2.2.imp id (up _)⟩
  · rw [List.mem_append, List.mem_append (s := chl w r)]
    have back : q ∈ V ++ (r :: S) → q ∈ V ++ [r] ∨ q ∈ chl w r ∨ q ∈ S := fun hm => by
      rw [List.mem_append, List.mem_cons] at hm
      rcases hm with hm | hm | hm
      · exact .inl (List.mem_append_left _ hm)
      · exact .inl (List.mem_append_right _ (List.mem_singleton.mpr hm))
      · exact .inr (.inr hm)
    rcases hq with hq | hq
    · exact back (h4 q q0 q1 (.inl hq))
    · rw [List.mem_append] at hq
      rcases hq with hq | hq
      · exact back (h4 q q0 q1 (.inr hq))
      · rw [List.mem_singleton] at hq
        exact .inr (.inl ((mem_chl h3).mpr ⟨q0, q1, hq⟩))
theorem vst_all {w : Int → Int} {V : List Int} (hr : WFr w) (h : Vst w [] V) : ∀ (d : Nat) (q : Int), 0 ≤ q → q < w 3 → q < d → q ∈ V
  | 0, q, q0, _, hd => by omega
  | d + 1, q, q0, q1, hd => by
    have := hr q q0 q1
    have m := h.2.2 q q0 q1 (by
      by_cases c : rc w q 0 = -1
      · exact .inl c
      · exact .inr (vst_all hr h d (rc w q 0) (by omega) (by omega) (by omega)))
    rw [List.append_nil] at m; exact m
theorem vst_end {w : Int → Int} (hr : WFr w) (hf : WFf w) (h3 : 0 ≤ w 3) (h3' : w 3 ≤ 10) (h5 : 0 ≤ w 5) : ∀ (k : Nat) (S V : List Int), w 3 - V.length ≤ k → Vst w S V → ∃ V', ND V' ∧ (∀ q, q ∈ V' ↔ 0 ≤ q ∧ q < w 3) ∧ V'.flatMap (fld w) = V.flatMap (fld w) ++ S.flatMap (dfs w 11) := by
  intro k
  induction k with
  | zero =>
    intro S V hk h
    have l := vst_len h3 h
    cases S with
    | nil =>
      refine ⟨V, ?_, fun q => ⟨fun hq => ?_, fun hq => vst_all hr h (w 3).toNat q hq.1 hq.2 (by omega)⟩, by rw [List.flatMap_nil, List.append_nil]⟩
      · have := h.1; rw [List.append_nil] at this; exact this
      · have := h.2.1 q (by rw [List.append_nil]; exact hq); exact ⟨this.1, this.2.1⟩
    | cons r S => rw [List.length_cons] at l; omega
  | succ k ih =>
    intro S V hk h
    cases S with
    | nil =>
      refine ⟨V, ?_, fun q => ⟨fun hq => ?_, fun hq => vst_all hr h (w 3).toNat q hq.1 hq.2 (by omega)⟩, by rw [List.flatMap_nil, List.append_nil]⟩
      · have := h.1; rw [List.append_nil] at this; exact this
      · have := h.2.1 q (by rw [List.append_nil]; exact hq); exact ⟨this.1, this.2.1⟩
    | cons r S =>
      have hm := h.2.1 r (List.mem_append_right _ (List.mem_cons_self ..))
      obtain ⟨V', a, b, c⟩ := ih (chl w r ++ S) (V ++ [r]) (by rw [List.length_append, List.length_singleton]; omega) (vst_s hr h3 h)
      refine ⟨V', a, b, ?_⟩
      rw [c, List.flatMap_append, List.flatMap_append, List.flatMap_cons, List.flatMap_cons, List.flatMap_nil, List.append_nil, List.append_assoc]
      congr 1
      show fld w r ++ _ = (fld w r ++ (chl w r).flatMap (dfs w 10)) ++ _
      rw [List.append_assoc]
      congr 2
      exact fm_congr (fun x hx => dfs_st hr hf h3 h5 10 x (by rw [mem_chl h3] at hx; omega) (by rw [mem_chl h3] at hx; omega))
def ordL (w : Int → Int) : List Int := (chl w (-1)).flatMap (dfs w 11)
theorem ord_v {w : Int → Int} (hr : WFr w) (hf : WFf w) (h3 : 0 ≤ w 3) (h3' : w 3 ≤ 10) (h5 : 0 ≤ w 5) : ∃ V, ND V ∧ (∀ q, q ∈ V ↔ 0 ≤ q ∧ q < w 3) ∧ V.flatMap (fld w) = ordL w := by
  obtain ⟨V, a, b, c⟩ := vst_end hr hf h3 h3' h5 10 _ [] (by rw [List.length_nil]; omega) (vst_0 h3)
  exact ⟨V, a, b, by rw [c, List.flatMap_nil, List.nil_append]; rfl⟩
theorem fm_mem {L : List Int} {f : Int → List Int} {x : Int} : x ∈ L.flatMap f ↔ ∃ r, r ∈ L ∧ x ∈ f r := List.mem_flatMap
theorem fm_nd {w : Int → Int} (h5 : 0 ≤ w 5) : ∀ (V : List Int), ND V → ND (V.flatMap (fld w))
  | [], _ => nd_nil
  | r :: V, h => by
    rw [nd_cons] at h
    rw [List.flatMap_cons, nd_app]
    refine ⟨sel_nd _ _, fm_nd h5 V h.2, fun a ha b hb e => ?_⟩
    rw [fm_mem] at hb
    obtain ⟨q, q1, q2⟩ := hb
    rw [mem_fld h5] at ha q2
    rw [e, q2.2.2] at ha
    exact h.1 q q1 ha.2.2.symm
theorem ord_ok {w : Int → Int} (hr : WFr w) (hf : WFf w) (h3 : 0 ≤ w 3) (h3' : w 3 ≤ 10) (h5 : 0 ≤ w 5) : ND (ordL w) ∧ (∀ f, f ∈ ordL w ↔ 0 ≤ f ∧ f < w 5) ∧ ((ordL w).length : Int) = w 5 := by
  obtain ⟨V, a, b, c⟩ := ord_v hr hf h3 h3' h5
  have m : ∀ f, f ∈ ordL w ↔ 0 ≤ f ∧ f < w 5 := fun f => by
    rw [← c, fm_mem]
    refine ⟨fun ⟨r, r1, r2⟩ => ?_, fun h => ⟨fc w f 0, ?_, ?_⟩⟩
    · rw [mem_fld h5] at r2; exact ⟨r2.1, r2.2.1⟩
    · rw [b]; have := hf f h.1 h.2; omega
    · rw [mem_fld h5]; exact ⟨h.1, h.2, rfl⟩
  have nd : ND (ordL w) := by rw [← c]; exact fm_nd h5 V a
  have l1 := nd_len nd h5 (fun x hx => (m x).mp hx)
  have l2 := nd_full h5 (fun x x0 x1 => (m x).mpr ⟨x0, x1⟩)
  exact ⟨nd, m, by omega⟩
