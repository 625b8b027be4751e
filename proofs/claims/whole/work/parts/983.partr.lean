/-! the reference reads a part of a valley -/
theorem bnd_a {α β γ : Type} {r : Except Fl α} {f : α → Except Fl β} {g : β → Except Fl γ} : bnd (bnd r f) g = bnd r (fun x => bnd (f x) g) := by cases r <;> rfl
def tb (a b : Bool) : Int := (if a = true then 1 else 0) + (if b = true then 2 else 0)
theorem tb_b : ∀ a b : Bool, (iandv (ishrv (tb a b) 0) 1 = 1 ↔ a = true) ∧ (iandv (ishrv (tb a b) 1) 1 = 1 ↔ b = true) ∧ iorv (tb a b) (ishlv 1 0) = tb true b ∧ iorv (tb a b) (ishlv 1 1) = tb a true := by decide +kernel
def VR (M : Mem) (σ : VS) : Prop := NW M σ.1 ∧ RNw M 104 σ.1 σ.2.1 ∧ M 119 20 = tb σ.2.2.1 σ.2.2.2
def vpF (a j : Int) : Prop := rpF a j ∨ (a = 120 ∧ 2560 ≤ j ∧ j < 3200) ∨ (a = 121 ∧ 104 ≤ j ∧ j < 130) ∨ (a = 119 ∧ j = 20)
def FrP (M N : Mem) : Prop := ∀ a j, ¬ vpF a j → N a j = M a j
theorem frp_r {M N : Mem} (h : FrR M N) : FrP M N := fun a j q => h a j (fun z => q (.inl z))
theorem frp_t {M N P : Mem} (h : FrP M N) (k : FrP N P) : FrP M P := fun a j q => by rw [k a j q, h a j q]
theorem lr_f {M N : Mem} (h : LR M) (f : FrP M N) : LR N := lr_p h (fun j q1 q2 q3 q4 => f _ _ (fun z => by unfold vpF rpF at z; omega)) (fun a q1 q2 => f _ _ (fun z => by unfold vpF rpF at z; omega))
def MdR (M : Mem) (B : Int → Int) (n s : Int) (r : Except Fl (VS × Int)) (q : Int × Mem) : Prop := (∃ f, r = .error f ∧ q.1 = 0 ∧ ErR q.2 f ∧ FrP M q.2) ∨ (∃ τ t, r = .ok (τ, t) ∧ q.1 = 1 ∧ nx B n s ≤ t ∧ RT q.2 B n t ∧ VR q.2 τ ∧ FrP M q.2)
theorem mdr_e {M N : Mem} {B : Int → Int} {n s : Int} {r : Except Fl (VS × Int)} {f : Fl} (h : r = .error f) (he : ErR N f) (hf : FrP M N) : MdR M B n s r (0, N) := .inl ⟨f, h, rfl, he, hf⟩
theorem mdr_o {M N : Mem} {B : Int → Int} {n s t : Int} {r : Except Fl (VS × Int)} {τ : VS} (h : r = .ok (τ, t)) (hn : nx B n s ≤ t) (hc : RT N B n t) (hv : VR N τ) (hf : FrP M N) : MdR M B n s r (1, N) := .inr ⟨τ, t, h, rfl, hn, hc, hv, hf⟩
theorem mdr_r {M : Mem} {B : Int → Int} {n s : Int} {r : Except Fl (VS × Int)} {q : Int × Mem} (h : MdR M B n s r q) : q.1 = 0 ∨ q.1 = 1 := by
  rcases h with ⟨f, _, h, _⟩ | ⟨τ, t, _, h, _⟩
  · exact .inl h
  · exact .inr h
def sem (B : Int → Int) (n : Int) (r : Except Fl (VS × Int)) : Except Fl (VS × Int) := bnd r fun p => bnd (smT B n p.2) fun t => .ok (p.1, t)
def hdM (B : Int → Int) (n : Int) (σ : VS) (s : Int) : Except Fl (VS × Int) := if σ.2.2.1 = true then .error (flT B n s 5) else bnd (nuT B n 0 999 (nx B n s)) fun p => .ok ((upd1 σ.1 0 p.1, σ.2.1, true, σ.2.2.2), p.2)
def spM (B K : Int → Int) (n : Int) (σ : VS) (s : Int) : Except Fl (VS × Int) := if σ.2.2.2 = true then .error (flT B n s 5) else bnd (nuT B n 1 1440 (nx B n s)) fun p => bnd (skT B K n 2 p.2) fun t => bnd (nuT B n 0 1439 t) fun q => .ok ((upd1 (upd1 σ.1 1 p.1) 2 q.1, σ.2.1, σ.2.2.1, true), q.2)
def rrM (B K : Int → Int) (n : Int) (σ : VS) (s : Int) : Except Fl (VS × Int) := bnd (noT B K n σ.1 σ.2.1 3 10 s) fun p => bnd (reT B K n σ.1 σ.2.1 p.2) fun q => .ok ((addR σ.1 q.1, upd1 σ.2.1 (σ.1 3) p.1, σ.2.2), q.2)
def owM (B K : Int → Int) (n : Int) (σ : VS) (s : Int) : Except Fl (VS × Int) := bnd (noT B K n σ.1 σ.2.1 4 6 s) fun p => .ok ((upd1 σ.1 4 (σ.1 4 + 1), upd1 σ.2.1 (10 + σ.1 4) p.1, σ.2.2), p.2)
def ffM (B K : Int → Int) (n : Int) (σ : VS) (s : Int) : Except Fl (VS × Int) := bnd (noT B K n σ.1 σ.2.1 5 10 s) fun p => bnd (fiT B K n σ.1 σ.2.1 p.2) fun q => .ok ((addF σ.1 q.1, upd1 σ.2.1 (16 + σ.1 5) p.1, σ.2.2), q.2)
theorem hd_s {B : Int → Int} {n : Int} {σ : VS} {s : Int} : hdT B n σ s = sem B n (hdM B n σ s) := by
  unfold hdT hdM sem
  by_cases c : σ.2.2.1 = true
  · rw [if_pos c, if_pos c, bnd_e]
  · rw [if_neg c, if_neg c, bnd_a]; rfl
theorem sp_s {B K : Int → Int} {n : Int} {σ : VS} {s : Int} : spT B K n σ s = sem B n (spM B K n σ s) := by
  unfold spT spM sem
  by_cases c : σ.2.2.2 = true
  · rw [if_pos c, if_pos c, bnd_e]
  · rw [if_neg c, if_neg c, bnd_a]
    congr 1; funext p
    rw [bnd_a]
    congr 1; funext t
    rw [bnd_a]; rfl
theorem rr_s {B K : Int → Int} {n : Int} {σ : VS} {s : Int} : rrT B K n σ s = sem B n (rrM B K n σ s) := by
  unfold rrT rrM sem
  rw [bnd_a]
  congr 1; funext p
  rw [bnd_a]; rfl
theorem ow_s {B K : Int → Int} {n : Int} {σ : VS} {s : Int} : owT B K n σ s = sem B n (owM B K n σ s) := by
  unfold owT owM sem
  rw [bnd_a]; rfl
theorem ff_s {B K : Int → Int} {n : Int} {σ : VS} {s : Int} : ffT B K n σ s = sem B n (ffM B K n σ s) := by
  unfold ffT ffM sem
  rw [bnd_a]
  congr 1; funext p
  rw [bnd_a]; rfl
theorem onceH_e {M : Mem} {B : Int → Int} {n s : Int} {σ : VS} (h : RT M B n s) (hr : LR M) (hv : VR M σ) : Tot (f_X12_once 119 0 M) (MdR M B n s (hdM B n σ s)) := by
  obtain ⟨hw, hn, ht⟩ := hv
  obtain ⟨b0, b1, b2, b3⟩ := tb_b σ.2.2.1 σ.2.2.2
  have nb := nx_b (B := B) h.2.2.2.2
  unfold f_X12_once
  rw [t_getf, ht, t_ite]
  refine ⟨by omega, fun c => ?_, fun c => ?_⟩
  rotate_left
  · rw [t_call]
    refine failsR_e h 5 (fun N eN fN => ?_)
    rw [t_retzm]
    exact ⟨by omega, mdr_e (by unfold hdM; rw [if_pos (b0.mp (by omega))]) eN (frp_r fN)⟩
  have d : ¬ σ.2.2.1 = true := fun z => c (b0.mpr z)
  rw [t_getf, ht, t_putf, b2, t_callv]
  refine ⟨by omega, by omega, ?_⟩
  have z : ∀ a j, ¬ (a = 119 ∧ j = 20) → upd2 M 119 20 (tb true σ.2.2.2) a j = M a j := fun a j hh => by rw [upd2_at, if_neg hh]
  have z20 : upd2 M 119 20 (tb true σ.2.2.2) 119 20 = tb true σ.2.2.2 := by rw [upd2_at, if_pos ⟨rfl, rfl⟩]
  generalize upd2 M 119 20 (tb true σ.2.2.2) = Z at z z20 ⊢
  refine aheadR_e (rt_k h (fun a j hh => z a j (by omega))) (fun Y hY fY => ?_)
  have fYM : FrP M Y := fun a j q => by rw [fY a j (fun x => q (.inl x)), z a j (fun x => q (.inr (.inr (.inr x))))]
  rw [t_ite]
  refine ⟨fun q => absurd rfl q, fun _ => ?_⟩
  rw [t_call]
  refine number_e hY (lr_f hr fYM) (by omega) (by omega) (fun N f e1 e2 e3 => ?_) (fun N x t e1 e2 e3 e4 e5 e6 e7 => ?_)
  · rw [t_retzm]
    exact ⟨by omega, mdr_e (by unfold hdM; rw [if_neg d, e1, bnd_e]) e2 (frp_t fYM (frp_r e3))⟩
  · dsimp only
    rw [t_retzm]
    refine ⟨by omega, mdr_o (by unfold hdM; rw [if_neg d, e1, bnd_o]) (by omega) e5 ⟨fun j j0 j1 => ?_, ⟨fun k k0 k1 => ?_, fun k k0 k1 => ?_, fun k k0 k1 => ?_⟩, ?_⟩ (fun a j q => ?_)⟩
    · show N 120 (2560 + j) = upd1 σ.1 0 x j
      by_cases c : j = 0
      · rw [c, upd1_at, if_pos rfl]; exact e6
      · rw [upd1_at, if_neg c, e7 _ _ (rpF_a (by omega)) (by omega), fY _ _ (rpF_a (by omega)), z _ _ (by omega)]; exact hw j j0 j1
    · rw [e7 _ _ (rpF_a (by omega)) (by omega), fY _ _ (rpF_a (by omega)), z _ _ (by omega)]; exact hn.1 k k0 k1
    · rw [e7 _ _ (rpF_a (by omega)) (by omega), fY _ _ (rpF_a (by omega)), z _ _ (by omega)]; exact hn.2.1 k k0 k1
    · rw [e7 _ _ (rpF_a (by omega)) (by omega), fY _ _ (rpF_a (by omega)), z _ _ (by omega)]; exact hn.2.2 k k0 k1
    · rw [e7 _ _ (fun q => by unfold rpF at q; omega) (by omega), fY _ _ (fun q => by unfold rpF at q; omega)]; exact z20
    · rw [e7 a j (fun x => q (.inl x)) (fun x => q (.inr (.inl (by omega)))), fYM a j q]
theorem onceS_e {M : Mem} {B K : Int → Int} {n s : Int} {σ : VS} (h : RT M B n s) (hr : LR M) (hK : KwC K) (hv : VR M σ) : Tot (f_X12_once 119 1 M) (MdR M B n s (spM B K n σ s)) := by
  obtain ⟨hw, hn, ht⟩ := hv
  obtain ⟨b0, b1, b2, b3⟩ := tb_b σ.2.2.1 σ.2.2.2
  have nb := nx_b (B := B) h.2.2.2.2
  unfold f_X12_once
  rw [t_getf, ht, t_ite]
  refine ⟨by omega, fun c => ?_, fun c => ?_⟩
  rotate_left
  · rw [t_call]
    refine failsR_e h 5 (fun N eN fN => ?_)
    rw [t_retzm]
    exact ⟨by omega, mdr_e (by unfold spM; rw [if_pos (b1.mp (by omega))]) eN (frp_r fN)⟩
  have d : ¬ σ.2.2.2 = true := fun z => c (b1.mpr z)
  rw [t_getf, ht, t_putf, b3, t_callv]
  refine ⟨by omega, by omega, ?_⟩
  have z : ∀ a j, ¬ (a = 119 ∧ j = 20) → upd2 M 119 20 (tb σ.2.2.1 true) a j = M a j := fun a j hh => by rw [upd2_at, if_neg hh]
  have z20 : upd2 M 119 20 (tb σ.2.2.1 true) 119 20 = tb σ.2.2.1 true := by rw [upd2_at, if_pos ⟨rfl, rfl⟩]
  generalize upd2 M 119 20 (tb σ.2.2.1 true) = Z at z z20 ⊢
  refine aheadR_e (rt_k h (fun a j hh => z a j (by omega))) (fun Y hY fY => ?_)
  have fYM : FrP M Y := fun a j q => by rw [fY a j (fun x => q (.inl x)), z a j (fun x => q (.inr (.inr (.inr x))))]
  rw [t_ite, t_call]
  refine ⟨fun _ => ?_, fun q => absurd (by omega) q⟩
  refine number_e hY (lr_f hr fYM) (by omega) (by omega) (fun N f e1 e2 e3 => ?_) (fun N1 x t e1 e2 e3 e4 e5 e6 e7 => ?_)
  · dsimp only
    rw [t_jn, t_jn, t_ite, t_retzm]
    exact ⟨fun _ => ⟨by omega, mdr_e (by unfold spM; rw [if_neg d, e1, bnd_e]) e2 (frp_t fYM (frp_r e3))⟩, fun q => absurd rfl q⟩
  have fN1 : FrP M N1 := fun a j q => by rw [e7 a j (fun x => q (.inl x)) (fun x => q (.inr (.inl (by omega)))), fYM a j q]
  dsimp only
  rw [t_jn, t_jn, t_ite, t_call]
  refine ⟨fun q => by omega, fun _ => ?_⟩
  refine wantWord_e e5 hK (y := 2) (by omega) (by omega) rfl (fun N f g1 g2 g3 => ?_) (fun N2 t2 g1 g2 g3 g4 => ?_)
  · dsimp only
    rw [t_ite, t_retzm]
    exact ⟨fun _ => ⟨by omega, mdr_e (by unfold spM; rw [if_neg d, e1, bnd_o, g1, bnd_e]) g2 (frp_t fN1 (frp_r g3))⟩, fun q => absurd rfl q⟩
  dsimp only
  rw [t_ite, t_call]
  refine ⟨fun q => by omega, fun _ => ?_⟩
  refine number_e g3 (lr_f hr (frp_t fN1 (frp_r g4))) (by omega) (by omega) (fun N f k1 k2 k3 => ?_) (fun N y t3 k1 k2 k3 k4 k5 k6 k7 => ?_)
  · dsimp only
    rw [t_ite, t_retzm]
    exact ⟨fun _ => ⟨by omega, mdr_e (by unfold spM; rw [if_neg d, e1, bnd_o, g1, bnd_o, k1, bnd_e]) k2 (frp_t (frp_t fN1 (frp_r g4)) (frp_r k3))⟩, fun q => absurd rfl q⟩
  dsimp only
  rw [t_ite, t_retzm, t_retzm]
  have kk : ∀ a j, ¬ rpF a j → ¬ (a = 120 ∧ (j = 2561 ∨ j = 2562)) → ¬ (a = 119 ∧ j = 20) → N a j = M a j := fun a j q1 q2 q3 => by rw [k7 a j q1 (by omega), g4 a j q1, e7 a j q1 (by omega), fY a j q1, z a j q3]
  refine ⟨fun q => by omega, fun _ => ⟨by omega, mdr_o (by unfold spM; rw [if_neg d, e1, bnd_o, g1, bnd_o, k1, bnd_o]) (by omega) k5 ⟨fun j j0 j1 => ?_, ⟨fun k k0 k1 => ?_, fun k k0 k1 => ?_, fun k k0 k1 => ?_⟩, ?_⟩ (fun a j q => kk a j (fun x => q (.inl x)) (fun x => q (.inr (.inl (by omega)))) (fun x => q (.inr (.inr (.inr x)))))⟩⟩
  · show N 120 (2560 + j) = upd1 (upd1 σ.1 1 x) 2 y j
    by_cases c : j = 2
    · rw [c, upd1_at, if_pos rfl]; exact k6
    · rw [upd1_at, if_neg c]
      by_cases c1 : j = 1
      · rw [c1, upd1_at, if_pos rfl, k7 _ _ (rpF_a (by omega)) (by omega), g4 _ _ (rpF_a (by omega))]; exact e6
      · rw [upd1_at, if_neg c1, kk _ _ (rpF_a (by omega)) (by omega) (by omega)]; exact hw j j0 j1
  · rw [kk _ _ (rpF_a (by omega)) (by omega) (by omega)]; exact hn.1 k k0 k1
  · rw [kk _ _ (rpF_a (by omega)) (by omega) (by omega)]; exact hn.2.1 k k0 k1
  · rw [kk _ _ (rpF_a (by omega)) (by omega) (by omega)]; exact hn.2.2 k k0 k1
  · rw [k7 _ _ (fun q => by unfold rpF at q; omega) (by omega), g4 _ _ (fun q => by unfold rpF at q; omega), e7 _ _ (fun q => by unfold rpF at q; omega) (by omega), fY _ _ (fun q => by unfold rpF at q; omega)]; exact z20
