/-! taking a valley, days -/
def Cp (P : Int → Int → Prop) (M : Mem) (t s : Int) (N : Mem) : Prop := ∀ a j, (P (a - t) j → N a j = M (a - t + s) j) ∧ (¬ P (a - t) j → N a j = M a j)
theorem cp_0 (M : Mem) (t s : Int) : Cp (fun _ _ => False) M t s M := fun _ _ => ⟨fun h => h.elim, fun _ => rfl⟩
theorem cp_iff {P P' : Int → Int → Prop} {M N : Mem} {t s : Int} (h : Cp P M t s N) (e : ∀ o j, P o j ↔ P' o j) : Cp P' M t s N := fun a j => ⟨fun hp => (h a j).1 ((e _ _).mpr hp), fun hp => (h a j).2 (fun hq => hp ((e _ _).mp hq))⟩
theorem cp_put {P : Int → Int → Prop} {M N : Mem} {t s k : Int} (h : Cp P M t s N) (hs : ¬ P (s - t) k) : Cp (fun o j => P o j ∨ (o = 0 ∧ j = k)) M t s (upd2 N t k (N s k)) := by
  intro a j
  rw [upd2_at, (h s k).2 hs]
  by_cases c : a = t ∧ j = k
  · rw [if_pos c]
    refine ⟨fun _ => by rw [c.1, c.2]; congr 1; omega, fun hn => absurd (.inr ⟨by omega, c.2⟩) hn⟩
  · rw [if_neg c]
    refine ⟨fun hp => ?_, fun hn => (h a j).2 (fun hq => hn (.inl hq))⟩
    rcases hp with hp | hp
    · exact (h a j).1 hp
    · exact absurd ⟨by omega, hp.2⟩ c
theorem cp_copy {P : Int → Int → Prop} {M N : Mem} {t s o n : Int} (h : Cp P M t s N) (hs : ∀ j, ¬ P (s + o - t) j) : Cp (fun q j => P q j ∨ (q = o ∧ 0 ≤ j ∧ j < n)) M t s (copym N (s + o) 0 (t + o) 0 n) := by
  intro a j
  rw [copym_at]
  by_cases c : a = t + o ∧ 0 ≤ j ∧ j < 0 + n
  · rw [if_pos c, (h _ _).2 (hs _)]
    refine ⟨fun _ => ?_, fun hn => absurd (.inr ⟨by omega, c.2.1, by omega⟩) hn⟩
    rw [c.1, show t + o - t + s = s + o by omega, show 0 + (j - 0) = j by omega]
  · rw [if_neg c]
    refine ⟨fun hp => ?_, fun hn => (h a j).2 (fun hq => hn (.inl hq))⟩
    rcases hp with hp | hp
    · exact (h a j).1 hp
    · exact absurd ⟨by omega, hp.2.1, by omega⟩ c
def PV (o j : Int) : Prop := (o = 0 ∧ 0 ≤ j ∧ j < 8) ∨ (2 ≤ o ∧ o ≤ 11 ∧ 0 ≤ j ∧ j < 6) ∨ (13 ≤ o ∧ o ≤ 22 ∧ 0 ≤ j ∧ j < 4) ∨ (o = 23 ∧ 0 ≤ j ∧ j < 10) ∨ (o = 24 ∧ 0 ≤ j ∧ j < 6) ∨ (o = 25 ∧ 0 ≤ j ∧ j < 10)
def PD (o j : Int) : Prop := (o = 0 ∧ 0 ≤ j ∧ j < 3) ∨ (1 ≤ o ∧ o ≤ 7 ∧ 0 ≤ j ∧ j < 60)
def PS (o j : Int) : Prop := (o = 0 ∧ 0 ≤ j ∧ j < 4) ∨ (o = 1 ∧ 0 ≤ j ∧ j < 10) ∨ (2 ≤ o ∧ o ≤ 4 ∧ 0 ≤ j ∧ j < 12) ∨ (o = 5 ∧ 0 ≤ j ∧ j < 100) ∨ (o = 6 ∧ 0 ≤ j ∧ j < 10)
theorem cp_tk (M : Mem) (t s : Int) : Cp PS M t s (tkM M t s) := by
  intro a j
  unfold PS tkM
  by_cases c0 : a = t ∧ 0 ≤ j ∧ j < 4
  · rw [if_pos c0]; exact ⟨fun _ => by rw [c0.1, show t - t + s = s by omega], fun hn => absurd (by omega) hn⟩
  rw [if_neg c0]
  by_cases c1 : a = t + 1 ∧ 0 ≤ j ∧ j < 10
  · rw [if_pos c1]; exact ⟨fun _ => by rw [c1.1, show t + 1 - t + s = s + 1 by omega], fun hn => absurd (by omega) hn⟩
  rw [if_neg c1]
  by_cases c2 : a = t + 2 ∧ 0 ≤ j ∧ j < 12
  · rw [if_pos c2]; exact ⟨fun _ => by rw [c2.1, show t + 2 - t + s = s + 2 by omega], fun hn => absurd (by omega) hn⟩
  rw [if_neg c2]
  by_cases c3 : a = t + 3 ∧ 0 ≤ j ∧ j < 12
  · rw [if_pos c3]; exact ⟨fun _ => by rw [c3.1, show t + 3 - t + s = s + 3 by omega], fun hn => absurd (by omega) hn⟩
  rw [if_neg c3]
  by_cases c4 : a = t + 4 ∧ 0 ≤ j ∧ j < 12
  · rw [if_pos c4]; exact ⟨fun _ => by rw [c4.1, show t + 4 - t + s = s + 4 by omega], fun hn => absurd (by omega) hn⟩
  rw [if_neg c4]
  by_cases c5 : a = t + 5 ∧ 0 ≤ j ∧ j < 100
  · rw [if_pos c5]; exact ⟨fun _ => by rw [c5.1, show t + 5 - t + s = s + 5 by omega], fun hn => absurd (by omega) hn⟩
  rw [if_neg c5]
  by_cases c6 : a = t + 6 ∧ 0 ≤ j ∧ j < 10
  · rw [if_pos c6]; exact ⟨fun _ => by rw [c6.1, show t + 6 - t + s = s + 6 by omega], fun hn => absurd (by omega) hn⟩
  rw [if_neg c6]
  exact ⟨fun hp => by omega, fun _ => rfl⟩
theorem takeD_e {M : Mem} {t s : Int} {Q : Mem → Prop} (t0 : 0 < t) (s0 : 0 < s) (hts : t + 7 < s ∨ s + 7 < t) (ht : LDy M t) (hs : LDy M s) (h01 : M s 0 = 0 ∨ M s 0 = 1) (hq : ∀ N, Cp PD M t s N → Q N) : Tot (f_X0_take t s M) Q := by
  obtain ⟨⟨a3, a4, a5, a6, a7, a8, a9⟩, al⟩ := ht
  obtain ⟨⟨b3, b4, b5, b6, b7, b8, b9⟩, bl⟩ := hs
  unfold f_X0_take
  have c0 := cp_0 M t s
  rw [t_getf, t_putz]
  refine ⟨by omega, by omega, h01, ?_⟩
  have c1 := cp_put (k := 0) c0 (by simp)
  generalize upd2 M t 0 (M s 0) = N1 at c1 ⊢
  rw [t_getf, t_putf]
  refine ⟨by omega, by omega, ?_⟩
  have c2 := cp_put (k := 1) c1 (by simp)
  generalize upd2 N1 t 1 (N1 s 1) = N2 at c2 ⊢
  rw [t_getf, t_putf]
  refine ⟨by omega, by omega, ?_⟩
  have c3 := cp_iff (cp_put (k := 2) c2 (by simp)) (P' := fun o j => (o = 0 ∧ 0 ≤ j ∧ j < 3) ∨ (1 ≤ o ∧ o ≤ 0 ∧ 0 ≤ j ∧ j < 60)) (fun o j => by simp; omega)
  generalize upd2 N2 t 2 (N2 s 2) = N3 at c3 ⊢
  clear c0 c1 c2
  have step : ∀ (q : Int) (N : Mem) (K : Mem → Option Mem), 1 ≤ q → q ≤ 7 → M s (q + 2) = s + q → M t (q + 2) = t + q → Cp (fun o j => (o = 0 ∧ 0 ≤ j ∧ j < 3) ∨ (1 ≤ o ∧ o ≤ q - 1 ∧ 0 ≤ j ∧ j < 60)) M t s N → (∀ N', Cp (fun o j => (o = 0 ∧ 0 ≤ j ∧ j < 3) ∨ (1 ≤ o ∧ o ≤ q ∧ 0 ≤ j ∧ j < 60)) M t s N' → Tot (K N') Q) → Tot (getf N s (q + 2) (fun v => getf N t (q + 2) (fun v' => acopy N v 0 v' 0 60 K))) Q := by
    intro q N K q0 q1 hsq htq hN hK
    have r1 : ∀ o j, 0 ≤ o → o ≤ 7 → N (s + o) j = M (s + o) j := fun o j o0 o1 => (hN _ _).2 (by omega)
    have r0 : ∀ j, N s j = M s j := fun j => by have := r1 0 j (by omega) (by omega); rwa [Int.add_zero] at this
    have rt : ∀ j, 3 ≤ j → N t j = M t j := fun j hj => (hN _ _).2 (by omega)
    have rl : N (t + q) (-1) = M (t + q) (-1) := (hN _ _).2 (by omega)
    rw [t_getf, r0, hsq, t_getf, rt _ (by omega), htq, t_acopy, r1 q _ (by omega) (by omega), rl, al q q0 q1, bl q q0 q1]
    refine ⟨by omega, by omega, ⟨by omega, by omega, by omega, by omega, by omega, by omega, by omega⟩, hK _ (cp_iff (cp_copy (n := 60) hN (fun j => by omega)) (fun o j => by omega))⟩
  refine step 1 N3 _ (by omega) (by omega) b3 a3 (cp_iff c3 (fun o j => by omega)) (fun N4 c4 => ?_)
  refine step 2 N4 _ (by omega) (by omega) b4 a4 (cp_iff c4 (fun o j => by omega)) (fun N5 c5 => ?_)
  refine step 3 N5 _ (by omega) (by omega) b5 a5 (cp_iff c5 (fun o j => by omega)) (fun N6 c6 => ?_)
  refine step 4 N6 _ (by omega) (by omega) b6 a6 (cp_iff c6 (fun o j => by omega)) (fun N7 c7 => ?_)
  refine step 5 N7 _ (by omega) (by omega) b7 a7 (cp_iff c7 (fun o j => by omega)) (fun N8 c8 => ?_)
  refine step 6 N8 _ (by omega) (by omega) b8 a8 (cp_iff c8 (fun o j => by omega)) (fun N9 c9 => ?_)
  refine step 7 N9 _ (by omega) (by omega) b9 a9 (cp_iff c9 (fun o j => by omega)) (fun N10 c10 => ?_)
  rw [t_some]
  exact hq N10 (cp_iff c10 (fun o j => by unfold PD; omega))
theorem takeV_e {M : Mem} {t s : Int} {Q : Mem → Prop} (t0 : 0 < t) (s0 : 0 < s) (hts : t + 25 < s ∨ s + 25 < t) (ht : LV M t) (hs : LV M s) (hq : ∀ N, Cp PV M t s N → Q N) : Tot (f_X8_take t s M) Q := by
  obtain ⟨⟨a1, a2, a3, a4, a5⟩, ⟨al1, al2, al3, al4, al5⟩, ar⟩ := ht
  obtain ⟨⟨b1, b2, b3, b4, b5⟩, ⟨bl1, bl2, bl3, bl4, bl5⟩, br⟩ := hs
  unfold f_X8_take
  have step : ∀ (q : Int) (N : Mem) (K : Mem → Option Mem), 0 ≤ q → q < 8 → Cp (fun o j => o = 0 ∧ 0 ≤ j ∧ j < q) M t s N → (∀ N', Cp (fun o j => o = 0 ∧ 0 ≤ j ∧ j < q + 1) M t s N' → Tot (K N') Q) → Tot (getf N s q (fun v => putf N t q v K)) Q := by
    intro q N K q0 q1 hN hK
    rw [t_getf, t_putf]
    exact ⟨by omega, by omega, hK _ (cp_iff (cp_put (k := q) hN (by omega)) (fun o j => by omega))⟩
  refine step 0 M _ (by omega) (by omega) (cp_iff (cp_0 M t s) (fun o j => ⟨fun h => h.elim, fun h => by omega⟩)) (fun N1 c1 => ?_)
  refine step 1 N1 _ (by omega) (by omega) (cp_iff c1 (fun o j => by omega)) (fun N2 c2 => ?_)
  refine step 2 N2 _ (by omega) (by omega) (cp_iff c2 (fun o j => by omega)) (fun N3 c3 => ?_)
  refine step 3 N3 _ (by omega) (by omega) (cp_iff c3 (fun o j => by omega)) (fun N4 c4 => ?_)
  refine step 4 N4 _ (by omega) (by omega) (cp_iff c4 (fun o j => by omega)) (fun N5 c5 => ?_)
  refine step 5 N5 _ (by omega) (by omega) (cp_iff c5 (fun o j => by omega)) (fun N6 c6 => ?_)
  refine step 6 N6 _ (by omega) (by omega) (cp_iff c6 (fun o j => by omega)) (fun N7 c7 => ?_)
  refine step 7 N7 _ (by omega) (by omega) (cp_iff c7 (fun o j => by omega)) (fun N8 c8 => ?_)
  clear step c1 c2 c3 c4 c5 c6 c7
  refine lpIM (fun p N => 0 ≤ p ∧ p ≤ 10 ∧ Cp (fun o j => (o = 0 ∧ 0 ≤ j ∧ j < 8) ∨ (2 ≤ o ∧ o < 2 + p ∧ 0 ≤ j ∧ j < 6)) M t s N) (fun p _ => (10 - p).toNat) ?_ (by unfold KF; omega) ⟨by omega, by omega, cp_iff c8 (fun o j => by omega)⟩
  rintro fu p N ⟨i0, i1, i2⟩ ih
  have r1 : ∀ o j, 0 ≤ o → o ≤ 25 → N (s + o) j = M (s + o) j := fun o j o0 o1 => (i2 _ _).2 (by omega)
  have r0 : ∀ j, N s j = M s j := fun j => by have := r1 0 j (by omega) (by omega); rwa [Int.add_zero] at this
  have rt : ∀ j, 8 ≤ j → N t j = M t j := fun j hj => (i2 _ _).2 (by omega)
  have rx : ∀ o j, o = 1 ∨ 12 ≤ o ∨ j < 0 → N (t + o) j = M (t + o) j := fun o j ho => (i2 _ _).2 (by omega)
  unfold f_X8_take_L66
  rw [t_ite]
  refine ⟨fun c => ?_, fun c => ?_⟩
  rotate_left
  · have qa := ar p i0 (by omega)
    have qb := br p i0 (by omega)
    rw [t_getf, r0, b1, t_geti, r1 1 _ (by omega) (by omega), bl1, r1 1 _ (by omega) (by omega), qb.1, t_getf, rt _ (by omega), a1, t_geti, rx 1 _ (by omega), al1, rx 1 _ (by omega), qa.1, t_acopy, show s + 2 + p = s + (2 + p) by omega, show t + 2 + p = t + (2 + p) by omega, r1 (2 + p) _ (by omega) (by omega), rx (2 + p) _ (by omega), show s + (2 + p) = s + 2 + p by omega, show t + (2 + p) = t + 2 + p by omega, qa.2.1, qb.2.1, w32_s (by omega) (by omega), show s + 2 + p = s + (2 + p) by omega, show t + 2 + p = t + (2 + p) by omega]
    refine ⟨by omega, by omega, i0, by omega, by omega, by omega, i0, by omega, ⟨by omega, by omega, by omega, by omega, by omega, by omega, by omega⟩, ih _ _ (by omega) ⟨by omega, by omega, cp_iff (cp_copy (n := 6) i2 (fun j => by omega)) (fun o j => by omega)⟩⟩
  have hp : p = 10 := by omega
  subst hp
  refine lpIM (fun p X => 0 ≤ p ∧ p ≤ 10 ∧ Cp (fun o j => (o = 0 ∧ 0 ≤ j ∧ j < 8) ∨ (2 ≤ o ∧ o ≤ 11 ∧ 0 ≤ j ∧ j < 6) ∨ (13 ≤ o ∧ o < 13 + p ∧ 0 ≤ j ∧ j < 4)) M t s X) (fun p _ => (10 - p).toNat) ?_ (by unfold KF; omega) ⟨by omega, by omega, cp_iff i2 (fun o j => by omega)⟩
  clear ih r1 r0 rt rx
  rintro fu2 p X ⟨k0, k1, k2⟩ ih
  have r1 : ∀ o j, 0 ≤ o → o ≤ 25 → X (s + o) j = M (s + o) j := fun o j o0 o1 => (k2 _ _).2 (by omega)
  have r0 : ∀ j, X s j = M s j := fun j => by have := r1 0 j (by omega) (by omega); rwa [Int.add_zero] at this
  have rt : ∀ j, 8 ≤ j → X t j = M t j := fun j hj => (k2 _ _).2 (by omega)
  have rx : ∀ o j, o = 12 ∨ 23 ≤ o ∨ j < 0 → X (t + o) j = M (t + o) j := fun o j ho => (k2 _ _).2 (by omega)
  unfold f_X8_take_L99
  rw [t_ite]
  refine ⟨fun c2 => ?_, fun c2 => ?_⟩
  · have hp : p = 10 := by omega
    subst hp
    have e1 := cp_copy (o := 23) (n := 10) k2 (fun j => by omega)
    rw [t_getf, r0, b3, t_getf, rt _ (by omega), a3, t_acopy, r1 23 _ (by omega) (by omega), rx 23 _ (by omega), al3, bl3]
    refine ⟨by omega, by omega, ⟨by omega, by omega, by omega, by omega, by omega, by omega, by omega⟩, ?_⟩
    generalize copym X (s + 23) 0 (t + 23) 0 10 = Y at e1 ⊢
    have y1 : ∀ o j, 0 ≤ o → o ≤ 25 → Y (s + o) j = M (s + o) j := fun o j o0 o1 => (e1 _ _).2 (by omega)
    have y0 : ∀ j, Y s j = M s j := fun j => by have := y1 0 j (by omega) (by omega); rwa [Int.add_zero] at this
    have yt : ∀ j, 8 ≤ j → Y t j = M t j := fun j hj => (e1 _ _).2 (by omega)
    have yx : ∀ o j, 24 ≤ o ∨ j < 0 → Y (t + o) j = M (t + o) j := fun o j ho => (e1 _ _).2 (by omega)
    have e2 := cp_copy (o := 24) (n := 6) e1 (fun j => by omega)
    rw [t_getf, y0, b4, t_getf, yt _ (by omega), a4, t_acopy, y1 24 _ (by omega) (by omega), yx 24 _ (by omega), al4, bl4]
    refine ⟨by omega, by omega, ⟨by omega, by omega, by omega, by omega, by omega, by omega, by omega⟩, ?_⟩
    generalize copym Y (s + 24) 0 (t + 24) 0 6 = Z at e2 ⊢
    have z1 : ∀ o j, 0 ≤ o → o ≤ 25 → Z (s + o) j = M (s + o) j := fun o j o0 o1 => (e2 _ _).2 (by omega)
    have z0 : ∀ j, Z s j = M s j := fun j => by have := z1 0 j (by omega) (by omega); rwa [Int.add_zero] at this
    have zt : ∀ j, 8 ≤ j → Z t j = M t j := fun j hj => (e2 _ _).2 (by omega)
    have zx : ∀ o j, 25 ≤ o ∨ j < 0 → Z (t + o) j = M (t + o) j := fun o j ho => (e2 _ _).2 (by omega)
    have e3 := cp_copy (o := 25) (n := 10) e2 (fun j => by omega)
    rw [t_getf, z0, b5, t_getf, zt _ (by omega), a5, t_acopy, z1 25 _ (by omega) (by omega), zx 25 _ (by omega), al5, bl5, t_some]
    refine ⟨by omega, by omega, ⟨by omega, by omega, by omega, by omega, by omega, by omega, by omega⟩, hq _ (cp_iff e3 (fun o j => by unfold PV; omega))⟩
  · have qa := ar p k0 (by omega)
    have qb := br p k0 (by omega)
    rw [t_getf, r0, b2, t_geti, r1 12 _ (by omega) (by omega), bl2, r1 12 _ (by omega) (by omega), qb.2.2.1, t_getf, rt _ (by omega), a2, t_geti, rx 12 _ (by omega), al2, rx 12 _ (by omega), qa.2.2.1, t_acopy, show s + 13 + p = s + (13 + p) by omega, show t + 13 + p = t + (13 + p) by omega, r1 (13 + p) _ (by omega) (by omega), rx (13 + p) _ (by omega), show s + (13 + p) = s + 13 + p by omega, show t + (13 + p) = t + 13 + p by omega, qa.2.2.2, qb.2.2.2, w32_s (by omega) (by omega), show s + 13 + p = s + (13 + p) by omega, show t + 13 + p = t + (13 + p) by omega]
    refine ⟨by omega, by omega, k0, by omega, by omega, by omega, k0, by omega, ⟨by omega, by omega, by omega, by omega, by omega, by omega, by omega⟩, ih _ _ (by omega) ⟨by omega, by omega, cp_iff (cp_copy (n := 4) k2 (fun j => by omega)) (fun o j => by omega)⟩⟩
