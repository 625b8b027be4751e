/-! the start keeps the invariant; the law -/
theorem gw_pl {w : Int → Int} (h : ∀ j, 0 ≤ j → j < 640 → w j = if j = 0 then 100 else if j = 1 then 1440 else if j = 9 then -1 else 0) : GW w := by
  have z : ∀ j, 0 ≤ j → j < 640 → j ≠ 0 → j ≠ 1 → j ≠ 9 → w j = 0 := fun j j0 j1 a b c => by rw [h j j0 j1, if_neg a, if_neg b, if_neg c]
  have e0 : w 0 = 100 := by rw [h 0 (by omega) (by omega)]; rfl
  have e1 : w 1 = 1440 := by rw [h 1 (by omega) (by omega)]; rfl
  have e9 : w 9 = -1 := by rw [h 9 (by omega) (by omega)]; rfl
  have e2 := z 2 (by omega) (by omega) (by omega) (by omega) (by omega)
  have e3 := z 3 (by omega) (by omega) (by omega) (by omega) (by omega)
  have e4 := z 4 (by omega) (by omega) (by omega) (by omega) (by omega)
  have e5 := z 5 (by omega) (by omega) (by omega) (by omega) (by omega)
  have hv : WV w := by
    refine ⟨?_, by omega, fun r r0 r1 => by omega, fun f f0 f1 => by omega, fun j hj => ?_⟩
    · unfold cntW; omega
    · by_cases c : j = 9
      · rw [if_pos c, c]; exact e9
      · rw [if_neg c]; exact z j (by omega) (by omega) (by omega) (by omega) c
  have q := gw_new hv
  have e : wO w = w := by
    funext j
    exact wO_o (by omega)
  rwa [e] at q
theorem iv_0 {N : Mem} {u : Int → Int} (h0 : N 0 0 = 136) (hc : CB N) (hr : RB N u) : Iv N 0 := by
  obtain ⟨⟨⟨a0, a1, a2, a3, a4, a5, a6, a7⟩, a8, a9, a10, a11, a12, a13, a14⟩, ⟨⟨b1, b2, b3⟩, ⟨b4, b5, b6⟩, b7, b8, b9⟩, ⟨⟨c1, c2, c3, c4, c5⟩, ⟨c6, c7⟩, c8⟩, ⟨⟨⟨d1, d2, d3⟩, d4, d5, d6⟩, ⟨v0, v1, v2, v3, v4, v5, v6, v7⟩, ⟨x0, x1, x2⟩, ⟨⟨s0, s1, s2, s3⟩, s4⟩⟩, hw, ⟨l1, l2, l3⟩, hk, ⟨⟨m1, m2⟩, ⟨m3, m4⟩⟩, hv, hd⟩ := hc
  obtain ⟨hl, ⟨r2, r3, r4, r10, r16, r17, r34, r41, r42⟩, rt, rr, rp⟩ := hr
  have w : ∀ j, 0 ≤ j → j < 640 → N 120 j = if j = 0 then 100 else if j = 1 then 1440 else if j = 9 then -1 else 0 := fun j j0 j1 => by
    rw [rp j j0 j1]; unfold plW
    rw [if_pos (show 0 ≤ j ∧ j < 640 from ⟨j0, j1⟩)]
  have g := gw_pl w
  have z : ∀ j, 0 ≤ j → j < 640 → j ≠ 0 → j ≠ 1 → j ≠ 9 → N 120 j = 0 := fun j j0 j1 a b c => by rw [w j j0 j1, if_neg a, if_neg b, if_neg c]
  have e0 : N 120 0 = 100 := by rw [w 0 (by omega) (by omega)]; rfl
  have e1 : N 120 1 = 1440 := by rw [w 1 (by omega) (by omega)]; rfl
  have e9 : N 120 9 = -1 := by rw [w 9 (by omega) (by omega)]; rfl
  have e2 := z 2 (by omega) (by omega) (by omega) (by omega) (by omega)
  have e3 := z 3 (by omega) (by omega) (by omega) (by omega) (by omega)
  have e4 := z 4 (by omega) (by omega) (by omega) (by omega) (by omega)
  have e5 := z 5 (by omega) (by omega) (by omega) (by omega) (by omega)
  have e6 := z 6 (by omega) (by omega) (by omega) (by omega) (by omega)
  have e7 := z 7 (by omega) (by omega) (by omega) (by omega) (by omega)
  have e8 := z 8 (by omega) (by omega) (by omega) (by omega) (by omega)
  have hV : RV N 14 (N 120) := by
    refine ⟨⟨by omega, by omega, by omega, by omega, by omega, ?_, ?_⟩, fun r k i0 i1 => by omega, fun f k i0 i1 => by omega⟩
    · unfold allSh; rw [e5, sumZ_0]; exact v6
    · unfold litre; rw [e3]; exact v7
  have hS : RS N 48 (N 120) := by
    refine ⟨⟨by omega, by omega, by omega, by omega⟩, fun k i0 i1 => by omega, fun i i0 i1 => by omega, fun i j i0 i1 j0 j1 => ?_, fun f f0 f1 => ?_⟩
    · rw [s4 5 _ (by omega) (by omega) (by omega)]; exact (z _ (by omega) (by omega) (by omega) (by omega) (by omega)).symm
    · rw [s4 6 _ (by omega) (by omega) (by omega)]; exact (z _ (by omega) (by omega) (by omega) (by omega) (by omega)).symm
  have hD : RDy N 40 (N 120) := ⟨by rw [e9, if_pos rfl]; exact x0, fun q => absurd e9 q⟩
  refine ⟨14, 40, fun _ => 0, 0, 0, ⟨⟨.inl rfl, ⟨a2, a3, d1, d3⟩, d4, d6, hw, hV, hS⟩, ⟨.inl rfl, d2, d5, hD⟩, g⟩, ⟨⟨hl, r34⟩, ⟨⟨a0, b1, b2, b3, b4, b5, b6, b7, b8⟩, fun t t0 t1 => ?_, fun t j t0 t1 j0 j1 => ?_⟩, ⟨.inl rfl, .inl rfl, ⟨a1, c1, c2, c6, c7⟩, ⟨a2, a8, a9, d1, d2, d3⟩, d4, hv, d5, hd, d6⟩, ⟨⟨by omega, by omega, by omega⟩, fun k k0 k1 => by omega, c8, by omega, by omega⟩, ⟨fun k k0 k1 => by omega, fun k k0 k1 => by omega, fun k k0 k1 => by omega⟩, ⟨⟨by omega, ⟨a6, m1, a11, by omega⟩, fun i i0 i1 => by omega, fun i i0 i1 => m2 i i0 i1, fun j j0 j1 => by omega⟩, r42, fun j j0 j1 => by omega⟩⟩, ⟨a4, a5, a7, m3, hk, l1, l2⟩, ⟨by omega, by omega, by omega⟩, ⟨by omega, fun i i0 i1 => ?_⟩, fun k k0 k1 => ⟨(show (0 : Int) ≤ 0 ∧ (0 : Int) ≤ 98 by omega), Or.inr ⟨?_, rfl, ?_⟩, rr k k0 k1⟩⟩
  · have p := b9 t t0 t1
    have q := rt t t0 t1
    omega
  · have q := (rt t t0 t1).2.1
    omega
  · rw [m4 i i0 i1]; exact (rt i i0 i1).2.2.symm
  · have := l3 k k0 k1; omega
  · have := l3 k k0 k1; omega
theorem law_at {xs : Int → Int} {L : Int} {M : Mem} (hM : M 0 0 = 0) (hL0 : 0 ≤ L) (hL : L ≤ 3072) (hx : ∀ i, 0 ≤ i → i < L → r32 (xs i)) : Tot (f_L_law xs L M) (fun u => u = 1) := by
  unfold f_L_law
  rw [t_newo, t_nn, t_callv, hM, show (0 : Int) + 1 = 1 from rfl]
  refine ⟨by omega, t_mono (c_init (by rw [new_0]; omega)) (fun N hN => ?_)⟩
  rw [t_newo, t_nn, t_callv, hN.1, show (118 : Int) + 1 = 119 from rfl]
  refine ⟨by omega, t_mono (r_init (fun _ => 0) (by rw [new_0, hN.1]; rfl) (fun j j0 => new_z (by rw [hN.1]; rfl) (by rw [hN.1]; decide) j0)) (fun P hP => ?_)⟩
  have hc : CB P := cb_k hN.2 (fun a j a0 a1 => by rw [hP.2.1 a j a0 a1]; exact new_o (by omega) (by rw [hN.1]; omega))
  have q := law_loop hL0 hL hx 513 0 P (by omega) (by omega) (by omega) (by rw [show (1000000 : Int) * 0 = 0 from rfl]; exact iv_0 hP.1 hc hP.2.2)
  rw [show (6 : Int) * 0 = 0 from rfl] at q
  exact q
theorem law_true : LawTrue := by
  intro xs L hL0 hL hx
  obtain ⟨x, e, hx'⟩ := law_at (xs := xs) (L := L) (M := fun _ _ => 0) rfl hL0 hL hx
  rw [e, hx']
