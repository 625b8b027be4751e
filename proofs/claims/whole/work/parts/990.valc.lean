/-! the class's valley -/
theorem pb_v {M : Mem} {v : Int} {w : Int → Int} (hL : LV M v) (hR : RV M v w) (h13 : M 13 0 = v) (h48 : M 13 2 = 48) (hs : LSt M 48) (h3 : w 3 ≤ 10) (h5 : w 5 ≤ 10) : PB M v w := by
  obtain ⟨⟨l1, l2, l3, l4, l5⟩, ⟨b1, b2, b3, b4, b5⟩, lr⟩ := hL
  obtain ⟨⟨a1, a2, a3, a4, a5, a6, a7⟩, hr, hf⟩ := hR
  refine ⟨⟨h13, h48, hs.1.1, hs.2.1⟩, ⟨l1, l2, b1, b2, a3, a5⟩, fun r r0 r1 => ?_, fun f f0 f1 => ?_⟩
  · have := lr r r0 (by omega)
    exact ⟨this.1, this.2.1, hr r 0 r0 r1 (by omega) (by omega)⟩
  · have := lr f f0 (by omega)
    exact ⟨this.2.2.1, this.2.2.2, hf f 0 f0 f1 (by omega) (by omega)⟩
def bgW (a j d : Int) : Prop := (a = d ∧ 0 ≤ j ∧ j < 3) ∨ PS (a - 48) j
theorem rv_o {M : Mem} {v : Int} {w : Int → Int} (h3 : w 3 ≤ 10) (h5 : 0 ≤ w 5 ∧ w 5 ≤ 10) (h : RV M v w) : RV M v (wO w) := by
  obtain ⟨⟨a1, a2, a3, a4, a5, a6, a7⟩, hr, hf⟩ := h
  have o : ∀ j, j < 112 → wO w j = w j := fun j hj => wO_o (by omega)
  have e3 := o 3 (by omega)
  have e5 := o 5 (by omega)
  refine ⟨⟨by rw [o 1 (by omega)]; exact a1, by rw [o 2 (by omega)]; exact a2, by rw [e3]; exact a3, by rw [o 4 (by omega)]; exact a4, by rw [e5]; exact a5, ?_, ?_⟩, fun r k r0 r1 k0 k1 => ?_, fun f k f0 f1 k0 k1 => ?_⟩
  · rw [a6]; unfold allSh; rw [e5]
    exact sumZ_congr (fun k k0 k1 => (o _ (by omega)).symm)
  · rw [a7]; unfold litre; rw [e3]
    exact foldZ_congr (fun k x k0 k1 => by rw [show rc (wO w) k 2 = rc w k 2 from o _ (by omega)])
  · rw [e3] at r1
    rw [hr r k r0 r1 k0 k1]; exact (o _ (by omega)).symm
  · rw [e5] at f1
    rw [hf f k f0 f1 k0 k1]; exact (o _ (by omega)).symm
theorem beginW_e {M : Mem} {v d : Int} {w nm : Int → Int} {Q : Mem → Prop} (hv : v = 14 ∨ v = 85) (hd : d = 40 ∨ d = 111) (hV : VD M v w nm) (hw : WV w) (h13 : M 13 0 = v) (h131 : M 13 1 = d) (h48 : M 13 2 = 48) (hs : LSt M 48) (hD : LDy M d) (hq : ∀ N, RS N 48 (wO w) → RDy N d (wO w) → (∀ a j, ¬ bgW a j d → N a j = M a j) → Q N) : Tot (f_X10_begin 13 M) Q := by
  obtain ⟨hL, hv0, hR, hN⟩ := hV
  have hw' := hw
  obtain ⟨⟨c3, c4, c5⟩, wb, hr, hf, hz⟩ := hw'
  obtain ⟨on, om, ol⟩ := ord_ok hr hf c3.1 c3.2 c5.1
  obtain ⟨⟨s4, s5, s6, s7, s8, s9⟩, ⟨t1, t2, t3, t4, t5, t6⟩⟩ := hs
  simp only [show (48 : Int) + 1 = 49 from rfl, show (48 : Int) + 2 = 50 from rfl, show (48 : Int) + 3 = 51 from rfl, show (48 : Int) + 4 = 52 from rfl, show (48 : Int) + 5 = 53 from rfl, show (48 : Int) + 6 = 54 from rfl] at s4 s5 s6 s7 s8 s9 t1 t2 t3 t4 t5 t6
  unfold f_X10_begin f_X0_clear f_X4_clear
  rw [t_getf, h131, t_nn, t_callv, t_putz, t_putf, t_putf, t_some]
  refine ⟨by omega, by omega, by omega, by omega, by omega, by omega, ?_⟩
  have z : ∀ a j, ¬ (a = d ∧ 0 ≤ j ∧ j < 3) → upd2 (upd2 (upd2 M d 0 0) d 1 0) d 2 0 a j = M a j := fun a j hh => by rw [upd2_at, if_neg (by omega), upd2_at, if_neg (by omega), upd2_at, if_neg (by omega)]
  have z0 : upd2 (upd2 (upd2 M d 0 0) d 1 0) d 2 0 d 0 = 0 := by rw [upd2_at, if_neg (by omega), upd2_at, if_neg (by omega), upd2_at, if_pos ⟨rfl, rfl⟩]
  generalize upd2 (upd2 (upd2 M d 0 0) d 1 0) d 2 0 = Z at z z0 ⊢
  rw [t_getf, z _ _ (by omega), h48, t_nn, t_callv, t_putf, t_putf, t_putf]
  refine ⟨by omega, by omega, by omega, by omega, by omega, ?_⟩
  have y : ∀ a j, ¬ (a = 48 ∧ 1 ≤ j ∧ j < 4) → upd2 (upd2 (upd2 Z 48 1 0) 48 2 0) 48 3 0 a j = Z a j := fun a j hh => by rw [upd2_at, if_neg (by omega), upd2_at, if_neg (by omega), upd2_at, if_neg (by omega)]
  have y1 : upd2 (upd2 (upd2 Z 48 1 0) 48 2 0) 48 3 0 48 1 = 0 := by rw [upd2_at, if_neg (by omega), upd2_at, if_neg (by omega), upd2_at, if_pos ⟨rfl, rfl⟩]
  have y2 : upd2 (upd2 (upd2 Z 48 1 0) 48 2 0) 48 3 0 48 2 = 0 := by rw [upd2_at, if_neg (by omega), upd2_at, if_pos ⟨rfl, rfl⟩]
  have y3 : upd2 (upd2 (upd2 Z 48 1 0) 48 2 0) 48 3 0 48 3 = 0 := by rw [upd2_at, if_pos ⟨rfl, rfl⟩]
  generalize upd2 (upd2 (upd2 Z 48 1 0) 48 2 0) 48 3 0 = Y at y y1 y2 y3 ⊢
  rw [t_getf, y _ _ (by omega), z _ _ (by omega), s8, t_callv]
  refine ⟨by omega, ?_⟩
  have l53 : Y 53 (-1) = 100 := by rw [y _ _ (by omega), z _ _ (by omega)]; exact t5
  refine fill_i (by omega) (by rw [l53]; omega) (by rw [l53]; omega) (fun X hX => ?_)
  rw [l53] at hX
  have x48 : X 48 9 = 54 := by rw [hX, if_neg (by omega), y _ _ (by omega), z _ _ (by omega)]; exact s9
  have l54 : X 54 (-1) = 10 := by rw [hX, if_neg (by omega), y _ _ (by omega), z _ _ (by omega)]; exact t6
  rw [t_getf, x48, t_callv]
  refine ⟨by omega, ?_⟩
  refine fill_l (by omega) (by rw [l54]; omega) (by rw [l54]; omega) (fun W hW => ?_)
  rw [l54] at hW
  have wk : ∀ a j, ¬ (a = 53 ∧ 0 ≤ j ∧ j < 100) → ¬ (a = 54 ∧ 0 ≤ j ∧ j < 10) → ¬ (a = 48 ∧ 1 ≤ j ∧ j < 4) → ¬ (a = d ∧ 0 ≤ j ∧ j < 3) → W a j = M a j := fun a j q1 q2 q3 q4 => by rw [hW, if_neg q2, hX, if_neg q1, y _ _ q3, z _ _ q4]
  rw [t_some, t_getf, wk _ _ (by omega) (by omega) (by omega) (by omega), h48, t_getf, wk _ _ (by omega) (by omega) (by omega) (by omega), h13, t_getf, wk _ _ (by omega) (by omega) (by omega) (by omega), hv0, t_putf]
  refine ⟨by omega, by omega, by omega, by omega, ?_⟩
  have vk : ∀ a j, ¬ (a = 48 ∧ j = 0) → upd2 W 48 0 (w 0) a j = W a j := fun a j hh => by rw [upd2_at, if_neg hh]
  have v0 : upd2 W 48 0 (w 0) 48 0 = w 0 := by rw [upd2_at, if_pos ⟨rfl, rfl⟩]
  generalize upd2 W 48 0 (w 0) = V at vk v0 ⊢
  have vM : ∀ a j, ¬ bgW a j d → V a j = M a j := fun a j hh => by
    rw [vk _ _ (fun q => hh (.inr (by unfold PS; omega))), wk _ _ (fun q => hh (.inr (by unfold PS; omega))) (fun q => hh (.inr (by unfold PS; omega))) (fun q => hh (.inr (by unfold PS; omega))) (fun q => hh (.inl q))]
  have nb : ∀ a j, ¬ (48 ≤ a ∧ a ≤ 54 ∧ 0 ≤ j) → ¬ (a = d ∧ 0 ≤ j ∧ j < 3) → ¬ bgW a j d := fun a j q1 q2 q => by
    rcases q with q | q
    · exact q2 q
    · have := ps_r q; omega
  have nb2 : ∀ a j, ¬ (a = 48 ∧ 0 ≤ j ∧ j < 4) → (a < 49 ∨ 54 < a ∨ j < 0) → ¬ (a = d ∧ 0 ≤ j ∧ j < 3) → ¬ bgW a j d := fun a j q1 q3 q2 q => by
    rcases q with q | q
    · exact q2 q
    · unfold PS at q; omega
  have pb : PB V v w := pb_v (lv_keep hL (fun a j q1 q2 => vM a j (nb a j (by omega) (by omega)))) (rv_keep c3.2 c5.2 hR (fun a j q1 q2 => vM a j (nb a j (by omega) (by omega)))) (by rw [vM _ _ (nb _ _ (by omega) (by omega))]; exact h13) (by rw [vM _ _ (nb _ _ (by omega) (by omega))]; exact h48) ⟨⟨by rw [vM _ _ (nb2 _ _ (by omega) (by omega) (by omega))]; exact s4, by rw [vM _ _ (nb2 _ _ (by omega) (by omega) (by omega))]; exact s5, by rw [vM _ _ (nb2 _ _ (by omega) (by omega) (by omega))]; exact s6, by rw [vM _ _ (nb2 _ _ (by omega) (by omega) (by omega))]; exact s7, by rw [vM _ _ (nb2 _ _ (by omega) (by omega) (by omega))]; exact s8, by rw [vM _ _ (nb2 _ _ (by omega) (by omega) (by omega))]; exact s9⟩, ⟨by rw [vM _ _ (nb2 _ _ (by omega) (by omega) (by omega))]; exact t1, by rw [vM _ _ (nb2 _ _ (by omega) (by omega) (by omega))]; exact t2, by rw [vM _ _ (nb2 _ _ (by omega) (by omega) (by omega))]; exact t3, by rw [vM _ _ (nb2 _ _ (by omega) (by omega) (by omega))]; exact t4, by rw [vM _ _ (nb2 _ _ (by omega) (by omega) (by omega))]; exact t5, by rw [vM _ _ (nb2 _ _ (by omega) (by omega) (by omega))]; exact t6⟩⟩ c3.2 c5.2
  have df : dfs w 12 (-1) = ordL w := by
    show fld w (-1) ++ (chl w (-1)).flatMap (dfs w 11) = _
    rw [show fld w (-1) = [] from nil_of (fun x hx => by
      rw [mem_fld c5.1] at hx
      have := hf x hx.1 hx.2.1; omega)]
    rfl
  have o : ∀ j, j < 112 ∨ 122 ≤ j → wO w j = w j := fun j hj => wO_o (by omega)
  have wz : ∀ j, (6 ≤ j ∧ j < 9) ∨ (122 ≤ j ∧ j < 640) → wO w j = 0 := fun j hj => by rw [o j (by omega), hz j (by omega), if_neg (by omega)]
  have w9 : wO w 9 = -1 := by rw [o 9 (by omega), hz 9 (by omega), if_pos rfl]
  rw [t_call]
  refine pbd_e hv hr c3 c5 12 (-1) 0 0 V _ (by omega) (by omega) (by omega) (by omega) (.inr rfl) (by omega) (by rw [df]; omega) pb (fun N cN fN => ?_)
  rw [df] at cN fN
  have nV : ∀ a j, ¬ (a = 49 ∧ 0 ≤ j ∧ j < w 5) → N a j = V a j := fun a j hh => fN a j (by omega)
  rw [t_some]
  refine hq N ⟨⟨?_, ?_, ?_, ?_⟩, fun k k0 k1 => ?_, fun i i0 i1 => ?_, fun i j i0 i1 j0 j1 => ?_, fun f f0 f1 => ?_⟩ ⟨?_, fun h9 => absurd w9 h9⟩ (fun a j hh => ?_)
  · rw [nV _ _ (by omega), o 0 (by omega)]; exact v0
  · rw [nV _ _ (by omega), vk _ _ (by omega), hW, if_neg (by omega), hX, if_neg (by omega), y1, wz 6 (by omega)]
  · rw [nV _ _ (by omega), vk _ _ (by omega), hW, if_neg (by omega), hX, if_neg (by omega), y2, wz 7 (by omega)]
  · rw [nV _ _ (by omega), vk _ _ (by omega), hW, if_neg (by omega), hX, if_neg (by omega), y3, wz 8 (by omega)]
  · rw [o 5 (by omega)] at k1
    rw [wO_i k0 k1, ← cN k k0 (by omega), Int.zero_add]; rfl
  · rw [wz 8 (by omega)] at i1; omega
  · show N 53 (i * 10 + j) = _
    rw [nV _ _ (by omega), vk _ _ (by omega), hW, if_neg (by omega), hX, if_pos (by omega)]
    exact (wz _ (by omega)).symm
  · show N 54 f = _
    rw [nV _ _ (by omega), vk _ _ (by omega), hW, if_pos (by omega)]
    exact (wz _ (by omega)).symm
  · rw [nV _ _ (by omega), vk _ _ (by omega), hW, if_neg (by omega), hX, if_neg (by omega), y _ _ (by omega), z0, w9, if_pos rfl]
  · rw [nV _ _ (fun q => hh (.inr (by unfold PS; omega))), vM a j hh]
/-- what the class keeps of its objects, whatever the valley -/
def CV (M : Mem) (v d : Int) : Prop := (v = 14 ∨ v = 85) ∧ (d = 40 ∨ d = 111) ∧ (M 1 1 = 10 ∧ M 10 0 = 11 ∧ M 10 1 = 12 ∧ M 11 (-1) = 900 ∧ M 12 (-1) = 30) ∧ (M 1 2 = 13 ∧ M 1 8 = 99 - v ∧ M 1 9 = 151 - d ∧ M 13 0 = v ∧ M 13 1 = d ∧ M 13 2 = 48) ∧ LV M v ∧ LV M (99 - v) ∧ LDy M d ∧ LDy M (151 - d) ∧ LSt M 48
def VlF (a j v d : Int) : Prop := (a = 10 ∧ 2 ≤ j) ∨ (a = 1 ∧ (j = 8 ∨ j = 12)) ∨ (a = 13 ∧ j = 0) ∨ PV (a - (99 - v)) j ∨ bgW a j d
theorem c_valley {M : Mem} {v d x : Int} {u : Int → Int} {Q : Int × Mem → Prop} (h : CV M v d) (hm : 0 ≤ M 10 6 ∧ M 10 6 ≤ 900) (hb : ¬ (0 ≤ x ∧ x ≤ M 10 6) → Q (-1, upd2 M 1 12 1)) (he : 0 ≤ x ∧ x ≤ M 10 6 → ∀ N f, rdT (M 11) (M 12) x u = .error f → ErC N f → N 10 6 = 0 → N 1 12 = 9 → N 1 8 = 99 - v → N 13 0 = v → (∀ a j, ¬ (a = 10 ∧ 2 ≤ j) → ¬ (a = 1 ∧ j = 12) → ¬ PV (a - (99 - v)) j → N a j = M a j) → Q (-1, N)) (hk : 0 ≤ x ∧ x ≤ M 10 6 → ∀ N τ, rdT (M 11) (M 12) x u = .ok τ → WV τ.1 → (N 10 11 = 0 ∧ N 10 12 = -1) → N 10 6 = 0 → N 1 12 = 0 → N 1 8 = v → N 13 0 = 99 - v → VD N (99 - v) τ.1 τ.2.1 → RS N 48 (wO τ.1) → RDy N d (wO τ.1) → (∀ a j, ¬ VlF a j v d → N a j = M a j) → Q (τ.1 5, N)) : Tot (f_X11_valley 1 x M) Q := by
  obtain ⟨hv, hd, hT, ⟨p2, p8, p9, p13, p131, p132⟩, hL, hL2, hD, hD2, hS⟩ := h
  unfold f_X11_valley
  rw [t_getf, hT.1, t_getf, t_callp, isWithin_e, t_some, t_ite]
  refine ⟨by omega, by omega, fun c => ?_, fun c => ?_⟩
  rotate_left
  · have nx : ¬ (0 ≤ x ∧ x ≤ M 10 6) := fun z => by rw [if_pos z] at c; omega
    rw [t_call, refuse_e, t_some, t_some]
    exact hb nx
  have ok : 0 ≤ x ∧ x ≤ M 10 6 := by
    by_cases z : 0 ≤ x ∧ x ≤ M 10 6
    · exact z
    · rw [if_neg z] at c; exact absurd rfl c
  rw [t_getf, hT.1, t_getf, p8, t_call]
  refine ⟨by omega, by omega, ?_⟩
  have nt : ∀ a j, ¬ (a = 10 ∧ 2 ≤ j ∧ j ≠ 6) → ¬ (99 - v ≤ a ∧ a ≤ 99 - v + 25) → ¬ tvF a j (99 - v) := fun a j q1 q2 q => by
    rcases q with q | q
    · exact q1 q
    · have := pv_o q; omega
  refine takesV_e (u := u) hT ok.1 ok.2 hm.2 (by omega) hL2 (fun N f e1 e2 e3 => ?_) (fun N τ e1 e2 e3 e4 e5 => ?_)
  · dsimp only
    have n11 : N 1 1 = 10 := by rw [e3 _ _ (nt _ _ (by omega) (by omega))]; exact hT.1
    rw [t_getf, n11, t_putf, t_ite]
    refine ⟨by omega, by omega, fun q => absurd rfl q, fun _ => ?_⟩
    rw [t_call, refuse_e, t_some, t_some]
    dsimp only
    have z : ∀ a j, ¬ (a = 10 ∧ j = 6) → ¬ (a = 1 ∧ j = 12) → upd2 (upd2 N 10 6 0) 1 12 9 a j = N a j := fun a j q1 q2 => by rw [upd2_at, if_neg q2, upd2_at, if_neg q1]
    refine he ok _ f e1 ⟨?_, ?_⟩ ?_ ?_ ?_ ?_ (fun a j q1 q2 q3 => ?_)
    · rw [z _ _ (by omega) (by omega)]; exact e2.1
    · rw [z _ _ (by omega) (by omega)]; exact e2.2
    · rw [upd2_at, if_neg (by omega), upd2_at, if_pos ⟨rfl, rfl⟩]
    · rw [upd2_at, if_pos ⟨rfl, rfl⟩]
    · rw [z _ _ (by omega) (by omega), e3 _ _ (nt _ _ (by omega) (by omega))]; exact p8
    · rw [z _ _ (by omega) (by omega), e3 _ _ (nt _ _ (by omega) (by omega))]; exact p13
    · rw [z _ _ (by omega) q2, e3 _ _ (fun q => by
        rcases q with q | q
        · exact q1 ⟨q.1, q.2.1⟩
        · exact q3 q)]
  · dsimp only
    have nM : ∀ a j, ¬ (a = 10 ∧ 2 ≤ j ∧ j ≠ 6) → ¬ (99 - v ≤ a ∧ a ≤ 99 - v + 25) → N a j = M a j := fun a j q1 q2 => e5 _ _ (nt _ _ q1 q2)
    rw [t_getf, nM 1 1 (by omega) (by omega), hT.1, t_putf, t_ite]
    refine ⟨by omega, by omega, fun _ => ?_, fun q => absurd (by omega) q⟩
    have z : ∀ a j, ¬ (a = 10 ∧ j = 6) → upd2 N 10 6 0 a j = N a j := fun a j q1 => by rw [upd2_at, if_neg q1]
    have z6 : upd2 N 10 6 0 10 6 = 0 := by rw [upd2_at, if_pos ⟨rfl, rfl⟩]
    generalize upd2 N 10 6 0 = Z at z z6 ⊢
    have zM : ∀ a j, ¬ (a = 10 ∧ 2 ≤ j) → ¬ (99 - v ≤ a ∧ a ≤ 99 - v + 25) → Z a j = M a j := fun a j q1 q2 => by rw [z _ _ (by omega), nM _ _ (by omega) q2]
    rw [t_getf, zM 1 2 (by omega) (by omega), p2, t_getf, zM 13 0 (by omega) (by omega), p13, t_getf, zM 1 2 (by omega) (by omega), p2, t_getf, zM 1 8 (by omega) (by omega), p8, t_putf, t_putf, t_getf]
    refine ⟨by omega, by omega, by omega, by omega, by omega, by omega, by omega, ?_⟩
    have y : ∀ a j, ¬ (a = 13 ∧ j = 0) → ¬ (a = 1 ∧ j = 8) → upd2 (upd2 Z 13 0 (99 - v)) 1 8 v a j = Z a j := fun a j q1 q2 => by rw [upd2_at, if_neg q2, upd2_at, if_neg q1]
    have y13 : upd2 (upd2 Z 13 0 (99 - v)) 1 8 v 13 0 = 99 - v := by rw [upd2_at, if_neg (by omega), upd2_at, if_pos ⟨rfl, rfl⟩]
    have y8 : upd2 (upd2 Z 13 0 (99 - v)) 1 8 v 1 8 = v := by rw [upd2_at, if_pos ⟨rfl, rfl⟩]
    generalize upd2 (upd2 Z 13 0 (99 - v)) 1 8 v = Y at y y13 y8 ⊢
    have yM : ∀ a j, ¬ (a = 13 ∧ j = 0) → ¬ (a = 1 ∧ j = 8) → ¬ (a = 10 ∧ 2 ≤ j) → ¬ (99 - v ≤ a ∧ a ≤ 99 - v + 25) → Y a j = M a j := fun a j q1 q2 q3 q4 => by rw [y _ _ q1 q2, zM _ _ q3 q4]
    rw [yM 1 2 (by omega) (by omega) (by omega) (by omega), p2, t_nn, t_callv]
    refine ⟨by omega, ?_⟩
    obtain ⟨d1, d2, d3, d4⟩ := e4
    have cw := e2.1
    have yN : ∀ a j, ¬ (a = 13 ∧ j = 0) → ¬ (a = 1 ∧ j = 8) → ¬ (a = 10 ∧ j = 6) → Y a j = N a j := fun a j q1 q2 q3 => by rw [y _ _ q1 q2, z _ _ q3]
    have vY : VD Y (99 - v) τ.1 τ.2.1 := ⟨lv_keep d1 (fun a j q1 q2 => yN a j (by omega) (by omega) (by omega)), by rw [yN _ _ (by omega) (by omega) (by omega)]; exact d2, rv_keep cw.1.2 cw.2.2.2 d3 (fun a j q1 q2 => yN a j (by omega) (by omega) (by omega)), ⟨fun k k0 k1 => by rw [yN _ _ (by omega) (by omega) (by omega)]; exact d4.1 k k0 k1, fun k k0 k1 => by rw [yN _ _ (by omega) (by omega) (by omega)]; exact d4.2.1 k k0 k1, fun k k0 k1 => by rw [yN _ _ (by omega) (by omega) (by omega)]; exact d4.2.2 k k0 k1⟩⟩
    refine beginW_e (v := 99 - v) (d := d) (by omega) hd vY e2 y13 (by rw [yM _ _ (by omega) (by omega) (by omega) (by omega)]; exact p131) (by rw [yM _ _ (by omega) (by omega) (by omega) (by omega)]; exact p132) (ls_keep hS (fun a j q1 q2 => yM a j (by omega) (by omega) (by omega) (by omega))) (ldy_k hD (fun a j q1 q2 => yM a j (by omega) (by omega) (by omega) (by omega))) (fun W rW dW fW => ?_)
    have nbg : ∀ a j, ¬ (48 ≤ a ∧ a ≤ 54) → a ≠ d → ¬ bgW a j d := fun a j q1 q2 q => by
      rcases q with q | q
      · exact q2 q.1
      · have := ps_r q; omega
    rw [t_getf, fW _ _ (nbg _ _ (by omega) (by omega)), yM 1 2 (by omega) (by omega) (by omega) (by omega), p2, t_getf, fW _ _ (nbg _ _ (by omega) (by omega)), y13, t_getf, fW _ _ (nbg _ _ (by omega) (by omega)), vY.2.2.1.1.2.2.2.2.1, t_call, answer_e, t_some, t_some]
    dsimp only
    refine ⟨by omega, by omega, by omega, hk ok _ τ e1 e2 ⟨?_, ?_⟩ ?_ ?_ ?_ ?_ ⟨?_, ?_, ?_, ?_⟩ ?_ ?_ (fun a j q => ?_)⟩
    · rw [upd2_at, if_neg (by omega), fW _ _ (nbg _ _ (by omega) (by omega)), yN _ _ (by omega) (by omega) (by omega)]; exact e3.1
    · rw [upd2_at, if_neg (by omega), fW _ _ (nbg _ _ (by omega) (by omega)), yN _ _ (by omega) (by omega) (by omega)]; exact e3.2
    · rw [upd2_at, if_neg (by omega), fW _ _ (nbg _ _ (by omega) (by omega)), y _ _ (by omega) (by omega)]; exact z6
    · rw [upd2_at, if_pos ⟨rfl, rfl⟩]
    · rw [upd2_at, if_neg (by omega), fW _ _ (nbg _ _ (by omega) (by omega))]; exact y8
    · rw [upd2_at, if_neg (by omega), fW _ _ (nbg _ _ (by omega) (by omega))]; exact y13
    · exact lv_keep vY.1 (fun a j q1 q2 => by rw [upd2_at, if_neg (by omega), fW _ _ (nbg _ _ (by omega) (by omega))])
    · rw [upd2_at, if_neg (by omega), fW _ _ (nbg _ _ (by omega) (by omega))]; exact vY.2.1
    · exact rv_keep cw.1.2 cw.2.2.2 vY.2.2.1 (fun a j q1 q2 => by rw [upd2_at, if_neg (by omega), fW _ _ (nbg _ _ (by omega) (by omega))])
    · refine ⟨fun k k0 k1 => ?_, fun k k0 k1 => ?_, fun k k0 k1 => ?_⟩
      · rw [upd2_at, if_neg (by omega), fW _ _ (nbg _ _ (by omega) (by omega))]; exact vY.2.2.2.1 k k0 k1
      · rw [upd2_at, if_neg (by omega), fW _ _ (nbg _ _ (by omega) (by omega))]; exact vY.2.2.2.2.1 k k0 k1
      · rw [upd2_at, if_neg (by omega), fW _ _ (nbg _ _ (by omega) (by omega))]; exact vY.2.2.2.2.2 k k0 k1
    · exact rs_keep rW (fun a j q1 q2 => by rw [upd2_at, if_neg (by omega)])
    · exact rdy_k dW (by rw [wO_o (by have := cw.2.2; omega), e2.2.2.2.2 9 (by omega), if_pos rfl]; omega) ⟨rfl, fun _ _ _ => rfl⟩ (fun a j q1 q2 => by rw [upd2_at, if_neg (by omega)])
    · unfold VlF at q
      rw [upd2_at, if_neg (by omega), fW _ _ (fun r => q (.inr (.inr (.inr (.inr r))))), y _ _ (by omega) (by omega), z _ _ (by omega), e5 _ _ (fun r => by
        rcases r with r | r
        · exact q (.inl ⟨r.1, r.2.1⟩)
        · exact q (.inr (.inr (.inr (.inl r)))))]
