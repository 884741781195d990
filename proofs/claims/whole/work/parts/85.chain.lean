/-! ===== makers: rows of them, chains, groups ===== -/
theorem zb_led_ge {N : zb_N} {k x y : Int} {f : Int → Int} (h : zb_led N k x y f) (x0 : 0 ≤ x) (x1 : x < N.1) (kx : k ≤ x) : k ≤ y := by
  have hy := h.1.1.1.1 x x0 x1
  rw [h.2] at hy
  by_cases q : y < k
  · have := h.1.2 y hy.1 q
    have := h.1.1.1.2 y x hy.1 (by omega) x0 x1 (this.trans h.2.symm)
    omega
  · omega
theorem zb_row_iff {N : zb_N} (hN : zb_ON N) {t : Nat} (ht : (t : Int) < N.1) {y : Int} (y0 : 0 ≤ y) (y1 : y < N.1) : zb_cn N.1 (zb_mkx N (t + 1)) (N.1 - 1 - t) y ↔ N.1 - 1 - t ≤ y ∧ ∃ f, zb_led N (N.1 - 1 - t) (N.1 - 1 - t) y f := by
  have hM := zb_mx_MI hN (t + 1) (by omega)
  rw [show N.1 - ((t + 1 : Nat) : Int) = N.1 - 1 - t by omega] at hM
  refine ⟨fun h => ?_, fun ⟨h1, h2⟩ => ?_⟩
  · obtain ⟨g, g1, g2, -⟩ := zb_cn_led (by omega) hM h (by omega) (by omega)
    exact ⟨zb_led_ge (x := N.1 - 1 - t) ⟨g1, g2⟩ (by omega) (by omega) (Int.le_refl _), g, g1, g2⟩
  · have hM0 := zb_MI_le (zb_mx_MI hN t (by omega)) (show N.1 - 1 - (t : Int) ≤ N.1 - t by omega)
    exact zb_my_cn hN (by omega) (by omega) hM0 t (by omega) y h1 (by omega) h2
theorem zb_mkx_sub (N : zb_N) (t : Nat) : zb_msub N.1 (zb_mkx N t) (zb_mkx N (t + 1)) := zb_my_sub N (zb_mkx N t) _ t
theorem zb_gen {N : zb_N} (hN : zb_ON N) : ∀ t : Nat, (t : Int) ≤ N.1 → ∀ f, zb_fix N (N.1 - t) f → ∀ z, 0 ≤ z → z < N.1 → zb_cn N.1 (zb_mkx N t) z (f z) := by
  intro t
  induction t with
  | zero =>
    intro _ f hf z z0 z1
    rw [hf.2 z z0 (by omega)]
    exact zb_cn.rf z
  | succ t ih =>
    intro ht f hf z z0 z1
    rw [show N.1 - ((t + 1 : Nat) : Int) = N.1 - 1 - t by omega] at hf
    have hx0 : 0 ≤ N.1 - 1 - (t : Int) := by omega
    have hx1 : N.1 - 1 - (t : Int) < N.1 := by omega
    have hy := hf.1.1.1 _ hx0 hx1
    have hl : zb_led N (N.1 - 1 - t) (N.1 - 1 - t) (f (N.1 - 1 - t)) f := ⟨hf, rfl⟩
    have hc := (zb_row_iff hN (t := t) (by omega) hy.1 hy.2).2 ⟨zb_led_ge hl hx0 hx1 (Int.le_refl _), f, hl⟩
    have hM := zb_mx_MI hN (t + 1) (by omega)
    rw [show N.1 - ((t + 1 : Nat) : Int) = N.1 - 1 - t by omega] at hM
    obtain ⟨g, g1, g2, g3⟩ := zb_cn_led (by omega) hM hc hx0 hx1
    obtain ⟨g', k1, k2, k3⟩ := zb_aut_inv g1.1
    have hh : zb_fix N (N.1 - t) (fun z => g' (f z)) := ⟨zb_aut_comp k1 hf.1, fun u u0 u1 => by
      show g' (f u) = u
      by_cases q : u = N.1 - 1 - t
      · rw [q, ← g2]; exact k3 _ hx0 hx1
      · rw [hf.2 u u0 (by omega)]
        have := k3 u u0 (by omega)
        rw [g1.2 u u0 (by omega)] at this
        exact this⟩
    have a := (ih (by omega) _ hh z z0 z1).up (zb_mkx_sub N t)
    have hz := hf.1.1.1 z z0 z1
    have hz2 := k1.1.1 _ hz.1 hz.2
    have b := g3 _ hz2.1 hz2.2
    rw [k2 _ hz.1 hz.2] at b
    exact a.tr b
theorem zb_mks_iff {N : zb_N} (hN : zb_ON N) {x y : Int} (x0 : 0 ≤ x) (x1 : x < N.1) : zb_cn N.1 (zb_mks N) x y ↔ ∃ f, zb_led N 0 x y f := by
  have e : ((N.1.toNat : Nat) : Int) = N.1 := by have := hN.1.1; omega
  have hM := zb_mx_MI hN N.1.toNat (by omega)
  rw [e, Int.sub_self] at hM
  refine ⟨fun h => ?_, fun ⟨f, hf⟩ => ?_⟩
  · obtain ⟨g, g1, g2, -⟩ := zb_cn_led hN.1.1 hM h x0 x1
    exact ⟨g, g1, g2⟩
  · have := zb_gen hN N.1.toNat (by omega) f (by rw [e, Int.sub_self]; exact hf.1) x x0 x1
    rw [hf.2] at this
    exact this
theorem zb_MI_cnt {N : zb_N} {k : Int} {M : zb_Mk} (h : zb_MI N k M) (hn : 0 ≤ N.1) : M.1 ≤ N.1 ∧ (0 < N.1 → M.1 < N.1) := by
  have a := (zb_ctp_rng hn (fun z => ∀ y, 0 ≤ y → y < z → ¬ zb_cn N.1 M z y)).1
  have b : 0 < N.1 → 1 ≤ zb_cls N.1 M := zb_cls_pos
  have c := h.2.2
  unfold zb_cls at b c
  exact ⟨by omega, fun z => by have := b z; omega⟩
theorem zb_mks_MI {N : zb_N} (hN : zb_ON N) : zb_MI N 0 (zb_mks N) := by
  have e : ((N.1.toNat : Nat) : Int) = N.1 := by have := hN.1.1; omega
  have hM := zb_mx_MI hN N.1.toNat (by omega)
  rw [e, Int.sub_self] at hM
  exact hM
/-- the chain, the orbits -/
noncomputable def zb_chn (N : zb_N) (x : Int) : Int := zb_ctp N.1 (fun y => x ≤ y ∧ ∃ f, zb_led N x x y f)
noncomputable def zb_orb (N : zb_N) (x : Int) : Int := zb_ctp N.1 (fun y => ∃ f, zb_led N 0 x y f)
/-! the class's groups -/
def zb_mrw (m : zb_M) (N : zb_N) (M : zb_Mk) : Prop := ∀ k z, 0 ≤ k → k < M.1 → 0 ≤ z → z < N.1 → m 353 (k * 12 + z) = M.2 k z
def zb_gr (m : zb_M) (N : zb_N) (M : zb_Mk) : Prop := ∀ u w, 0 ≤ u → u < N.1 → 0 ≤ w → w < N.1 → (m 354 u = m 354 w ↔ zb_cn N.1 M u w)
theorem s_X9_countReached {d : Nat} {m : zb_M} {x : Int} {N : zb_N} {o : Int → Int} (hT : zb_Tx m N o) (hN : zb_ON N) (x0 : 0 ≤ x) (x1 : x < N.1) : zb_Tp K_X9_countReached (d + 1) [(2, 192), (0, x)] zb_E0 m (fun r => r = zb_ctp N.1 (fun y => m 354 y = m 354 x)) := by
  apply w_X9_countReached
  have hn := hN.1.2
  unfold PM_X9_countReached PL_X9_countReached_4
  rw [hT.1, hT.2.1, zb_v_192_7]
  intro X hX
  refine zb_lq (fun c v => 0 ≤ v ∧ c = zb_sum (fun y => @ite Int (m 354 y = m 354 x) (Classical.propDecidable _) 1 0) v.toNat ∧ c ≤ v ∧ 0 ≤ c) N.1 (fun c v ⟨v0, hc, cv, c0⟩ vn nxt => hX c v ⟨zb_i_126, fun c1 => ?_, fun c1 => ⟨⟨v0, by omega⟩, ⟨x0, by omega⟩, fun c2 => ⟨zb_inI_of (by omega) (by omega), zb_inI_of (by omega) (by omega), nxt (by omega) (c + 1) ⟨by omega, ?_, by omega, by omega⟩⟩, fun c2 => ⟨zb_inI_of (by omega) (by omega), nxt (by omega) c ⟨by omega, ?_, by omega, by omega⟩⟩⟩⟩) 0 0 hN.1.1 ⟨by omega, rfl, Int.le_refl _, Int.le_refl _⟩
  · rw [hc, show v = N.1 by omega]; rfl
  · rw [zb_sum_S _ v0, ← hc, if_pos c2]
  · rw [zb_sum_S _ v0, ← hc, if_neg c2]; omega
theorem s_X9_joinGroups {d : Nat} {m : zb_M} {kp jn : Int} {N : zb_N} {o : Int → Int} (hT : zb_Tx m N o) (hN : zb_ON N) : zb_T K_X9_joinGroups (d + 1) [(2, 192), (0, kp), (0, jn)] zb_E0 m (fun _ m1 => (∀ z, 0 ≤ z → z < N.1 → m1 354 z = if m 354 z = jn then kp else m 354 z) ∧ ∀ b, b ≠ 354 → m1 b = m b) := by
  apply w_X9_joinGroups
  have hn := hN.1.2
  unfold PM_X9_joinGroups PL_X9_joinGroups_2
  rw [zb_v_192_7]
  intro X hX
  refine zb_lp1 (fun v mm => 0 ≤ v ∧ (∀ z, 0 ≤ z → z < v → mm 354 z = if m 354 z = jn then kp else m 354 z) ∧ (∀ z, v ≤ z → mm 354 z = m 354 z) ∧ ∀ b, b ≠ 354 → mm b = m b) N.1 (fun v mm ⟨v0, t1, t2, t3⟩ vn nxt => hX v mm ?_) 0 m hN.1.1 ⟨by omega, fun z z0 z1 => by omega, fun z _ => rfl, fun b _ => rfl⟩
  rw [t3 192 (by omega), hT.1, t3 126 (by omega), hT.2.1, t2 v (Int.le_refl _)]
  refine ⟨zb_i_126, fun c => ⟨fun z z0 z1 => t1 z z0 (by omega), t3⟩, fun c => ⟨⟨v0, by omega⟩, fun c2 m29 e29 => ⟨zb_inI_of (by omega) (by omega), nxt (by omega) m29 ⟨by omega, fun z z0 z1 => ?_, fun z hz => by rw [zb_u2 e29 (by omega)]; exact t2 z (by omega), fun b hb => by rw [zb_u3 e29 hb]; exact t3 b hb⟩⟩, fun c2 => ⟨zb_inI_of (by omega) (by omega), nxt (by omega) mm ⟨by omega, fun z z0 z1 => ?_, fun z hz => t2 z (by omega), t3⟩⟩⟩⟩
  · by_cases q : z = v
    · rw [q, zb_u1 e29, if_pos c2]
    · rw [zb_u2 e29 (by omega)]; exact t1 z z0 (by omega)
  · by_cases q : z = v
    · rw [q, t2 v (Int.le_refl _), if_neg c2]
    · exact t1 z z0 (by omega)
theorem s_X9_addMaker {d : Nat} {m : zb_M} {N : zb_N} {o : Int → Int} {M : zb_Mk} {f : Int → Int} (hT : zb_Tx m N o) (hN : zb_ON N) (hk : m 192 6 = M.1) (k0 : 0 ≤ M.1) (k1 : M.1 < 12) (hr : zb_mrw m N M) (hg : zb_gr m N M) (hM : ∀ j, 0 ≤ j → j < M.1 → zb_pm N.1 (M.2 j)) (hf : zb_pm N.1 f) (hi : zb_eqo N.1 (m 352) f) : zb_T K_X9_addMaker (d + 2) [(2, 192)] zb_E0 m (fun _ m1 => m1 192 6 = M.1 + 1 ∧ (∀ j, j ≠ 6 → m1 192 j = m 192 j) ∧ zb_mrw m1 N (M.1 + 1, fun k => if k = M.1 then f else M.2 k) ∧ zb_gr m1 N (M.1 + 1, fun k => if k = M.1 then f else M.2 k) ∧ ∀ b, b ≠ 192 → b ≠ 353 → b ≠ 354 → m1 b = m b) := by
  apply w_X9_addMaker
  have hn := hN.1.2
  unfold PM_X9_addMaker
  rw [hk, zb_v_192_4, zb_v_192_5]
  refine ⟨fun _ => ⟨zb_inI_of (by omega) (by omega), by unfold zb_cpo; omega, fun m28 e28 => ?_⟩, fun z => absurd k1 z⟩
  have e6 : m28 192 6 = M.1 := by rw [zb_c3 e28 (by omega)]; exact hk
  rw [e6]
  refine ⟨zb_inI_of (by omega) (by omega), fun m38 e38 => ?_⟩
  have f38 : ∀ b, b ≠ 192 → b ≠ 353 → m38 b = m b := fun b b1 b2 => by rw [zb_u3 e38 b1, zb_c3 e28 b2]
  have r38 : zb_mrw m38 N (M.1 + 1, fun k => if k = M.1 then f else M.2 k) := fun k z a0 a1 z0 z1 => by
    have a1 : k < M.1 + 1 := a1
    show m38 353 (k * 12 + z) = (if k = M.1 then f else M.2 k) z
    rw [zb_u3 e38 (by omega)]
    by_cases q : k = M.1
    · rw [if_pos q, q, zb_c1 e28 (by omega) (by omega), ← hi z z0 z1]
      congr 1; omega
    · rw [if_neg q, zb_c2 e28 (by omega)]
      exact hr k z a0 (by omega) z0 z1
  have hT38 : zb_Tx m38 N o := zb_Tx_same hT (by rw [zb_u2 e38 (by omega), zb_c3 e28 (by omega)]) (fun b b0 b1 => f38 b (by omega) (by omega))
  have g38 : ∀ z, m38 354 z = m 354 z := fun z => by rw [f38 354 (by omega) (by omega)]
  unfold PL_X9_addMaker_43
  rw [zb_v_192_4, zb_v_192_7]
  intro X hX
  refine zb_lp1 (fun v mm => 0 ≤ v ∧ (∀ u w, 0 ≤ u → u < N.1 → 0 ≤ w → w < N.1 → m 354 u = m 354 w → mm 354 u = mm 354 w) ∧ (∀ z, 0 ≤ z → z < v → mm 354 z = mm 354 (f z)) ∧ (∀ u w, 0 ≤ u → u < N.1 → 0 ≤ w → w < N.1 → mm 354 u = mm 354 w → zb_cn N.1 (M.1 + 1, fun k => if k = M.1 then f else M.2 k) u w) ∧ ∀ b, b ≠ 354 → mm b = m38 b) N.1 (fun v mm ⟨v0, t1, t2, t3, t4⟩ vn nxt => hX v mm ?_) 0 m38 hN.1.1 ⟨by omega, fun u w _ _ _ _ e => by rw [g38, g38]; exact e, fun z z0 z1 => by omega, fun u w u0 u1 w0 w1 e => ?_, fun b _ => rfl⟩
  · rw [g38, g38] at e
    have sub : zb_msub N.1 M (M.1 + 1, fun k => if k = M.1 then f else M.2 k) := ⟨by show M.1 ≤ M.1 + 1; omega, fun k z a0 a1 _ _ => by show (if k = M.1 then f else M.2 k) z = _; rw [if_neg (by omega)]⟩
    exact ((hg u w u0 u1 w0 w1).1 e).up sub
  · have hTm : zb_Tx mm N o := zb_Tx_same hT38 (by rw [t4 192 (by omega)]) (fun b b0 b1 => t4 b (by omega))
    rw [hTm.1, hTm.2.1]
    refine ⟨zb_i_126, fun c => ⟨by rw [t4 192 (by omega)]; exact zb_u1 e38, fun j hj => by rw [t4 192 (by omega), zb_u2 e38 (by omega), zb_c3 e28 (by omega)], fun k z a0 a1 z0 z1 => by rw [t4 353 (by omega)]; exact r38 k z a0 a1 z0 z1, fun u w u0 u1 w0 w1 => ⟨t3 u w u0 u1 w0 w1, fun h => ?_⟩, fun b b1 b2 b3 => by rw [t4 b b3]; exact f38 b b1 b2⟩, fun c => ?_⟩
    · have := h.of (fun z => if 0 ≤ z ∧ z < N.1 then mm 354 z else 0) (fun k z a0 a1 z0 z1 => by
        have a1 : k < M.1 + 1 := a1
        show (if 0 ≤ z ∧ z < N.1 then mm 354 z else 0) = (if 0 ≤ (if k = M.1 then f else M.2 k) z ∧ (if k = M.1 then f else M.2 k) z < N.1 then mm 354 ((if k = M.1 then f else M.2 k) z) else 0)
        by_cases q : k = M.1
        · rw [if_pos q, if_pos ⟨z0, z1⟩, if_pos (hf.1 z z0 z1)]
          exact t2 z z0 (by omega)
        · rw [if_neg q, if_pos ⟨z0, z1⟩]
          have hz := (hM k a0 (by omega)).1 z z0 z1
          rw [if_pos hz]
          exact t1 z _ z0 z1 hz.1 hz.2 ((hg z _ z0 z1 hz.1 hz.2).2 (zb_cn.gn a0 (by omega) z0 z1)))
      have this : (if 0 ≤ u ∧ u < N.1 then mm 354 u else 0) = (if 0 ≤ w ∧ w < N.1 then mm 354 w else 0) := this
      rw [if_pos ⟨u0, u1⟩, if_pos ⟨w0, w1⟩] at this
      exact this
    · have e52 : mm 352 v = f v := by rw [t4 352 (by omega), f38 352 (by omega) (by omega)]; exact hi v v0 (by omega)
      have hfv := hf.1 v v0 (by omega)
      rw [e52]
      refine ⟨⟨v0, by omega⟩, ⟨hfv.1, by omega⟩, (s_X9_joinGroups hTm hN).mono (fun _ m72 ⟨j1, j2⟩ => ⟨zb_inI_of (by omega) (by omega), nxt (by omega) m72 ⟨by omega, fun u w u0 u1 w0 w1 e => ?_, fun z z0 z1 => ?_, fun u w u0 u1 w0 w1 e => ?_, fun b hb => by rw [j2 b hb]; exact t4 b hb⟩⟩)⟩
      · rw [j1 u u0 u1, j1 w w0 w1, t1 u w u0 u1 w0 w1 e]
      · by_cases q : z = v
        · rw [q, j1 v v0 (by omega), j1 _ hfv.1 hfv.2, if_pos (c := mm 354 (f v) = mm 354 (f v)) rfl]
          split <;> rfl
        · have hz := hf.1 z z0 (by omega)
          rw [j1 z z0 (by omega), j1 _ hz.1 hz.2, t2 z z0 (by omega)]
      · have new : zb_cn N.1 (M.1 + 1, fun k => if k = M.1 then f else M.2 k) v (f v) := by
          have h := zb_cn.gn (n := N.1) (M := (M.1 + 1, fun k => if k = M.1 then f else M.2 k)) (k := M.1) (z := v) k0 (by show M.1 < M.1 + 1; omega) v0 (by omega)
          have h : zb_cn N.1 _ v ((if M.1 = M.1 then f else M.2 M.1) v) := h
          rw [if_pos rfl] at h
          exact h
        rw [j1 u u0 u1, j1 w w0 w1] at e
        have hv1 : v < N.1 := by omega
        by_cases qu : mm 354 u = mm 354 (f v)
        · rw [if_pos qu] at e
          have a := t3 u (f v) u0 u1 hfv.1 hfv.2 qu
          by_cases qw : mm 354 w = mm 354 (f v)
          · exact a.tr (t3 w (f v) w0 w1 hfv.1 hfv.2 qw).sy
          · rw [if_neg qw] at e
            exact (a.tr new.sy).tr (t3 v w v0 hv1 w0 w1 e)
        · rw [if_neg qu] at e
          by_cases qw : mm 354 w = mm 354 (f v)
          · rw [if_pos qw] at e
            exact ((t3 u v u0 u1 v0 hv1 e).tr new).tr (t3 w (f v) w0 w1 hfv.1 hfv.2 qw).sy
          · rw [if_neg qw] at e
            exact t3 u w u0 u1 w0 w1 e
/-- what the class has found -/
def zb_fnd (m : zb_M) (N : zb_N) (M : zb_Mk) : Prop := m 192 6 = M.1 ∧ zb_mrw m N M ∧ zb_gr m N M
theorem zb_gr_congr {m : zb_M} {N : zb_N} {M M' : zb_Mk} (h : zb_gr m N M) (s : zb_msub N.1 M M') (s' : zb_msub N.1 M' M) : zb_gr m N M' := fun u w u0 u1 w0 w1 => (h u w u0 u1 w0 w1).trans ⟨fun c => c.up s, fun c => c.up s'⟩
theorem s_X9_findMakers {d : Nat} {m : zb_M} {N : zb_N} {o : Int → Int} (hs : zb_CS m 126 N o) (hN : zb_ON N) : zb_T K_X9_findMakers (d + 21) [(2, 192), (2, 126)] zb_E0 m (fun _ m1 => zb_Tx m1 N o ∧ zb_fnd m1 N (zb_mks N) ∧ (∀ x, 0 ≤ x → x < N.1 → m1 355 x = zb_chn N x) ∧ ∀ b, (b < 132 ∨ 135 < b) → (b < 192 ∨ 355 < b) → m1 b = m b) := by
  apply w_X9_findMakers
  have h0 := hN.1.1
  have hn := hN.1.2
  unfold PM_X9_findMakers
  intro m2 e2
  have hT2 : zb_Tx m2 N o := ⟨zb_u1 e2, zb_CS_same hs (fun b b0 b1 => zb_u3 e2 (by omega))⟩
  refine (s_X9_markAhead (d := d + 15) hT2 hN).mono (fun _ m6 ⟨a1, a2⟩ m11 e11 => ?_)
  have f11 : ∀ b, b ≠ 192 → m11 b = m6 b := fun b hb => zb_u3 e11 hb
  have hT11 : zb_Tx m11 N o := zb_Tx_same hT2 (by rw [zb_u2 e11 (by omega), a2 192 (by omega) (by omega)]) (fun b b0 b1 => by rw [f11 b (by omega), a2 b (by omega) (by omega)])
  unfold PL_X9_findMakers_16
  rw [zb_v_192_7]
  intro X hX
  refine zb_lp1 (fun v mm => 0 ≤ v ∧ (∀ z, 0 ≤ z → z < v → mm 354 z = z) ∧ ∀ b, b ≠ 354 → mm b = m11 b) N.1 (fun v mm ⟨v0, t1, t2⟩ vn nxt => hX v mm ?_) 0 m11 h0 ⟨by omega, fun z z0 z1 => by omega, fun b _ => rfl⟩
  have hTm : zb_Tx mm N o := zb_Tx_same hT11 (by rw [t2 192 (by omega)]) (fun b b0 b1 => t2 b (by omega))
  rw [hTm.1, hTm.2.1]
  refine ⟨zb_i_126, fun c => ?_, fun c => ⟨⟨v0, by omega⟩, fun m33 e33 => ⟨zb_inI_of (by omega) (by omega), nxt (by omega) m33 ⟨by omega, fun z z0 z1 => ?_, fun b hb => by rw [zb_u3 e33 hb]; exact t2 b hb⟩⟩⟩⟩
  · have hvn : v = N.1 := by omega
    subst hvn
    clear nxt hX X
    unfold PJ_X9_findMakers_40
    rw [hTm.1, hTm.2.1]
    refine ⟨zb_i_126, zb_inI_of (by omega) (by omega), ?_⟩
    have hah : ∀ k : Nat, (k : Int) ≤ N.1 → zb_CP mm (194 + 4 * k) N.1 (zb_ahd N k) := fun k hk => zb_CP_same (a1 k hk) (fun b b0 b1 => by rw [t2 b (by omega), f11 b (by omega)])
    have hf0 : zb_fnd mm N (zb_mkx N 0) := by
      refine ⟨by rw [t2 192 (by omega)]; exact zb_u1 e11, fun k z k0 k1 => by have k1 : k < 0 := k1; omega, fun u w u0 u1 w0 w1 => ?_⟩
      rw [t1 u u0 u1, t1 w w0 w1]
      refine ⟨fun e => by rw [e]; exact zb_cn.rf w, fun h => h.of (fun z => z) (fun k z k0 k1 => by have k1 : k < 0 := k1; omega)⟩
    have hfr : ∀ b, (b < 132 ∨ 135 < b) → (b < 192 ∨ 355 < b) → mm b = m b := fun b b1 b2 => by rw [t2 b (by omega), f11 b (by omega), a2 b b1 (by omega), zb_u3 e2 (by omega)]
    unfold PL_X9_findMakers_50
    intro Y hY
    have key : ∀ (f t : Nat) (mn : zb_M), (t : Int) + f = N.1 → zb_Tx mn N o → zb_fnd mn N (zb_mkx N t) → (∀ k : Nat, (k : Int) ≤ N.1 → zb_CP mn (194 + 4 * k) N.1 (zb_ahd N k)) → (∀ x, N.1 - t ≤ x → x < N.1 → mn 355 x = zb_chn N x) → (∀ b, (b < 132 ∨ 135 < b) → (b < 192 ∨ 355 < b) → mn b = m b) → Y (N.1 - 1 - t) mn := by
      intro f
      induction f with
      | zero =>
        intro t mn htf hT hF hA hC hR
        have et : t = N.1.toNat := by omega
        subst et
        exact hY _ mn ⟨fun _ => ⟨hT, hF, fun x x0 x1 => hC x (by omega) x1, hR⟩, fun z => absurd (show N.1 - 1 - ((N.1.toNat : Nat) : Int) < 0 by omega) z⟩
      | succ f ih =>
        intro t mn htf hT hF hA hC hR
        have x0 : 0 ≤ N.1 - 1 - (t : Int) := by omega
        have x1 : N.1 - 1 - (t : Int) < N.1 := by omega
        have hMt := zb_mx_MI hN t (by omega)
        have hMx := zb_MI_le hMt (show N.1 - 1 - (t : Int) ≤ N.1 - t by omega)
        refine hY _ mn ⟨fun z => by omega, fun _ => ⟨zb_inI_of (by omega) (by omega), ?_⟩⟩
        unfold PL_X9_findMakers_58
        rw [zb_v_192_1, zb_v_192_7]
        intro Z hZ
        have inner : ∀ (g j : Nat) (mo : zb_M), (j : Int) + g = t → zb_Tx mo N o → zb_fnd mo N (zb_my N (zb_mkx N t) (N.1 - 1 - t) j) → (∀ k : Nat, (k : Int) ≤ N.1 → zb_CP mo (194 + 4 * k) N.1 (zb_ahd N k)) → (∀ x, N.1 - t ≤ x → x < N.1 → mo 355 x = zb_chn N x) → (∀ b, (b < 132 ∨ 135 < b) → (b < 192 ∨ 355 < b) → mo b = m b) → Z (N.1 - 1 - t + 1 + j) mo := by
          intro g
          induction g with
          | zero =>
            intro j mo hjg hT hF hA hC hR
            have ej : j = t := by omega
            subst ej
            refine hZ _ mo ?_
            rw [hT.1, hT.2.1]
            refine ⟨zb_i_126, fun _ => ?_, fun z => absurd (show N.1 ≤ N.1 - 1 - (j : Int) + 1 + j by omega) z⟩
            unfold PJ_X9_findMakers_109
            refine (s_X9_countReached (d := d + 19) hT hN x0 x1).mono (fun r hr => ?_)
            rw [zb_v_192_8]
            refine ⟨⟨x0, by omega⟩, fun m119 e119 => ⟨zb_inI_of (by omega) (by omega), ?_⟩⟩
            have e : N.1 - 1 - (j : Int) + -1 = N.1 - 1 - ((j + 1 : Nat) : Int) := by omega
            rw [e]
            have hF' : zb_fnd mo N (zb_mkx N (j + 1)) := hF
            refine ih (j + 1) m119 (by omega) (zb_Tx_same hT (by rw [zb_u3 e119 (by omega)]) (fun b b0 b1 => zb_u3 e119 (by omega))) ⟨by rw [zb_u3 e119 (by omega)]; exact hF'.1, fun k z k0 k1 z0 z1 => by rw [zb_u3 e119 (by omega)]; exact hF'.2.1 k z k0 k1 z0 z1, fun u w u0 u1 w0 w1 => by rw [zb_u3 e119 (by omega)]; exact hF'.2.2 u w u0 u1 w0 w1⟩ (fun k hk => zb_CP_same (hA k hk) (fun b b0 b1 => zb_u3 e119 (by omega))) (fun x hx0 hx1 => ?_) (fun b b1 b2 => by rw [zb_u3 e119 (by omega)]; exact hR b b1 b2)
            by_cases q : x = N.1 - 1 - j
            · rw [q, zb_u1 e119, hr]
              unfold zb_chn
              refine zb_ctp_congr (fun y y0 y1 => ?_)
              rw [← zb_row_iff hN (t := j) (by omega) y0 y1]
              refine (hF'.2.2 y _ y0 y1 x0 x1).trans ⟨fun h => h.sy, fun h => h.sy⟩
            · rw [zb_u2 e119 (by omega)]; exact hC x (by omega) hx1
          | succ g ihg =>
            intro j mo hjg hT hF hA hC hR
            have hMj := zb_my_MI hN x0 x1 hMx j (by omega)
            have hcnt := (zb_MI_cnt hMj h0).2 (by omega)
            have y0 : 0 ≤ N.1 - 1 - (t : Int) + 1 + j := by omega
            have y1 : N.1 - 1 - (t : Int) + 1 + j < N.1 := by omega
            have eS : zb_my N (zb_mkx N t) (N.1 - 1 - t) (j + 1) = zb_mst N (zb_my N (zb_mkx N t) (N.1 - 1 - t) j) (N.1 - 1 - t) (N.1 - 1 - t + 1 + j) := rfl
            have ey : N.1 - 1 - (t : Int) + 1 + j + 1 = N.1 - 1 - (t : Int) + 1 + ((j + 1 : Nat) : Int) := by omega
            obtain ⟨eA, -⟩ := zb_ahead x0 (show N.1 - 1 - (t : Int) < 13 by omega)
            refine hZ _ mo ?_
            rw [hT.1, hT.2.1, eA]
            refine ⟨zb_i_126, fun z => by omega, fun _ => ⟨⟨y0, by omega⟩, ⟨x0, by omega⟩, fun c2 => ⟨zb_inI_of (by omega) (by omega), ?_⟩, fun c2 => ⟨⟨x0, by omega⟩, ?_⟩⟩⟩
            · rw [ey]
              refine ihg (j + 1) mo (by omega) hT ?_ hA hC hR
              rw [eS, zb_mst_n (Or.inl ((hF.2.2 _ _ y0 y1 x0 x1).1 c2).sy)]
              exact hF
            · have hnc : ¬ zb_cn N.1 (zb_my N (zb_mkx N t) (N.1 - 1 - t) j) (N.1 - 1 - t) (N.1 - 1 - t + 1 + j) := fun h => c2 ((hF.2.2 _ _ y0 y1 x0 x1).2 h.sy)
              have hAx := hA (N.1 - 1 - (t : Int)).toNat (by omega)
              have ex : (((N.1 - 1 - (t : Int)).toNat : Nat) : Int) = N.1 - 1 - t := by omega
              have hLed := s_X9_isLed (d := d) (k := (N.1 - 1 - (t : Int)).toNat) hT hN (by omega) hAx x0 x1 y0 y1
              rw [ex] at hLed
              refine hLed.mono (fun r93 m93 ⟨q1, q2⟩ => ?_)
              have hT93 : zb_Tx m93 N o := zb_Tx_same hT (by rw [q2 192 (by omega) (by omega)]) (fun b b0 b1 => q2 b (by omega) (by omega))
              have hF93 : zb_fnd m93 N (zb_my N (zb_mkx N t) (N.1 - 1 - t) j) := ⟨by rw [q2 192 (by omega) (by omega)]; exact hF.1, fun k z k0 k1 z0 z1 => by rw [q2 353 (by omega) (by omega)]; exact hF.2.1 k z k0 k1 z0 z1, fun u w u0 u1 w0 w1 => by rw [q2 354 (by omega) (by omega)]; exact hF.2.2 u w u0 u1 w0 w1⟩
              have hA93 : ∀ k : Nat, (k : Int) ≤ N.1 → zb_CP m93 (194 + 4 * k) N.1 (zb_ahd N k) := fun k hk => zb_CP_same (hA k hk) (fun b b0 b1 => q2 b (by omega) (by omega))
              have hC93 : ∀ x, N.1 - t ≤ x → x < N.1 → m93 355 x = zb_chn N x := fun x hx0 hx1 => by rw [q2 355 (by omega) (by omega)]; exact hC x hx0 hx1
              have hR93 : ∀ b, (b < 132 ∨ 135 < b) → (b < 192 ∨ 355 < b) → m93 b = m b := fun b b1 b2 => by rw [q2 b b1 (by omega)]; exact hR b b1 b2
              rcases q1 with ⟨r1, r2⟩ | ⟨r1, r2⟩
              · refine ⟨fun z => by omega, fun _ => ?_⟩
                have hex : ∃ f, zb_led N (N.1 - 1 - t) (N.1 - 1 - t) (N.1 - 1 - t + 1 + j) f := ⟨_, r2.1⟩
                have hlf := zb_lf_ok (zb_led_lst hN hex)
                have hag := zb_lst_uniq r2 hlf
                refine (s_X9_addMaker (d := d + 18) hT93 hN hF93.1 hMj.2.1 (by omega) hF93.2.1 hF93.2.2 (fun i i0 i1 => (hMj.1 i i0 i1).1.1) hlf.1.1.1.1 hag).mono (fun _ m100 ⟨p1, p2, p3, p4, p5⟩ => ⟨zb_inI_of (by omega) (by omega), ?_⟩)
                rw [ey]
                refine ihg (j + 1) m100 (by omega) (zb_Tx_same hT93 (p2 9 (by omega)) (fun b b0 b1 => p5 b (by omega) (by omega) (by omega))) ?_ (fun k hk => zb_CP_same (hA93 k hk) (fun b b0 b1 => p5 b (by omega) (by omega) (by omega))) (fun x hx0 hx1 => by rw [p5 355 (by omega) (by omega) (by omega)]; exact hC93 x hx0 hx1) (fun b b1 b2 => by rw [p5 b (by omega) (by omega) (by omega)]; exact hR93 b b1 b2)
                rw [eS, zb_mst_y hnc hex]
                exact ⟨p1, p3, p4⟩
              · refine ⟨fun _ => ⟨zb_inI_of (by omega) (by omega), ?_⟩, fun z => absurd r1 z⟩
                rw [ey]
                refine ihg (j + 1) m93 (by omega) hT93 ?_ hA93 hC93 hR93
                rw [eS, zb_mst_n (Or.inr r2)]
                exact hF93
        have := inner t 0 mn (by omega) hT hF hA hC hR
        rw [show N.1 - 1 - (t : Int) + 1 + ((0 : Nat) : Int) = N.1 - 1 - t + 1 by omega] at this
        exact this
    have := key N.1.toNat 0 mm (by omega) hTm hf0 hah (fun x hx0 hx1 => by omega) hfr
    rw [show N.1 - 1 - ((0 : Nat) : Int) = N.1 - 1 by omega] at this
    exact this
  · by_cases q : z = v
    · rw [q, zb_u1 e33]
    · rw [zb_u2 e33 (by omega)]; exact t1 z z0 (by omega)
