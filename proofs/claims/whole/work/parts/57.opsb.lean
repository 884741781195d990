/-! ===== more calls on graphs, the class's side ===== -/
def zb_cpG (a b : zb_Gv) (i frm k to n : Int) : zb_Gv := (b.1, b.2.1, b.2.2.1, b.2.2.2.1, b.2.2.2.2.1, fun x y => if x = k ∧ to ≤ y ∧ y < to + n then a.2.2.2.2.2 i (frm + (y - to)) else b.2.2.2.2.2 x y)
def v_copy (s : zb_Gs) (g i frm o k to n : Int) : Int × zb_Gs := if zb_thg s g i ∧ zb_thg s o k then (if (s.1 g).2.2.2.2.1 i = -1 ∨ (s.1 o).2.2.2.2.1 k = -1 then (-11, s) else if 0 ≤ n ∧ 0 ≤ frm ∧ 0 ≤ to ∧ frm + n ≤ (s.1 g).2.2.2.2.1 i ∧ to + n ≤ (s.1 o).2.2.2.2.1 k then (n, zb_put (zb_psh s o) o (zb_cpG (s.1 g) (s.1 o) i frm k to n)) else (-12, s)) else (-1, s)
theorem s_X11_copy {d : Nat} {m : zb_M} {s : zb_Gs} {g i frm o k to n : Int} (hC : zb_CG m s) (hO : zb_OG s) (hfi : zb_inI frm) (hti : zb_inI to) (hni : zb_inI n) : zb_T K_X11_copy (d + 4) [(2, 1), (0, g), (0, i), (0, frm), (0, o), (0, k), (0, to), (0, n)] zb_E0 m (zb_Rc m (v_copy s g i frm o k to n)) := by
  apply w_X11_copy
  unfold PM_X11_copy v_copy
  refine (s_X11_isThing hC).mono (fun r h => ?_)
  rcases zb_if1 h with ⟨h1, h2⟩ | ⟨h1, h2⟩
  · refine ⟨fun _ => ?_, fun z => absurd h1 z⟩
    rw [if_neg (fun z => h2 z.1)]
    exact zb_Rc_same hC
  refine ⟨fun z => by omega, fun _ => (s_X11_isThing hC).mono (fun r2 h3 => ?_)⟩
  rcases zb_if1 h3 with ⟨h4, h5⟩ | ⟨h4, h5⟩
  · refine ⟨fun _ => ?_, fun z => absurd h4 z⟩
    rw [if_neg (fun z => h5 z.2)]
    exact zb_Rc_same hC
  rw [if_pos ⟨h2, h5⟩]
  obtain ⟨⟨g0, g1⟩, i0, i1⟩ := h2
  obtain ⟨⟨o0, o1⟩, k0, k1⟩ := h5
  have hn := (hO.1 g g0 g1).2.1
  have hn2 := (hO.1 o o0 o1).2.1
  have hl := ((hO.1 g g0 g1).2.2 i i0 i1).2.2.2.1
  have hl2 := ((hO.1 o o0 o1).2.2 k k0 k1).2.2.2.1
  obtain ⟨a1, a2⟩ := zb_nets g0 g1
  obtain ⟨b1, b2⟩ := zb_nets o0 o1
  obtain ⟨-, -, -, v4, v5⟩ := zb_net a2
  obtain ⟨-, -, -, u4, u5⟩ := zb_net b2
  obtain ⟨-, -, -, z4, -⟩ := (hC.1 g g0 g1).2 i i0 i1
  obtain ⟨-, -, -, y4, -⟩ := (hC.1 o o0 o1).2 k k0 k1
  obtain ⟨f1, f2⟩ := hfi
  obtain ⟨t1, t2⟩ := hti
  obtain ⟨n1, n2⟩ := hni
  rw [zb_v_1_0, a1, b1, v4, u4, z4, y4, v5, u5]
  refine ⟨fun z => by omega, fun _ => ⟨⟨g0, g1⟩, ⟨o0, o1⟩, (s_X4_hasRow a2 i0 (by omega)).mono (fun r6 h6 => ?_)⟩⟩
  rw [z4] at h6
  by_cases q : (s.1 g).2.2.2.2.1 i = -1
  · rw [if_pos q] at h6
    rw [if_pos (Or.inl q)]
    exact ⟨fun _ => zb_Rc_same hC, fun z => absurd h6 z⟩
  rw [if_neg q] at h6
  refine ⟨fun z => by omega, fun _ => (s_X4_hasRow b2 k0 (by omega)).mono (fun r7 h7 => ?_)⟩
  rw [y4] at h7
  by_cases q2 : (s.1 o).2.2.2.2.1 k = -1
  · rw [if_pos q2] at h7
    rw [if_pos (Or.inr q2)]
    exact ⟨fun _ => zb_Rc_same hC, fun z => absurd h7 z⟩
  rw [if_neg q2] at h7
  rw [if_neg (by omega)]
  have no : ∀ h : ¬ (0 ≤ n ∧ 0 ≤ frm ∧ 0 ≤ to ∧ frm + n ≤ (s.1 g).2.2.2.2.1 i ∧ to + n ≤ (s.1 o).2.2.2.2.1 k), zb_Rc m (if 0 ≤ n ∧ 0 ≤ frm ∧ 0 ≤ to ∧ frm + n ≤ (s.1 g).2.2.2.2.1 i ∧ to + n ≤ (s.1 o).2.2.2.2.1 k then (n, zb_put (zb_psh s o) o (zb_cpG (s.1 g) (s.1 o) i frm k to n)) else (-12, s)) (-12) m := fun h => by
    rw [if_neg h]
    exact zb_Rc_same hC
  refine ⟨fun z => by omega, fun _ => ⟨fun c => no (by omega), fun c => ⟨fun c2 => no (by omega), fun c2 => ⟨fun c3 => ⟨⟨i0, by omega⟩, zb_inI_of (by omega) (by omega), fun c4 => no (by omega), fun c4 => ⟨⟨k0, by omega⟩, zb_inI_of (by omega) (by omega), fun c5 => ?_, fun c5 => no (by omega)⟩⟩, fun c3 => no (by omega)⟩⟩⟩⟩
  rw [if_pos (by omega)]
  refine (s_X11_keep hC hO o0 o1).mono (fun _ m22 ⟨p1, p2⟩ => ⟨zb_inI_of (by omega) (by omega), zb_inI_of (by omega) (by omega), zb_inI_of (by omega) (by omega), zb_inI_of (by omega) (by omega), by unfold zb_cpo; omega, fun m1 e1 => ?_⟩)
  have hg := p1.1 g g0 g1
  have hgo := p1.1 o o0 o1
  refine zb_Rc_put p1 p2 o0 o1 ⟨?_, fun x x0 x1 => ?_⟩ (fun b hb => zb_c3 e1 (by omega))
  · rw [zb_c3 e1 (by omega)]; exact hgo.1
  · obtain ⟨w1, w2, w3, w4, w5⟩ := hgo.2 x x0 x1
    refine ⟨by rw [zb_c3 e1 (by omega)]; exact w1, by rw [zb_c3 e1 (by omega)]; exact w2, by rw [zb_c3 e1 (by omega)]; exact w3, by rw [zb_c3 e1 (by omega)]; exact w4, fun y y0 y1 => ?_⟩
    show m1 _ _ = if x = k ∧ to ≤ y ∧ y < to + n then (s.1 g).2.2.2.2.2 i (frm + (y - to)) else _
    by_cases q3 : x = k ∧ to ≤ y ∧ y < to + n
    · rw [if_pos q3, zb_c1 e1 (by omega) (by omega)]
      have e : i * 12 + frm + (x * 12 + y - (k * 12 + to)) = i * 12 + (frm + (y - to)) := by omega
      rw [e]
      exact (hg.2 i i0 i1).2.2.2.2 _ (by omega) (by omega)
    · rw [if_neg q3, zb_c2 e1 (Or.inr (by omega))]
      exact w5 y y0 y1
theorem zb_lenG_ok {g : zb_Gv} (h : zb_Og g) : zb_Og (zb_lenG g) := by
  refine ⟨h.1, h.2.1, fun i i0 i1 => ?_⟩
  obtain ⟨o1, o2, o3, o4, o5⟩ := h.2.2 i i0 i1
  refine ⟨o1, o2, o3, ?_, fun j j0 j1 => ⟨(o5 j j0 j1).1, fun hj => (o5 j j0 j1).2 ?_⟩⟩
  · show -1 ≤ (if g.2.2.2.2.1 i = -1 then -1 else 12) ∧ (if g.2.2.2.2.1 i = -1 then (-1 : Int) else 12) ≤ 12
    split <;> omega
  · have hj : (if g.2.2.2.2.1 i = -1 then (-1 : Int) else 12) ≤ j := hj
    split at hj <;> omega
theorem zb_swG_ok {g : zb_Gv} {i j : Int} (h : zb_Og g) (hi : 0 ≤ i ∧ i < g.1) (hj : 0 ≤ j ∧ j < g.1) (hl : ∀ x, 0 ≤ x → x < g.1 → g.2.2.2.2.1 x = -1 ∨ g.2.2.2.2.1 x = 12) : zb_Og (zb_swG g i j) := by
  have hn := h.2.1
  refine ⟨h.1, h.2.1, fun x x0 x1 => ?_⟩
  have hx := zb_sw_rng hi hj ⟨x0, x1⟩
  obtain ⟨o1, o2, o3, o4, o5⟩ := h.2.2 _ hx.1 hx.2
  refine ⟨o1, o2, o3, o4, fun y y0 y1 => ?_⟩
  have hy := zb_sw_rng (n := 12) ⟨hi.1, by omega⟩ ⟨hj.1, by omega⟩ ⟨y0, y1⟩
  refine ⟨(o5 _ hy.1 hy.2).1, fun q => (o5 _ hy.1 hy.2).2 ?_⟩
  have q : g.2.2.2.2.1 (zb_sw i j x) ≤ y := q
  rcases hl _ hx.1 hx.2 with e | e <;> rw [e] at q ⊢ <;> omega
def v_swap (s : zb_Gs) (g i j : Int) : Int × zb_Gs := if zb_thg s g i ∧ zb_thg s g j then (1, zb_put (zb_psh s g) g (zb_swG (zb_lenG (s.1 g)) i j)) else (-1, s)
theorem s_X11_swap {d : Nat} {m : zb_M} {s : zb_Gs} {g i j : Int} (hC : zb_CG m s) (hO : zb_OG s) : zb_T K_X11_swap (d + 4) [(2, 1), (0, g), (0, i), (0, j)] zb_E0 m (zb_Rc m (v_swap s g i j)) := by
  apply w_X11_swap
  unfold PM_X11_swap v_swap
  refine (s_X11_isThing hC).mono (fun r h => ?_)
  rcases zb_if1 h with ⟨h1, h2⟩ | ⟨h1, h2⟩
  · refine ⟨fun _ => ?_, fun z => absurd h1 z⟩
    rw [if_neg (fun z => h2 z.1)]
    exact zb_Rc_same hC
  refine ⟨fun z => by omega, fun _ => (s_X11_isThing hC).mono (fun r2 h3 => ?_)⟩
  rcases zb_if1 h3 with ⟨h4, h5⟩ | ⟨h4, h5⟩
  · refine ⟨fun _ => ?_, fun z => absurd h4 z⟩
    rw [if_neg (fun z => h5 z.2)]
    exact zb_Rc_same hC
  rw [if_pos ⟨h2, h5⟩]
  obtain ⟨⟨g0, g1⟩, i0, i1⟩ := h2
  obtain ⟨-, j0, j1⟩ := h5
  obtain ⟨a1, a2⟩ := zb_nets g0 g1
  rw [zb_v_1_0, a1]
  refine ⟨fun z => by omega, fun _ => (s_X11_keep hC hO g0 g1).mono (fun _ m22 ⟨p1, p2⟩ => ⟨⟨g0, g1⟩, (s_X4_lengthenRows a2 (p1.1 g g0 g1) (hO.1 g g0 g1)).mono (fun _ m31 ⟨q1, q2⟩ => (s_X4_exchange a2 q1 (zb_lenG_ok (hO.1 g g0 g1)) ⟨i0, i1⟩ ⟨j0, j1⟩).mono (fun _ m42 ⟨r1, r2⟩ => ?_))⟩)⟩
  exact zb_Rc_put p1 p2 g0 g1 r1 (fun b hb => by rw [r2 b (by omega), q2 b (by omega)])
def v_twin (s : zb_Gs) (f t : Int) : Int × zb_Gs := if (0 ≤ f ∧ f < 8) ∧ 0 ≤ t ∧ t < 8 then ((s.1 f).1, zb_put (zb_psh s t) t (s.1 f)) else (-1, s)
theorem s_X11_twin {d : Nat} {m : zb_M} {s : zb_Gs} {f t : Int} (hC : zb_CG m s) (hO : zb_OG s) : zb_T K_X11_twin (d + 4) [(2, 1), (0, f), (0, t)] zb_E0 m (zb_Rc m (v_twin s f t)) := by
  apply w_X11_twin
  unfold PM_X11_twin v_twin
  refine s_X11_isGraph.mono (fun r h => ?_)
  rcases zb_if1 h with ⟨h1, h2⟩ | ⟨h1, h2⟩
  · refine ⟨fun _ => ?_, fun z => absurd h1 z⟩
    rw [if_neg (fun z => h2 z.1)]
    exact zb_Rc_same hC
  refine ⟨fun z => by omega, fun _ => s_X11_isGraph.mono (fun r2 h3 => ?_)⟩
  rcases zb_if1 h3 with ⟨h4, h5⟩ | ⟨h4, h5⟩
  · refine ⟨fun _ => ?_, fun z => absurd h4 z⟩
    rw [if_neg (fun z => h5 z.2)]
    exact zb_Rc_same hC
  rw [if_pos ⟨h2, h5⟩]
  obtain ⟨f0, f1⟩ := h2
  obtain ⟨t0, t1⟩ := h5
  obtain ⟨a1, a2⟩ := zb_nets t0 t1
  obtain ⟨b1, b2⟩ := zb_nets f0 f1
  rw [zb_v_1_0, a1, b1]
  refine ⟨fun z => by omega, fun _ => (s_X11_keep hC hO t0 t1).mono (fun _ m18 ⟨p1, p2⟩ => ⟨⟨t0, t1⟩, ⟨f0, f1⟩, (s_X4_become a2 b2 (p1.1 f f0 f1) (hO.1 f f0 f1)).mono (fun _ m33 ⟨q1, q2⟩ => ?_)⟩)⟩
  rw [q1.1]
  exact zb_Rc_put p1 p2 t0 t1 q1 q2
def v_drop (s : zb_Gs) (g : Int) : Int × zb_Gs := if 0 ≤ g ∧ g < 8 then ((s.1 g).1, zb_put (zb_psh s g) g (0, (s.1 g).2)) else (-1, s)
theorem s_X11_drop {d : Nat} {m : zb_M} {s : zb_Gs} {g : Int} (hC : zb_CG m s) (hO : zb_OG s) : zb_T K_X11_drop (d + 4) [(2, 1), (0, g)] zb_E0 m (zb_Rc m (v_drop s g)) := by
  apply w_X11_drop
  unfold PM_X11_drop v_drop
  refine s_X11_isGraph.mono (fun r h => ?_)
  rcases zb_if1 h with ⟨h1, h2⟩ | ⟨h1, h2⟩
  · refine ⟨fun _ => ?_, fun z => absurd h1 z⟩
    rw [if_neg h2]
    exact zb_Rc_same hC
  rw [if_pos h2]
  obtain ⟨g0, g1⟩ := h2
  obtain ⟨a1, a2⟩ := zb_nets g0 g1
  rw [zb_v_1_0, a1]
  refine ⟨fun z => by omega, fun _ => (s_X11_keep hC hO g0 g1).mono (fun _ m11 ⟨p1, p2⟩ => ⟨⟨g0, g1⟩, fun m31 e31 => ?_⟩)⟩
  have h0 : m11 (428 + 6 * g) 0 = (s.1 g).1 := (p1.1 g g0 g1).1
  rw [h0]
  refine zb_Rc_put p1 p2 g0 g1 ⟨zb_u1 e31, fun x x0 x1 => ?_⟩ (fun b hb => zb_u3 e31 (by omega))
  have x1 : x < 0 := x1
  omega
noncomputable def zb_rti (g : zb_Gv) : Int := @ite Int (zb_rt g) (Classical.propDecidable _) 1 0
theorem zb_rti_of {g : zb_Gv} {r : Int} (h : (r = 1 ∧ zb_rt g) ∨ (r = 0 ∧ ¬ zb_rt g)) : r = zb_rti g := by
  unfold zb_rti
  rcases h with ⟨h1, h2⟩ | ⟨h1, h2⟩
  · rw [if_pos h2]; exact h1
  · rw [if_neg h2]; exact h1
def v_told (s : zb_Gs) (g i w : Int) : Int := if zb_thg s g i then (if w = 0 then (s.1 g).2.1 i else if w = 1 then (s.1 g).2.2.1 i else if w = 2 then zb_key (s.1 g) i else if w = 3 then (if (s.1 g).2.2.2.2.1 i = -1 then -11 else (s.1 g).2.2.2.2.1 i) else if w = 4 then (if zb_nk ((s.1 g).2.1 i) = true then 1 else 0) else -1) else -1
theorem s_X11_told {d : Nat} {m : zb_M} {s : zb_Gs} {g i w : Int} (hC : zb_CG m s) (hO : zb_OG s) : zb_Tp K_X11_told (d + 5) [(2, 1), (0, g), (0, i), (0, w)] zb_E0 m (fun r => r = v_told s g i w) := by
  apply w_X11_told
  unfold PM_X11_told v_told
  refine (s_X11_isThing hC).mono (fun r h => ?_)
  rcases zb_if1 h with ⟨h1, h2⟩ | ⟨h1, h2⟩
  · refine ⟨fun _ => ?_, fun z => absurd h1 z⟩
    rw [if_neg h2]
  rw [if_pos h2]
  obtain ⟨⟨g0, g1⟩, i0, i1⟩ := h2
  have hn := (hO.1 g g0 g1).2.1
  obtain ⟨a1, a2⟩ := zb_nets g0 g1
  obtain ⟨v1, v2, v3, v4, v5⟩ := zb_net a2
  obtain ⟨q1, q2, q3, q4, q5⟩ := (hC.1 g g0 g1).2 i i0 i1
  rw [zb_v_1_0, a1, v1, v2, v4, q1, q2, q4]
  refine ⟨fun z => by omega, fun _ => ⟨⟨g0, g1⟩, fun c => ⟨⟨i0, by omega⟩, ?_⟩, fun c => ⟨⟨i0, by omega⟩, ?_⟩, fun c => ?_, fun c => ?_, fun c => ?_, fun c => ?_⟩⟩
  · rw [if_pos c]
  · rw [if_neg (by omega), if_pos c]
  · rw [if_neg (by omega), if_neg (by omega), if_pos c]
    exact s_X4_keyOf a2 (hC.1 g g0 g1) (hO.1 g g0 g1) i0 i1
  · rw [if_neg (by omega), if_neg (by omega), if_neg (by omega), if_pos c]
    refine (s_X4_hasRow a2 i0 (by omega)).mono (fun r h => ?_)
    rw [q4] at h
    by_cases q : (s.1 g).2.2.2.2.1 i = -1
    · rw [if_pos q] at h ⊢
      exact ⟨fun _ => rfl, fun z => absurd h z⟩
    · rw [if_neg q] at h ⊢
      exact ⟨fun z => by omega, fun _ => ⟨⟨i0, by omega⟩, rfl⟩⟩
  · rw [if_neg (by omega), if_neg (by omega), if_neg (by omega), if_neg (by omega), if_pos c]
    refine (s_X4_isNamed a2 i0 (by omega)).mono (fun r h => ?_)
    rw [q1] at h
    rcases zb_if1 h with ⟨h3, h4⟩ | ⟨h3, h4⟩
    · rw [if_neg h4]; exact ⟨fun _ => rfl, fun z => absurd h3 z⟩
    · rw [if_pos h4]; exact ⟨fun z => by omega, fun _ => rfl⟩
  · rw [if_neg (by omega), if_neg (by omega), if_neg (by omega), if_neg (by omega), if_neg (by omega)]
noncomputable def v_count (s : zb_Gs) (g w : Int) : Int := if 0 ≤ g ∧ g < 8 then (if w = 0 then (s.1 g).1 else if w = 1 then zb_cnt (fun i => !((s.1 g).2.1 i == 4)) (s.1 g).1.toNat else if w = 2 then zb_rti (s.1 g) else if w = 3 then s.2.1 else -1) else -1
theorem s_X11_count {d : Nat} {m : zb_M} {s : zb_Gs} {g w : Int} (hC : zb_CG m s) (hO : zb_OG s) : zb_Tp K_X11_count (d + 5) [(2, 1), (0, g), (0, w)] zb_E0 m (fun r => r = v_count s g w) := by
  apply w_X11_count
  unfold PM_X11_count v_count
  refine s_X11_isGraph.mono (fun r h => ?_)
  rcases zb_if1 h with ⟨h1, h2⟩ | ⟨h1, h2⟩
  · refine ⟨fun _ => ?_, fun z => absurd h1 z⟩
    rw [if_neg h2]
  rw [if_pos h2]
  obtain ⟨g0, g1⟩ := h2
  obtain ⟨a1, a2⟩ := zb_nets g0 g1
  rw [zb_v_1_0, a1, zb_v_1_1, (hC.1 g g0 g1).1]
  refine ⟨fun z => by omega, fun _ => ⟨fun c => ⟨⟨g0, g1⟩, ?_⟩, fun c => ⟨⟨g0, g1⟩, ?_⟩, fun c => ⟨⟨g0, g1⟩, ?_⟩, fun c => ?_, fun c => ?_⟩⟩
  · rw [if_pos c]
  · rw [if_neg (by omega), if_pos c]
    exact s_X4_countShown a2 (hC.1 g g0 g1) (hO.1 g g0 g1)
  · rw [if_neg (by omega), if_neg (by omega), if_pos c]
    refine (s_X4_isRight a2 (hC.1 g g0 g1) (hO.1 g g0 g1)).mono (fun r h => ?_)
    have h3 := zb_rti_of h
    rw [← h3]
    refine ⟨fun z => z.symm, fun z => ?_⟩
    rcases h with ⟨h4, -⟩ | ⟨h4, -⟩
    · exact h4.symm
    · exact absurd h4 z
  · rw [if_neg (by omega), if_neg (by omega), if_neg (by omega), if_pos c]
    exact hC.2.2.1
  · rw [if_neg (by omega), if_neg (by omega), if_neg (by omega), if_neg (by omega)]
def v_undo (s : zb_Gs) : Int × zb_Gs := if s.2.1 = 0 then (-2, s) else ((s.2.2 0).1, ((fun x => if x = (s.2.2 0).1 then (s.2.2 0).2 else s.1 x), s.2.1 - 1, fun k => s.2.2 (k + 1)))
theorem s_X1_latest {d : Nat} {m : zb_M} (h : 0 ≤ m 3 2 ∧ m 3 2 < 20) : zb_Tp K_X1_latest (d + 1) [(2, 3)] zb_E0 m (fun r => r = (m 3 2 + 19) % 20) := by
  apply w_X1_latest
  unfold PM_X1_latest
  refine ⟨zb_inI_of (by omega) (by omega), zb_inI_of (by omega) (by omega), ⟨by omega, by omega⟩, ?_⟩
  show (m 3 2 + 20 - 1) % 20 = _
  congr 1
  omega
theorem s_X11_undo {d : Nat} {m : zb_M} {s : zb_Gs} (hC : zb_CG m s) (hO : zb_OG s) : zb_T K_X11_undo (d + 4) [(2, 1)] zb_E0 m (zb_Rc m (v_undo s)) := by
  apply w_X11_undo
  unfold PM_X11_undo v_undo
  obtain ⟨h1, h2, h3, h4⟩ := hC
  rw [zb_v_1_1, zb_v_1_0, h3]
  refine ⟨fun c => ?_, fun c => w_X1_latestGraph ?_⟩
  · rw [if_pos c]
    exact zb_Rc_same ⟨h1, h2, h3, h4⟩
  rw [if_neg c]
  have hk := hO.2.1
  obtain ⟨p1, p2⟩ := h4 0 (Int.le_refl _) (by omega)
  obtain ⟨⟨o1, o2⟩, o3⟩ := hO.2.2 0 (Int.le_refl _) (by omega)
  have esl : (m 3 2 + 19 - 0) % 20 = (m 3 2 + 19) % 20 := by omega
  rw [esl] at p1 p2
  have sl0 : 0 ≤ (m 3 2 + 19) % 20 := by omega
  have sl1 : (m 3 2 + 19) % 20 < 20 := by omega
  obtain ⟨n1, n2⟩ := zb_hist sl0 sl1
  unfold PM_X1_latestGraph
  refine (s_X1_latest h2).mono (fun r hr => ?_)
  subst hr
  rw [zb_v_3_1, p1]
  obtain ⟨a1, a2⟩ := zb_nets o1 o2
  refine ⟨⟨sl0, sl1⟩, ⟨o1, o2⟩, w_X1_latestNet ?_⟩
  unfold PM_X1_latestNet
  refine (s_X1_latest h2).mono (fun r hr => ?_)
  subst hr
  rw [zb_v_3_0, n1, a1]
  refine ⟨⟨sl0, sl1⟩, by omega, n2, (s_X4_become a2 n2 p2 o3).mono (fun _ m34 ⟨b1, b2⟩ => w_X1_forgetLatest ?_)⟩
  unfold PM_X1_forgetLatest
  have e3 : m34 3 = m 3 := b2 3 (by omega)
  refine (s_X1_latest (by rw [e3]; exact h2)).mono (fun r hr => ?_)
  subst hr
  intro m5 e5
  have k5 : m5 3 3 = s.2.1 := by rw [zb_u2 e5 (by omega), e3]; exact h3
  rw [k5]
  refine ⟨zb_inI_of (by omega) (by omega), fun m19 e19 => ⟨rfl, ⟨fun x x0 x1 => ?_, ?_, ?_, fun k k0 k1 => ?_⟩, fun b b1' b2' => ?_⟩⟩
  · show zb_Cg m19 _ (if x = (s.2.2 0).1 then (s.2.2 0).2 else s.1 x)
    by_cases q : x = (s.2.2 0).1
    · rw [if_pos q, q]
      exact zb_Cg_same b1 (fun b b0 b9 => by rw [zb_u3 e19 (by omega), zb_u3 e5 (by omega)])
    · rw [if_neg q]
      exact zb_Cg_same (h1 x x0 x1) (fun b b0 b9 => by rw [zb_u3 e19 (by omega), zb_u3 e5 (by omega), b2 b (by omega)])
  · rw [zb_u2 e19 (by omega), zb_u1 e5, e3]
    omega
  · rw [zb_u1 e19, if_neg (by omega)]
  · have k1 : k < s.2.1 - 1 := k1
    have e2 : m19 3 2 = (m 3 2 + 19) % 20 := by rw [zb_u2 e19 (by omega), zb_u1 e5, e3]
    have e : ((m 3 2 + 19) % 20 + 19 - k) % 20 = (m 3 2 + 19 - (k + 1)) % 20 := by omega
    rw [e2, e, zb_u3 e19 (by omega), zb_u3 e5 (by omega), b2 5 (by omega)]
    obtain ⟨r1, r2⟩ := h4 (k + 1) (by omega) (by omega)
    exact ⟨r1, zb_Cg_same r2 (fun b b0 b9 => by rw [zb_u3 e19 (by omega), zb_u3 e5 (by omega), b2 b (by omega)])⟩
  · rw [zb_u3 e19 (by omega), zb_u3 e5 (by omega), b2 b (by omega)]
