/-! ===== the calls on graphs, the class's side ===== -/
/-- a call's answer and what is then -/
def zb_Rc (m : zb_M) (v : Int × zb_Gs) : Int → zb_M → Prop := fun r m1 => r = v.1 ∧ zb_CG m1 v.2 ∧ zb_frG m m1
theorem zb_Rc_same {m : zb_M} {s : zb_Gs} {r : Int} (hC : zb_CG m s) : zb_Rc m (r, s) r m := ⟨rfl, hC, zb_frG.rf m⟩
theorem zb_Rc_put {m m2 m1 : zb_M} {s : zb_Gs} {g : Int} {v : zb_Gv} {r : Int} (k1 : zb_CG m2 (zb_psh s g)) (k2 : ∀ b, ¬ (3 ≤ b ∧ b ≤ 125) → m2 b = m b) (g0 : 0 ≤ g) (g1 : g < 8) (hv : zb_Cg m1 (428 + 6 * g) v) (he : ∀ b, (b < 428 + 6 * g ∨ 428 + 6 * g + 5 < b) → m1 b = m2 b) : zb_Rc m (r, zb_put (zb_psh s g) g v) r m1 :=
  ⟨rfl, zb_CG_put k1 g0 g1 hv he, fun b b1 b2 => by rw [he b (by omega)]; exact k2 b b1⟩
def v_thing (s : zb_Gs) (g k c w : Int) : Int × zb_Gs := if (0 ≤ g ∧ g < 8) ∧ (0 ≤ k ∧ k < 5) ∧ (0 ≤ c ∧ c < 10) ∧ (zb_nk k = true → 0 ≤ w ∧ w < 100) then (if (s.1 g).1 < 12 then ((s.1 g).1, zb_put (zb_psh s g) g (zb_addG (s.1 g) k c w)) else (-3, s)) else (-1, s)
theorem s_X11_thing {d : Nat} {m : zb_M} {s : zb_Gs} {g k c w : Int} (hC : zb_CG m s) (hO : zb_OG s) : zb_T K_X11_thing (d + 4) [(2, 1), (0, g), (0, k), (0, c), (0, w)] zb_E0 m (zb_Rc m (v_thing s g k c w)) := by
  apply w_X11_thing
  unfold PM_X11_thing
  have bad : ∀ h : ¬ ((0 ≤ g ∧ g < 8) ∧ (0 ≤ k ∧ k < 5) ∧ (0 ≤ c ∧ c < 10) ∧ (zb_nk k = true → 0 ≤ w ∧ w < 100)), zb_Rc m (v_thing s g k c w) (-1) m := fun h => by
    unfold v_thing
    rw [if_neg h]
    exact zb_Rc_same hC
  refine s_X11_isGraph.mono (fun r h => ?_)
  rcases zb_if1 h with ⟨h1, h2⟩ | ⟨h1, h2⟩
  · exact ⟨fun _ => bad (fun z => h2 z.1), fun z => absurd h1 z⟩
  refine ⟨fun z => by omega, fun _ => s_X11_isBelow.mono (fun r h => ?_)⟩
  rcases zb_if1 h with ⟨h1, h3⟩ | ⟨h1, h3⟩
  · exact ⟨fun _ => bad (fun z => h3 z.2.1), fun z => absurd h1 z⟩
  refine ⟨fun z => by omega, fun _ => s_X11_isBelow.mono (fun r h => ?_)⟩
  rcases zb_if1 h with ⟨h1, h4⟩ | ⟨h1, h4⟩
  · exact ⟨fun _ => bad (fun z => h4 z.2.2.1), fun z => absurd h1 z⟩
  obtain ⟨g0, g1⟩ := h2
  obtain ⟨a1, a2⟩ := zb_nets g0 g1
  have j45 : (zb_nk k = true → 0 ≤ w ∧ w < 100) → PJ_X11_thing_45 (d + 3) zb_E0 1 g k c w m (zb_Rc m (v_thing s g k c w)) := by
    intro h5
    have hv : v_thing s g k c w = (if (s.1 g).1 < 12 then ((s.1 g).1, zb_put (zb_psh s g) g (zb_addG (s.1 g) k c w)) else (-3, s)) := by
      unfold v_thing
      rw [if_pos ⟨⟨g0, g1⟩, h3, h4, h5⟩]
    rw [hv]
    unfold PJ_X11_thing_45
    rw [zb_v_1_0, a1, (hC.1 g g0 g1).1]
    refine ⟨⟨g0, g1⟩, fun q => (s_X11_keep hC hO g0 g1).mono (fun _ m22 ⟨k1, k2⟩ => (s_X4_add a2 (k1.1 g g0 g1) (hO.1 g g0 g1) q).mono (fun r m1 ⟨p1, p2, p3⟩ => ?_)), fun q => ?_⟩
    · rw [if_pos q, p1]
      exact zb_Rc_put k1 k2 g0 g1 p2 p3
    · rw [if_neg q]
      exact zb_Rc_same hC
  refine ⟨fun z => by omega, fun _ => s_X11_isNamedKind.mono (fun r h => ⟨fun q => ?_, fun q => s_X11_isBelow.mono (fun r h5 => ?_)⟩)⟩
  · rcases zb_if1 h with ⟨_, h6⟩ | ⟨h6, _⟩
    · exact j45 (fun z => absurd z h6)
    · omega
  · rcases zb_if1 h with ⟨h6, _⟩ | ⟨_, h6⟩
    · omega
    rcases zb_if1 h5 with ⟨h7, h8⟩ | ⟨h7, h8⟩
    · exact ⟨fun _ => bad (fun z => h8 (z.2.2.2 h6)), fun z => absurd h7 z⟩
    · exact ⟨fun z => by omega, fun _ => j45 (fun _ => h8)⟩
def v_word (s : zb_Gs) (g i w : Int) : Int × zb_Gs := if zb_thg s g i ∧ 0 ≤ w ∧ w < 100 then (if zb_nk ((s.1 g).2.1 i) = true then ((s.1 g).2.2.2.1 i, zb_put (zb_psh s g) g ((s.1 g).1, (s.1 g).2.1, (s.1 g).2.2.1, zb_wr (s.1 g).2.2.2.1 i w, (s.1 g).2.2.2.2)) else (-13, s)) else (-1, s)
theorem s_X11_word {d : Nat} {m : zb_M} {s : zb_Gs} {g i w : Int} (hC : zb_CG m s) (hO : zb_OG s) : zb_T K_X11_word (d + 4) [(2, 1), (0, g), (0, i), (0, w)] zb_E0 m (zb_Rc m (v_word s g i w)) := by
  apply w_X11_word
  unfold PM_X11_word v_word
  refine (s_X11_isThing hC).mono (fun r h => ?_)
  rcases zb_if1 h with ⟨h1, h2⟩ | ⟨h1, h2⟩
  · refine ⟨fun _ => ?_, fun z => absurd h1 z⟩
    rw [if_neg (fun z => h2 z.1)]
    exact zb_Rc_same hC
  refine ⟨fun z => by omega, fun _ => s_X11_isBelow.mono (fun r2 h3 => ?_)⟩
  rcases zb_if1 h3 with ⟨h4, h5⟩ | ⟨h4, h5⟩
  · refine ⟨fun _ => ?_, fun z => absurd h4 z⟩
    rw [if_neg (fun z => h5 z.2)]
    exact zb_Rc_same hC
  obtain ⟨⟨g0, g1⟩, i0, i1⟩ := h2
  have hn := (hO.1 g g0 g1).2.1
  obtain ⟨a1, a2⟩ := zb_nets g0 g1
  obtain ⟨v1, v2, v3, v4, v5⟩ := zb_net a2
  obtain ⟨z1, -⟩ := (hC.1 g g0 g1).2 i i0 i1
  rw [zb_v_1_0, a1, v3, if_pos ⟨⟨⟨g0, g1⟩, i0, i1⟩, h5⟩]
  refine ⟨fun z => by omega, fun _ => ⟨⟨g0, g1⟩, (s_X4_isNamed a2 i0 (by omega)).mono (fun r6 h6 => ?_)⟩⟩
  rw [z1] at h6
  rcases zb_if1 h6 with ⟨h7, h8⟩ | ⟨h7, h8⟩
  · refine ⟨fun _ => ?_, fun z => absurd h7 z⟩
    rw [if_neg h8]
    exact zb_Rc_same hC
  rw [if_pos h8]
  refine ⟨fun z => by omega, fun _ => (s_X11_keep hC hO g0 g1).mono (fun _ m22 ⟨k1, k2⟩ => ⟨⟨i0, by omega⟩, fun m65 e65 => ?_⟩)⟩
  have hg := k1.1 g g0 g1
  obtain ⟨q1, q2, q3, q4, q5⟩ := hg.2 i i0 i1
  have q3 : m22 (428 + 6 * g + 3) i = (s.1 g).2.2.2.1 i := q3
  rw [q3]
  refine zb_Rc_put k1 k2 g0 g1 ⟨?_, fun x x0 x1 => ?_⟩ (fun b hb => zb_u3 e65 (by omega))
  · rw [zb_u3 e65 (by omega)]; exact hg.1
  · obtain ⟨p1, p2, p3, p4, p5⟩ := hg.2 x x0 x1
    refine ⟨by rw [zb_u3 e65 (by omega)]; exact p1, by rw [zb_u3 e65 (by omega)]; exact p2, ?_, by rw [zb_u3 e65 (by omega)]; exact p4, fun y y0 y1 => by rw [zb_u3 e65 (by omega)]; exact p5 y y0 y1⟩
    show m65 _ x = if x = i then w else _
    by_cases q : x = i
    · rw [if_pos q, q]; exact zb_u1 e65
    · rw [if_neg q, zb_u2 e65 (Or.inr q)]; exact p3
def zb_rowG (g : zb_Gv) (i n : Int) : zb_Gv := (g.1, g.2.1, g.2.2.1, g.2.2.2.1, zb_wr g.2.2.2.2.1 i n, fun x y => if x = i then 0 else g.2.2.2.2.2 x y)
theorem zb_clear_Cg {m m1 : zb_M} {a i n : Int} {g : zb_Gv} (hg : zb_Cg m a g) (i0 : 0 ≤ i) (c1 : m1 (a + 4) i = n) (c2 : ∀ j, 0 ≤ j → j < 12 → m1 (a + 5) (i * 12 + j) = 0) (c3 : ∀ j, j ≠ i → m1 (a + 4) j = m (a + 4) j) (c4 : ∀ j, (j < i * 12 ∨ i * 12 + 12 ≤ j) → m1 (a + 5) j = m (a + 5) j) (c5 : ∀ b, b ≠ a + 4 → b ≠ a + 5 → m1 b = m b) : zb_Cg m1 a (zb_rowG g i n) := by
  refine ⟨by rw [c5 a (by omega) (by omega)]; exact hg.1, fun x x0 x1 => ?_⟩
  obtain ⟨p1, p2, p3, p4, p5⟩ := hg.2 x x0 x1
  refine ⟨by rw [c5 _ (by omega) (by omega)]; exact p1, by rw [c5 _ (by omega) (by omega)]; exact p2, by rw [c5 _ (by omega) (by omega)]; exact p3, ?_, fun y y0 y1 => ?_⟩
  · show m1 _ x = if x = i then n else _
    by_cases q : x = i
    · rw [if_pos q, q]; exact c1
    · rw [if_neg q, c3 x q]; exact p4
  · show m1 _ _ = if x = i then 0 else _
    by_cases q : x = i
    · rw [if_pos q, q]; exact c2 y y0 y1
    · rw [if_neg q, c4 _ (by omega)]; exact p5 y y0 y1
def v_row (s : zb_Gs) (g i n : Int) : Int × zb_Gs := if zb_thg s g i ∧ n ≤ 12 then (if 0 ≤ n then (1, zb_put (zb_psh s g) g (zb_rowG (s.1 g) i n)) else (-14, s)) else (-1, s)
theorem s_X11_row {d : Nat} {m : zb_M} {s : zb_Gs} {g i n : Int} (hC : zb_CG m s) (hO : zb_OG s) : zb_T K_X11_row (d + 4) [(2, 1), (0, g), (0, i), (0, n)] zb_E0 m (zb_Rc m (v_row s g i n)) := by
  apply w_X11_row
  unfold PM_X11_row v_row
  refine (s_X11_isThing hC).mono (fun r h => ?_)
  rcases zb_if1 h with ⟨h1, h2⟩ | ⟨h1, h2⟩
  · refine ⟨fun _ => ?_, fun z => absurd h1 z⟩
    rw [if_neg (fun z => h2 z.1)]
    exact zb_Rc_same hC
  obtain ⟨⟨g0, g1⟩, i0, i1⟩ := h2
  have hn := (hO.1 g g0 g1).2.1
  obtain ⟨a1, a2⟩ := zb_nets g0 g1
  rw [zb_v_1_0, a1]
  refine ⟨fun z => by omega, fun _ => ⟨fun c => ⟨fun c2 => (s_X11_keep hC hO g0 g1).mono (fun _ m22 ⟨k1, k2⟩ => ⟨⟨g0, g1⟩, (s_X4_clearRow a2 i0 (by omega)).mono (fun _ m1 ⟨c1, c2', c3, c4, c5⟩ => ?_)⟩), fun c2 => ?_⟩, fun c => ?_⟩⟩
  · rw [if_pos ⟨⟨⟨g0, g1⟩, i0, i1⟩, c⟩, if_pos c2]
    exact zb_Rc_put k1 k2 g0 g1 (zb_clear_Cg (k1.1 g g0 g1) i0 c1 c2' c3 c4 c5) (fun b hb => c5 b (by omega) (by omega))
  · rw [if_pos ⟨⟨⟨g0, g1⟩, i0, i1⟩, c⟩, if_neg c2]
    exact zb_Rc_same hC
  · rw [if_neg (fun z => c z.2)]
    exact zb_Rc_same hC
def v_unrow (s : zb_Gs) (g i : Int) : Int × zb_Gs := if zb_thg s g i then (if (s.1 g).2.2.2.2.1 i = -1 then (-11, s) else ((s.1 g).2.2.2.2.1 i, zb_put (zb_psh s g) g (zb_rowG (s.1 g) i (-1)))) else (-1, s)
theorem s_X11_unrow {d : Nat} {m : zb_M} {s : zb_Gs} {g i : Int} (hC : zb_CG m s) (hO : zb_OG s) : zb_T K_X11_unrow (d + 4) [(2, 1), (0, g), (0, i)] zb_E0 m (zb_Rc m (v_unrow s g i)) := by
  apply w_X11_unrow
  unfold PM_X11_unrow v_unrow
  refine (s_X11_isThing hC).mono (fun r h => ?_)
  rcases zb_if1 h with ⟨h1, h2⟩ | ⟨h1, h2⟩
  · refine ⟨fun _ => ?_, fun z => absurd h1 z⟩
    rw [if_neg h2]
    exact zb_Rc_same hC
  rw [if_pos h2]
  obtain ⟨⟨g0, g1⟩, i0, i1⟩ := h2
  have hn := (hO.1 g g0 g1).2.1
  obtain ⟨a1, a2⟩ := zb_nets g0 g1
  obtain ⟨v1, v2, v3, v4, v5⟩ := zb_net a2
  obtain ⟨-, -, -, z4, -⟩ := (hC.1 g g0 g1).2 i i0 i1
  rw [zb_v_1_0, a1, v4]
  refine ⟨fun z => by omega, fun _ => ⟨⟨g0, g1⟩, (s_X4_hasRow a2 i0 (by omega)).mono (fun r6 h6 => ?_)⟩⟩
  rw [z4] at h6
  by_cases q : (s.1 g).2.2.2.2.1 i = -1
  · rw [if_pos q] at h6 ⊢
    exact ⟨fun _ => zb_Rc_same hC, fun z => absurd h6 z⟩
  · rw [if_neg q] at h6 ⊢
    refine ⟨fun z => by omega, fun _ => (s_X11_keep hC hO g0 g1).mono (fun _ m22 ⟨k1, k2⟩ => ⟨⟨i0, by omega⟩, (s_X4_clearRow a2 i0 (by omega)).mono (fun _ m1 ⟨c1, c2', c3, c4, c5⟩ => ?_)⟩)⟩
    obtain ⟨-, -, -, y4, -⟩ := (k1.1 g g0 g1).2 i i0 i1
    have y4 : m22 (428 + 6 * g + 4) i = (s.1 g).2.2.2.2.1 i := y4
    rw [y4]
    exact zb_Rc_put k1 k2 g0 g1 (zb_clear_Cg (k1.1 g g0 g1) i0 c1 c2' c3 c4 c5) (fun b hb => c5 b (by omega) (by omega))
def v_line (s : zb_Gs) (g i j : Int) : Int := if zb_thg s g i ∧ zb_thg s g j then (s.1 g).2.2.2.2.2 i j else -1
theorem s_X11_line {d : Nat} {m : zb_M} {s : zb_Gs} {g i j : Int} (hC : zb_CG m s) (hO : zb_OG s) : zb_Tp K_X11_line (d + 4) [(2, 1), (0, g), (0, i), (0, j)] zb_E0 m (fun r => r = v_line s g i j) := by
  apply w_X11_line
  unfold PM_X11_line v_line
  refine (s_X11_isThing hC).mono (fun r h => ?_)
  rcases zb_if1 h with ⟨h1, h2⟩ | ⟨h1, h2⟩
  · refine ⟨fun _ => ?_, fun z => absurd h1 z⟩
    rw [if_neg (fun z => h2 z.1)]
  refine ⟨fun z => by omega, fun _ => (s_X11_isThing hC).mono (fun r h => ?_)⟩
  rcases zb_if1 h with ⟨h3, h4⟩ | ⟨h3, h4⟩
  · refine ⟨fun _ => ?_, fun z => absurd h3 z⟩
    rw [if_neg (fun z => h4 z.2)]
  rw [if_pos ⟨h2, h4⟩]
  obtain ⟨⟨g0, g1⟩, i0, i1⟩ := h2
  have hn := (hO.1 g g0 g1).2.1
  obtain ⟨a1, a2⟩ := zb_nets g0 g1
  rw [zb_v_1_0, a1]
  obtain ⟨-, j0, j1⟩ := h4
  refine ⟨fun z => by omega, fun _ => ⟨⟨g0, g1⟩, (s_X4_lineFrom a2 i0 (by omega) j0 (by omega)).mono (fun r h => ?_)⟩⟩
  obtain ⟨-, -, -, -, z5⟩ := (hC.1 g g0 g1).2 i i0 i1
  rw [h]
  exact z5 j j0 (by omega)
def v_place (s : zb_Gs) (g i j v : Int) : Int × zb_Gs := if zb_thg s g i ∧ 0 ≤ v ∧ v < 10 then (if (s.1 g).2.2.2.2.1 i = -1 then (-11, s) else if 0 ≤ j ∧ j < (s.1 g).2.2.2.2.1 i then ((s.1 g).2.2.2.2.2 i j, zb_put (zb_psh s g) g ((s.1 g).1, (s.1 g).2.1, (s.1 g).2.2.1, (s.1 g).2.2.2.1, (s.1 g).2.2.2.2.1, fun x y => if x = i ∧ y = j then v else (s.1 g).2.2.2.2.2 x y)) else (-12, s)) else (-1, s)
theorem s_X11_place {d : Nat} {m : zb_M} {s : zb_Gs} {g i j v : Int} (hC : zb_CG m s) (hO : zb_OG s) : zb_T K_X11_place (d + 4) [(2, 1), (0, g), (0, i), (0, j), (0, v)] zb_E0 m (zb_Rc m (v_place s g i j v)) := by
  apply w_X11_place
  unfold PM_X11_place v_place
  refine (s_X11_isThing hC).mono (fun r h => ?_)
  rcases zb_if1 h with ⟨h1, h2⟩ | ⟨h1, h2⟩
  · refine ⟨fun _ => ?_, fun z => absurd h1 z⟩
    rw [if_neg (fun z => h2 z.1)]
    exact zb_Rc_same hC
  refine ⟨fun z => by omega, fun _ => s_X11_isBelow.mono (fun r2 h3 => ?_)⟩
  rcases zb_if1 h3 with ⟨h4, h5⟩ | ⟨h4, h5⟩
  · refine ⟨fun _ => ?_, fun z => absurd h4 z⟩
    rw [if_neg (fun z => h5 z.2)]
    exact zb_Rc_same hC
  rw [if_pos ⟨h2, h5⟩]
  obtain ⟨⟨g0, g1⟩, i0, i1⟩ := h2
  have hn := (hO.1 g g0 g1).2.1
  have ho := ((hO.1 g g0 g1).2.2 i i0 i1).2.2.2.1
  obtain ⟨a1, a2⟩ := zb_nets g0 g1
  obtain ⟨v1, v2, v3, v4, v5⟩ := zb_net a2
  obtain ⟨-, -, -, z4, -⟩ := (hC.1 g g0 g1).2 i i0 i1
  rw [zb_v_1_0, a1, v4, z4, v5]
  refine ⟨fun z => by omega, fun _ => ⟨⟨g0, g1⟩, (s_X4_hasRow a2 i0 (by omega)).mono (fun r6 h6 => ?_)⟩⟩
  rw [z4] at h6
  by_cases q : (s.1 g).2.2.2.2.1 i = -1
  · rw [if_pos q] at h6 ⊢
    exact ⟨fun _ => zb_Rc_same hC, fun z => absurd h6 z⟩
  rw [if_neg q] at h6 ⊢
  refine ⟨fun z => by omega, fun _ => ⟨⟨i0, by omega⟩, s_X11_isBelow.mono (fun r7 h7 => ?_)⟩⟩
  rcases zb_if1 h7 with ⟨h8, h9⟩ | ⟨h8, h9⟩
  · refine ⟨fun _ => ?_, fun z => absurd h8 z⟩
    rw [if_neg h9]
    exact zb_Rc_same hC
  rw [if_pos h9]
  refine ⟨fun z => by omega, fun _ => (s_X11_keep hC hO g0 g1).mono (fun _ m22 ⟨k1, k2⟩ => (s_X4_lineFrom a2 i0 (by omega) h9.1 (by omega)).mono (fun r h => ⟨zb_inI_of (by omega) (by omega), zb_inI_of (by omega) (by omega), ⟨by omega, by omega⟩, fun m85 e85 => ?_⟩))⟩
  have hg := k1.1 g g0 g1
  have hr : r = (s.1 g).2.2.2.2.2 i j := by
    rw [h]
    exact (hg.2 i i0 i1).2.2.2.2 j h9.1 (by omega)
  rw [hr]
  refine zb_Rc_put k1 k2 g0 g1 ⟨?_, fun x x0 x1 => ?_⟩ (fun b hb => zb_u3 e85 (by omega))
  · rw [zb_u3 e85 (by omega)]; exact hg.1
  · obtain ⟨p1, p2, p3, p4, p5⟩ := hg.2 x x0 x1
    refine ⟨by rw [zb_u3 e85 (by omega)]; exact p1, by rw [zb_u3 e85 (by omega)]; exact p2, by rw [zb_u3 e85 (by omega)]; exact p3, by rw [zb_u3 e85 (by omega)]; exact p4, fun y y0 y1 => ?_⟩
    show m85 _ _ = if x = i ∧ y = j then v else _
    by_cases q2 : x = i ∧ y = j
    · rw [if_pos q2, q2.1, q2.2]; exact zb_u1 e85
    · rw [if_neg q2, zb_u2 e85 (Or.inr (by omega))]; exact p5 y y0 y1
