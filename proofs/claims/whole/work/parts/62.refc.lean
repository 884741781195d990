/-! ===== the calls on graphs, the reference's side ===== -/
def zb_Rr (m : zb_M) (v : Int × zb_Gs) : Int → zb_M → Prop := fun r m1 => r = v.1 ∧ zb_RG m1 v.2 ∧ zb_frR m m1
theorem zb_Rr_same {m : zb_M} {s : zb_Gs} {r : Int} (hC : zb_RG m s) : zb_Rr m (r, s) r m := ⟨rfl, hC, zb_frR.rf m⟩
theorem zb_RG_put {m2 m1 : zb_M} {s : zb_Gs} {g : Int} {v : zb_Gv} (h : zb_RG m2 s) (hO : zb_OG s) (hv : zb_Rg m1 501 g v) (hu : ∀ b j, b ≠ 514 → (b = 501 → j ≠ g) → (502 ≤ b → b ≤ 505 → j < 12 * g ∨ 12 * g + 12 ≤ j) → (b = 506 → j < 144 * g ∨ 144 * g + 144 ≤ j) → m1 b j = m2 b j) : zb_RG m1 (zb_put s g v) := by
  obtain ⟨r1, r2, r3⟩ := h
  refine ⟨fun x x0 x1 => ?_, by rw [hu 500 13 (by omega) (by omega) (by omega) (by omega)]; exact r2, fun k k0 k1 => ?_⟩
  · show zb_Rg m1 501 x (if x = g then v else s.1 x)
    by_cases q : x = g
    · rw [if_pos q, q]; exact hv
    · rw [if_neg q]
      exact zb_Rg_mv (r1 x x0 x1) (hO.1 x x0 x1) (hu _ _ (by omega) (by omega) (by omega) (by omega)) (fun i i0 i1 => hu _ _ (by omega) (by omega) (by omega) (by omega)) (fun i i0 i1 => hu _ _ (by omega) (by omega) (by omega) (by omega)) (fun i i0 i1 => hu _ _ (by omega) (by omega) (by omega) (by omega)) (fun i i0 i1 => hu _ _ (by omega) (by omega) (by omega) (by omega)) (fun i i0 i1 => hu _ _ (by omega) (by omega) (by omega) (by omega))
  · have e : ∀ b, 507 ≤ b → b ≤ 513 → m1 b = m2 b := fun b b0 b1 => by
      funext j
      exact hu b j (by omega) (by omega) (by omega) (by omega)
    have k1 : k < s.2.1 := k1
    rw [e 507 (by omega) (by omega)]
    exact ⟨(r3 k k0 k1).1, zb_Rg_same (r3 k k0 k1).2 (fun c c0 c1 => e c (by omega) (by omega))⟩
theorem zb_Rr_put {m m2 m1 : zb_M} {s : zb_Gs} {g r2 : Int} {v : zb_Gv} {r : Int} (k : zb_nt m s g r2 m2) (hO : zb_OG s) (g0 : 0 ≤ g) (g1 : g < 8) (hv : zb_Rg m1 501 g v) (hu : ∀ b j, b ≠ 514 → (b = 501 → j ≠ g) → (502 ≤ b → b ≤ 505 → j < 12 * g ∨ 12 * g + 12 ≤ j) → (b = 506 → j < 144 * g ∨ 144 * g + 144 ≤ j) → m1 b j = m2 b j) : zb_Rr m (r, zb_put (zb_psh s g) g v) r m1 := by
  obtain ⟨k1, k2, k3⟩ := k
  refine ⟨rfl, zb_RG_put k1 (zb_psh_ok hO g0 g1) hv hu, fun b hb => ?_, fun j hj => ?_⟩
  · rw [← k2 b (by omega)]
    funext j
    exact hu b j (by omega) (by omega) (by omega) (by omega)
  · rw [← k3 j hj]
    exact hu 500 j (by omega) (by omega) (by omega) (by omega)
theorem s_X12_colour {d : Nat} {m : zb_M} {s : zb_Gs} {g i c : Int} (hC : zb_RG m s) (hO : zb_OG s) : zb_T K_X12_colour (d + 4) [(2, 500), (0, g), (0, i), (0, c)] zb_E0 m (zb_Rr m (v_colour s g i c)) := by
  apply w_X12_colour
  unfold PM_X12_colour v_colour
  refine (s_X12_isThing hC hO).mono (fun r h => ?_)
  rcases zb_if1 h with ⟨h1, h2⟩ | ⟨h1, h2⟩
  · refine ⟨fun _ => ?_, fun z => absurd h1 z⟩
    rw [if_neg (fun z => h2 z.1)]
    exact zb_Rr_same hC
  refine ⟨fun z => by omega, fun _ => s_X12_in.mono (fun r2 h3 => ?_)⟩
  rcases zb_if1 h3 with ⟨h4, h5⟩ | ⟨h4, h5⟩
  · refine ⟨fun _ => ?_, fun z => absurd h4 z⟩
    rw [if_neg (fun z => h5 (by omega))]
    exact zb_Rr_same hC
  refine ⟨fun z => by omega, fun _ => (s_X12_note hC hO h2.1.1 h2.1.2).mono (fun r m22 k => ?_)⟩
  rw [if_pos ⟨h2, by omega⟩]
  obtain ⟨⟨g0, g1⟩, i0, i1⟩ := h2
  have hn := (hO.1 g g0 g1).2.1
  have hg := k.1.1 g g0 g1
  obtain ⟨q1, q2, q3, q4, q5⟩ := hg.2 i i0 i1
  rw [zb_v_500_2]
  refine ⟨zb_inI_of (by omega) (by omega), zb_inI_of (by omega) (by omega), ⟨by omega, by omega⟩, fun m49 e49 => ?_⟩
  have q2 : m22 503 (12 * g + i) = (s.1 g).2.2.1 i := q2
  rw [q2]
  refine zb_Rr_put k hO g0 g1 ⟨?_, fun x x0 x1 => ?_⟩ (fun b j _ _ _ _ => zb_u2 e49 (by omega))
  · rw [zb_u3 e49 (by omega)]; exact hg.1
  · obtain ⟨p1, p2, p3, p4, p5⟩ := hg.2 x x0 x1
    refine ⟨by rw [zb_u3 e49 (by omega)]; exact p1, ?_, by rw [zb_u3 e49 (by omega)]; exact p3, by rw [zb_u3 e49 (by omega)]; exact p4, fun y y0 y1 => by rw [zb_u3 e49 (by omega)]; exact p5 y y0 y1⟩
    show m49 _ _ = if x = i then c else _
    by_cases q : x = i
    · rw [if_pos q, q]; exact zb_u1 e49
    · rw [if_neg q, zb_u2 e49 (by omega)]; exact p2
theorem s_X12_word {d : Nat} {m : zb_M} {s : zb_Gs} {g i w : Int} (hC : zb_RG m s) (hO : zb_OG s) : zb_T K_X12_word (d + 4) [(2, 500), (0, g), (0, i), (0, w)] zb_E0 m (zb_Rr m (v_word s g i w)) := by
  apply w_X12_word
  unfold PM_X12_word v_word
  refine (s_X12_isThing hC hO).mono (fun r h => ?_)
  rcases zb_if1 h with ⟨h1, h2⟩ | ⟨h1, h2⟩
  · refine ⟨fun _ => ?_, fun z => absurd h1 z⟩
    rw [if_neg (fun z => h2 z.1)]
    exact zb_Rr_same hC
  refine ⟨fun z => by omega, fun _ => s_X12_in.mono (fun r2 h3 => ?_)⟩
  rcases zb_if1 h3 with ⟨h4, h5⟩ | ⟨h4, h5⟩
  · refine ⟨fun _ => ?_, fun z => absurd h4 z⟩
    rw [if_neg (fun z => h5 (by omega))]
    exact zb_Rr_same hC
  rw [if_pos ⟨h2, by omega⟩]
  obtain ⟨⟨g0, g1⟩, i0, i1⟩ := h2
  have hn := (hO.1 g g0 g1).2.1
  obtain ⟨z1, -⟩ := (hC.1 g g0 g1).2 i i0 i1
  have z1 : m 502 (12 * g + i) = (s.1 g).2.1 i := z1
  rw [zb_v_500_1, zb_v_500_3, z1]
  refine ⟨fun z => by omega, fun _ => ⟨zb_inI_of (by omega) (by omega), zb_inI_of (by omega) (by omega), ⟨by omega, by omega⟩, s_X12_isNamed.mono (fun r6 h6 => ?_)⟩⟩
  rcases zb_if1 h6 with ⟨h7, h8⟩ | ⟨h7, h8⟩
  · refine ⟨fun _ => ?_, fun z => absurd h7 z⟩
    rw [if_neg h8]
    exact zb_Rr_same hC
  rw [if_pos h8]
  refine ⟨fun z => by omega, fun _ => (s_X12_note hC hO g0 g1).mono (fun r m22 k m65 e65 => ?_)⟩
  have hg := k.1.1 g g0 g1
  obtain ⟨q1, q2, q3, q4, q5⟩ := hg.2 i i0 i1
  have q3 : m22 504 (12 * g + i) = (s.1 g).2.2.2.1 i := q3
  rw [q3]
  refine zb_Rr_put k hO g0 g1 ⟨?_, fun x x0 x1 => ?_⟩ (fun b j _ _ _ _ => zb_u2 e65 (by omega))
  · rw [zb_u3 e65 (by omega)]; exact hg.1
  · obtain ⟨p1, p2, p3, p4, p5⟩ := hg.2 x x0 x1
    refine ⟨by rw [zb_u3 e65 (by omega)]; exact p1, by rw [zb_u3 e65 (by omega)]; exact p2, ?_, by rw [zb_u3 e65 (by omega)]; exact p4, fun y y0 y1 => by rw [zb_u3 e65 (by omega)]; exact p5 y y0 y1⟩
    show m65 _ _ = if x = i then w else _
    by_cases q : x = i
    · rw [if_pos q, q]; exact zb_u1 e65
    · rw [if_neg q, zb_u2 e65 (by omega)]; exact p3
theorem s_X12_row {d : Nat} {m : zb_M} {s : zb_Gs} {g i n : Int} (hC : zb_RG m s) (hO : zb_OG s) : zb_T K_X12_row (d + 4) [(2, 500), (0, g), (0, i), (0, n)] zb_E0 m (zb_Rr m (v_row s g i n)) := by
  apply w_X12_row
  unfold PM_X12_row v_row
  refine (s_X12_isThing hC hO).mono (fun r h => ?_)
  rcases zb_if1 h with ⟨h1, h2⟩ | ⟨h1, h2⟩
  · refine ⟨fun _ => ?_, fun z => absurd h1 z⟩
    rw [if_neg (fun z => h2 z.1)]
    exact zb_Rr_same hC
  obtain ⟨⟨g0, g1⟩, i0, i1⟩ := h2
  have hn := (hO.1 g g0 g1).2.1
  rw [zb_v_500_4]
  refine ⟨fun z => by omega, fun _ => ⟨fun c => ⟨fun c2 => (s_X12_note hC hO g0 g1).mono (fun r m22 k => ⟨zb_inI_of (by omega) (by omega), zb_inI_of (by omega) (by omega), ⟨by omega, by omega⟩, fun m40 e40 => ?_⟩), fun c2 => ?_⟩, fun c => ?_⟩⟩
  · rw [if_pos ⟨⟨⟨g0, g1⟩, i0, i1⟩, c⟩, if_pos c2]
    unfold PL_X12_row_44
    rw [zb_v_500_5]
    intro X hX
    refine zb_lp1 (fun v mm => 0 ≤ v ∧ ∀ b j, mm b j = if b = 506 ∧ 144 * g + 12 * i ≤ j ∧ j < 144 * g + 12 * i + v then 0 else m40 b j) 12 (fun v mm ⟨v0, hv⟩ vn nxt => hX v mm ⟨fun c => ?_, fun c => ?_⟩) 0 m40 (by omega) ⟨by omega, fun b j => by rw [if_neg (by omega)]⟩
    · have hv12 : v = 12 := by omega
      subst hv12
      have hg := k.1.1 g g0 g1
      refine zb_Rr_put k hO g0 g1 ⟨?_, fun x x0 x1 => ?_⟩ (fun b j _ _ _ _ => by rw [hv, if_neg (by omega)]; exact zb_u2 e40 (by omega))
      · rw [hv, if_neg (by omega), zb_u3 e40 (by omega)]; exact hg.1
      · obtain ⟨p1, p2, p3, p4, p5⟩ := hg.2 x x0 x1
        refine ⟨by rw [hv, if_neg (by omega), zb_u3 e40 (by omega)]; exact p1, by rw [hv, if_neg (by omega), zb_u3 e40 (by omega)]; exact p2, by rw [hv, if_neg (by omega), zb_u3 e40 (by omega)]; exact p3, ?_, fun y y0 y1 => ?_⟩
        · rw [hv, if_neg (by omega)]
          show m40 _ _ = if x = i then n else _
          by_cases q : x = i
          · rw [if_pos q, q]; exact zb_u1 e40
          · rw [if_neg q, zb_u2 e40 (by omega)]; exact p4
        · show mm _ _ = if x = i then 0 else _
          have y1 : y < if x = i then n else (s.1 g).2.2.2.2.1 x := y1
          by_cases q : x = i
          · rw [if_pos q] at y1 ⊢
            rw [hv, if_pos (by omega)]
          · rw [if_neg q] at y1 ⊢
            have := (((hO.1 g g0 g1).2.2 x x0 x1).2.2.2.1).2
            rw [hv, if_neg (by omega), zb_u3 e40 (by omega)]
            exact p5 y y0 y1
    · refine ⟨zb_inI_of (by omega) (by omega), zb_inI_of (by omega) (by omega), zb_inI_of (by omega) (by omega), zb_inI_of (by omega) (by omega), ⟨by omega, by omega⟩, fun m1 e1 => ⟨zb_inI_of (by omega) (by omega), nxt (by omega) m1 ⟨by omega, fun b j => ?_⟩⟩⟩
      by_cases q : b = 506 ∧ j = 144 * g + 12 * i + v
      · obtain ⟨rfl, rfl⟩ := q
        rw [zb_u1 e1, if_pos (by omega)]
      · rw [zb_u2 e1 (by omega), hv]
        by_cases q2 : b = 506 ∧ 144 * g + 12 * i ≤ j ∧ j < 144 * g + 12 * i + v
        · rw [if_pos q2, if_pos (by omega)]
        · rw [if_neg q2, if_neg (by omega)]
  · rw [if_pos ⟨⟨⟨g0, g1⟩, i0, i1⟩, c⟩, if_neg c2]
    exact zb_Rr_same hC
  · rw [if_neg (fun z => c z.2)]
    exact zb_Rr_same hC
theorem s_X12_unrow {d : Nat} {m : zb_M} {s : zb_Gs} {g i : Int} (hC : zb_RG m s) (hO : zb_OG s) : zb_T K_X12_unrow (d + 4) [(2, 500), (0, g), (0, i)] zb_E0 m (zb_Rr m (v_unrow s g i)) := by
  apply w_X12_unrow
  unfold PM_X12_unrow v_unrow
  refine (s_X12_isThing hC hO).mono (fun r h => ?_)
  rcases zb_if1 h with ⟨h1, h2⟩ | ⟨h1, h2⟩
  · refine ⟨fun _ => ?_, fun z => absurd h1 z⟩
    rw [if_neg h2]
    exact zb_Rr_same hC
  rw [if_pos h2]
  obtain ⟨⟨g0, g1⟩, i0, i1⟩ := h2
  have hn := (hO.1 g g0 g1).2.1
  have ho := ((hO.1 g g0 g1).2.2 i i0 i1).2.2.2.1
  obtain ⟨-, -, -, z4, -⟩ := (hC.1 g g0 g1).2 i i0 i1
  have z4 : m 505 (12 * g + i) = (s.1 g).2.2.2.2.1 i := z4
  rw [zb_v_500_4, z4]
  refine ⟨fun z => by omega, fun _ => ⟨zb_inI_of (by omega) (by omega), zb_inI_of (by omega) (by omega), ⟨by omega, by omega⟩, fun c => (s_X12_note hC hO g0 g1).mono (fun r m22 k m1 e1 => ?_), fun c => ?_⟩⟩
  · rw [if_neg (by omega)]
    have hg := k.1.1 g g0 g1
    refine zb_Rr_put k hO g0 g1 ⟨?_, fun x x0 x1 => ?_⟩ (fun b j _ _ _ _ => zb_u2 e1 (by omega))
    · rw [zb_u3 e1 (by omega)]; exact hg.1
    · obtain ⟨p1, p2, p3, p4, p5⟩ := hg.2 x x0 x1
      refine ⟨by rw [zb_u3 e1 (by omega)]; exact p1, by rw [zb_u3 e1 (by omega)]; exact p2, by rw [zb_u3 e1 (by omega)]; exact p3, ?_, fun y y0 y1 => ?_⟩
      · show m1 _ _ = if x = i then -1 else _
        by_cases q : x = i
        · rw [if_pos q, q]; exact zb_u1 e1
        · rw [if_neg q, zb_u2 e1 (by omega)]; exact p4
      · show m1 _ _ = if x = i then 0 else _
        have y1 : y < if x = i then -1 else (s.1 g).2.2.2.2.1 x := y1
        by_cases q : x = i
        · rw [if_pos q] at y1; omega
        · rw [if_neg q] at y1 ⊢
          rw [zb_u3 e1 (by omega)]
          exact p5 y y0 y1
  · rw [if_pos (by omega)]
    exact zb_Rr_same hC
theorem s_X12_line {d : Nat} {m : zb_M} {s : zb_Gs} {g i j : Int} (hC : zb_RG m s) (hO : zb_OG s) : zb_Tp K_X12_line (d + 4) [(2, 500), (0, g), (0, i), (0, j)] zb_E0 m (fun r => r = v_line s g i j) := by
  apply w_X12_line
  unfold PM_X12_line v_line
  refine (s_X12_isThing hC hO).mono (fun r h => ?_)
  rcases zb_if1 h with ⟨h1, h2⟩ | ⟨h1, h2⟩
  · refine ⟨fun _ => ?_, fun z => absurd h1 z⟩
    rw [if_neg (fun z => h2 z.1)]
  refine ⟨fun z => by omega, fun _ => (s_X12_isThing hC hO).mono (fun r h => ?_)⟩
  rcases zb_if1 h with ⟨h3, h4⟩ | ⟨h3, h4⟩
  · refine ⟨fun _ => ?_, fun z => absurd h3 z⟩
    rw [if_neg (fun z => h4 z.2)]
  rw [if_pos ⟨h2, h4⟩]
  obtain ⟨⟨g0, g1⟩, i0, i1⟩ := h2
  have hn := (hO.1 g g0 g1).2.1
  obtain ⟨-, j0, j1⟩ := h4
  exact ⟨fun z => by omega, fun _ => s_X12_lineOf hC hO g0 g1 i0 i1 j0 (by omega)⟩
theorem s_X12_place {d : Nat} {m : zb_M} {s : zb_Gs} {g i j v : Int} (hC : zb_RG m s) (hO : zb_OG s) : zb_T K_X12_place (d + 4) [(2, 500), (0, g), (0, i), (0, j), (0, v)] zb_E0 m (zb_Rr m (v_place s g i j v)) := by
  apply w_X12_place
  unfold PM_X12_place v_place
  refine (s_X12_isThing hC hO).mono (fun r h => ?_)
  rcases zb_if1 h with ⟨h1, h2⟩ | ⟨h1, h2⟩
  · refine ⟨fun _ => ?_, fun z => absurd h1 z⟩
    rw [if_neg (fun z => h2 z.1)]
    exact zb_Rr_same hC
  refine ⟨fun z => by omega, fun _ => s_X12_in.mono (fun r2 h3 => ?_)⟩
  rcases zb_if1 h3 with ⟨h4, h5⟩ | ⟨h4, h5⟩
  · refine ⟨fun _ => ?_, fun z => absurd h4 z⟩
    rw [if_neg (fun z => h5 (by omega))]
    exact zb_Rr_same hC
  rw [if_pos ⟨h2, by omega⟩]
  obtain ⟨⟨g0, g1⟩, i0, i1⟩ := h2
  have hn := (hO.1 g g0 g1).2.1
  have ho := ((hO.1 g g0 g1).2.2 i i0 i1).2.2.2.1
  obtain ⟨-, -, -, z4, -⟩ := (hC.1 g g0 g1).2 i i0 i1
  have z4 : m 505 (12 * g + i) = (s.1 g).2.2.2.2.1 i := z4
  rw [zb_v_500_4, zb_v_500_5, z4]
  refine ⟨fun z => by omega, fun _ => ⟨zb_inI_of (by omega) (by omega), zb_inI_of (by omega) (by omega), ⟨by omega, by omega⟩, fun c => ⟨zb_inI_of (by omega) (by omega), s_X12_in.mono (fun r3 h6 => ?_)⟩, fun c => ?_⟩⟩
  · rw [if_neg (by omega)]
    rcases zb_if1 h6 with ⟨h7, h8⟩ | ⟨h7, h8⟩
    · refine ⟨fun _ => ?_, fun z => absurd h7 z⟩
      rw [if_neg (by omega)]
      exact zb_Rr_same hC
    rw [if_pos (by omega)]
    refine ⟨fun z => by omega, fun _ => (s_X12_note hC hO g0 g1).mono (fun r m22 k => ⟨zb_inI_of (by omega) (by omega), zb_inI_of (by omega) (by omega), zb_inI_of (by omega) (by omega), zb_inI_of (by omega) (by omega), ⟨by omega, by omega⟩, fun m1 e1 => ?_⟩)⟩
    have hg := k.1.1 g g0 g1
    have e9 : m22 506 (144 * g + 12 * i + j) = (s.1 g).2.2.2.2.2 i j := (hg.2 i i0 i1).2.2.2.2 j h8.1 (by show j < (s.1 g).2.2.2.2.1 i; omega)
    rw [e9]
    refine zb_Rr_put k hO g0 g1 ⟨?_, fun x x0 x1 => ?_⟩ (fun b j _ _ _ _ => zb_u2 e1 (by omega))
    · rw [zb_u3 e1 (by omega)]; exact hg.1
    · obtain ⟨p1, p2, p3, p4, p5⟩ := hg.2 x x0 x1
      refine ⟨by rw [zb_u3 e1 (by omega)]; exact p1, by rw [zb_u3 e1 (by omega)]; exact p2, by rw [zb_u3 e1 (by omega)]; exact p3, by rw [zb_u3 e1 (by omega)]; exact p4, fun y y0 y1 => ?_⟩
      have y1 : y < (s.1 g).2.2.2.2.1 x := y1
      have := (((hO.1 g g0 g1).2.2 x x0 x1).2.2.2.1).2
      show m1 _ _ = if x = i ∧ y = j then v else _
      by_cases q2 : x = i ∧ y = j
      · rw [if_pos q2, q2.1, q2.2]; exact zb_u1 e1
      · rw [if_neg q2, zb_u2 e1 (by omega)]; exact p5 y y0 y1
  · rw [if_pos (by omega)]
    exact zb_Rr_same hC
theorem s_X12_drop {d : Nat} {m : zb_M} {s : zb_Gs} {g : Int} (hC : zb_RG m s) (hO : zb_OG s) : zb_T K_X12_drop (d + 4) [(2, 500), (0, g)] zb_E0 m (zb_Rr m (v_drop s g)) := by
  apply w_X12_drop
  unfold PM_X12_drop v_drop
  refine s_X12_isGraph.mono (fun r h => ?_)
  rcases zb_if1 h with ⟨h1, h2⟩ | ⟨h1, h2⟩
  · refine ⟨fun _ => ?_, fun z => absurd h1 z⟩
    rw [if_neg h2]
    exact zb_Rr_same hC
  rw [if_pos h2]
  obtain ⟨g0, g1⟩ := h2
  rw [zb_v_500_0]
  refine ⟨fun z => by omega, fun _ => (s_X12_note hC hO g0 g1).mono (fun r m22 k => ⟨⟨g0, g1⟩, fun m1 e1 => ?_⟩)⟩
  have hg := k.1.1 g g0 g1
  have e9 : m22 501 g = (s.1 g).1 := hg.1
  rw [e9]
  refine zb_Rr_put k hO g0 g1 ⟨?_, fun x x0 x1 => ?_⟩ (fun b j _ _ _ _ => zb_u2 e1 (by omega))
  · exact zb_u1 e1
  · have x1 : x < 0 := x1
    omega
theorem s_X12_thing {d : Nat} {m : zb_M} {s : zb_Gs} {g k c w : Int} (hC : zb_RG m s) (hO : zb_OG s) : zb_T K_X12_thing (d + 4) [(2, 500), (0, g), (0, k), (0, c), (0, w)] zb_E0 m (zb_Rr m (v_thing s g k c w)) := by
  apply w_X12_thing
  unfold PM_X12_thing
  have bad : ∀ h : ¬ ((0 ≤ g ∧ g < 8) ∧ (0 ≤ k ∧ k < 5) ∧ (0 ≤ c ∧ c < 10) ∧ (zb_nk k = true → 0 ≤ w ∧ w < 100)), zb_Rr m (v_thing s g k c w) (-1) m := fun h => by
    unfold v_thing
    rw [if_neg h]
    exact zb_Rr_same hC
  refine s_X12_isGraph.mono (fun r h => ?_)
  rcases zb_if1 h with ⟨h1, h2⟩ | ⟨h1, h2⟩
  · exact ⟨fun _ => bad (fun z => h2 z.1), fun z => absurd h1 z⟩
  refine ⟨fun z => by omega, fun _ => s_X12_in.mono (fun r h => ?_)⟩
  rcases zb_if1 h with ⟨h1, h3⟩ | ⟨h1, h3⟩
  · exact ⟨fun _ => bad (fun z => h3 (by omega)), fun z => absurd h1 z⟩
  refine ⟨fun z => by omega, fun _ => s_X12_in.mono (fun r h => ?_)⟩
  rcases zb_if1 h with ⟨h1, h4⟩ | ⟨h1, h4⟩
  · exact ⟨fun _ => bad (fun z => h4 (by omega)), fun z => absurd h1 z⟩
  obtain ⟨g0, g1⟩ := h2
  have j47 : (zb_nk k = true → 0 ≤ w ∧ w < 100) → PJ_X12_thing_47 (d + 3) zb_E0 500 g k c w m (zb_Rr m (v_thing s g k c w)) := by
    intro h5
    have hv : v_thing s g k c w = (if (s.1 g).1 < 12 then ((s.1 g).1, zb_put (zb_psh s g) g (zb_addG (s.1 g) k c w)) else (-3, s)) := by
      unfold v_thing
      rw [if_pos ⟨⟨g0, g1⟩, by omega, by omega, h5⟩]
    rw [hv]
    unfold PJ_X12_thing_47
    have hn := (hO.1 g g0 g1).2.1
    have hn0 := (hO.1 g g0 g1).1
    rw [zb_v_500_0, zb_v_500_1, zb_v_500_2, (hC.1 g g0 g1).1]
    refine ⟨⟨g0, g1⟩, fun q => ?_, fun q => ?_⟩
    · rw [if_neg (by omega)]
      exact zb_Rr_same hC
    · rw [if_pos (by omega)]
      refine (s_X12_note hC hO g0 g1).mono (fun r m22 kk => ?_)
      have hg := kk.1.1 g g0 g1
      have e0 : m22 501 g = (s.1 g).1 := hg.1
      rw [e0]
      refine ⟨zb_inI_of (by omega) (by omega), zb_inI_of (by omega) (by omega), ⟨by omega, by omega⟩, fun m1 e1 m2 e2 => ?_⟩
      have j114 : ∀ x, x = (if zb_nk k then w else 0) → PJ_X12_thing_114 (d + 3) zb_E0 500 g m22 m2 (zb_Rr m ((s.1 g).1, zb_put (zb_psh s g) g (zb_addG (s.1 g) k c w))) x := by
        intro x hx
        unfold PJ_X12_thing_114
        rw [zb_v_500_0, zb_v_500_3, zb_v_500_4, e0]
        intro m3 e3 m4 e4
        have f4 : m4 501 g = (s.1 g).1 := by rw [zb_u3 e4 (by omega), zb_u3 e3 (by omega), zb_u3 e2 (by omega), zb_u3 e1 (by omega)]; exact e0
        rw [f4]
        refine ⟨zb_inI_of (by omega) (by omega), fun m5 e5 => ?_⟩
        rw [zb_u1 e5]
        have en : (s.1 g).1 + 1 - 1 = (s.1 g).1 := by omega
        rw [en]
        refine ⟨zb_inI_of (by omega) (by omega), ?_⟩
        refine zb_Rr_put kk hO g0 g1 ⟨zb_u1 e5, fun y y0 y1 => ?_⟩ (fun b j _ _ _ _ => by rw [zb_u2 e5 (by omega), zb_u2 e4 (by omega), zb_u2 e3 (by omega), zb_u2 e2 (by omega), zb_u2 e1 (by omega)])
        have y1 : y < (s.1 g).1 + 1 := y1
        show m5 502 _ = zb_wr (s.1 g).2.1 (s.1 g).1 k y ∧ m5 503 _ = zb_wr (s.1 g).2.2.1 (s.1 g).1 c y ∧ m5 504 _ = zb_wr (s.1 g).2.2.2.1 (s.1 g).1 (if zb_nk k then w else 0) y ∧ m5 505 _ = zb_wr (s.1 g).2.2.2.2.1 (s.1 g).1 (-1) y ∧ ∀ j, 0 ≤ j → j < zb_wr (s.1 g).2.2.2.2.1 (s.1 g).1 (-1) y → m5 506 _ = if y = (s.1 g).1 then 0 else (s.1 g).2.2.2.2.2 y j
        unfold zb_wr
        rw [← hx]
        by_cases q2 : y = (s.1 g).1
        · rw [if_pos q2, if_pos q2, if_pos q2, if_pos q2, q2]
          refine ⟨?_, ?_, ?_, ?_, fun j j0 j1 => by omega⟩
          · rw [zb_u3 e5 (by omega), zb_u3 e4 (by omega), zb_u3 e3 (by omega), zb_u3 e2 (by omega), zb_u1 e1]
          · rw [zb_u3 e5 (by omega), zb_u3 e4 (by omega), zb_u3 e3 (by omega), zb_u1 e2]
          · rw [zb_u3 e5 (by omega), zb_u3 e4 (by omega), zb_u1 e3]
          · rw [zb_u3 e5 (by omega), zb_u1 e4]
        · rw [if_neg q2, if_neg q2, if_neg q2, if_neg q2]
          obtain ⟨p1, p2, p3, p4, p5⟩ := hg.2 y y0 (by show y < (s.1 g).1; omega)
          refine ⟨?_, ?_, ?_, ?_, fun j j0 j1 => ?_⟩
          · rw [zb_u3 e5 (by omega), zb_u3 e4 (by omega), zb_u3 e3 (by omega), zb_u3 e2 (by omega), zb_u2 e1 (by omega)]; exact p1
          · rw [zb_u3 e5 (by omega), zb_u3 e4 (by omega), zb_u3 e3 (by omega), zb_u2 e2 (by omega), zb_u3 e1 (by omega)]; exact p2
          · rw [zb_u3 e5 (by omega), zb_u3 e4 (by omega), zb_u2 e3 (by omega), zb_u3 e2 (by omega), zb_u3 e1 (by omega)]; exact p3
          · rw [zb_u3 e5 (by omega), zb_u2 e4 (by omega), zb_u3 e3 (by omega), zb_u3 e2 (by omega), zb_u3 e1 (by omega)]; exact p4
          · rw [if_neg q2, zb_u3 e5 (by omega), zb_u3 e4 (by omega), zb_u3 e3 (by omega), zb_u3 e2 (by omega), zb_u3 e1 (by omega)]; exact p5 j j0 j1
      refine s_X12_isNamed.mono (fun r h => ?_)
      rcases zb_if1 h with ⟨h6, h7⟩ | ⟨h6, h7⟩
      · exact ⟨fun _ => j114 0 (by rw [if_neg h7]), fun z => absurd h6 z⟩
      · exact ⟨fun z => by omega, fun _ => j114 w (by rw [if_pos h7])⟩
  refine ⟨fun z => by omega, fun _ => s_X12_isNamed.mono (fun r h => ⟨fun q => ?_, fun q => s_X12_in.mono (fun r h5 => ?_)⟩)⟩
  · rcases zb_if1 h with ⟨_, h6⟩ | ⟨h6, _⟩
    · exact j47 (fun z => absurd z h6)
    · omega
  · rcases zb_if1 h with ⟨h6, _⟩ | ⟨_, h6⟩
    · omega
    rcases zb_if1 h5 with ⟨h7, h8⟩ | ⟨h7, h8⟩
    · exact ⟨fun _ => bad (fun z => h8 (by have := z.2.2.2 h6; omega)), fun z => absurd h7 z⟩
    · exact ⟨fun z => by omega, fun _ => j47 (fun _ => by omega)⟩
