/-! ===== the graphs and what can be undone, in plain words; the class's side ===== -/
/-- the eight graphs; how many can be undone; those, the latest first -/
abbrev zb_Gs : Type := (Int → zb_Gv) × Int × (Int → Int × zb_Gv)
def zb_CG (m : zb_M) (s : zb_Gs) : Prop := (∀ g, 0 ≤ g → g < 8 → zb_Cg m (428 + 6 * g) (s.1 g)) ∧ (0 ≤ m 3 2 ∧ m 3 2 < 20) ∧ m 3 3 = s.2.1 ∧ ∀ k, 0 ≤ k → k < s.2.1 → m 5 ((m 3 2 + 19 - k) % 20) = (s.2.2 k).1 ∧ zb_Cg m (6 + 6 * ((m 3 2 + 19 - k) % 20)) (s.2.2 k).2
def zb_OG (s : zb_Gs) : Prop := (∀ g, 0 ≤ g → g < 8 → zb_Og (s.1 g)) ∧ (0 ≤ s.2.1 ∧ s.2.1 ≤ 20) ∧ ∀ k, 0 ≤ k → k < s.2.1 → (0 ≤ (s.2.2 k).1 ∧ (s.2.2 k).1 < 8) ∧ zb_Og (s.2.2 k).2
def zb_psh (s : zb_Gs) (g : Int) : zb_Gs := (s.1, (if s.2.1 = 20 then 20 else s.2.1 + 1), fun k => if k = 0 then (g, s.1 g) else s.2.2 (k - 1))
def zb_put (s : zb_Gs) (g : Int) (v : zb_Gv) : zb_Gs := ((fun x => if x = g then v else s.1 x), s.2)
theorem zb_Cg_same {m m1 : zb_M} {a : Int} {g : zb_Gv} (h : zb_Cg m a g) (he : ∀ b, a ≤ b → b ≤ a + 5 → m1 b = m b) : zb_Cg m1 a g := by
  refine ⟨by rw [he a (by omega) (by omega)]; exact h.1, fun i i0 i1 => ?_⟩
  rw [he _ (by omega) (by omega), he _ (by omega) (by omega), he _ (by omega) (by omega), he _ (by omega) (by omega), he _ (by omega) (by omega)]
  exact h.2 i i0 i1
theorem zb_psh_ok {s : zb_Gs} {g : Int} (h : zb_OG s) (g0 : 0 ≤ g) (g1 : g < 8) : zb_OG (zb_psh s g) := by
  obtain ⟨h1, h2, h3⟩ := h
  refine ⟨h1, ?_, fun k k0 k1 => ?_⟩
  · show 0 ≤ (if s.2.1 = 20 then 20 else s.2.1 + 1) ∧ (if s.2.1 = 20 then 20 else s.2.1 + 1) ≤ 20
    split <;> omega
  · have k1 : k < (if s.2.1 = 20 then 20 else s.2.1 + 1) := k1
    have e : (zb_psh s g).2.2 k = if k = 0 then (g, s.1 g) else s.2.2 (k - 1) := rfl
    rw [e]
    by_cases q : k = 0
    · rw [if_pos q]
      exact ⟨⟨g0, g1⟩, h1 g g0 g1⟩
    · rw [if_neg q]
      exact h3 (k - 1) (by omega) (by split at k1 <;> omega)
theorem zb_put_ok {s : zb_Gs} {g : Int} {v : zb_Gv} (h : zb_OG s) (hv : zb_Og v) : zb_OG (zb_put s g v) := by
  refine ⟨fun x x0 x1 => ?_, h.2⟩
  show zb_Og (if x = g then v else s.1 x)
  split
  · exact hv
  · exact h.1 x x0 x1
/-- nothing but the graphs and what can be undone has changed (the class's cells) -/
def zb_frG (m m1 : zb_M) : Prop := ∀ b, ¬ (3 ≤ b ∧ b ≤ 125) → ¬ (428 ≤ b ∧ b ≤ 475) → m1 b = m b
theorem zb_frG.rf (m : zb_M) : zb_frG m m := fun _ _ _ => rfl
theorem zb_CG_put {m m1 : zb_M} {s : zb_Gs} {g : Int} {v : zb_Gv} (h : zb_CG m s) (g0 : 0 ≤ g) (g1 : g < 8) (hv : zb_Cg m1 (428 + 6 * g) v) (he : ∀ b, (b < 428 + 6 * g ∨ 428 + 6 * g + 5 < b) → m1 b = m b) : zb_CG m1 (zb_put s g v) := by
  obtain ⟨h1, h2, h3, h4⟩ := h
  have e3 : m1 3 = m 3 := he 3 (by omega)
  have e5 : m1 5 = m 5 := he 5 (by omega)
  refine ⟨fun x x0 x1 => ?_, by rw [e3]; exact h2, by rw [e3]; exact h3, fun k k0 k1 => ?_⟩
  · show zb_Cg m1 _ (if x = g then v else s.1 x)
    by_cases q : x = g
    · rw [if_pos q, q]; exact hv
    · rw [if_neg q]
      exact zb_Cg_same (h1 x x0 x1) (fun b b0 b1 => he b (by omega))
  · rw [e3, e5]
    refine ⟨(h4 k k0 k1).1, zb_Cg_same (h4 k k0 k1).2 (fun b b0 b1 => he b ?_)⟩
    omega
theorem s_X1_keep {d : Nat} {m : zb_M} {s : zb_Gs} {g : Int} (hC : zb_CG m s) (hO : zb_OG s) (g0 : 0 ≤ g) (g1 : g < 8) : zb_T K_X1_keep (d + 2) [(2, 3), (0, g), (2, 428 + 6 * g)] zb_E0 m (fun _ m1 => zb_CG m1 (zb_psh s g) ∧ ∀ b, ¬ (3 ≤ b ∧ b ≤ 125) → m1 b = m b) := by
  apply w_X1_keep
  obtain ⟨h1, h2, h3, h4⟩ := hC
  obtain ⟨n1, n2⟩ := zb_hist h2.1 h2.2
  have hnet := zb_nets g0 g1
  unfold PM_X1_keep
  rw [zb_v_3_0, n1, zb_v_3_1]
  refine ⟨h2, (s_X4_become n2 hnet.2 (h1 g g0 g1) (hO.1 g g0 g1)).mono (fun _ m10 ⟨c1, c2⟩ => ?_)⟩
  have e3 : m10 3 = m 3 := c2 3 (by omega)
  rw [e3]
  refine ⟨h2, fun m22 e22 => ?_⟩
  have f3 : m22 3 = m 3 := by rw [zb_u3 e22 (by omega), e3]
  rw [f3]
  refine ⟨zb_inI_of (by omega) (by omega), ⟨by omega, by omega⟩, fun m33 e33 => ?_⟩
  have k3 : m33 3 3 = s.2.1 := by rw [zb_u2 e33 (by omega), f3]; exact h3
  have hk := hO.2.1
  rw [k3]
  refine ⟨zb_inI_of (by omega) (by omega), fun m48 e48 => ?_⟩
  have q2 : m48 3 2 = (m 3 2 + 1) % 20 := by rw [zb_u2 e48 (by omega)]; exact zb_u1 e33
  have q3 : m48 3 3 = (if s.2.1 = 20 then 20 else s.2.1 + 1) := by
    rw [zb_u1 e48]
    by_cases q : s.2.1 = 20
    · rw [if_pos q, if_pos (by omega)]
    · rw [if_neg q, if_neg (by omega)]
  have r5 : ∀ j, m48 5 j = if j = m 3 2 then g else m 5 j := fun j => by
    rw [zb_u3 e48 (by omega), zb_u3 e33 (by omega), e22]
    unfold zb_up
    rw [c2 5 (by omega)]
    by_cases q : j = m 3 2
    · rw [if_pos ⟨rfl, q⟩, if_pos q]
    · rw [if_neg (fun z => q z.2), if_neg q]
  have ro : ∀ b, b ≠ 3 → b ≠ 5 → m48 b = m10 b := fun b b1 b2 => by rw [zb_u3 e48 b1, zb_u3 e33 b1, zb_u3 e22 b2]
  refine ⟨⟨fun x x0 x1 => ?_, by rw [q2]; omega, q3, fun k k0 k1 => ?_⟩, fun b hb => ?_⟩
  · exact zb_Cg_same (h1 x x0 x1) (fun b b0 b1 => by rw [ro b (by omega) (by omega), c2 b (by omega)])
  · have k1 : k < (if s.2.1 = 20 then 20 else s.2.1 + 1) := k1
    rw [q2, r5]
    show (if _ then _ else _) = (if k = 0 then (g, s.1 g) else s.2.2 (k - 1)).1 ∧ zb_Cg m48 _ (if k = 0 then (g, s.1 g) else s.2.2 (k - 1)).2
    by_cases q : k = 0
    · have e : ((m 3 2 + 1) % 20 + 19 - k) % 20 = m 3 2 := by omega
      rw [if_pos q, e, if_pos rfl]
      exact ⟨rfl, zb_Cg_same c1 (fun b b0 b1 => ro b (by omega) (by omega))⟩
    · have hk20 : k < 20 := by split at k1 <;> omega
      have e : ((m 3 2 + 1) % 20 + 19 - k) % 20 = (m 3 2 + 19 - (k - 1)) % 20 := by omega
      have ne : (m 3 2 + 19 - (k - 1)) % 20 ≠ m 3 2 := by omega
      rw [if_neg q, e, if_neg ne]
      obtain ⟨p1, p2⟩ := h4 (k - 1) (by omega) (by split at k1 <;> omega)
      refine ⟨p1, zb_Cg_same p2 (fun b b0 b1 => ?_)⟩
      rw [ro b (by omega) (by omega), c2 b (by omega)]
  · rw [ro b (by omega) (by omega), c2 b (by omega)]
theorem s_X11_keep {d : Nat} {m : zb_M} {s : zb_Gs} {g : Int} (hC : zb_CG m s) (hO : zb_OG s) (g0 : 0 ≤ g) (g1 : g < 8) : zb_T K_X11_keep (d + 3) [(2, 1), (0, g)] zb_E0 m (fun _ m1 => zb_CG m1 (zb_psh s g) ∧ ∀ b, ¬ (3 ≤ b ∧ b ≤ 125) → m1 b = m b) := by
  apply w_X11_keep
  unfold PM_X11_keep
  rw [zb_v_1_0, (zb_nets g0 g1).1, zb_v_1_1]
  exact ⟨⟨g0, g1⟩, s_X1_keep hC hO g0 g1⟩
/-- there is such a thing -/
abbrev zb_thg (s : zb_Gs) (g i : Int) : Prop := (0 ≤ g ∧ g < 8) ∧ 0 ≤ i ∧ i < (s.1 g).1
theorem s_X11_isThing {d : Nat} {m : zb_M} {s : zb_Gs} {g i : Int} (hC : zb_CG m s) : zb_Tp K_X11_isThing (d + 3) [(2, 1), (0, g), (0, i)] zb_E0 m (fun r => r = if zb_thg s g i then 1 else 0) := by
  apply w_X11_isThing
  unfold PM_X11_isThing
  refine s_X11_isGraph.mono (fun r h => ⟨fun c => ?_, fun c => ?_⟩)
  · rw [if_neg]
    intro z
    rw [if_pos z.1] at h
    omega
  · have hg : 0 ≤ g ∧ g < 8 := by
      by_cases q : 0 ≤ g ∧ g < 8
      · exact q
      · rw [if_neg q] at h; exact absurd h c
    rw [zb_v_1_0, (zb_nets hg.1 hg.2).1, (hC.1 g hg.1 hg.2).1]
    refine ⟨hg, s_X11_isBelow.mono (fun r2 h2 => ⟨fun c2 => ?_, fun c2 => ?_⟩)⟩
    · rw [if_neg]
      intro z
      rw [if_pos z.2] at h2
      omega
    · rw [if_pos]
      refine ⟨hg, ?_⟩
      by_cases q : 0 ≤ i ∧ i < (s.1 g).1
      · exact q
      · rw [if_neg q] at h2; exact absurd h2 c2
theorem zb_if1 {c : Prop} [Decidable c] {r : Int} (h : r = if c then 1 else 0) : (r = 0 ∧ ¬ c) ∨ (r = 1 ∧ c) := by
  by_cases q : c
  · rw [if_pos q] at h; exact Or.inr ⟨h, q⟩
  · rw [if_neg q] at h; exact Or.inl ⟨h, q⟩
/-! ===== the calls on graphs: what they answer and what is then ===== -/
def v_colour (s : zb_Gs) (g i c : Int) : Int × zb_Gs := if zb_thg s g i ∧ 0 ≤ c ∧ c < 10 then ((s.1 g).2.2.1 i, zb_put (zb_psh s g) g ((s.1 g).1, (s.1 g).2.1, zb_wr (s.1 g).2.2.1 i c, (s.1 g).2.2.2)) else (-1, s)
theorem s_X11_colour {d : Nat} {m : zb_M} {s : zb_Gs} {g i c : Int} (hC : zb_CG m s) (hO : zb_OG s) : zb_T K_X11_colour (d + 4) [(2, 1), (0, g), (0, i), (0, c)] zb_E0 m (fun r m1 => r = (v_colour s g i c).1 ∧ zb_CG m1 (v_colour s g i c).2 ∧ zb_frG m m1) := by
  apply w_X11_colour
  unfold PM_X11_colour v_colour
  refine (s_X11_isThing hC).mono (fun r h => ?_)
  rcases zb_if1 h with ⟨h1, h2⟩ | ⟨h1, h2⟩
  · refine ⟨fun _ => ?_, fun z => absurd h1 z⟩
    rw [if_neg (fun z => h2 z.1)]
    exact ⟨rfl, hC, zb_frG.rf m⟩
  refine ⟨fun z => by omega, fun _ => s_X11_isBelow.mono (fun r2 h3 => ?_)⟩
  rcases zb_if1 h3 with ⟨h4, h5⟩ | ⟨h4, h5⟩
  · refine ⟨fun _ => ?_, fun z => absurd h4 z⟩
    rw [if_neg (fun z => h5 z.2)]
    exact ⟨rfl, hC, zb_frG.rf m⟩
  refine ⟨fun z => by omega, fun _ => (s_X11_keep hC hO h2.1.1 h2.1.2).mono (fun _ m22 ⟨k1, k2⟩ => ?_)⟩
  obtain ⟨⟨g0, g1⟩, i0, i1⟩ := h2
  have hn := (hO.1 g g0 g1).2.1
  obtain ⟨a1, a2⟩ := zb_nets g0 g1
  obtain ⟨v1, v2, v3, v4, v5⟩ := zb_net a2
  have hg := k1.1 g g0 g1
  obtain ⟨q1, q2, q3, q4, q5⟩ := hg.2 i i0 i1
  rw [zb_v_1_0, a1, v2, if_pos ⟨⟨⟨g0, g1⟩, i0, i1⟩, h5⟩]
  refine ⟨⟨g0, g1⟩, ⟨i0, by omega⟩, fun m49 e49 => ⟨q2, zb_CG_put k1 g0 g1 ⟨?_, fun x x0 x1 => ?_⟩ (fun b hb => zb_u3 e49 (by omega)), fun b b1 b2 => ?_⟩⟩
  · rw [zb_u3 e49 (by omega)]; exact hg.1
  · obtain ⟨p1, p2, p3, p4, p5⟩ := hg.2 x x0 x1
    refine ⟨by rw [zb_u3 e49 (by omega)]; exact p1, ?_, by rw [zb_u3 e49 (by omega)]; exact p3, by rw [zb_u3 e49 (by omega)]; exact p4, fun y y0 y1 => by rw [zb_u3 e49 (by omega)]; exact p5 y y0 y1⟩
    show m49 _ x = if x = i then c else _
    by_cases q : x = i
    · rw [if_pos q, q]; exact zb_u1 e49
    · rw [if_neg q, zb_u2 e49 (Or.inr q)]; exact p2
  · rw [zb_u3 e49 (by omega)]; exact k2 b b1
