/-! ===== more calls on graphs, the reference's side ===== -/
theorem zb_lq {X : Int → Int → Prop} (I : Int → Int → Prop) (n : Int) (hs : ∀ c v, I c v → v ≤ n → (v < n → ∀ c', I c' (v + 1) → X c' (v + 1)) → X c v) : ∀ c v, v ≤ n → I c v → X c v := by
  have key : ∀ (f : Nat) (c v : Int), n - v ≤ f → v ≤ n → I c v → X c v := by
    intro f
    induction f with
    | zero => intro c v h1 h2 h3; exact hs c v h3 h2 (fun z => by omega)
    | succ f ih => intro c v h1 h2 h3; exact hs c v h3 h2 (fun z c' h' => ih c' (v + 1) (by omega) (by omega) h')
  intro c v h1 h2
  exact key (n - v).toNat c v (by omega) h1 h2
theorem s_X12_exchange {d : Nat} {m : zb_M} {a i j ln : Int} (hl : zb_len zb_E0.1 a = ln) (h0 : 0 ≤ i) (h1 : i < ln) (j0 : 0 ≤ j) (j1 : j < ln) : zb_T K_X12_exchange (d + 1) [(2, a), (0, i), (0, j)] zb_E0 m (fun _ m1 => m1 a i = m a j ∧ m1 a j = m a i ∧ (∀ k, k ≠ i → k ≠ j → m1 a k = m a k) ∧ ∀ b, b ≠ a → m1 b = m b) := by
  apply w_X12_exchange
  unfold PM_X12_exchange
  rw [hl]
  refine ⟨⟨h0, h1⟩, ⟨j0, j1⟩, fun m9 e9 m13 e13 => ⟨?_, zb_u1 e13, fun k k1 k2 => ?_, fun b hb => ?_⟩⟩
  · by_cases q : i = j
    · subst q; exact zb_u1 e13
    · rw [zb_u2 e13 (Or.inr q)]; exact zb_u1 e9
  · rw [zb_u2 e13 (Or.inr k2)]; exact zb_u2 e9 (Or.inr k1)
  · rw [zb_u3 e13 hb]; exact zb_u3 e9 hb
theorem zb_RG_same {m m1 : zb_M} {s : zb_Gs} (h : zb_RG m s) (he : ∀ b, 501 ≤ b → b ≤ 513 → m1 b = m b) (h5 : m1 500 13 = m 500 13) : zb_RG m1 s := by
  obtain ⟨r1, r2, r3⟩ := h
  refine ⟨fun x x0 x1 => zb_Rg_same (r1 x x0 x1) (fun c c0 c1 => he c c0 (by omega)), by rw [h5]; exact r2, fun k k0 k1 => ?_⟩
  rw [he 507 (by omega) (by omega)]
  exact ⟨(r3 k k0 k1).1, zb_Rg_same (r3 k k0 k1).2 (fun c c0 c1 => he c (by omega) (by omega))⟩
theorem s_X12_copy {d : Nat} {m : zb_M} {s : zb_Gs} {g i frm o k to n : Int} (hC : zb_RG m s) (hO : zb_OG s) (hfi : zb_inI frm) (hti : zb_inI to) (hni : zb_inI n) : zb_T K_X12_copy (d + 4) [(2, 500), (0, g), (0, i), (0, frm), (0, o), (0, k), (0, to), (0, n)] zb_E0 m (zb_Rr m (v_copy s g i frm o k to n)) := by
  apply w_X12_copy
  unfold PM_X12_copy v_copy
  refine (s_X12_isThing hC hO).mono (fun r h => ?_)
  rcases zb_if1 h with ⟨h1, h2⟩ | ⟨h1, h2⟩
  · refine ⟨fun _ => ?_, fun z => absurd h1 z⟩
    rw [if_neg (fun z => h2 z.1)]
    exact zb_Rr_same hC
  refine ⟨fun z => by omega, fun _ => (s_X12_isThing hC hO).mono (fun r2 h3 => ?_)⟩
  rcases zb_if1 h3 with ⟨h4, h5⟩ | ⟨h4, h5⟩
  · refine ⟨fun _ => ?_, fun z => absurd h4 z⟩
    rw [if_neg (fun z => h5 z.2)]
    exact zb_Rr_same hC
  rw [if_pos ⟨h2, h5⟩]
  obtain ⟨⟨g0, g1⟩, i0, i1⟩ := h2
  obtain ⟨⟨o0, o1⟩, k0, k1⟩ := h5
  have hn := (hO.1 g g0 g1).2.1
  have hn2 := (hO.1 o o0 o1).2.1
  have ho := ((hO.1 g g0 g1).2.2 i i0 i1).2.2.2.1
  have ho2 := ((hO.1 o o0 o1).2.2 k k0 k1).2.2.2.1
  obtain ⟨-, -, -, z4, -⟩ := (hC.1 g g0 g1).2 i i0 i1
  obtain ⟨-, -, -, y4, -⟩ := (hC.1 o o0 o1).2 k k0 k1
  have z4 : m 505 (12 * g + i) = (s.1 g).2.2.2.2.1 i := z4
  have y4 : m 505 (12 * o + k) = (s.1 o).2.2.2.2.1 k := y4
  rw [zb_v_500_4, z4, y4]
  obtain ⟨fi1, fi2⟩ := hfi
  obtain ⟨ti1, ti2⟩ := hti
  obtain ⟨ni1, ni2⟩ := hni
  have nul : ((s.1 g).2.2.2.2.1 i = -1 ∨ (s.1 o).2.2.2.2.1 k = -1) → zb_Rr m (if (s.1 g).2.2.2.2.1 i = -1 ∨ (s.1 o).2.2.2.2.1 k = -1 then (-11, s) else if 0 ≤ n ∧ 0 ≤ frm ∧ 0 ≤ to ∧ frm + n ≤ (s.1 g).2.2.2.2.1 i ∧ to + n ≤ (s.1 o).2.2.2.2.1 k then (n, zb_put (zb_psh s o) o (zb_cpG (s.1 g) (s.1 o) i frm k to n)) else (-12, s)) (-11) m := fun c => by
    rw [if_pos c]; exact zb_Rr_same hC
  refine ⟨fun z => by omega, fun _ => ⟨zb_inI_of (by omega) (by omega), zb_inI_of (by omega) (by omega), ⟨by omega, by omega⟩, zb_inI_of (by omega) (by omega), zb_inI_of (by omega) (by omega), ⟨by omega, by omega⟩, fun c => nul (by omega), fun c => ⟨fun c2 => ?_, fun c2 => nul (by omega)⟩⟩⟩
  rw [if_neg (show ¬ ((s.1 g).2.2.2.2.1 i = -1 ∨ (s.1 o).2.2.2.2.1 k = -1) by omega)]
  have idx : ¬ (0 ≤ n ∧ 0 ≤ frm ∧ 0 ≤ to ∧ frm + n ≤ (s.1 g).2.2.2.2.1 i ∧ to + n ≤ (s.1 o).2.2.2.2.1 k) → zb_Rr m (if 0 ≤ n ∧ 0 ≤ frm ∧ 0 ≤ to ∧ frm + n ≤ (s.1 g).2.2.2.2.1 i ∧ to + n ≤ (s.1 o).2.2.2.2.1 k then (n, zb_put (zb_psh s o) o (zb_cpG (s.1 g) (s.1 o) i frm k to n)) else (-12, s)) (-12) m := fun c => by
    rw [if_neg c]; exact zb_Rr_same hC
  refine ⟨fun c3 => idx (by omega), fun c3 => ⟨fun c4 => idx (by omega), fun c4 => ⟨fun c5 => idx (by omega), fun c5 => ⟨fun c6 => idx (by omega), fun c6 => ⟨zb_inI_of (by omega) (by omega), fun c7 => idx (by omega), fun c7 => ⟨fun c8 => idx (by omega), fun c8 => ⟨zb_inI_of (by omega) (by omega), fun c9 => ?_, fun c9 => idx (by omega)⟩⟩⟩⟩⟩⟩⟩
  rw [if_pos (show 0 ≤ n ∧ 0 ≤ frm ∧ 0 ≤ to ∧ frm + n ≤ (s.1 g).2.2.2.2.1 i ∧ to + n ≤ (s.1 o).2.2.2.2.1 k by omega)]
  refine (s_X12_note hC hO o0 o1).mono (fun r m22 kk => ?_)
  have hgg := kk.1.1 g g0 g1
  have hg := kk.1.1 o o0 o1
  unfold PL_X12_copy_122
  rw [zb_v_500_5, zb_v_500_14]
  intro X hX
  refine zb_lp1 (fun v mm => 0 ≤ v ∧ ∀ b j, mm b j = if b = 514 ∧ 0 ≤ j ∧ j < v then (s.1 g).2.2.2.2.2 i (frm + j) else m22 b j) n (fun v mm ⟨v0, hv⟩ vn nxt => hX v mm ⟨fun c => ?_, fun c => ?_⟩) 0 m22 (by omega) ⟨by omega, fun b j => by rw [if_neg (by omega)]⟩
  · have hvn : v = n := by omega
    subst hvn
    unfold PJ_X12_copy_162 PL_X12_copy_165
    rw [zb_v_500_5, zb_v_500_14]
    intro Y hY
    refine zb_lp1 (fun w mn => 0 ≤ w ∧ ∀ b j, mn b j = if b = 506 ∧ 144 * o + 12 * k + to ≤ j ∧ j < 144 * o + 12 * k + to + w then (s.1 g).2.2.2.2.2 i (frm + (j - (144 * o + 12 * k + to))) else mm b j) v (fun w mn ⟨w0, hw⟩ wn nxt => hY w mn ⟨fun c => ?_, fun c => ?_⟩) 0 mm (by omega) ⟨by omega, fun b j => by rw [if_neg (by omega)]⟩
    · have hwn : w = v := by omega
      subst hwn
      refine zb_Rr_put kk hO o0 o1 ⟨?_, fun x x0 x1 => ?_⟩ (fun b j _ _ _ _ => by rw [hw, if_neg (by omega), hv, if_neg (by omega)])
      · rw [hw, if_neg (by omega), hv, if_neg (by omega)]; exact hg.1
      · obtain ⟨p1, p2, p3, p4, p5⟩ := hg.2 x x0 x1
        refine ⟨by rw [hw, if_neg (by omega), hv, if_neg (by omega)]; exact p1, by rw [hw, if_neg (by omega), hv, if_neg (by omega)]; exact p2, by rw [hw, if_neg (by omega), hv, if_neg (by omega)]; exact p3, by rw [hw, if_neg (by omega), hv, if_neg (by omega)]; exact p4, fun y y0 y1 => ?_⟩
        have y1 : y < (s.1 o).2.2.2.2.1 x := y1
        have := (((hO.1 o o0 o1).2.2 x x0 x1).2.2.2.1).2
        show mn _ _ = if x = k ∧ to ≤ y ∧ y < to + w then (s.1 g).2.2.2.2.2 i (frm + (y - to)) else _
        by_cases q : x = k ∧ to ≤ y ∧ y < to + w
        · rw [if_pos q, hw, if_pos (by omega), show frm + (144 * o + 12 * x + y - (144 * o + 12 * k + to)) = frm + (y - to) by omega]
        · rw [if_neg q, hw, if_neg (by omega), hv, if_neg (by omega)]
          exact p5 y y0 y1
    · refine ⟨zb_inI_of (by omega) (by omega), zb_inI_of (by omega) (by omega), zb_inI_of (by omega) (by omega), zb_inI_of (by omega) (by omega), zb_inI_of (by omega) (by omega), ⟨by omega, by omega⟩, ⟨by omega, by omega⟩, fun m1 e1 => ⟨zb_inI_of (by omega) (by omega), nxt (by omega) m1 ⟨by omega, fun b j => ?_⟩⟩⟩
      rw [hw, if_neg (by omega), hv, if_pos (by omega)] at e1
      by_cases q : b = 506 ∧ j = 144 * o + 12 * k + to + w
      · obtain ⟨rfl, rfl⟩ := q
        rw [zb_u1 e1, if_pos (by omega), show frm + (144 * o + 12 * k + to + w - (144 * o + 12 * k + to)) = frm + w by omega]
      · rw [zb_u2 e1 (by omega), hw]
        by_cases q2 : b = 506 ∧ 144 * o + 12 * k + to ≤ j ∧ j < 144 * o + 12 * k + to + w
        · rw [if_pos q2, if_pos (by omega)]
        · rw [if_neg q2, if_neg (by omega)]
  · refine ⟨zb_inI_of (by omega) (by omega), zb_inI_of (by omega) (by omega), zb_inI_of (by omega) (by omega), zb_inI_of (by omega) (by omega), zb_inI_of (by omega) (by omega), ⟨by omega, by omega⟩, ⟨by omega, by omega⟩, fun m1 e1 => ⟨zb_inI_of (by omega) (by omega), nxt (by omega) m1 ⟨by omega, fun b j => ?_⟩⟩⟩
    have e9 : m22 506 (144 * g + 12 * i + (frm + v)) = (s.1 g).2.2.2.2.2 i (frm + v) := (hgg.2 i i0 i1).2.2.2.2 (frm + v) (by omega) (by show frm + v < (s.1 g).2.2.2.2.1 i; omega)
    rw [← Int.add_assoc] at e9
    rw [hv, if_neg (by omega), e9] at e1
    by_cases q : b = 514 ∧ j = v
    · obtain ⟨rfl, rfl⟩ := q
      rw [zb_u1 e1, if_pos (by omega)]
    · rw [zb_u2 e1 (by omega), hv]
      by_cases q2 : b = 514 ∧ 0 ≤ j ∧ j < v
      · rw [if_pos q2, if_pos (by omega)]
      · rw [if_neg q2, if_neg (by omega)]
theorem s_X12_twin {d : Nat} {m : zb_M} {s : zb_Gs} {f t : Int} (hC : zb_RG m s) (hO : zb_OG s) : zb_T K_X12_twin (d + 4) [(2, 500), (0, f), (0, t)] zb_E0 m (zb_Rr m (v_twin s f t)) := by
  apply w_X12_twin
  unfold PM_X12_twin v_twin
  refine s_X12_isGraph.mono (fun r h => ?_)
  rcases zb_if1 h with ⟨h1, h2⟩ | ⟨h1, h2⟩
  · refine ⟨fun _ => ?_, fun z => absurd h1 z⟩
    rw [if_neg (fun z => h2 z.1)]
    exact zb_Rr_same hC
  refine ⟨fun z => by omega, fun _ => s_X12_isGraph.mono (fun r h => ?_)⟩
  rcases zb_if1 h with ⟨h3, h4⟩ | ⟨h3, h4⟩
  · refine ⟨fun _ => ?_, fun z => absurd h3 z⟩
    rw [if_neg (fun z => h4 z.2)]
    exact zb_Rr_same hC
  rw [if_pos ⟨h2, h4⟩]
  obtain ⟨f0, f1⟩ := h2
  obtain ⟨t0, t1⟩ := h4
  rw [zb_v_500_0]
  refine ⟨fun z => by omega, fun _ => (s_X12_note hC hO t0 t1).mono (fun r m22 k => ⟨⟨f0, f1⟩, ⟨t0, t1⟩, fun ma ea => ?_⟩)⟩
  have hg := k.1.1 f f0 f1
  have e0 : m22 501 f = (s.1 f).1 := hg.1
  unfold PL_X12_twin_37
  rw [zb_v_500_1, zb_v_500_2, zb_v_500_3, zb_v_500_4]
  intro X hX
  refine zb_lp1 (fun v mm => 0 ≤ v ∧ ∀ b j, mm b j = if (502 ≤ b ∧ b ≤ 505) ∧ 12 * t ≤ j ∧ j < 12 * t + v then m22 b (12 * f + (j - 12 * t)) else ma b j) 12 (fun v mm ⟨v0, hv⟩ vn nxt => hX v mm ⟨fun c => ?_, fun c => ?_⟩) 0 ma (by omega) ⟨by omega, fun b j => by rw [if_neg (by omega)]⟩
  · have hv12 : v = 12 := by omega
    subst hv12
    unfold PJ_X12_twin_137 PL_X12_twin_139
    rw [zb_v_500_5]
    intro Y hY
    refine zb_lp1 (fun v mn => 0 ≤ v ∧ ∀ b j, mn b j = if b = 506 ∧ 144 * t ≤ j ∧ j < 144 * t + v then m22 506 (144 * f + (j - 144 * t)) else mm b j) 144 (fun w mn ⟨w0, hw⟩ wn nxt => hY w mn ⟨fun c => ?_, fun c => ?_⟩) 0 mm (by omega) ⟨by omega, fun b j => by rw [if_neg (by omega)]⟩
    · have hw12 : w = 144 := by omega
      subst hw12
      unfold PJ_X12_twin_176
      have e1 : mn 501 t = (s.1 f).1 := by rw [hw, if_neg (by omega), hv, if_neg (by omega), zb_u1 ea]; exact e0
      rw [zb_v_500_0, e1]
      refine zb_Rr_put k hO t0 t1 (zb_Rg_mv hg (hO.1 f f0 f1) (by rw [e1]; exact e0.symm) (fun x x0 x1 => ?_) (fun x x0 x1 => ?_) (fun x x0 x1 => ?_) (fun x x0 x1 => ?_) (fun x x0 x1 => ?_)) (fun b j _ _ _ _ => by rw [hw, if_neg (by omega), hv, if_neg (by omega), zb_u2 ea (by omega)])
      · rw [hw, if_neg (by omega), hv, if_pos (by omega)]; congr 1; omega
      · rw [hw, if_neg (by omega), hv, if_pos (by omega)]; congr 1; omega
      · rw [hw, if_neg (by omega), hv, if_pos (by omega)]; congr 1; omega
      · rw [hw, if_neg (by omega), hv, if_pos (by omega)]; congr 1; omega
      · rw [hw, if_pos (by omega)]; congr 1; omega
    · refine ⟨zb_inI_of (by omega) (by omega), zb_inI_of (by omega) (by omega), zb_inI_of (by omega) (by omega), zb_inI_of (by omega) (by omega), ⟨by omega, by omega⟩, ⟨by omega, by omega⟩, fun m1 e1 => ⟨zb_inI_of (by omega) (by omega), nxt (by omega) m1 ⟨by omega, fun b j => ?_⟩⟩⟩
      have er : mn 506 (144 * f + w) = m22 506 (144 * f + w) := by
        rw [hw]
        by_cases q : (506 : Int) = 506 ∧ 144 * t ≤ 144 * f + w ∧ 144 * f + w < 144 * t + w
        · omega
        · rw [if_neg q, hv, if_neg (by omega), zb_u3 ea (by omega)]
      rw [er] at e1
      by_cases q : b = 506 ∧ j = 144 * t + w
      · obtain ⟨rfl, rfl⟩ := q
        rw [zb_u1 e1, if_pos (by omega)]; congr 1; omega
      · rw [zb_u2 e1 (by omega), hw]
        by_cases q2 : b = 506 ∧ 144 * t ≤ j ∧ j < 144 * t + w
        · rw [if_pos q2, if_pos (by omega)]
        · rw [if_neg q2, if_neg (by omega)]
  · have rd : ∀ b, 502 ≤ b → b ≤ 505 → mm b (12 * f + v) = m22 b (12 * f + v) := fun b b0 b1 => by
      rw [hv]
      by_cases q : (502 ≤ b ∧ b ≤ 505) ∧ 12 * t ≤ 12 * f + v ∧ 12 * f + v < 12 * t + v
      · omega
      · rw [if_neg q, zb_u3 ea (by omega)]
    refine ⟨zb_inI_of (by omega) (by omega), zb_inI_of (by omega) (by omega), zb_inI_of (by omega) (by omega), zb_inI_of (by omega) (by omega), ⟨by omega, by omega⟩, ⟨by omega, by omega⟩, fun m1 e1 m2 e2 m3 e3 m4 e4 => ⟨zb_inI_of (by omega) (by omega), nxt (by omega) m4 ⟨by omega, fun b j => ?_⟩⟩⟩
    rw [zb_u3 e1 (by omega)] at e2
    rw [zb_u3 e2 (by omega), zb_u3 e1 (by omega)] at e3
    rw [zb_u3 e3 (by omega), zb_u3 e2 (by omega), zb_u3 e1 (by omega)] at e4
    rw [rd _ (by omega) (by omega)] at e1 e2 e3 e4
    by_cases q1 : (502 ≤ b ∧ b ≤ 505) ∧ j = 12 * t + v
    · obtain ⟨⟨b0, b1⟩, qj⟩ := q1
      rw [if_pos (by omega)]
      have ej : 12 * f + (j - 12 * t) = 12 * f + v := by omega
      rw [ej]
      have hbc : b = 502 ∨ b = 503 ∨ b = 504 ∨ b = 505 := by omega
      rcases hbc with q1 | q1 | q1 | q1 <;> subst q1 <;> subst qj
      · rw [zb_u3 e4 (by omega), zb_u3 e3 (by omega), zb_u3 e2 (by omega), zb_u1 e1]
      · rw [zb_u3 e4 (by omega), zb_u3 e3 (by omega), zb_u1 e2]
      · rw [zb_u3 e4 (by omega), zb_u1 e3]
      · rw [zb_u1 e4]
    · rw [zb_u2 e4 (by omega), zb_u2 e3 (by omega), zb_u2 e2 (by omega), zb_u2 e1 (by omega), hv]
      by_cases q2 : (502 ≤ b ∧ b ≤ 505) ∧ 12 * t ≤ j ∧ j < 12 * t + v
      · rw [if_pos q2, if_pos (by omega)]
      · rw [if_neg q2, if_neg (by omega)]
theorem s_X12_keyOf {d : Nat} {m : zb_M} {s : zb_Gs} {g i : Int} (hC : zb_RG m s) (hO : zb_OG s) (g0 : 0 ≤ g) (g1 : g < 8) (i0 : 0 ≤ i) (i1 : i < (s.1 g).1) : zb_Tp K_X12_keyOf (d + 3) [(2, 500), (0, g), (0, i)] zb_E0 m (fun r => r = zb_key (s.1 g) i) := by
  apply w_X12_keyOf
  unfold PM_X12_keyOf
  have hn := (hO.1 g g0 g1).2.1
  obtain ⟨q1, q2, q3, q4, q5⟩ := (hC.1 g g0 g1).2 i i0 i1
  obtain ⟨o1, o2, o3, o4, o5⟩ := (hO.1 g g0 g1).2.2 i i0 i1
  have q1 : m 502 (12 * g + i) = (s.1 g).2.1 i := q1
  have q2 : m 503 (12 * g + i) = (s.1 g).2.2.1 i := q2
  have q3 : m 504 (12 * g + i) = (s.1 g).2.2.2.1 i := q3
  have fin : ∀ x : Int, x = (if zb_nk ((s.1 g).2.1 i) then 10 * ((s.1 g).2.2.2.1 i + 1) else 0) → PJ_X12_keyOf_44 (d + 2) zb_E0 500 g i m (fun r => r = zb_key (s.1 g) i) x := by
    intro x hx
    have x01 : 0 ≤ x ∧ x ≤ 1000 := by rw [hx]; split <;> omega
    unfold PJ_X12_keyOf_44 zb_key
    rw [zb_v_500_1, zb_v_500_2, q1, q2, ← hx]
    refine ⟨zb_inI_of (by omega) (by omega), fun c => ⟨zb_inI_of (by omega) (by omega), ?_⟩, fun c => ⟨fun c2 => ⟨zb_inI_of (by omega) (by omega), ?_⟩, fun c2 => ?_⟩⟩
    · rw [if_pos c, if_neg (by omega)]; omega
    · rw [if_neg c, if_pos c2]; omega
    · rw [if_neg c, if_neg c2]; omega
  rw [zb_v_500_1, zb_v_500_3, q1, q3]
  refine ⟨zb_inI_of (by omega) (by omega), zb_inI_of (by omega) (by omega), ⟨by omega, by omega⟩, s_X12_isNamed.mono (fun r h => ?_)⟩
  rcases zb_if1 h with ⟨h1, h2⟩ | ⟨h1, h2⟩
  · exact ⟨fun _ => fin 0 (by rw [if_neg h2]), fun z => absurd h1 z⟩
  · exact ⟨fun z => by omega, fun _ => ⟨zb_inI_of (by omega) (by omega), zb_inI_of (by omega) (by omega), fin _ (by rw [if_pos h2])⟩⟩
theorem s_X12_told {d : Nat} {m : zb_M} {s : zb_Gs} {g i w : Int} (hC : zb_RG m s) (hO : zb_OG s) : zb_Tp K_X12_told (d + 4) [(2, 500), (0, g), (0, i), (0, w)] zb_E0 m (fun r => r = v_told s g i w) := by
  apply w_X12_told
  unfold PM_X12_told v_told
  refine (s_X12_isThing hC hO).mono (fun r h => ?_)
  rcases zb_if1 h with ⟨h1, h2⟩ | ⟨h1, h2⟩
  · refine ⟨fun _ => ?_, fun z => absurd h1 z⟩
    rw [if_neg h2]
  rw [if_pos h2]
  obtain ⟨⟨g0, g1⟩, i0, i1⟩ := h2
  have hn := (hO.1 g g0 g1).2.1
  obtain ⟨q1, q2, q3, q4, q5⟩ := (hC.1 g g0 g1).2 i i0 i1
  have ho := ((hO.1 g g0 g1).2.2 i i0 i1).2.2.2.1
  have q1 : m 502 (12 * g + i) = (s.1 g).2.1 i := q1
  have q2 : m 503 (12 * g + i) = (s.1 g).2.2.1 i := q2
  have q4 : m 505 (12 * g + i) = (s.1 g).2.2.2.2.1 i := q4
  rw [zb_v_500_1, zb_v_500_2, zb_v_500_4, q1, q2, q4]
  refine ⟨fun z => by omega, fun _ => s_X12_in.mono (fun r h => ?_)⟩
  rcases zb_if1 h with ⟨h3, h4⟩ | ⟨h3, h4⟩
  · refine ⟨fun _ => ?_, fun z => absurd h3 z⟩
    rw [if_neg (by omega), if_neg (by omega), if_neg (by omega), if_neg (by omega), if_neg (by omega)]
  refine ⟨fun z => by omega, fun _ => ⟨zb_inI_of (by omega) (by omega), zb_inI_of (by omega) (by omega), fun c => ?_, fun c => ?_, fun c => ?_, fun c => ?_, fun c => ?_⟩⟩
  · rw [if_pos c]; exact ⟨⟨by omega, by omega⟩, rfl⟩
  · rw [if_neg (by omega), if_pos c]; exact ⟨⟨by omega, by omega⟩, rfl⟩
  · rw [if_neg (by omega), if_neg (by omega), if_pos c]
    exact s_X12_keyOf hC hO g0 g1 i0 i1
  · rw [if_neg (by omega), if_neg (by omega), if_neg (by omega), if_pos c]
    refine ⟨⟨by omega, by omega⟩, fun c2 => ?_, fun c2 => ?_⟩
    · rw [if_neg (by omega)]
    · rw [if_pos (by omega)]
  · rw [if_neg (by omega), if_neg (by omega), if_neg (by omega), if_neg (by omega), if_pos (by omega)]
    refine ⟨⟨by omega, by omega⟩, s_X12_isNamed.mono (fun r h => ?_)⟩
    rcases zb_if1 h with ⟨h5, h6⟩ | ⟨h5, h6⟩
    · rw [if_neg h6]; exact ⟨fun _ => rfl, fun z => absurd h5 z⟩
    · rw [if_pos h6]; exact ⟨fun z => by omega, fun _ => rfl⟩
