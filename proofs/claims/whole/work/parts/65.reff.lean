/-! ===== swap, the reference's side ===== -/
theorem zb_len_500 : zb_len zb_E0.1 502 = 96 ∧ zb_len zb_E0.1 503 = 96 ∧ zb_len zb_E0.1 504 = 96 ∧ zb_len zb_E0.1 505 = 96 := by
  refine ⟨?_, ?_, ?_, ?_⟩ <;> decide +kernel
theorem s_X12_swap {d : Nat} {m : zb_M} {s : zb_Gs} {g i j : Int} (hC : zb_RG m s) (hO : zb_OG s) : zb_T K_X12_swap (d + 4) [(2, 500), (0, g), (0, i), (0, j)] zb_E0 m (zb_Rr m (v_swap s g i j)) := by
  apply w_X12_swap
  unfold PM_X12_swap v_swap
  refine (s_X12_isThing hC hO).mono (fun r h => ?_)
  rcases zb_if1 h with ⟨h1, h2⟩ | ⟨h1, h2⟩
  · refine ⟨fun _ => ?_, fun z => absurd h1 z⟩
    rw [if_neg (fun z => h2 z.1)]
    exact zb_Rr_same hC
  refine ⟨fun z => by omega, fun _ => (s_X12_isThing hC hO).mono (fun r2 h3 => ?_)⟩
  rcases zb_if1 h3 with ⟨h4, h5⟩ | ⟨h4, h5⟩
  · refine ⟨fun _ => ?_, fun z => absurd h4 z⟩
    rw [if_neg (fun z => h5 z.2)]
    exact zb_Rr_same hC
  rw [if_pos ⟨h2, h5⟩]
  obtain ⟨⟨g0, g1⟩, i0, i1⟩ := h2
  obtain ⟨-, j0, j1⟩ := h5
  have hn := (hO.1 g g0 g1).2.1
  refine ⟨fun z => by omega, fun _ => (s_X12_note hC hO g0 g1).mono (fun r m22 kk => ⟨zb_inI_of (by omega) (by omega), ?_⟩)⟩
  have hO2 := zb_psh_ok hO g0 g1
  have hg := kk.1.1 g g0 g1
  have hg0 : m22 501 g = (s.1 g).1 := hg.1
  unfold PL_X12_swap_34
  rw [zb_v_500_0]
  intro X hX
  refine zb_lp1 (fun v mm => 0 ≤ v ∧ (∀ x y, 0 ≤ x → x < v → 0 ≤ y → y < 12 → mm 514 (12 * x + y) = (s.1 g).2.2.2.2.2 x y) ∧ ∀ b, b ≠ 514 → mm b = m22 b) (s.1 g).1 (fun v mm ⟨v0, hv, he⟩ vn nxt => hX v mm ⟨⟨g0, g1⟩, fun c => ?_, fun c => ?_⟩) 0 m22 (by omega) ⟨by omega, fun x y x0 x1 => by omega, fun b _ => rfl⟩
  · rw [he 501 (by omega), hg0] at c
    have hvn : v = (s.1 g).1 := by omega
    subst hvn
    unfold PJ_X12_swap_89 PL_X12_swap_92
    rw [zb_v_500_0]
    intro Y hY
    refine zb_lp1 (fun w mn => 0 ≤ w ∧ ∀ b x, mn b x = if b = 506 ∧ 144 * g ≤ x ∧ x < 144 * g + 12 * w then (s.1 g).2.2.2.2.2 (zb_sw i j ((x - 144 * g) / 12)) (zb_sw i j ((x - 144 * g) % 12)) else mm b x) (s.1 g).1 (fun w mn ⟨w0, hw⟩ wn nxt => hY w mn ⟨⟨g0, g1⟩, fun c => ?_, fun c => ?_⟩) 0 mm (by omega) ⟨by omega, fun b x => by rw [if_neg (by omega)]⟩
    · rw [hw, if_neg (by omega), he 501 (by omega), hg0] at c
      have hwn : w = (s.1 g).1 := by omega
      subst hwn
      obtain ⟨l1, l2, l3, l4⟩ := zb_len_500
      unfold PJ_X12_swap_205
      rw [zb_v_500_1, zb_v_500_2, zb_v_500_3, zb_v_500_4]
      refine ⟨zb_inI_of (by omega) (by omega), zb_inI_of (by omega) (by omega), (s_X12_exchange l1 (by omega) (by omega) (by omega) (by omega)).mono (fun _ ma ⟨a1, a2, a3, a4⟩ => ?_)⟩
      refine (s_X12_exchange l2 (by omega) (by omega) (by omega) (by omega)).mono (fun _ mb ⟨b1, b2, b3, b4⟩ => ?_)
      refine (s_X12_exchange l3 (by omega) (by omega) (by omega) (by omega)).mono (fun _ mc ⟨c1, c2, c3, c4⟩ => ?_)
      refine (s_X12_exchange l4 (by omega) (by omega) (by omega) (by omega)).mono (fun _ me ⟨e1, e2, e3, e4⟩ => ?_)
      have sw12 : ∀ x, zb_sw (12 * g + i) (12 * g + j) (12 * g + x) = 12 * g + zb_sw i j x := fun x => by
        unfold zb_sw
        by_cases q : x = i
        · rw [if_pos q, if_pos (by omega)]
        · rw [if_neg q, if_neg (by omega)]
          by_cases q2 : x = j
          · rw [if_pos q2, if_pos (by omega)]
          · rw [if_neg q2, if_neg (by omega)]
      have far : ∀ x, x < 12 * g ∨ 12 * g + 12 ≤ x → zb_sw (12 * g + i) (12 * g + j) x = x := fun x hx => by
        unfold zb_sw
        rw [if_neg (by omega), if_neg (by omega)]
      have n5 : ∀ b x, b ≠ 506 → b ≠ 514 → mn b x = m22 b x := fun b x q1 q2 => by
        rw [hw, if_neg (by omega), he b q2]
      have r1 : ∀ x, me 502 x = m22 502 (zb_sw (12 * g + i) (12 * g + j) x) := fun x => by
        rw [e4 _ (by omega), c4 _ (by omega), b4 _ (by omega), zb_xc a1 a2 a3 x, n5 _ _ (by omega) (by omega)]
      have r2 : ∀ x, me 503 x = m22 503 (zb_sw (12 * g + i) (12 * g + j) x) := fun x => by
        rw [e4 _ (by omega), c4 _ (by omega), zb_xc b1 b2 b3 x, a4 _ (by omega), n5 _ _ (by omega) (by omega)]
      have r3 : ∀ x, me 504 x = m22 504 (zb_sw (12 * g + i) (12 * g + j) x) := fun x => by
        rw [e4 _ (by omega), zb_xc c1 c2 c3 x, b4 _ (by omega), a4 _ (by omega), n5 _ _ (by omega) (by omega)]
      have r4 : ∀ x, me 505 x = m22 505 (zb_sw (12 * g + i) (12 * g + j) x) := fun x => by
        rw [zb_xc e1 e2 e3 x, c4 _ (by omega), b4 _ (by omega), a4 _ (by omega), n5 _ _ (by omega) (by omega)]
      have r5 : ∀ b, (b < 502 ∨ 505 < b) → me b = mn b := fun b hb => by
        rw [e4 _ (by omega), c4 _ (by omega), b4 _ (by omega), a4 _ (by omega)]
      clear a1 a2 a3 a4 b1 b2 b3 b4 c1 c2 c3 c4 e1 e2 e3 e4
      unfold PL_X12_swap_268
      rw [zb_v_500_0, zb_v_500_4]
      intro Z hZ
      refine zb_lp1 (fun u mo => 0 ≤ u ∧ (∀ b, b ≠ 505 → mo b = me b) ∧ ∀ x, mo 505 x = if 12 * g ≤ x ∧ x < 12 * g + u then (if me 505 x < 0 then -1 else 12) else me 505 x) (s.1 g).1 (fun u mo ⟨u0, hu, hl⟩ un nxt => hZ u mo ⟨⟨g0, g1⟩, fun c => ?_, fun c => ?_⟩) 0 me (by omega) ⟨by omega, fun b _ => rfl, fun x => by rw [if_neg (by omega)]⟩
      · rw [hu 501 (by omega), r5 501 (by omega), n5 _ _ (by omega) (by omega), hg0] at c
        have hun : u = (s.1 g).1 := by omega
        subst hun
        refine zb_Rr_put kk hO g0 g1 ⟨?_, fun x x0 x1 => ?_⟩ (fun b x _ _ _ _ => ?_)
        · rw [hu 501 (by omega), r5 501 (by omega), n5 _ _ (by omega) (by omega)]; exact hg0
        · have x1 : x < (s.1 g).1 := x1
          have hx := zb_sw_rng ⟨i0, i1⟩ ⟨j0, j1⟩ ⟨x0, x1⟩
          obtain ⟨p1, p2, p3, p4, p5⟩ := hg.2 _ hx.1 hx.2
          have p4 : m22 505 (12 * g + zb_sw i j x) = (s.1 g).2.2.2.2.1 (zb_sw i j x) := p4
          have ho := ((hO.1 g g0 g1).2.2 _ hx.1 hx.2).2.2.2.1
          refine ⟨by rw [hu _ (by omega)]; rw [show (501 : Int) + 1 = 502 by rfl, r1, sw12]; exact p1, by rw [hu _ (by omega)]; rw [show (501 : Int) + 2 = 503 by rfl, r2, sw12]; exact p2, by rw [hu _ (by omega)]; rw [show (501 : Int) + 3 = 504 by rfl, r3, sw12]; exact p3, ?_, fun y y0 y1 => ?_⟩
          · show mo 505 _ = if (s.1 g).2.2.2.2.1 (zb_sw i j x) = -1 then -1 else 12
            rw [hl, if_pos (by omega), r4, sw12, p4]
            by_cases q : (s.1 g).2.2.2.2.1 (zb_sw i j x) = -1
            · rw [if_pos q, if_pos (by omega)]
            · rw [if_neg q, if_neg (by omega)]
          · have y1 : y < if (s.1 g).2.2.2.2.1 (zb_sw i j x) = -1 then -1 else 12 := y1
            have y1 : y < 12 := by
              split at y1 <;> omega
            show mo 506 _ = (s.1 g).2.2.2.2.2 (zb_sw i j x) (zb_sw i j y)
            rw [hu 506 (by omega), r5 506 (by omega), hw, if_pos (by omega)]
            rw [show (144 * g + 12 * x + y - 144 * g) / 12 = x by omega, show (144 * g + 12 * x + y - 144 * g) % 12 = y by omega]
        · by_cases q5 : b = 505
          · subst q5
            rw [hl, if_neg (by omega), r4, far x (by omega)]
          rw [hu b q5]
          by_cases q2 : b = 502
          · subst q2; rw [r1, far x (by omega)]
          by_cases q3 : b = 503
          · subst q3; rw [r2, far x (by omega)]
          by_cases q4 : b = 504
          · subst q4; rw [r3, far x (by omega)]
          rw [r5 b (by omega), hw, if_neg (by omega), he b (by omega)]
      · rw [hu 501 (by omega), r5 501 (by omega), n5 _ _ (by omega) (by omega), hg0] at c
        refine ⟨zb_inI_of (by omega) (by omega), ⟨by omega, by omega⟩, ?_⟩
        have fin : ∀ m1 : zb_M, m1 = zb_up mo 505 (12 * g + u) (if me 505 (12 * g + u) < 0 then -1 else 12) → zb_inI (u + 1) ∧ Z (u + 1) m1 := fun m1 e1 => by
          refine ⟨zb_inI_of (by omega) (by omega), nxt (by omega) m1 ⟨by omega, fun b hb => by rw [zb_u3 e1 hb]; exact hu b hb, fun x => ?_⟩⟩
          by_cases q : x = 12 * g + u
          · rw [q, zb_u1 e1, if_pos (show 12 * g ≤ 12 * g + u ∧ 12 * g + u < 12 * g + (u + 1) by omega)]
          · rw [zb_u2 e1 (by omega), hl]
            by_cases q2 : 12 * g ≤ x ∧ x < 12 * g + u
            · rw [if_pos q2, if_pos (show 12 * g ≤ x ∧ x < 12 * g + (u + 1) by omega)]
            · rw [if_neg q2, if_neg (show ¬ (12 * g ≤ x ∧ x < 12 * g + (u + 1)) by omega)]
        rw [hl, if_neg (by omega)]
        refine ⟨fun c2 m1 e1 => fin m1 (by rw [if_neg (by omega)]; exact e1), fun c2 m1 e1 => fin m1 (by rw [if_pos (by omega)]; exact e1)⟩
    · rw [hw, if_neg (by omega), he 501 (by omega), hg0] at c
      have inner : ∀ x2, x2 = zb_sw i j w → PJ_X12_swap_125 (d + 3) zb_E0 500 g i j w mn Y (zb_Rr m (1, zb_put (zb_psh s g) g (zb_swG (zb_lenG (s.1 g)) i j))) x2 := by
        intro x2 hx2
        have hr := zb_sw_rng ⟨i0, i1⟩ ⟨j0, j1⟩ ⟨w0, show w < (s.1 g).1 by omega⟩
        rw [← hx2] at hr
        unfold PJ_X12_swap_125 PL_X12_swap_130
        intro U hU
        refine zb_lp1 (fun u mo => 0 ≤ u ∧ ∀ b x, mo b x = if b = 506 ∧ 144 * g ≤ x ∧ x < 144 * g + 12 * w + u then (s.1 g).2.2.2.2.2 (zb_sw i j ((x - 144 * g) / 12)) (zb_sw i j ((x - 144 * g) % 12)) else mm b x) 12 (fun u mo ⟨u0, hu⟩ un nx2 => hU u mo ⟨fun c => ?_, fun c => ?_⟩) 0 mn (by omega) ⟨by omega, fun b x => by rw [hw, Int.add_zero]⟩
        · unfold PJ_X12_swap_199
          refine ⟨zb_inI_of (by omega) (by omega), nxt (by omega) mo ⟨by omega, fun b x => ?_⟩⟩
          rw [hu, show 144 * g + 12 * (w + 1) = 144 * g + 12 * w + u by omega]
        · have st : ∀ y2, y2 = zb_sw i j u → PJ_X12_swap_159 (d + 3) zb_E0 500 g w x2 u mo U (zb_Rr m (1, zb_put (zb_psh s g) g (zb_swG (zb_lenG (s.1 g)) i j))) y2 := by
            intro y2 hy2
            have hr2 := zb_sw_rng (n := 12) ⟨i0, by omega⟩ ⟨j0, by omega⟩ ⟨u0, show u < 12 by omega⟩
            rw [← hy2] at hr2
            unfold PJ_X12_swap_159
            rw [zb_v_500_5, zb_v_500_14]
            refine ⟨zb_inI_of (by omega) (by omega), zb_inI_of (by omega) (by omega), zb_inI_of (by omega) (by omega), zb_inI_of (by omega) (by omega), zb_inI_of (by omega) (by omega), zb_inI_of (by omega) (by omega), ⟨by omega, by omega⟩, ⟨by omega, by omega⟩, fun m1 e1 => ⟨zb_inI_of (by omega) (by omega), nx2 (by omega) m1 ⟨by omega, fun b x => ?_⟩⟩⟩
            rw [hu, if_neg (by omega), hv x2 y2 hr.1 hr.2 hr2.1 hr2.2] at e1
            by_cases q : b = 506 ∧ x = 144 * g + 12 * w + u
            · obtain ⟨rfl, rfl⟩ := q
              rw [zb_u1 e1, if_pos (by omega), show (144 * g + 12 * w + u - 144 * g) / 12 = w by omega, show (144 * g + 12 * w + u - 144 * g) % 12 = u by omega, ← hx2, ← hy2]
            · rw [zb_u2 e1 (by omega), hu]
              by_cases q2 : b = 506 ∧ 144 * g ≤ x ∧ x < 144 * g + 12 * w + u
              · rw [if_pos q2, if_pos (show b = 506 ∧ 144 * g ≤ x ∧ x < 144 * g + 12 * w + (u + 1) by omega)]
              · rw [if_neg q2, if_neg (show ¬ (b = 506 ∧ 144 * g ≤ x ∧ x < 144 * g + 12 * w + (u + 1)) by omega)]
          refine ⟨fun q => st j (by unfold zb_sw; rw [if_pos q]), fun q => ⟨fun q2 => st i (by unfold zb_sw; rw [if_neg q, if_pos q2]), fun q2 => st u (by unfold zb_sw; rw [if_neg q, if_neg q2])⟩⟩
      refine ⟨fun q => inner j (by unfold zb_sw; rw [if_pos q]), fun q => ⟨fun q2 => inner i (by unfold zb_sw; rw [if_neg q, if_pos q2]), fun q2 => inner w (by unfold zb_sw; rw [if_neg q, if_neg q2])⟩⟩
  · rw [he 501 (by omega), hg0] at c
    unfold PL_X12_swap_48
    rw [zb_v_500_14]
    intro Y hY
    refine zb_lp1 (fun w mn => 0 ≤ w ∧ (∀ x y, 0 ≤ x → x < v → 0 ≤ y → y < 12 → mn 514 (12 * x + y) = (s.1 g).2.2.2.2.2 x y) ∧ (∀ y, 0 ≤ y → y < w → mn 514 (12 * v + y) = (s.1 g).2.2.2.2.2 v y) ∧ ∀ b, b ≠ 514 → mn b = m22 b) 12 (fun w mn ⟨w0, hw, hw2, he2⟩ wn nx2 => hY w mn ⟨fun c => ?_, fun c => ?_⟩) 0 mm (by omega) ⟨by omega, hv, fun y y0 y1 => by omega, he⟩
    · unfold PJ_X12_swap_83
      refine ⟨zb_inI_of (by omega) (by omega), nxt (by omega) mn ⟨by omega, fun x y x0 x1 y0 y1 => ?_, he2⟩⟩
      by_cases q : x = v
      · rw [q]; exact hw2 y y0 (by omega)
      · exact hw x y x0 (by omega) y0 y1
    · have hRG : zb_RG mn (zb_psh s g) := zb_RG_same kk.1 (fun b b0 b1 => he2 b (by omega)) (by rw [he2 500 (by omega)])
      refine ⟨zb_inI_of (by omega) (by omega), zb_inI_of (by omega) (by omega), (s_X12_lineOf hRG hO2 g0 g1 v0 (show v < (s.1 g).1 by omega) w0 (by omega)).mono (fun r hr => ⟨⟨by omega, by omega⟩, fun m1 e1 => ⟨zb_inI_of (by omega) (by omega), nx2 (by omega) m1 ⟨by omega, fun x y x0 x1 y0 y1 => ?_, fun y y0 y1 => ?_, fun b hb => by rw [zb_u3 e1 hb]; exact he2 b hb⟩⟩⟩)⟩
      · rw [zb_u2 e1 (by omega)]; exact hw x y x0 x1 y0 y1
      · by_cases q : y = w
        · rw [q, zb_u1 e1, hr]; rfl
        · rw [zb_u2 e1 (by omega)]; exact hw2 y y0 (by omega)
