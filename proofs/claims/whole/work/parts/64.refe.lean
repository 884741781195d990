/-! ===== counting, swapping, undoing: the reference's side ===== -/
theorem s_X12_shownOf {d : Nat} {m : zb_M} {s : zb_Gs} {g : Int} (hC : zb_RG m s) (hO : zb_OG s) (g0 : 0 ≤ g) (g1 : g < 8) : zb_Tp K_X12_shownOf (d + 1) [(2, 500), (0, g)] zb_E0 m (fun r => r = zb_cnt (fun i => !((s.1 g).2.1 i == 4)) (s.1 g).1.toNat) := by
  apply w_X12_shownOf
  have hn := (hO.1 g g0 g1).2.1
  have hn0 := (hO.1 g g0 g1).1
  have e0 : m 501 g = (s.1 g).1 := (hC.1 g g0 g1).1
  unfold PM_X12_shownOf PL_X12_shownOf_7
  rw [zb_v_500_0, zb_v_500_1, e0]
  refine ⟨zb_inI_of (by omega) (by omega), ?_⟩
  intro X hX
  refine zb_lq (fun c v => 12 * g ≤ v ∧ c = zb_cnt (fun i => !((s.1 g).2.1 i == 4)) (v - 12 * g).toNat) (12 * g + (s.1 g).1) (fun c v ⟨v0, hc⟩ vn nxt => hX c v ⟨⟨g0, g1⟩, zb_inI_of (by omega) (by omega), fun z => ?_, fun z => ⟨⟨by omega, by omega⟩, ?_⟩⟩) 0 (12 * g) (by omega) ⟨by omega, by rw [Int.sub_self]; rfl⟩
  · have hv : v = 12 * g + (s.1 g).1 := by omega
    rw [hc, hv]
    congr 1
    omega
  · obtain ⟨q1, -⟩ := (hC.1 g g0 g1).2 (v - 12 * g) (by omega) (by omega)
    have q1 : m 502 (12 * g + (v - 12 * g)) = (s.1 g).2.1 (v - 12 * g) := q1
    rw [show 12 * g + (v - 12 * g) = v by omega] at q1
    have hr := zb_cnt_rng (fun i => !((s.1 g).2.1 i == 4)) (v - 12 * g).toNat
    have es : v + 1 - 12 * g = (v - 12 * g) + 1 := by omega
    rw [q1]
    refine ⟨fun k => ⟨zb_inI_of (by omega) (by omega), zb_inI_of (by omega) (by omega), nxt (by omega) _ ⟨by omega, ?_⟩⟩, fun k => ⟨zb_inI_of (by omega) (by omega), zb_inI_of (by omega) (by omega), nxt (by omega) _ ⟨by omega, ?_⟩⟩⟩
    · rw [es, zb_cnt_S _ (by omega), hc]; simp [k]
    · rw [es, zb_cnt_S _ (by omega), hc]; simp [k]
theorem zb_rti_01 (g : zb_Gv) : (zb_rti g = 1 ∧ zb_rt g) ∨ (zb_rti g = 0 ∧ ¬ zb_rt g) := by
  unfold zb_rti
  by_cases h : zb_rt g
  · rw [if_pos h]; exact Or.inl ⟨rfl, h⟩
  · rw [if_neg h]; exact Or.inr ⟨rfl, h⟩
theorem s_X12_isRight {d : Nat} {m : zb_M} {s : zb_Gs} {g : Int} (hC : zb_RG m s) (hO : zb_OG s) (g0 : 0 ≤ g) (g1 : g < 8) : zb_Tp K_X12_isRight (d + 3) [(2, 500), (0, g)] zb_E0 m (fun r => r = zb_rti (s.1 g)) := by
  apply w_X12_isRight
  have hn := (hO.1 g g0 g1).2.1
  have hn0 := (hO.1 g g0 g1).1
  have e0 : m 501 g = (s.1 g).1 := (hC.1 g g0 g1).1
  have rk : ∀ v, 12 * g ≤ v → v < 12 * g + (s.1 g).1 → m 502 v = (s.1 g).2.1 (v - 12 * g) ∧ m 504 v = (s.1 g).2.2.2.1 (v - 12 * g) := fun v v0 v1 => by
    obtain ⟨q1, q2, q3, -⟩ := (hC.1 g g0 g1).2 (v - 12 * g) (by omega) (by omega)
    have q1 : m 502 (12 * g + (v - 12 * g)) = (s.1 g).2.1 (v - 12 * g) := q1
    have q3 : m 504 (12 * g + (v - 12 * g)) = (s.1 g).2.2.2.1 (v - 12 * g) := q3
    rw [show 12 * g + (v - 12 * g) = v by omega] at q1 q3
    exact ⟨q1, q3⟩
  unfold PM_X12_isRight PL_X12_isRight_7
  rw [zb_v_500_0]
  refine ⟨zb_inI_of (by omega) (by omega), ?_⟩
  intro X hX
  refine zb_lq (fun c v => 12 * g ≤ v ∧ ((c = 1 ∧ ∀ i, 0 ≤ i → i < v - 12 * g → ((s.1 g).2.1 i = 2 → zb_nsk (s.1 g) i = 0) ∧ ((s.1 g).2.1 i = 3 → zb_nsk (s.1 g) i = 1)) ∨ (c = 0 ∧ ¬ zb_rt (s.1 g)))) (12 * g + (s.1 g).1) (fun c v ⟨v0, hc⟩ vn nxt => hX c v ⟨⟨g0, g1⟩, by rw [e0]; exact zb_inI_of (by omega) (by omega), fun z => ?_, fun z => ?_⟩) 1 (12 * g) (by omega) ⟨by omega, Or.inl ⟨rfl, fun i i0 i1 => by omega⟩⟩
  · rw [e0] at z
    refine ⟨by omega, ?_⟩
    rcases zb_rti_01 (s.1 g) with ⟨h1, h2⟩ | ⟨h1, h2⟩
    · rw [h1]
      rcases hc with ⟨h3, -⟩ | ⟨-, h4⟩
      · exact h3
      · exact absurd h2 h4
    · rw [h1]
      rcases hc with ⟨h3, h4⟩ | ⟨h3, -⟩
      · exact absurd (fun i i0 i1 => h4 i i0 (by omega)) h2
      · exact h3
  · rw [e0] at z
    unfold PL_X12_isRight_31
    rw [zb_v_500_0, zb_v_500_1, zb_v_500_3, e0]
    obtain ⟨kv, wv⟩ := rk v (by omega) (by omega)
    intro Y hY
    refine zb_lq (fun e u => 12 * g ≤ u ∧ e = zb_cnt (fun j => !(j == v - 12 * g) && zb_nk ((s.1 g).2.1 j) && ((s.1 g).2.2.2.1 j == (s.1 g).2.2.2.1 (v - 12 * g))) (u - 12 * g).toNat) (12 * g + (s.1 g).1) (fun e u ⟨u0, he⟩ un nx2 => hY e u ⟨fun z2 => ?_, fun z2 => ?_⟩) 0 (12 * g) (by omega) ⟨by omega, by rw [Int.sub_self]; rfl⟩
    · have hu : u = 12 * g + (s.1 g).1 := by omega
      have he : e = zb_nsk (s.1 g) (v - 12 * g) := by
        rw [he, hu]
        unfold zb_nsk
        congr 1
        omega
      have no : c = 1 → (¬ (((s.1 g).2.1 (v - 12 * g) = 2 → e = 0) ∧ ((s.1 g).2.1 (v - 12 * g) = 3 → e = 1))) → zb_inI (v + 1) ∧ X 0 (v + 1) := fun _ h => ⟨zb_inI_of (by omega) (by omega), nxt (by omega) 0 ⟨by omega, Or.inr ⟨rfl, fun h2 => h (by rw [he]; exact h2 _ (by omega) (by omega))⟩⟩⟩
      have yes : (((s.1 g).2.1 (v - 12 * g) = 2 → e = 0) ∧ ((s.1 g).2.1 (v - 12 * g) = 3 → e = 1)) → c ≠ 0 → zb_inI (v + 1) ∧ X 1 (v + 1) := fun h h0 => by
        refine ⟨zb_inI_of (by omega) (by omega), nxt (by omega) 1 ⟨by omega, ?_⟩⟩
        rcases hc with ⟨-, h3⟩ | ⟨h3, -⟩
        · refine Or.inl ⟨rfl, fun i i0 i1 => ?_⟩
          by_cases q : i = v - 12 * g
          · rw [q, ← he]; exact h
          · exact h3 i i0 (by omega)
        · exact absurd h3 h0
      unfold PJ_X12_isRight_98 PJ_X12_isRight_117
      rw [zb_v_500_1, kv]
      refine ⟨fun q => ?_, fun q => ⟨⟨by omega, by omega⟩, fun q2 => ⟨fun q3 => ⟨fun q4 => ?_, fun q4 => ?_⟩, fun q3 => ?_⟩, fun q2 => ⟨fun q4 => ⟨fun q5 => ?_, fun q5 => ?_⟩, fun q4 => ?_⟩⟩⟩
      · refine ⟨zb_inI_of (by omega) (by omega), nxt (by omega) 0 ⟨by omega, ?_⟩⟩
        rcases hc with ⟨h3, -⟩ | ⟨h3, h4⟩
        · omega
        · exact Or.inr ⟨rfl, h4⟩
      · omega
      · exact yes ⟨fun _ => q3, fun h => absurd h q4⟩ q
      · exact no (by omega) (fun h => q3 (h.1 q2))
      · exact yes ⟨fun h => absurd h q2, fun _ => q5⟩ q
      · exact no (by omega) (fun h => q5 (h.2 q4))
      · exact yes ⟨fun h => absurd h q2, fun h => absurd h q4⟩ q
    · obtain ⟨ku, wu⟩ := rk u (by omega) (by omega)
      have hr := zb_cnt_rng (fun j => !(j == v - 12 * g) && zb_nk ((s.1 g).2.1 j) && ((s.1 g).2.2.2.1 j == (s.1 g).2.2.2.1 (v - 12 * g))) (u - 12 * g).toNat
      have es : u + 1 - 12 * g = (u - 12 * g) + 1 := by omega
      rw [ku, wu, wv]
      refine ⟨fun q => ⟨zb_inI_of (by omega) (by omega), zb_inI_of (by omega) (by omega), nx2 (by omega) _ ⟨by omega, ?_⟩⟩, fun q => ⟨⟨by omega, by omega⟩, s_X12_isNamed.mono (fun r h => ?_)⟩⟩
      · rw [es, zb_cnt_S _ (by omega), he]; simp [q]
      · have nq : ¬ u - 12 * g = v - 12 * g := by omega
        rcases zb_if1 h with ⟨h1, h2⟩ | ⟨h1, h2⟩
        · refine ⟨fun _ => ⟨zb_inI_of (by omega) (by omega), zb_inI_of (by omega) (by omega), nx2 (by omega) _ ⟨by omega, ?_⟩⟩, fun z => absurd h1 z⟩
          rw [es, zb_cnt_S _ (by omega), he]; simp [h2]
        · refine ⟨fun z => by omega, fun _ => ⟨⟨by omega, by omega⟩, fun q3 => ⟨zb_inI_of (by omega) (by omega), zb_inI_of (by omega) (by omega), nx2 (by omega) _ ⟨by omega, ?_⟩⟩, fun q3 => ⟨zb_inI_of (by omega) (by omega), zb_inI_of (by omega) (by omega), nx2 (by omega) _ ⟨by omega, ?_⟩⟩⟩⟩
          · rw [es, zb_cnt_S _ (by omega), he]; simp [h2, nq, q3]
          · rw [es, zb_cnt_S _ (by omega), he]; simp [q3]
theorem s_X12_count {d : Nat} {m : zb_M} {s : zb_Gs} {g w : Int} (hC : zb_RG m s) (hO : zb_OG s) : zb_Tp K_X12_count (d + 4) [(2, 500), (0, g), (0, w)] zb_E0 m (fun r => r = v_count s g w) := by
  apply w_X12_count
  unfold PM_X12_count v_count
  refine s_X12_isGraph.mono (fun r h => ?_)
  rcases zb_if1 h with ⟨h1, h2⟩ | ⟨h1, h2⟩
  · refine ⟨fun _ => ?_, fun z => absurd h1 z⟩
    rw [if_neg h2]
  rw [if_pos h2]
  obtain ⟨g0, g1⟩ := h2
  have e0 : m 501 g = (s.1 g).1 := (hC.1 g g0 g1).1
  rw [zb_v_500_0, e0]
  refine ⟨fun z => by omega, fun _ => s_X12_in.mono (fun r h => ?_)⟩
  rcases zb_if1 h with ⟨h3, h4⟩ | ⟨h3, h4⟩
  · refine ⟨fun _ => ?_, fun z => absurd h3 z⟩
    rw [if_neg (by omega), if_neg (by omega), if_neg (by omega), if_neg (by omega)]
  refine ⟨fun z => by omega, fun _ => ⟨fun c => ?_, fun c => ⟨fun c2 => ?_, fun c2 => ⟨fun c3 => ?_, fun c3 => ?_⟩⟩⟩⟩
  · rw [if_pos c]; exact ⟨⟨g0, g1⟩, rfl⟩
  · rw [if_neg c, if_pos c2]; exact s_X12_shownOf hC hO g0 g1
  · rw [if_neg c, if_neg c2, if_pos c3]
    refine (s_X12_isRight hC hO g0 g1).mono (fun r h => ?_)
    rcases zb_rti_01 (s.1 g) with ⟨h5, -⟩ | ⟨h5, -⟩
    · rw [h5] at h ⊢; exact ⟨fun z => by omega, fun _ => rfl⟩
    · rw [h5] at h ⊢; exact ⟨fun _ => rfl, fun z => absurd h z⟩
  · rw [if_neg c, if_neg c2, if_neg c3, if_pos (by omega)]; exact hC.2.1
theorem s_X12_undo {d : Nat} {m : zb_M} {s : zb_Gs} (hC : zb_RG m s) (hO : zb_OG s) : zb_T K_X12_undo (d + 4) [(2, 500)] zb_E0 m (zb_Rr m (v_undo s)) := by
  apply w_X12_undo
  unfold PM_X12_undo v_undo
  rw [zb_v_500_0, zb_v_500_6, zb_v_500_7, hC.2.1]
  have hk := hO.2.1
  refine ⟨fun c => ?_, fun c => ?_⟩
  · rw [if_pos c]; exact zb_Rr_same hC
  rw [if_neg c]
  obtain ⟨p1, p2⟩ := hC.2.2 0 (Int.le_refl _) (by omega)
  obtain ⟨⟨o1, o2⟩, o3⟩ := hO.2.2 0 (Int.le_refl _) (by omega)
  rw [show s.2.1 - 1 - 0 = s.2.1 - 1 by omega] at p1 p2
  refine ⟨zb_inI_of (by omega) (by omega), fun m17 e17 => ?_⟩
  rw [zb_u1 e17, zb_u3 e17 (b := 507) (by omega), p1]
  refine ⟨⟨by omega, by omega⟩, ⟨o1, o2⟩, fun m44 e44 => ?_⟩
  rw [zb_u3 e17 (b := 508) (by omega), p2.1] at e44
  unfold PL_X12_undo_47
  simp only [zb_v_500_1, zb_v_500_2, zb_v_500_3, zb_v_500_4, zb_v_500_6, zb_v_500_8, zb_v_500_9, zb_v_500_10, zb_v_500_11]
  rw [zb_u1 e17, zb_u3 e17 (b := 507) (by omega), p1]
  generalize hgen : (s.2.2 0).1 = t at *
  generalize hol : s.2.1 - 1 = u at *
  intro X hX
  refine zb_lp1 (fun v mm => 0 ≤ v ∧ ∀ b j, mm b j = if (502 ≤ b ∧ b ≤ 505) ∧ 12 * t ≤ j ∧ j < 12 * t + v then m (b + 7) (12 * u + (j - 12 * t)) else m44 b j) 12 (fun v mm ⟨v0, hv⟩ vn nxt => hX v mm ⟨fun c => ?_, fun c => ?_⟩) 0 m44 (by omega) ⟨by omega, fun b j => by rw [if_neg (by omega)]⟩
  · have hv12 : v = 12 := by omega
    subst hv12
    unfold PJ_X12_undo_159 PL_X12_undo_161
    simp only [zb_v_500_5, zb_v_500_6, zb_v_500_12]
    rw [zb_u1 e17, zb_u3 e17 (b := 507) (by omega), p1]
    intro Y hY
    refine zb_lp1 (fun v mn => 0 ≤ v ∧ ∀ b j, mn b j = if b = 506 ∧ 144 * t ≤ j ∧ j < 144 * t + v then m 513 (144 * u + (j - 144 * t)) else mm b j) 144 (fun w mn ⟨w0, hw⟩ wn nxt => hY w mn ⟨fun c => ?_, fun c => ?_⟩) 0 mm (by omega) ⟨by omega, fun b j => by rw [if_neg (by omega)]⟩
    · have hw12 : w = 144 := by omega
      subst hw12
      have hs : zb_RG m17 (s.1, u, fun k => s.2.2 (k + 1)) := by
        refine ⟨fun x x0 x1 => zb_Rg_same (hC.1 x x0 x1) (fun c c0 c1 => zb_u3 e17 (by omega)), zb_u1 e17, fun k k0 k1 => ?_⟩
        have k1 : k < u := k1
        obtain ⟨r1, r2⟩ := hC.2.2 (k + 1) (by omega) (by omega)
        rw [show s.2.1 - 1 - (k + 1) = u - 1 - k by omega] at r1 r2
        exact ⟨by rw [zb_u3 e17 (by omega)]; exact r1, zb_Rg_same r2 (fun c c0 c1 => zb_u3 e17 (by omega))⟩
      have hs2 : zb_OG (s.1, u, fun k => s.2.2 (k + 1)) := ⟨hO.1, ⟨by show 0 ≤ u; omega, by show u ≤ 20; omega⟩, fun k k0 k1 => hO.2.2 (k + 1) (by omega) (by have k1 : k < u := k1; omega)⟩
      refine ⟨rfl, zb_RG_put (s := (s.1, u, fun k => s.2.2 (k + 1))) (g := t) hs hs2 (zb_Rg_mv p2 o3 ?_ (fun x x0 x1 => ?_) (fun x x0 x1 => ?_) (fun x x0 x1 => ?_) (fun x x0 x1 => ?_) (fun x x0 x1 => ?_)) (fun b j b1 b2 b3 b4 => by rw [hw, if_neg (by omega), hv, if_neg (by omega), zb_u2 e44 (by omega)]), fun b hb => ?_, fun j hj => ?_⟩
      · rw [hw, if_neg (by omega), hv, if_neg (by omega), zb_u1 e44]; exact p2.1.symm
      · rw [hw, if_neg (by omega), hv, if_pos (by omega), show 12 * u + (12 * t + x - 12 * t) = 12 * u + x by omega]; rfl
      · rw [hw, if_neg (by omega), hv, if_pos (by omega), show 12 * u + (12 * t + x - 12 * t) = 12 * u + x by omega]; rfl
      · rw [hw, if_neg (by omega), hv, if_pos (by omega), show 12 * u + (12 * t + x - 12 * t) = 12 * u + x by omega]; rfl
      · rw [hw, if_neg (by omega), hv, if_pos (by omega), show 12 * u + (12 * t + x - 12 * t) = 12 * u + x by omega]; rfl
      · rw [hw, if_pos (by omega), show 144 * u + (144 * t + x - 144 * t) = 144 * u + x by omega]; rfl
      · funext j
        rw [hw, if_neg (by omega), hv, if_neg (by omega), zb_u3 e44 (by omega), zb_u3 e17 (by omega)]
      · rw [hw, if_neg (by omega), hv, if_neg (by omega), zb_u3 e44 (by omega), zb_u2 e17 (by omega)]
    · have f1 : mn 500 13 = u := by rw [hw, if_neg (by omega), hv, if_neg (by omega), zb_u3 e44 (by omega)]; exact zb_u1 e17
      rw [f1]
      refine ⟨zb_inI_of (by omega) (by omega), zb_inI_of (by omega) (by omega), zb_inI_of (by omega) (by omega), zb_inI_of (by omega) (by omega), ⟨by omega, by omega⟩, ⟨by omega, by omega⟩, fun m1 e1 => ⟨zb_inI_of (by omega) (by omega), nxt (by omega) m1 ⟨by omega, fun b j => ?_⟩⟩⟩
      rw [hw, if_neg (by omega), hv, if_neg (by omega), zb_u3 e44 (by omega), zb_u3 e17 (by omega)] at e1
      by_cases q : b = 506 ∧ j = 144 * t + w
      · obtain ⟨rfl, rfl⟩ := q
        rw [zb_u1 e1, if_pos (by omega), show 144 * u + (144 * t + w - 144 * t) = 144 * u + w by omega]
      · rw [zb_u2 e1 (by omega), hw]
        by_cases q2 : b = 506 ∧ 144 * t ≤ j ∧ j < 144 * t + w
        · rw [if_pos q2, if_pos (by omega)]
        · rw [if_neg q2, if_neg (by omega)]
  · have rd : ∀ b j, 509 ≤ b → b ≤ 512 → mm b j = m b j := fun b j b0 b1 => by
      rw [hv, if_neg (by omega), zb_u3 e44 (by omega), zb_u3 e17 (by omega)]
    have f0 : mm 500 13 = u := by rw [hv, if_neg (by omega), zb_u3 e44 (by omega)]; exact zb_u1 e17
    rw [f0]
    refine ⟨zb_inI_of (by omega) (by omega), zb_inI_of (by omega) (by omega), zb_inI_of (by omega) (by omega), zb_inI_of (by omega) (by omega), ⟨by omega, by omega⟩, ⟨by omega, by omega⟩, fun m1 e1 => ?_⟩
    have f1 : m1 500 13 = u := by rw [zb_u3 e1 (by omega)]; exact f0
    rw [f1]
    refine ⟨zb_inI_of (by omega) (by omega), zb_inI_of (by omega) (by omega), ⟨by omega, by omega⟩, fun m2 e2 => ?_⟩
    have f2 : m2 500 13 = u := by rw [zb_u3 e2 (by omega)]; exact f1
    rw [f2]
    refine ⟨zb_inI_of (by omega) (by omega), zb_inI_of (by omega) (by omega), ⟨by omega, by omega⟩, fun m3 e3 => ?_⟩
    have f3 : m3 500 13 = u := by rw [zb_u3 e3 (by omega)]; exact f2
    rw [f3]
    refine ⟨zb_inI_of (by omega) (by omega), zb_inI_of (by omega) (by omega), ⟨by omega, by omega⟩, fun m4 e4 => ⟨zb_inI_of (by omega) (by omega), nxt (by omega) m4 ⟨by omega, fun b j => ?_⟩⟩⟩
    rw [zb_u3 e1 (by omega)] at e2
    rw [zb_u3 e2 (by omega), zb_u3 e1 (by omega)] at e3
    rw [zb_u3 e3 (by omega), zb_u3 e2 (by omega), zb_u3 e1 (by omega)] at e4
    rw [rd _ _ (by omega) (by omega)] at e1 e2 e3 e4
    by_cases q1 : (502 ≤ b ∧ b ≤ 505) ∧ j = 12 * t + v
    · obtain ⟨⟨b0, b1⟩, qj⟩ := q1
      rw [if_pos (by omega)]
      have ej : 12 * u + (j - 12 * t) = 12 * u + v := by omega
      rw [ej]
      have hbc : b = 502 ∨ b = 503 ∨ b = 504 ∨ b = 505 := by omega
      rcases hbc with q1 | q1 | q1 | q1 <;> subst q1 <;> subst qj
      · rw [zb_u3 e4 (by omega), zb_u3 e3 (by omega), zb_u3 e2 (by omega), zb_u1 e1]; rfl
      · rw [zb_u3 e4 (by omega), zb_u3 e3 (by omega), zb_u1 e2]; rfl
      · rw [zb_u3 e4 (by omega), zb_u1 e3]; rfl
      · rw [zb_u1 e4]; rfl
    · rw [zb_u2 e4 (by omega), zb_u2 e3 (by omega), zb_u2 e2 (by omega), zb_u2 e1 (by omega), hv]
      by_cases q2 : (502 ≤ b ∧ b ≤ 505) ∧ 12 * t ≤ j ∧ j < 12 * t + v
      · rw [if_pos q2, if_pos (by omega)]
      · rw [if_neg q2, if_neg (by omega)]
