/-! ===== note: a graph is about to be changed (the reference) ===== -/
theorem zb_psh_RG {m mm m1 : zb_M} {s : zb_Gs} {g t : Int} (hC : zb_RG m s) (hO : zb_OG s) (g0 : 0 ≤ g) (g1 : g < 8) (ht : t = if s.2.1 = 20 then 19 else s.2.1) (hg : ∀ b, 501 ≤ b → b ≤ 506 → mm b = m b) (h7 : ∀ j, 0 ≤ j → j < t → mm 507 j = m 507 (j + (s.2.1 - t))) (h8 : ∀ j, 0 ≤ j → j < t → mm 508 j = m 508 (j + (s.2.1 - t))) (h9 : ∀ b j, 509 ≤ b → b ≤ 512 → 0 ≤ j → j < 12 * t → mm b j = m b (j + 12 * (s.2.1 - t))) (h13 : ∀ j, 0 ≤ j → j < 144 * t → mm 513 j = m 513 (j + 144 * (s.2.1 - t))) (hQ : ∀ b j, m1 b j = if b = 500 ∧ j = 13 then t + 1 else if b = 507 ∧ j = t then g else if b = 508 ∧ j = t then mm 501 g else if (509 ≤ b ∧ b ≤ 512) ∧ 12 * t ≤ j ∧ j < 12 * t + 12 then mm (b - 7) (12 * g + (j - 12 * t)) else if b = 513 ∧ 144 * t ≤ j ∧ j < 144 * t + 144 then mm 506 (144 * g + (j - 144 * t)) else mm b j) : zb_RG m1 (zb_psh s g) := by
  obtain ⟨r1, r2, r3⟩ := hC
  have hk := hO.2.1
  have same : ∀ b, 501 ≤ b → b ≤ 506 → m1 b = m b := fun b b0 b1 => by
    funext j
    rw [hQ, if_neg (by omega), if_neg (by omega), if_neg (by omega), if_neg (by omega), if_neg (by omega), hg b b0 b1]
  refine ⟨fun x x0 x1 => zb_Rg_same (r1 x x0 x1) (fun c c0 c1 => same c c0 (by omega)), ?_, fun k k0 k1 => ?_⟩
  · rw [hQ, if_pos ⟨rfl, rfl⟩, ht]
    show _ = if s.2.1 = 20 then (20 : Int) else s.2.1 + 1
    by_cases q : s.2.1 = 20
    · rw [if_pos q, if_pos q]; rfl
    · rw [if_neg q, if_neg q]
  · have en : (zb_psh s g).2.1 = t + 1 := by
      rw [ht]
      show (if s.2.1 = 20 then (20 : Int) else s.2.1 + 1) = _
      by_cases q : s.2.1 = 20
      · rw [if_pos q, if_pos q]; rfl
      · rw [if_neg q, if_neg q]
    have ht2 : t ≤ s.2.1 ∧ t ≤ 19 ∧ 0 ≤ t := by
      by_cases q : s.2.1 = 20
      · rw [if_pos q] at ht; omega
      · rw [if_neg q] at ht; omega
    rw [en] at k1 ⊢
    show _ = (if k = 0 then (g, s.1 g) else s.2.2 (k - 1)).1 ∧ zb_Rg m1 _ _ (if k = 0 then (g, s.1 g) else s.2.2 (k - 1)).2
    by_cases q : k = 0
    · have e : t + 1 - 1 - k = t := by omega
      rw [if_pos q, e]
      refine ⟨by rw [hQ, if_neg (by omega), if_pos ⟨rfl, rfl⟩], zb_Rg_mv (r1 g g0 g1) (hO.1 g g0 g1) ?_ (fun i i0 i1 => ?_) (fun i i0 i1 => ?_) (fun i i0 i1 => ?_) (fun i i0 i1 => ?_) (fun i i0 i1 => ?_)⟩
      · rw [hQ, if_neg (by omega), if_neg (by omega), if_pos ⟨rfl, rfl⟩, hg 501 (by omega) (by omega)]
      · rw [hQ, if_neg (by omega), if_neg (by omega), if_neg (by omega), if_pos (by omega), hg _ (by omega) (by omega)]
        congr 1; omega
      · rw [hQ, if_neg (by omega), if_neg (by omega), if_neg (by omega), if_pos (by omega), hg _ (by omega) (by omega)]
        congr 1; omega
      · rw [hQ, if_neg (by omega), if_neg (by omega), if_neg (by omega), if_pos (by omega), hg _ (by omega) (by omega)]
        congr 1; omega
      · rw [hQ, if_neg (by omega), if_neg (by omega), if_neg (by omega), if_pos (by omega), hg _ (by omega) (by omega)]
        congr 1; omega
      · rw [hQ, if_neg (by omega), if_neg (by omega), if_neg (by omega), if_neg (by omega), if_pos (by omega), hg _ (by omega) (by omega)]
        congr 1; omega
    · have e : t + 1 - 1 - k = t - k := by omega
      rw [if_neg q, e]
      obtain ⟨p1, p2⟩ := r3 (k - 1) (by omega) (by omega)
      have e2 : s.2.1 - 1 - (k - 1) = t - k + (s.2.1 - t) := by omega
      rw [e2] at p1 p2
      refine ⟨?_, zb_Rg_mv p2 (hO.2.2 (k - 1) (by omega) (by omega)).2 ?_ (fun i i0 i1 => ?_) (fun i i0 i1 => ?_) (fun i i0 i1 => ?_) (fun i i0 i1 => ?_) (fun i i0 i1 => ?_)⟩
      · rw [hQ, if_neg (by omega), if_neg (by omega), if_neg (by omega), if_neg (by omega), if_neg (by omega), h7 _ (by omega) (by omega)]
        exact p1
      · rw [hQ, if_neg (by omega), if_neg (by omega), if_neg (by omega), if_neg (by omega), if_neg (by omega), h8 _ (by omega) (by omega)]
      · rw [hQ, if_neg (by omega), if_neg (by omega), if_neg (by omega), if_neg (by omega), if_neg (by omega), h9 _ _ (by omega) (by omega) (by omega) (by omega)]
        congr 1; omega
      · rw [hQ, if_neg (by omega), if_neg (by omega), if_neg (by omega), if_neg (by omega), if_neg (by omega), h9 _ _ (by omega) (by omega) (by omega) (by omega)]
        congr 1; omega
      · rw [hQ, if_neg (by omega), if_neg (by omega), if_neg (by omega), if_neg (by omega), if_neg (by omega), h9 _ _ (by omega) (by omega) (by omega) (by omega)]
        congr 1; omega
      · rw [hQ, if_neg (by omega), if_neg (by omega), if_neg (by omega), if_neg (by omega), if_neg (by omega), h9 _ _ (by omega) (by omega) (by omega) (by omega)]
        congr 1; omega
      · rw [show (508 : Int) + 5 = 513 by rfl, hQ, if_neg (by omega), if_neg (by omega), if_neg (by omega), if_neg (by omega), if_neg (by omega), h13 _ (by omega) (by omega)]
        congr 1; omega
/-- after note: the same graphs, one more to be undone, nothing else -/
def zb_nt (m : zb_M) (s : zb_Gs) (g : Int) : Int → zb_M → Prop := fun _ m1 => zb_RG m1 (zb_psh s g) ∧ (∀ b, (b < 500 ∨ 513 < b ∨ (501 ≤ b ∧ b ≤ 506)) → m1 b = m b) ∧ ∀ j, j ≠ 13 → m1 500 j = m 500 j
theorem s_X12_note {d : Nat} {m : zb_M} {s : zb_Gs} {g : Int} (hC : zb_RG m s) (hO : zb_OG s) (g0 : 0 ≤ g) (g1 : g < 8) : zb_T K_X12_note (d + 1) [(2, 500), (0, g)] zb_E0 m (zb_nt m s g) := by
  apply w_X12_note
  unfold PM_X12_note
  have r2 := hC.2.1
  have hk := hO.2.1
  rw [r2]
  refine ⟨fun q => ?_, fun q => ?_⟩
  · unfold PL_X12_note_11
    simp only [zb_v_500_6, zb_v_500_7]
    intro X hX
    refine zb_lp1 (fun v mm => 1 ≤ v ∧ ∀ b j, mm b j = if (b = 507 ∨ b = 508) ∧ 0 ≤ j ∧ j < v - 1 then m b (j + 1) else m b j) 20 (fun v mm ⟨v0, hv⟩ vn nxt => hX v mm ⟨fun c => ?_, fun c => ?_⟩) 1 m (by omega) ⟨by omega, fun b j => by rw [if_neg (by omega)]⟩
    · have hv20 : v = 20 := by omega
      subst hv20
      unfold PJ_X12_note_51 PL_X12_note_54
      simp only [zb_v_500_8, zb_v_500_9, zb_v_500_10, zb_v_500_11]
      intro Y hY
      refine zb_lp1 (fun v mn => 12 ≤ v ∧ ∀ b j, mn b j = if (509 ≤ b ∧ b ≤ 512) ∧ 0 ≤ j ∧ j < v - 12 then m b (j + 12) else mm b j) 240 (fun v mn ⟨w0, hw⟩ vn nxt => hY v mn ⟨fun c => ?_, fun c => ?_⟩) 12 mm (by omega) ⟨by omega, fun b j => by rw [if_neg (by omega)]⟩
      · have hv20 : v = 240 := by omega
        subst hv20
        unfold PJ_X12_note_127 PL_X12_note_131
        simp only [zb_v_500_12]
        intro Z hZ
        refine zb_lp1 (fun v mo => 144 ≤ v ∧ ∀ b j, mo b j = if b = 513 ∧ 0 ≤ j ∧ j < v - 144 then m b (j + 144) else mn b j) 2880 (fun v mo ⟨u0, hu⟩ vn nxt => hZ v mo ⟨fun c => ?_, fun c => ?_⟩) 144 mn (by omega) ⟨by omega, fun b j => by rw [if_neg (by omega)]⟩
        · have hv20 : v = 2880 := by omega
          subst hv20
          unfold PJ_X12_note_160
          have e13 : mo 500 13 = 20 := by rw [hu, if_neg (by omega), hw, if_neg (by omega), hv, if_neg (by omega), r2]; exact q
          rw [e13]
          refine ⟨zb_inI_of (by omega) (by omega), fun mp ep => ?_⟩
          refine zb_note_j (t := 19) g0 g1 (zb_u1 ep) (by omega) (by omega) _ (fun m1 h1 => ?_)
          refine ⟨zb_psh_RG (mm := mp) (t := 19) hC hO g0 g1 (by rw [if_pos q]) (fun b b0 b1 => ?_) (fun j j0 j1 => ?_) (fun j j0 j1 => ?_) (fun b j b0 b1 j0 j1 => ?_) (fun j j0 j1 => ?_) h1, fun b hb => ?_, fun j hj => ?_⟩
          · rw [zb_u3 ep (by omega)]
            funext j
            rw [hu, if_neg (by omega), hw, if_neg (by omega), hv, if_neg (by omega)]
          · rw [q, zb_u3 ep (by omega), hu, if_neg (by omega), hw, if_neg (by omega), hv, if_pos (by omega)]; rfl
          · rw [q, zb_u3 ep (by omega), hu, if_neg (by omega), hw, if_neg (by omega), hv, if_pos (by omega)]; rfl
          · rw [q, zb_u3 ep (by omega), hu, if_neg (by omega), hw, if_pos (by omega)]; rfl
          · rw [q, zb_u3 ep (by omega), hu, if_pos (by omega)]; rfl
          · funext j
            rw [h1, if_neg (by omega), if_neg (by omega), if_neg (by omega), if_neg (by omega), if_neg (by omega)]
            by_cases q5 : b = 500
            · omega
            · rw [zb_u3 ep (by omega), hu, if_neg (by omega), hw, if_neg (by omega), hv, if_neg (by omega)]
          · rw [h1, if_neg (by omega), if_neg (by omega), if_neg (by omega), if_neg (by omega), if_neg (by omega), zb_u2 ep (by omega), hu, if_neg (by omega), hw, if_neg (by omega), hv, if_neg (by omega)]
        · refine ⟨zb_inI_of (by omega) (by omega), ⟨by omega, by omega⟩, ⟨by omega, by omega⟩, fun m1 e1 => ⟨zb_inI_of (by omega) (by omega), nxt (by omega) m1 ⟨by omega, fun b j => ?_⟩⟩⟩
          rw [e1]
          unfold zb_up
          by_cases q1 : b = 513 ∧ j = v - 144
          · obtain ⟨rfl, rfl⟩ := q1
            rw [if_pos ⟨rfl, rfl⟩, if_pos (by omega), hu, if_neg (by omega), hw, if_neg (by omega), hv, if_neg (by omega)]
            congr 1; omega
          · rw [if_neg q1, hu]
            by_cases q2 : b = 513 ∧ 0 ≤ j ∧ j < v - 144
            · rw [if_pos q2, if_pos (by omega)]
            · rw [if_neg q2, if_neg (by omega)]
      · have rd : ∀ b, 509 ≤ b → b ≤ 512 → mn b v = m b v := fun b b0 b1 => by rw [hw, if_neg (by omega), hv, if_neg (by omega)]
        refine ⟨zb_inI_of (by omega) (by omega), ⟨by omega, by omega⟩, ⟨by omega, by omega⟩, fun m1 e1 m2 e2 m3 e3 m4 e4 => ⟨zb_inI_of (by omega) (by omega), nxt (by omega) m4 ⟨by omega, fun b j => ?_⟩⟩⟩
        rw [zb_u3 e1 (by omega)] at e2
        rw [zb_u3 e2 (by omega), zb_u3 e1 (by omega)] at e3
        rw [zb_u3 e3 (by omega), zb_u3 e2 (by omega), zb_u3 e1 (by omega)] at e4
        rw [rd _ (by omega) (by omega)] at e1 e2 e3 e4
        by_cases q1 : (509 ≤ b ∧ b ≤ 512) ∧ j = v - 12
        · obtain ⟨⟨b0, b1⟩, qj⟩ := q1
          rw [if_pos (by omega)]
          have ej : j + 12 = v := by omega
          rw [ej]
          have hbc : b = 509 ∨ b = 510 ∨ b = 511 ∨ b = 512 := by omega
          rcases hbc with q1 | q1 | q1 | q1 <;> subst q1 <;> subst qj
          · rw [zb_u3 e4 (by omega), zb_u3 e3 (by omega), zb_u3 e2 (by omega), zb_u1 e1]
          · rw [zb_u3 e4 (by omega), zb_u3 e3 (by omega), zb_u1 e2]
          · rw [zb_u3 e4 (by omega), zb_u1 e3]
          · rw [zb_u1 e4]
        · rw [zb_u2 e4 (by omega), zb_u2 e3 (by omega), zb_u2 e2 (by omega), zb_u2 e1 (by omega), hw]
          by_cases q2 : (509 ≤ b ∧ b ≤ 512) ∧ 0 ≤ j ∧ j < v - 12
          · rw [if_pos q2, if_pos (by omega)]
          · rw [if_neg q2, if_neg (by omega)]
    · refine ⟨zb_inI_of (by omega) (by omega), ⟨by omega, by omega⟩, ⟨by omega, by omega⟩, fun m1 e1 m2 e2 => ⟨zb_inI_of (by omega) (by omega), nxt (by omega) m2 ⟨by omega, fun b j => ?_⟩⟩⟩
      rw [zb_u3 e1 (by omega), hv, if_neg (by omega)] at e2
      rw [hv, if_neg (by omega)] at e1
      by_cases q1 : (b = 507 ∨ b = 508) ∧ j = v - 1
      · obtain ⟨qb, qj⟩ := q1
        rw [if_pos (by omega)]
        have ej : j + 1 = v := by omega
        rw [ej]
        rcases qb with q1 | q1 <;> subst q1 <;> subst qj
        · rw [zb_u3 e2 (by omega), zb_u1 e1]
        · rw [zb_u1 e2]
      · rw [zb_u2 e2 (by omega), zb_u2 e1 (by omega), hv]
        by_cases q2 : (b = 507 ∨ b = 508) ∧ 0 ≤ j ∧ j < v - 1
        · rw [if_pos q2, if_pos (by omega)]
        · rw [if_neg q2, if_neg (by omega)]
  · refine zb_note_j (t := s.2.1) g0 g1 r2 (by omega) (by omega) _ (fun m1 h1 => ?_)
    refine ⟨zb_psh_RG (mm := m) (t := s.2.1) hC hO g0 g1 (by rw [if_neg q]) (fun b b0 b1 => rfl) (fun j j0 j1 => ?_) (fun j j0 j1 => ?_) (fun b j b0 b1 j0 j1 => ?_) (fun j j0 j1 => ?_) h1, fun b hb => ?_, fun j hj => ?_⟩
    · congr 1; omega
    · congr 1; omega
    · congr 1; omega
    · congr 1; omega
    · funext j
      rw [h1, if_neg (by omega), if_neg (by omega), if_neg (by omega), if_neg (by omega), if_neg (by omega)]
    · rw [h1, if_neg (by omega), if_neg (by omega), if_neg (by omega), if_neg (by omega), if_neg (by omega)]
