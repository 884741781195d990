/-! ===== the class: same, unlike, why ===== -/
theorem v_ref2_b {s : zb_Gs} {g h : Int} (q : ¬ ((0 ≤ g ∧ g < 8) ∧ 0 ≤ h ∧ h < 8)) : v_ref2 s g h = -1 := by unfold v_ref2; rw [if_neg q]
theorem v_ref2_n {s : zb_Gs} {g h : Int} (q : (0 ≤ g ∧ g < 8) ∧ 0 ≤ h ∧ h < 8) (q2 : ¬ (zb_rt (s.1 g) ∧ zb_rt (s.1 h))) : v_ref2 s g h = -2 := by unfold v_ref2; rw [if_pos q, if_neg q2]
theorem v_ref2_y {s : zb_Gs} {g h : Int} (q : (0 ≤ g ∧ g < 8) ∧ 0 ≤ h ∧ h < 8) (q2 : zb_rt (s.1 g) ∧ zb_rt (s.1 h)) : v_ref2 s g h = 0 := by unfold v_ref2; rw [if_pos q, if_pos q2]
theorem zb_ccall2 {d : Nat} {m : zb_M} {s : zb_Gs} {g h : Int} {A B : Prop} {P : Int → zb_M → Prop} (hC : zb_CG m s) (hO : zb_OG s) (h1 : v_ref2 s g h = -1 → A) (h2 : v_ref2 s g h = -2 → B) (h3 : v_ref2 s g h = 0 → ∀ r m1, zb_CS m1 357 (zb_shN (s.1 g)) (zb_sha (s.1 g)) → zb_CS m1 363 (zb_shN (s.1 h)) (zb_sha (s.1 h)) → (∀ c, (c < 357 ∨ 368 < c) → m1 c = m c) → P r m1) : zb_Tp K_X11_isGraph (d + 5) [(0, g)] zb_E0 m (fun r1 => (r1 = 0 → A) ∧ (¬ r1 = 0 → zb_Tp K_X11_isGraph (d + 5) [(0, h)] zb_E0 m (fun r8 => (r8 = 0 → A) ∧ (¬ r8 = 0 → (0 ≤ g ∧ g < 8) ∧ (zb_Tp K_X4_isRight (d + 5) [(2, zb_E0.2 2 g)] zb_E0 m (fun r22 => (r22 = 0 → B) ∧ (¬ r22 = 0 → (0 ≤ h ∧ h < 8) ∧ (zb_Tp K_X4_isRight (d + 5) [(2, zb_E0.2 2 h)] zb_E0 m (fun r34 => (r34 = 0 → B) ∧ (¬ r34 = 0 → zb_T K_X0_take (d + 5) [(2, 356), (2, zb_E0.2 2 g), (2, zb_E0.2 2 h)] zb_E0 m P)))))))))) := by
  refine s_X11_isGraph.mono (fun r hr => ?_)
  rcases zb_if1 hr with ⟨q1, q2⟩ | ⟨q1, q2⟩
  · exact ⟨fun _ => h1 (v_ref2_b (fun z => q2 z.1)), fun z => absurd q1 z⟩
  refine ⟨fun z => by omega, fun _ => s_X11_isGraph.mono (fun r8 hr8 => ?_)⟩
  rcases zb_if1 hr8 with ⟨p1, p2⟩ | ⟨p1, p2⟩
  · exact ⟨fun _ => h1 (v_ref2_b (fun z => p2 z.2)), fun z => absurd p1 z⟩
  refine ⟨fun z => by omega, fun _ => ⟨q2, ?_⟩⟩
  have hG := hO.1 g q2.1 q2.2
  have hH := hO.1 h p2.1 p2.2
  obtain ⟨en, isn⟩ := zb_nets q2.1 q2.2
  obtain ⟨en', isn'⟩ := zb_nets p2.1 p2.2
  have hcg := hC.1 g q2.1 q2.2
  have hch := hC.1 h p2.1 p2.2
  rw [en, en']
  refine (s_X4_isRight (d := d + 1) isn hcg hG).mono (fun r15 h15 => ?_)
  rcases h15.symm with ⟨r1, r2⟩ | ⟨r1, r2⟩
  · exact ⟨fun _ => h2 (v_ref2_n ⟨q2, p2⟩ (fun z => r2 z.1)), fun z => absurd r1 z⟩
  refine ⟨fun z => by omega, fun _ => ⟨p2, ?_⟩⟩
  refine (s_X4_isRight (d := d + 1) isn' hch hH).mono (fun r25 h25 => ?_)
  rcases h25.symm with ⟨u1, u2⟩ | ⟨u1, u2⟩
  · exact ⟨fun _ => h2 (v_ref2_n ⟨q2, p2⟩ (fun z => u2 z.2)), fun z => absurd u1 z⟩
  refine ⟨fun z => by omega, fun _ => ?_⟩
  apply w_X0_take
  unfold PM_X0_take
  rw [zb_v_356_2, zb_v_356_3]
  refine (s_X6_take zb_i_357 isn (by omega) hcg hG).mono (fun _ m34 ⟨t1, t2⟩ => ?_)
  have hch' : zb_Cg m34 (428 + 6 * h) (s.1 h) := zb_Cg_same hch (fun x x0 x1 => t2 x (by omega))
  refine (s_X6_take zb_i_363 isn' (by omega) hch' hH).mono (fun _ m35 ⟨t3, t4⟩ => ?_)
  exact h3 (v_ref2_y ⟨q2, p2⟩ ⟨r2, u2⟩) 0 m35 (zb_CS_same t1 (fun x x0 x1 => t4 x (by omega))) t3 (fun c hc => by rw [t4 c (by omega)]; exact t2 c (by omega))
def zb_frSm (m m1 : zb_M) : Prop := ∀ b, (b < 132 ∨ (191 < b ∧ b < 357) ∨ (382 < b ∧ b ≠ 397 ∧ b ≠ 398)) → m1 b = m b
theorem s_X11_same {d : Nat} {m : zb_M} {s : zb_Gs} {T : zb_Tn} {g h : Int} (hC : zb_CG m s) (hO : zb_OG s) (hT : zb_CT m T) : zb_T K_X11_same (d + 22) [(2, 1), (0, g), (0, h)] zb_E0 m (fun r m1 => r = (v_same s T g h).1 ∧ zb_CT m1 (v_same s T g h).2 ∧ zb_frSm m m1) := by
  apply w_X11_same
  unfold PM_X11_same
  rw [zb_v_1_0, zb_v_1_6, zb_v_1_11, zb_v_356_6, zb_v_356_7]
  refine zb_ccall2 (d := d + 16) hC hO (fun e => ?_) (fun e => ?_) (fun e r m59 t1 t2 t3 => ?_)
  · unfold v_same; rw [if_neg (by omega), e]; exact ⟨rfl, hT, fun _ _ => rfl⟩
  · unfold v_same; rw [if_neg (by omega), e]; exact ⟨rfl, hT, fun _ _ => rfl⟩
  obtain ⟨e1, e2⟩ := v_ref2_0 e
  obtain ⟨hN1, hA1⟩ := zb_shN_asc hO e1
  obtain ⟨hN2, hA2⟩ := zb_shN_asc hO e2
  have h10 : 0 ≤ zb_shn (s.1 g) := hN1.1.1
  have h11 : zb_shn (s.1 g) ≤ 12 := hN1.1.2
  have h20 : 0 ≤ zb_shn (s.1 h) := hN2.1.1
  have h21 : zb_shn (s.1 h) ≤ 12 := hN2.1.2
  have rz := zb_rsz_rng h10 h11
  have rz2 := zb_rsz_rng h20 h21
  unfold v_same
  rw [if_pos e]
  have same : ∀ m1, (∀ x, (x < 132 ∨ 191 < x) → (x < 357 ∨ 382 < x) → m1 x = m x) → zb_CT m1 T ∧ zb_frSm m m1 := fun m1 hm => by
    refine ⟨?_, fun b hb => hm b (by omega) (by omega)⟩
    match T, hT with
    | none, hT => show m1 397 0 = 0; rw [hm 397 (by omega) (by omega)]; exact hT
    | some t, ⟨a, b⟩ => exact ⟨by rw [hm 397 (by omega) (by omega)]; exact a, fun i i0 i1 => by rw [hm 398 (by omega) (by omega)]; exact b i i0 i1⟩
  refine (s_X0_findNames (d := d) t1 t2 hN1 hN2).mono (fun r66 m66 ⟨f1, f2⟩ => ?_)
  have f66 : ∀ x, (x < 132 ∨ 191 < x) → (x < 357 ∨ 382 < x) → m66 x = m x := fun x x1 x2 => by rw [f2 x x1 (by omega)]; exact t3 x (by omega)
  rcases f1 with ⟨r1, q1, q2, q3⟩ | ⟨r1, q1⟩
  · refine ⟨fun z => by omega, fun _ => ?_⟩
    rw [if_pos q1]
    obtain ⟨a0, a1, a2, a3, a4, a5, a6⟩ := q2
    obtain ⟨b0, b1, b2, b3, b4, b5, b6⟩ := q3
    apply w_X0_isOneName
    unfold PM_X0_isOneName
    rw [zb_v_356_6, zb_v_356_7]
    refine (s_X3_differsAt (d := d + 19) zb_i_377 zb_i_380 a2 b2 (by show 0 ≤ zb_rsz (zb_shn (s.1 g)) ∧ zb_rsz (zb_shn (s.1 g)) ≤ 157; omega) (by show 0 ≤ zb_rsz (zb_shn (s.1 h)) ∧ zb_rsz (zb_shn (s.1 h)) ≤ 157; omega)).mono (fun r8 h8 => ?_)
    have key : (0 ≤ r8 → ¬ (zb_shn (s.1 g) = zb_shn (s.1 h) ∧ zb_fdi (zb_nmW (zb_shN (s.1 g))).2.2.1 (zb_nmW (zb_shN (s.1 h))).2.2.1 (zb_rsz (zb_shn (s.1 g))).toNat < 0)) ∧ (¬ 0 ≤ r8 → zb_shn (s.1 g) = zb_shn (s.1 h) ∧ zb_fdi (zb_nmW (zb_shN (s.1 g))).2.2.1 (zb_nmW (zb_shN (s.1 h))).2.2.1 (zb_rsz (zb_shn (s.1 g))).toNat < 0) := by
      by_cases en : zb_shn (s.1 g) = zb_shn (s.1 h)
      · have en2 : zb_rsz (zb_shN (s.1 h)).1 = zb_rsz (zb_shn (s.1 g)) := by show zb_rsz (zb_shn (s.1 h)) = _; rw [en]
        rw [en2] at h8 b5
        rw [if_neg (by show ¬ zb_rsz (zb_shn (s.1 g)) < zb_rsz (zb_shn (s.1 g)); omega)] at h8
        have h8' := zb_fd_i (by show 0 ≤ zb_rsz (zb_shn (s.1 g)); omega) (zb_fd_congr a5 b5 h8)
        have h8'' : r8 = zb_fdi (zb_nmW (zb_shN (s.1 g))).2.2.1 (zb_nmW (zb_shN (s.1 h))).2.2.1 (zb_rsz (zb_shn (s.1 g))).toNat := h8'
        exact ⟨fun c z => by omega, fun c => ⟨en, by omega⟩⟩
      · refine ⟨fun _ z => en z.1, fun c => ?_⟩
        rcases h8 with ⟨z1, z2⟩ | ⟨z1, -⟩
        · have w := z2 0 (Int.le_refl _) (by show 0 < (if zb_rsz (zb_shn (s.1 h)) < zb_rsz (zb_shn (s.1 g)) then zb_rsz (zb_shn (s.1 h)) else zb_rsz (zb_shn (s.1 g))); split <;> omega)
          have w1 := a5 0 (Int.le_refl _) (by show 0 < zb_rsz (zb_shn (s.1 g)); omega)
          have w2 := b5 0 (Int.le_refl _) (by show 0 < zb_rsz (zb_shn (s.1 h)); omega)
          have w3 : (zb_nmW (zb_shN (s.1 g))).2.2.1 0 = zb_shn (s.1 g) := zb_nmW_0 hN1
          have w4 : (zb_nmW (zb_shN (s.1 h))).2.2.1 0 = zb_shn (s.1 h) := zb_nmW_0 hN2
          have w5 : m66 (377 + 1) 0 = m66 (380 + 1) 0 := w
          omega
        · omega
    refine ⟨fun c => ⟨fun _ => ?_, fun z => absurd rfl z⟩, fun c => ⟨fun z => by omega, fun _ => ?_⟩⟩
    · rw [if_neg (key.1 c)]
      exact ⟨rfl, same m66 f66⟩
    · have kk := key.2 c
      rw [if_pos kk]
      have hp1 : ∀ i, 0 ≤ i → i < zb_shn (s.1 g) → 0 ≤ zb_oo s g i ∧ zb_oo s g i < 12 := fun i i0 i1 => by
        have a := (zb_nmW_ok hN1).2.1.1 i i0 i1
        exact hA1.1 _ a.1 a.2
      have b6' : zb_eqo (zb_shn (s.1 g)) (m66 382) (zb_oo s h) := by rw [kk.1]; exact b6
      refine (s_X10_takeOrders (d := d + 19) zb_i_397 (by omega) (by omega) h10 h11 a1 a6 b6' hp1).mono (fun _ m105 ⟨z1, z2, z3⟩ => ⟨rfl, ⟨z1, z2⟩, fun b hb => ?_⟩)
      rw [z3 b (by omega) (by omega)]
      exact f66 b (by omega) (by omega)
  · refine ⟨fun _ => ?_, fun z => absurd r1 z⟩
    rw [if_neg q1]
    exact ⟨rfl, same m66 f66⟩
def zb_frUn (m m1 : zb_M) : Prop := (∀ b, (b < 132 ∨ (191 < b ∧ b < 356) ∨ 383 < b) → m1 b = m b)
theorem s_X11_unlike {d : Nat} {m : zb_M} {s : zb_Gs} {Y : zb_Yt} {g h : Int} (hC : zb_CG m s) (hO : zb_OG s) (hY : zb_CY m Y) : zb_T K_X11_unlike (d + 23) [(2, 1), (0, g), (0, h)] zb_E0 m (fun r m1 => r = (v_unlike s Y g h).1 ∧ zb_CY m1 (v_unlike s Y g h).2 ∧ zb_frUn m m1) := by
  apply w_X11_unlike
  unfold PM_X11_unlike
  rw [zb_v_1_0, zb_v_1_6]
  refine zb_ccall2 (d := d + 17) hC hO (fun e => ?_) (fun e => ?_) (fun e r m59 t1 t2 t3 => ?_)
  · unfold v_unlike; rw [if_neg (by omega), e]; exact ⟨rfl, hY, fun _ _ => rfl⟩
  · unfold v_unlike; rw [if_neg (by omega), e]; exact ⟨rfl, hY, fun _ _ => rfl⟩
  obtain ⟨e1, e2⟩ := v_ref2_0 e
  obtain ⟨hN1, -⟩ := zb_shN_asc hO e1
  obtain ⟨hN2, -⟩ := zb_shN_asc hO e2
  unfold v_unlike
  rw [if_pos e]
  have hY59 : zb_CY m59 Y := by
    match Y, hY with
    | none, hY => show m59 356 9 = 0; rw [t3 356 (by omega)]; exact hY
    | some q, hY => exact ⟨by rw [t3 356 (by omega)]; exact hY.1, by rw [t3 383 (by omega)]; exact hY.2⟩
  exact (s_X0_tellApart (d := d) t1 t2 hN1 hN2 hY59).mono (fun r66 m66 ⟨f1, f2, f3⟩ => ⟨f1, f2, fun b hb => by rw [f3.1 b (by omega) (by omega)]; exact t3 b (by omega)⟩)
theorem s_X11_why {d : Nat} {m : zb_M} {Y : zb_Yt} {w : Int} (hY : zb_CY m Y) : zb_Tp K_X11_why (d + 2) [(2, 1), (0, w)] zb_E0 m (fun r => r = v_why Y w) := by
  apply w_X11_why
  unfold PM_X11_why
  rw [zb_v_1_6, zb_v_356_8]
  match Y, hY with
  | none, hY => exact ⟨fun _ => rfl, fun z => absurd hY z⟩
  | some q, ⟨p0, p1, p2, p3⟩ =>
    refine ⟨fun z => by omega, fun _ => s_X11_isBelow.mono (fun r h => ?_)⟩
    show (r = 0 → -1 = (if w = 0 then q.1 else if w = 1 then q.2.1 else if w = 2 then q.2.2 else -1)) ∧ (¬ r = 0 → (0 ≤ w ∧ w < 3) ∧ m 383 w = (if w = 0 then q.1 else if w = 1 then q.2.1 else if w = 2 then q.2.2 else -1))
    rcases zb_if1 h with ⟨h1, h2⟩ | ⟨h1, h2⟩
    · exact ⟨fun _ => by rw [if_neg (by omega), if_neg (by omega), if_neg (by omega)], fun z => absurd h1 z⟩
    · refine ⟨fun z => by omega, fun _ => ⟨h2, ?_⟩⟩
      by_cases c0 : w = 0
      · rw [if_pos c0, c0]; exact p1
      · by_cases c1 : w = 1
        · rw [if_neg c0, if_pos c1, c1]; exact p2
        · have c2 : w = 2 := by omega
          rw [if_neg c0, if_neg c1, if_pos c2, c2]; exact p3
