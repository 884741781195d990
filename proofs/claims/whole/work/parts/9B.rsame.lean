/-! ===== the reference: both graphs ===== -/
theorem zb_rcall2 {d : Nat} {m : zb_M} {s : zb_Gs} {g h : Int} {A B P : Prop} (hC : zb_RG m s) (hO : zb_OG s) (h1 : v_ref2 s g h = -1 → A) (h2 : v_ref2 s g h = -2 → B) (h3 : v_ref2 s g h = 0 → P) : zb_Tp K_X12_isGraph (d + 4) [(2, 500), (0, g)] zb_E0 m (fun r2 => (r2 = 0 → A) ∧ (¬ r2 = 0 → zb_Tp K_X12_isGraph (d + 4) [(2, 500), (0, h)] zb_E0 m (fun r10 => (r10 = 0 → A) ∧ (¬ r10 = 0 → zb_Tp K_X12_isRight (d + 4) [(2, 500), (0, g)] zb_E0 m (fun r20 => (r20 = 0 → B) ∧ (¬ r20 = 0 → zb_Tp K_X12_isRight (d + 4) [(2, 500), (0, h)] zb_E0 m (fun r28 => (r28 = 0 → B) ∧ (¬ r28 = 0 → P)))))))) := by
  refine s_X12_isGraph.mono (fun r hr => ?_)
  rcases zb_if1 hr with ⟨q1, q2⟩ | ⟨q1, q2⟩
  · exact ⟨fun _ => h1 (v_ref2_b (fun z => q2 z.1)), fun z => absurd q1 z⟩
  refine ⟨fun z => by omega, fun _ => s_X12_isGraph.mono (fun r8 hr8 => ?_)⟩
  rcases zb_if1 hr8 with ⟨p1, p2⟩ | ⟨p1, p2⟩
  · exact ⟨fun _ => h1 (v_ref2_b (fun z => p2 z.2)), fun z => absurd p1 z⟩
  refine ⟨fun z => by omega, fun _ => (s_X12_isRight hC hO q2.1 q2.2).mono (fun r12 h12 => ?_)⟩
  rcases zb_rti_01 (s.1 g) with ⟨e, q3⟩ | ⟨e, q3⟩
  · refine ⟨fun z => by omega, fun _ => (s_X12_isRight hC hO p2.1 p2.2).mono (fun r13 h13 => ?_)⟩
    rcases zb_rti_01 (s.1 h) with ⟨e', q4⟩ | ⟨e', q4⟩
    · exact ⟨fun z => by omega, fun _ => h3 (v_ref2_y ⟨q2, p2⟩ ⟨q3, q4⟩)⟩
    · exact ⟨fun _ => h2 (v_ref2_n ⟨q2, p2⟩ (fun z => q4 z.2)), fun z => absurd (h13.trans e') z⟩
  · exact ⟨fun _ => h2 (v_ref2_n ⟨q2, p2⟩ (fun z => q3 z.1)), fun z => absurd (h12.trans e) z⟩
def zb_frGB (m m1 : zb_M) : Prop := (∀ c, c ≠ 500 → (c < 515 ∨ (521 < c ∧ c < 524) ∨ (528 < c ∧ c < 531) ∨ 532 < c) → m1 c = m c) ∧ (∀ j, j ≠ 15 → j ≠ 28 → j ≠ 29 → m1 500 j = m 500 j) ∧ (∀ j, 156 ≤ j → m1 518 j = m 518 j) ∧ ∀ j, 13 ≤ j → m1 519 j = m 519 j
/-- what the reference has of both names -/
def zb_RB (m : zb_M) (s : zb_Gs) (g h : Int) : Prop := m 500 15 = zb_shn (s.1 h) ∧ zb_eqo (zb_rsz (zb_shn (s.1 g))) (m 531) (zb_nmW (zb_shN (s.1 g))).2.2.1 ∧ zb_eqo (zb_shn (s.1 g)) (m 532) (zb_oo s g) ∧ zb_eqo (zb_rsz (zb_shn (s.1 h))) (m 525) (zb_nmW (zb_shN (s.1 h))).2.2.1 ∧ zb_eqo (zb_shn (s.1 h)) (m 526) (zb_oo s h)
theorem s_X12_growBoth {d : Nat} {m : zb_M} {s : zb_Gs} {g h : Int} (hC : zb_RG m s) (hO : zb_OG s) (e : v_ref2 s g h = 0) : zb_T K_X12_growBoth (d + 6) [(2, 500), (0, g), (0, h)] zb_E0 m (fun r m1 => ((r = 1 ∧ ((zb_nmW (zb_shN (s.1 g))).1 ≤ 3000 ∧ (zb_nmW (zb_shN (s.1 h))).1 ≤ 3000) ∧ zb_RB m1 s g h) ∨ (r = 0 ∧ ¬ ((zb_nmW (zb_shN (s.1 g))).1 ≤ 3000 ∧ (zb_nmW (zb_shN (s.1 h))).1 ≤ 3000))) ∧ zb_frGB m m1) := by
  apply w_X12_growBoth
  obtain ⟨e1, e2⟩ := v_ref2_0 e
  obtain ⟨⟨g0, g1⟩, -⟩ := v_ref_0 e1
  obtain ⟨⟨k0, k1⟩, -⟩ := v_ref_0 e2
  obtain ⟨hN1, hA1⟩ := zb_shN_asc hO e1
  obtain ⟨hN2, hA2⟩ := zb_shN_asc hO e2
  have h10 : 0 ≤ zb_shn (s.1 g) := hN1.1.1
  have h11 : zb_shn (s.1 g) ≤ 12 := hN1.1.2
  have rz := zb_rsz_rng h10 h11
  unfold PM_X12_growBoth
  refine (s_X12_layOut (d := d + 1) hC hO g0 g1).mono (fun _ m2 ⟨⟨l1, l2⟩, l3, l4⟩ => ?_)
  refine (s_X12_grow (d := d) hN1 l1 l2).mono (fun r6 m6 ⟨w1, w2⟩ => ?_)
  have f6 : zb_frGB m m6 := ⟨fun c c1 c2 => by rw [w2.1 c c1 (by omega)]; exact l3 c (by omega), fun j j1 j2 j3 => by rw [w2.2.1 j j2 j3]; exact l4 j j1, fun j hj => by rw [w2.2.2.1 j (by omega), l3 518 (by omega)], fun j hj => by rw [w2.2.2.2.1 j (by omega), l3 519 (by omega)]⟩
  rcases w1 with ⟨q1, q2, q3⟩ | ⟨q1, q2⟩
  · refine ⟨fun z => by omega, fun _ => ?_⟩
    obtain ⟨q4, q5⟩ := q3.2.2 (by have := (zb_nmW_ok hN1).2.2; omega)
    refine (s_X12_keepOther (d := d + 4)).mono (fun _ m15 ⟨p1, p2, p3⟩ => ?_)
    have f15 : zb_frGB m m15 := ⟨fun c c1 c2 => by rw [p3 c (by omega) (by omega)]; exact f6.1 c c1 c2, fun j j1 j2 j3 => by rw [p3 500 (by omega) (by omega)]; exact f6.2.1 j j1 j2 j3, fun j hj => by rw [p3 518 (by omega) (by omega)]; exact f6.2.2.1 j hj, fun j hj => by rw [p3 519 (by omega) (by omega)]; exact f6.2.2.2 j hj⟩
    have hC15 : zb_RG m15 s := zb_RG_same hC (fun c c1 c2 => f15.1 c (by omega) (by omega)) (f15.2.1 13 (by omega) (by omega) (by omega))
    refine (s_X12_layOut (d := d + 1) hC15 hO k0 k1).mono (fun _ m20 ⟨⟨y1, y2⟩, y3, y4⟩ => ?_)
    refine (s_X12_grow (d := d) hN2 y1 y2).mono (fun r24 m24 ⟨z1, z2⟩ => ⟨by omega, ?_, ?_⟩)
    · rcases z1 with ⟨a1, a2, a3⟩ | ⟨a1, a2⟩
      · obtain ⟨a4, a5⟩ := a3.2.2 (by have := (zb_nmW_ok hN2).2.2; omega)
        refine Or.inl ⟨a1, ⟨q2, a2⟩, ?_, fun j j0 j1 => ?_, fun j j0 j1 => ?_, a4, a5⟩
        · rw [z2.2.1 15 (by omega) (by omega)]; exact y1.1
        · rw [z2.1 531 (by omega) (by omega), y3 531 (by omega), p1 j j0 (by omega)]; exact q4 j j0 j1
        · rw [z2.1 532 (by omega) (by omega), y3 532 (by omega), p2 j j0 (by omega)]; exact q5 j j0 j1
      · exact Or.inr ⟨a1, fun z => by omega⟩
    · exact ⟨fun c c1 c2 => by rw [z2.1 c c1 (by omega), y3 c (by omega)]; exact f15.1 c c1 c2, fun j j1 j2 j3 => by rw [z2.2.1 j j2 j3, y4 j j1]; exact f15.2.1 j j1 j2 j3, fun j hj => by rw [z2.2.2.1 j (by omega), y3 518 (by omega)]; exact f15.2.2.1 j hj, fun j hj => by rw [z2.2.2.2.1 j (by omega), y3 519 (by omega)]; exact f15.2.2.2 j hj⟩
  · exact ⟨fun _ => ⟨Or.inr ⟨rfl, fun z => by omega⟩, f6⟩, fun z => absurd q1 z⟩
theorem zb_RB_fd {m : zb_M} {s : zb_Gs} {g h : Int} {r : Int} (hO : zb_OG s) (e : v_ref2 s g h = 0) (hB : zb_RB m s g h) (hr : zb_fd (m 531) (m 525) (zb_rsz (zb_shn (s.1 h))) r) : (0 ≤ r → ¬ (zb_shn (s.1 g) = zb_shn (s.1 h) ∧ zb_fdi (zb_nmW (zb_shN (s.1 g))).2.2.1 (zb_nmW (zb_shN (s.1 h))).2.2.1 (zb_rsz (zb_shn (s.1 g))).toNat < 0)) ∧ (r < 0 → zb_shn (s.1 g) = zb_shn (s.1 h) ∧ zb_fdi (zb_nmW (zb_shN (s.1 g))).2.2.1 (zb_nmW (zb_shN (s.1 h))).2.2.1 (zb_rsz (zb_shn (s.1 g))).toNat < 0) ∧ (zb_shn (s.1 g) = zb_shn (s.1 h) → r = zb_fdi (zb_nmW (zb_shN (s.1 g))).2.2.1 (zb_nmW (zb_shN (s.1 h))).2.2.1 (zb_rsz (zb_shn (s.1 g))).toNat) := by
  obtain ⟨e1, e2⟩ := v_ref2_0 e
  obtain ⟨hN1, hA1⟩ := zb_shN_asc hO e1
  obtain ⟨hN2, hA2⟩ := zb_shN_asc hO e2
  have h10 : 0 ≤ zb_shn (s.1 g) := hN1.1.1
  have h11 : zb_shn (s.1 g) ≤ 12 := hN1.1.2
  have h20 : 0 ≤ zb_shn (s.1 h) := hN2.1.1
  have h21 : zb_shn (s.1 h) ≤ 12 := hN2.1.2
  have rz := zb_rsz_rng h10 h11
  have rz2 := zb_rsz_rng h20 h21
  obtain ⟨b0, b1, b2, b3, b4⟩ := hB
  by_cases en : zb_shn (s.1 g) = zb_shn (s.1 h)
  · rw [← en] at hr b3
    have h8 := zb_fd_i (by omega) (zb_fd_congr b1 b3 hr)
    exact ⟨fun c z => by omega, fun c => ⟨en, by omega⟩, fun _ => h8⟩
  · refine ⟨fun _ z => en z.1, fun c => ?_, fun z => absurd z en⟩
    rcases hr with ⟨z1, z2⟩ | ⟨z1, -⟩
    · have w := z2 0 (Int.le_refl _) (by omega)
      have w1 := b1 0 (Int.le_refl _) (by omega)
      have w2 := b3 0 (Int.le_refl _) (by omega)
      have w3 : (zb_nmW (zb_shN (s.1 g))).2.2.1 0 = zb_shn (s.1 g) := zb_nmW_0 hN1
      have w4 : (zb_nmW (zb_shN (s.1 h))).2.2.1 0 = zb_shn (s.1 h) := zb_nmW_0 hN2
      omega
    · omega
def zb_frRS (m m1 : zb_M) : Prop := (∀ c, c ≠ 500 → (c < 515 ∨ (521 < c ∧ c < 524) ∨ (528 < c ∧ c < 531) ∨ 533 < c) → m1 c = m c) ∧ (∀ j, j ≠ 15 → j ≠ 28 → j ≠ 29 → j ≠ 40 → m1 500 j = m 500 j) ∧ (∀ j, 156 ≤ j → m1 518 j = m 518 j) ∧ ∀ j, 13 ≤ j → m1 519 j = m 519 j
theorem zb_frGB.up {m m1 : zb_M} (f : zb_frGB m m1) : zb_frRS m m1 := ⟨fun c c1 c2 => f.1 c c1 (by omega), fun j j1 j2 j3 _ => f.2.1 j j1 j2 j3, f.2.2.1, f.2.2.2⟩
theorem zb_frGB.rf (m : zb_M) : zb_frGB m m := ⟨fun _ _ _ => rfl, fun _ _ _ _ => rfl, fun _ _ => rfl, fun _ _ => rfl⟩
theorem zb_RT_same {m m1 : zb_M} {T : zb_Tn} (hT : zb_RT m T) (h1 : m1 500 40 = m 500 40) (h2 : m1 533 = m 533) : zb_RT m1 T := by
  match T, hT with
  | none, hT => exact h1.trans hT
  | some t, ⟨a, b⟩ => exact ⟨h1.trans a, by rw [h2]; exact b⟩
theorem zb_RY_same {m m1 : zb_M} {Y : zb_Yt} (hY : zb_RY m Y) (h1 : m1 500 42 = m 500 42) (h2 : m1 534 = m 534) : zb_RY m1 Y := by
  match Y, hY with
  | none, hY => exact h1.trans hY
  | some q, hY => exact ⟨h1.trans hY.1, by rw [h2]; exact hY.2⟩
theorem s_X12_same {d : Nat} {m : zb_M} {s : zb_Gs} {T : zb_Tn} {g h : Int} (hC : zb_RG m s) (hO : zb_OG s) (hT : zb_RT m T) : zb_T K_X12_same (d + 7) [(2, 500), (0, g), (0, h)] zb_E0 m (fun r m1 => r = (v_same s T g h).1 ∧ zb_RT m1 (v_same s T g h).2 ∧ zb_frRS m m1) := by
  apply w_X12_same
  unfold PM_X12_same
  refine zb_rcall2 (d := d + 2) hC hO (fun e => ?_) (fun e => ?_) (fun e => ?_)
  · unfold v_same; rw [if_neg (by omega), e]; exact ⟨rfl, hT, (zb_frGB.rf m).up⟩
  · unfold v_same; rw [if_neg (by omega), e]; exact ⟨rfl, hT, (zb_frGB.rf m).up⟩
  unfold v_same
  rw [if_pos e]
  obtain ⟨e1, e2⟩ := v_ref2_0 e
  obtain ⟨hN1, hA1⟩ := zb_shN_asc hO e1
  obtain ⟨hN2, hA2⟩ := zb_shN_asc hO e2
  have h20 : 0 ≤ zb_shn (s.1 h) := hN2.1.1
  have h21 : zb_shn (s.1 h) ≤ 12 := hN2.1.2
  have rz2 := zb_rsz_rng h20 h21
  refine (s_X12_growBoth (d := d) hC hO e).mono (fun r40 m40 ⟨b1, f40⟩ => ?_)
  have hT40 : zb_RT m40 T := zb_RT_same hT (f40.2.1 40 (by omega) (by omega) (by omega)) (f40.1 533 (by omega) (by omega))
  rcases b1 with ⟨q1, q2, hB⟩ | ⟨q1, q2⟩
  · refine ⟨fun z => by omega, fun _ => ?_⟩
    rw [if_pos q2, hB.1]
    refine (s_X12_sizeOf h20 h21).mono (fun r54 h54 => ?_)
    rw [h54]
    refine (s_X12_differsAt (by omega) (by omega)).mono (fun r57 h57 => ?_)
    have key := zb_RB_fd hO e hB h57
    refine ⟨fun c => ?_, fun c => ?_⟩
    · have kk := key.2.1 c
      rw [if_pos kk]
      obtain ⟨k0, k1, k2, k3, k4⟩ := hB
      refine (s_X12_clearTurning (d := d + 5)).mono (fun _ m66 ⟨t1, t2, t3⟩ => ?_)
      unfold PL_X12_same_71
      rw [zb_v_500_31, zb_v_500_39, zb_v_500_41]
      intro X hX
      refine zb_lp1 (fun v mm => 0 ≤ v ∧ (∀ i, 0 ≤ i → i < 12 → mm 533 i = zb_t2 v (zb_oo s g) (zb_oo s h) i) ∧ ∀ b, b ≠ 533 → mm b = m66 b) (zb_shn (s.1 h)) (fun v mm ⟨v0, u1, u2⟩ vn nxt => hX v mm ⟨fun c => ?_, fun c => ?_⟩) 0 m66 h20 ⟨by omega, fun i i0 i1 => by rw [t1.2 i i0 i1]; rfl, fun b _ => rfl⟩
      · rw [u2 500 (by omega), t2 15 (by omega), k0] at c
        have hv : v = zb_shn (s.1 h) := by omega
        subst hv
        rw [kk.1]
        refine ⟨rfl, ⟨by rw [u2 500 (by omega)]; exact t1.1, u1⟩, fun c c1 c2 => by rw [u2 c (by omega), t3 c c1 (by omega)]; exact f40.1 c c1 (by omega), fun j j1 j2 j3 j4 => by rw [u2 500 (by omega), t2 j j4]; exact f40.2.1 j j1 j2 j3, fun j hj => by rw [u2 518 (by omega), t3 518 (by omega) (by omega)]; exact f40.2.2.1 j hj, fun j hj => by rw [u2 519 (by omega), t3 519 (by omega) (by omega)]; exact f40.2.2.2 j hj⟩
      · rw [u2 500 (by omega), t2 15 (by omega), k0] at c
        have v1 : v < zb_shn (s.1 g) := by omega
        have o1 : mm 532 v = zb_oo s g v := by rw [u2 532 (by omega), t3 532 (by omega) (by omega)]; exact k2 v v0 v1
        have o2 : mm 526 v = zb_oo s h v := by rw [u2 526 (by omega), t3 526 (by omega) (by omega)]; exact k4 v v0 (by omega)
        have rg : 0 ≤ zb_oo s g v ∧ zb_oo s g v < 12 := by
          have a := (zb_nmW_ok hN1).2.1.1 v v0 v1
          exact hA1.1 _ a.1 a.2
        rw [o1, o2]
        refine ⟨⟨v0, by omega⟩, rg, fun m95 e95 => ⟨zb_inI_of (by omega) (by omega), nxt (by omega) m95 ⟨by omega, fun i i0 i1 => ?_, fun b hb => by rw [zb_u3 e95 hb]; exact u2 b hb⟩⟩⟩
        rw [zb_t2_S v0]
        by_cases w : zb_oo s g v = i
        · rw [if_pos w, ← w, zb_u1 e95]
        · rw [if_neg w, zb_u2 e95 (by omega)]; exact u1 i i0 i1
    · rw [if_neg (key.1 (by omega))]
      exact ⟨rfl, hT40, f40.up⟩
  · refine ⟨fun _ => ?_, fun z => absurd q1 z⟩
    rw [if_neg q2]
    exact ⟨rfl, hT40, f40.up⟩
def zb_frRU (m m1 : zb_M) : Prop := (∀ c, c ≠ 500 → (c < 515 ∨ (521 < c ∧ c < 524) ∨ (528 < c ∧ c < 531) ∨ c = 533 ∨ 538 < c) → m1 c = m c) ∧ (∀ j, j ≠ 15 → j ≠ 28 → j ≠ 29 → j ≠ 42 → m1 500 j = m 500 j) ∧ (∀ j, 156 ≤ j → j < 168 → m1 518 j = m 518 j) ∧ m1 519 13 = m 519 13
theorem zb_frRU.rf (m : zb_M) : zb_frRU m m := ⟨fun _ _ _ => rfl, fun _ _ _ _ _ => rfl, fun _ _ _ => rfl, rfl⟩
theorem s_X12_unlike {d : Nat} {m : zb_M} {s : zb_Gs} {Y : zb_Yt} {g h : Int} (hC : zb_RG m s) (hO : zb_OG s) (hY : zb_RY m Y) : zb_T K_X12_unlike (d + 7) [(2, 500), (0, g), (0, h)] zb_E0 m (fun r m1 => r = (v_unlike s Y g h).1 ∧ zb_RY m1 (v_unlike s Y g h).2 ∧ zb_frRU m m1) := by
  apply w_X12_unlike
  unfold PM_X12_unlike
  rw [zb_v_500_44, zb_v_500_45, zb_v_500_46, zb_v_500_47]
  refine zb_rcall2 (d := d + 2) hC hO (fun e => ?_) (fun e => ?_) (fun e => ?_)
  · unfold v_unlike; rw [if_neg (by omega), e]; exact ⟨rfl, hY, zb_frRU.rf m⟩
  · unfold v_unlike; rw [if_neg (by omega), e]; exact ⟨rfl, hY, zb_frRU.rf m⟩
  unfold v_unlike
  rw [if_pos e]
  obtain ⟨e1, e2⟩ := v_ref2_0 e
  obtain ⟨⟨g0, g1⟩, -⟩ := v_ref_0 e1
  obtain ⟨⟨k0, k1⟩, -⟩ := v_ref_0 e2
  obtain ⟨hN1, hA1⟩ := zb_shN_asc hO e1
  obtain ⟨hN2, hA2⟩ := zb_shN_asc hO e2
  have h10 : 0 ≤ zb_shn (s.1 g) := hN1.1.1
  have h11 : zb_shn (s.1 g) ≤ 12 := hN1.1.2
  refine (s_X12_shownOf (d := d + 5) hC hO g0 g1).mono (fun r39 h39 => ?_)
  refine (s_X12_shownOf (d := d + 5) hC hO k0 k1).mono (fun r45 h45 => ?_)
  have h39 : r39 = zb_shn (s.1 g) := h39.trans (zb_sat_cnt _ _).symm
  have h45 : r45 = zb_shn (s.1 h) := h45.trans (zb_sat_cnt _ _).symm
  rw [h39, h45]
  refine ⟨fun en => ?_, fun en => ?_⟩
  · unfold zb_unl
    rw [if_neg (c := (zb_shN (s.1 g)).1 ≠ (zb_shN (s.1 h)).1) (fun z => z en)]
    have en' : (zb_shN (s.1 g)).1 = (zb_shN (s.1 h)).1 := en
    have en2 : zb_shn (s.1 h) = (zb_shN (s.1 g)).1 := en.symm
    have rz := zb_rsz_rng h10 h11
    refine (s_X12_layOut (d := d + 2) hC hO g0 g1).mono (fun _ m68 ⟨⟨l1, l2⟩, l3, l4⟩ => ?_)
    refine (s_X12_sumUp (d := d + 2) (a := 535) (b := 536) (by omega) (by omega) (by omega) zb_len_sum.1.1 zb_len_sum.1.2 hN1 l1).mono (fun _ m80 ⟨u1, u2, u3⟩ => ?_)
    have hC80 : zb_RG m80 s := zb_RG_same hC (fun c c1 c2 => by rw [u3.1 c (by omega) (by omega) (by omega)]; exact l3 c (by omega)) (by rw [u3.1 500 (by omega) (by omega) (by omega)]; exact l4 13 (by omega))
    refine (s_X12_layOut (d := d + 2) hC80 hO k0 k1).mono (fun _ m85 ⟨⟨y1, y2⟩, y3, y4⟩ => ?_)
    refine (s_X12_sumUp (d := d + 2) (a := 537) (b := 538) (by omega) (by omega) (by omega) zb_len_sum.2.1 zb_len_sum.2.2 hN2 y1).mono (fun _ m97 ⟨z1, z2, z3⟩ => ?_)
    have f97 : zb_frRU m m97 := ⟨fun c c1 c2 => by rw [z3.1 c (by omega) (by omega) (by omega), y3 c (by omega), u3.1 c (by omega) (by omega) (by omega)]; exact l3 c (by omega), fun j j1 j2 j3 j4 => by rw [z3.1 500 (by omega) (by omega) (by omega), y4 j j1, u3.1 500 (by omega) (by omega) (by omega)]; exact l4 j j1, fun j j0 j1 => by rw [z3.2.1 j (by omega), y3 518 (by omega), u3.2.1 j (by omega), l3 518 (by omega)], by rw [z3.2.2 13 (by omega), y3 519 (by omega), u3.2.2 13 (by omega), l3 519 (by omega)]⟩
    have e42 : m97 500 42 = m 500 42 := by rw [z3.1 500 (by omega) (by omega) (by omega), y4 42 (by omega), u3.1 500 (by omega) (by omega) (by omega)]; exact l4 42 (by omega)
    have e534 : m97 534 = m 534 := by rw [z3.1 534 (by omega) (by omega) (by omega), y3 534 (by omega), u3.1 534 (by omega) (by omega) (by omega)]; exact l3 534 (by omega)
    have hY97 : zb_RY m97 Y := zb_RY_same hY e42 e534
    have hC97 : zb_RG m97 s := zb_RG_same hC (fun c c1 c2 => f97.1 c (by omega) (by omega)) (f97.2.1 13 (by omega) (by omega) (by omega) (by omega))
    have a1 : ∀ k, 0 ≤ k → k < (zb_shN (s.1 g)).1 → m97 535 k = zb_skf (zb_shN (s.1 g)) k := fun k j0 j1 => by rw [z3.1 535 (by omega) (by omega) (by omega), y3 535 (by omega)]; exact u1 k j0 j1
    have a2 : ∀ k, 0 ≤ k → k < 13 → m97 536 k = zb_sz (zb_shN (s.1 g)).1 (zb_beg (zb_shN (s.1 g))).1 k := fun k j0 j1 => by rw [z3.1 536 (by omega) (by omega) (by omega), y3 536 (by omega)]; exact u2 k j0 j1
    have a3 : ∀ k, 0 ≤ k → k < (zb_shN (s.1 g)).1 → m97 537 k = zb_skf (zb_shN (s.1 h)) k := fun k j0 j1 => z1 k j0 (by rw [← en']; exact j1)
    have a4 : ∀ k, 0 ≤ k → k < 13 → m97 538 k = zb_sz (zb_shN (s.1 g)).1 (zb_beg (zb_shN (s.1 h))).1 k := fun k j0 j1 => by rw [en']; exact z2 k j0 j1
    have n97 : m97 500 15 = (zb_shN (s.1 g)).1 := by rw [z3.1 500 (by omega) (by omega) (by omega), en']; exact y1.1
    have by' : ∀ (w k a b : Int) (mm : zb_M), (∀ m1, zb_RY m1 (some (k, a, b)) → ((∀ x, x ≠ 500 → x ≠ 534 → m1 x = mm x) ∧ ∀ j, j ≠ 42 → m1 500 j = mm 500 j) → zb_frRU m m1) → zb_T K_X12_unlikeBy (d + 6) [(2, 500), (0, w), (0, k), (0, a), (0, b)] zb_E0 mm (fun r m1 => r = w ∧ zb_RY m1 (some (k, a, b)) ∧ zb_frRU m m1) := fun w k a b mm q => (s_X12_unlikeBy (d := d + 5)).mono (fun r m1 ⟨t1, t2, t3⟩ => ⟨t1, t2, q m1 t2 t3⟩)
    have up97 : ∀ m1, ((∀ x, x ≠ 500 → x ≠ 534 → m1 x = m97 x) ∧ ∀ j, j ≠ 42 → m1 500 j = m97 500 j) → zb_frRU m m1 := fun m1 q => ⟨fun c c1 c2 => by rw [q.1 c c1 (by omega)]; exact f97.1 c c1 c2, fun j j1 j2 j3 j4 => by rw [q.2 j j4]; exact f97.2.1 j j1 j2 j3 j4, fun j j0 j1 => by rw [q.1 518 (by omega) (by omega)]; exact f97.2.2.1 j j0 j1, by rw [q.1 519 (by omega) (by omega)]; exact f97.2.2.2⟩
    unfold PL_X12_unlike_103
    rw [n97, zb_v_500_44, zb_v_500_46]
    intro X hX
    refine zb_lp0 (fun v => 0 ≤ v ∧ ∀ k, 0 ≤ k → k < v → zb_skf (zb_shN (s.1 g)) k = zb_skf (zb_shN (s.1 h)) k) (zb_shN (s.1 g)).1 (fun v ⟨v0, hv⟩ vn nxt => hX v ⟨fun c => ?_, fun c => ?_⟩) 0 h10 ⟨by omega, fun k k0 k1 => by omega⟩
    · have nk := zb_fd_i (n := (zb_shN (s.1 g)).1) h10 (Or.inl ⟨rfl, fun k k0 k1 => hv k k0 (by omega)⟩ : zb_fd (zb_skf (zb_shN (s.1 g))) (zb_skf (zb_shN (s.1 h))) (zb_shN (s.1 g)).1 (-1))
      rw [if_neg (c := 0 ≤ zb_fdi (zb_skf (zb_shN (s.1 g))) (zb_skf (zb_shN (s.1 h))) (zb_shN (s.1 g)).1.toNat) (by omega)]
      unfold PJ_X12_unlike_157 PL_X12_unlike_160
      rw [zb_v_500_45, zb_v_500_47]
      intro Z hZ
      refine zb_lp0 (fun v => 0 ≤ v ∧ ∀ k, 0 ≤ k → k < v → zb_sz (zb_shN (s.1 g)).1 (zb_beg (zb_shN (s.1 g))).1 k = zb_sz (zb_shN (s.1 g)).1 (zb_beg (zb_shN (s.1 h))).1 k) 13 (fun v ⟨v0, hv⟩ vn nx2 => hZ v ⟨fun c => ?_, fun c => ?_⟩) 0 (by omega) ⟨by omega, fun k k0 k1 => by omega⟩
      · have ns := zb_fd_i (n := 13) (by omega) (Or.inl ⟨rfl, fun k k0 k1 => hv k k0 (by omega)⟩ : zb_fd (zb_sz (zb_shN (s.1 g)).1 (zb_beg (zb_shN (s.1 g))).1) (zb_sz (zb_shN (s.1 g)).1 (zb_beg (zb_shN (s.1 h))).1) 13 (-1))
        rw [if_neg (c := 0 ≤ zb_fdi (zb_sz (zb_shN (s.1 g)).1 (zb_beg (zb_shN (s.1 g))).1) (zb_sz (zb_shN (s.1 g)).1 (zb_beg (zb_shN (s.1 h))).1) 13) (by have : (13 : Int).toNat = 13 := rfl; rw [this] at ns; omega)]
        unfold PJ_X12_unlike_212
        refine (s_X12_growBoth (d := d) hC97 hO e).mono (fun r215 m215 ⟨b1, f215⟩ => ?_)
        have fu : zb_frRU m m215 := ⟨fun c c1 c2 => by rw [f215.1 c c1 (by omega)]; exact f97.1 c c1 c2, fun j j1 j2 j3 j4 => by rw [f215.2.1 j j1 j2 j3]; exact f97.2.1 j j1 j2 j3 j4, fun j j0 j1 => by rw [f215.2.2.1 j j0]; exact f97.2.2.1 j j0 j1, by rw [f215.2.2.2 13 (by omega)]; exact f97.2.2.2⟩
        have hY215 : zb_RY m215 Y := zb_RY_same hY97 (f215.2.1 42 (by omega) (by omega) (by omega)) (f215.1 534 (by omega) (by omega))
        have up215 : ∀ m1, ((∀ x, x ≠ 500 → x ≠ 534 → m1 x = m215 x) ∧ ∀ j, j ≠ 42 → m1 500 j = m215 500 j) → zb_frRU m m1 := fun m1 q => ⟨fun c c1 c2 => by rw [q.1 c c1 (by omega)]; exact fu.1 c c1 c2, fun j j1 j2 j3 j4 => by rw [q.2 j j4]; exact fu.2.1 j j1 j2 j3 j4, fun j j0 j1 => by rw [q.1 518 (by omega) (by omega)]; exact fu.2.2.1 j j0 j1, by rw [q.1 519 (by omega) (by omega)]; exact fu.2.2.2⟩
        rcases b1 with ⟨q1, q2, hB⟩ | ⟨q1, q2⟩
        · refine ⟨fun z => by omega, fun _ => ?_⟩
          rw [if_pos q2, hB.1]
          refine (s_X12_sizeOf (d := d + 5) hN2.1.1 hN2.1.2).mono (fun r229 h229 => ?_)
          have h229 : r229 = zb_rsz (zb_shn (s.1 h)) := h229
          rw [h229]
          have rz2 := zb_rsz_rng hN2.1.1 hN2.1.2
          have rz2 : 1 + zb_shn (s.1 h) ≤ zb_rsz (zb_shn (s.1 h)) ∧ zb_rsz (zb_shn (s.1 h)) ≤ 157 := rz2
          have h20 : 0 ≤ zb_shn (s.1 h) := hN2.1.1
          refine (s_X12_differsAt (d := d + 5) (by omega) (by omega)).mono (fun r232 h232 => ?_)
          have key := (zb_RB_fd hO e hB h232).2.2 en
          have key : r232 = zb_fdi (zb_nmW (zb_shN (s.1 g))).2.2.1 (zb_nmW (zb_shN (s.1 h))).2.2.1 (zb_rsz (zb_shN (s.1 g)).1).toNat := key
          refine ⟨fun c => ?_, fun c => ?_⟩
          · have lt : r232 < zb_rsz (zb_shn (s.1 h)) := by
              rcases h232 with ⟨z, -⟩ | ⟨-, z, -⟩
              · omega
              · exact z
            obtain ⟨b0, b1, b2, b3, b4⟩ := hB
            rw [zb_v_500_30, zb_v_500_38, b1 r232 c (by rw [en]; exact lt), b3 r232 c lt]
            have lt2 : r232 < 160 := by omega
            rw [key]
            rw [key] at c lt2
            rw [if_pos c]
            exact ⟨⟨c, lt2⟩, by' _ _ _ _ m215 (fun m1 _ q => up215 m1 q)⟩
          · rw [if_neg (by rw [← key]; exact c)]
            exact ⟨rfl, hY215, fu⟩
        · refine ⟨fun _ => ?_, fun z => absurd q1 z⟩
          rw [if_neg q2]
          exact ⟨rfl, hY215, fu⟩
      · have v1 : v < 13 := by omega
        rw [a2 v v0 v1, a4 v v0 v1]
        refine ⟨⟨v0, v1⟩, fun c2 => ⟨zb_inI_of (by omega) (by omega), nx2 v1 ⟨by omega, fun k k0 kk => ?_⟩⟩, fun c2 => ?_⟩
        · by_cases w : k = v
          · rw [w]; exact c2
          · exact hv k k0 (by omega)
        · have ef := zb_fd_i (n := 13) (by omega) (Or.inr ⟨v0, v1, hv, c2⟩ : zb_fd (zb_sz (zb_shN (s.1 g)).1 (zb_beg (zb_shN (s.1 g))).1) (zb_sz (zb_shN (s.1 g)).1 (zb_beg (zb_shN (s.1 h))).1) 13 v)
          have ef : v = zb_fdi (zb_sz (zb_shN (s.1 g)).1 (zb_beg (zb_shN (s.1 g))).1) (zb_sz (zb_shN (s.1 g)).1 (zb_beg (zb_shN (s.1 h))).1) 13 := ef
          unfold PJ_X12_unlike_184
          rw [zb_v_500_45, zb_v_500_47, a2 v v0 v1, a4 v v0 v1]
          clear hv
          rw [ef]
          rw [ef] at v0 v1
          rw [if_pos v0]
          exact ⟨⟨v0, v1⟩, by' _ _ _ _ m97 (fun m1 _ q => up97 m1 q)⟩
    · have v1 : v < (zb_shN (s.1 g)).1 := by omega
      have v2 : v < 12 := by have : (zb_shN (s.1 g)).1 ≤ 12 := h11; omega
      rw [a1 v v0 v1, a3 v v0 v1]
      refine ⟨⟨v0, v2⟩, fun c2 => ⟨zb_inI_of (by omega) (by omega), nxt v1 ⟨by omega, fun k k0 kk => ?_⟩⟩, fun c2 => ?_⟩
      · by_cases w : k = v
        · rw [w]; exact c2
        · exact hv k k0 (by omega)
      · have ef := zb_fd_i (n := (zb_shN (s.1 g)).1) h10 (Or.inr ⟨v0, v1, hv, c2⟩ : zb_fd (zb_skf (zb_shN (s.1 g))) (zb_skf (zb_shN (s.1 h))) (zb_shN (s.1 g)).1 v)
        unfold PJ_X12_unlike_129
        rw [zb_v_500_44, zb_v_500_46, a1 v v0 v1, a3 v v0 v1]
        clear hv
        rw [ef]
        rw [ef] at v0 v2
        rw [if_pos v0]
        exact ⟨⟨v0, v2⟩, by' _ _ _ _ m97 (fun m1 _ q => up97 m1 q)⟩
  · unfold zb_unl
    rw [if_pos (c := (zb_shN (s.1 g)).1 ≠ (zb_shN (s.1 h)).1) en]
    exact (s_X12_unlikeBy (d := d + 5)).mono (fun r m1 ⟨t1, t2, t3⟩ => ⟨t1, t2, fun c c1 c2 => t3.1 c c1 (by omega), fun j _ _ _ j4 => t3.2 j j4, fun j _ _ => by rw [t3.1 518 (by omega) (by omega)], by rw [t3.1 519 (by omega) (by omega)]⟩)
theorem s_X12_why {d : Nat} {m : zb_M} {Y : zb_Yt} {w : Int} (hY : zb_RY m Y) : zb_Tp K_X12_why (d + 2) [(2, 500), (0, w)] zb_E0 m (fun r => r = v_why Y w) := by
  apply w_X12_why
  unfold PM_X12_why
  rw [zb_v_500_43]
  match Y, hY with
  | none, hY => exact ⟨fun _ => rfl, fun z => absurd hY z⟩
  | some q, ⟨p0, p1, p2, p3⟩ =>
    refine ⟨fun z => by omega, fun _ => s_X12_in.mono (fun r h => ?_)⟩
    show (r = 0 → -1 = (if w = 0 then q.1 else if w = 1 then q.2.1 else if w = 2 then q.2.2 else -1)) ∧ (¬ r = 0 → (0 ≤ w ∧ w < 3) ∧ m 534 w = (if w = 0 then q.1 else if w = 1 then q.2.1 else if w = 2 then q.2.2 else -1))
    rcases zb_if1 h with ⟨h1, h2⟩ | ⟨h1, h2⟩
    · exact ⟨fun _ => by rw [if_neg (by omega), if_neg (by omega), if_neg (by omega)], fun z => absurd h1 z⟩
    · refine ⟨fun z => by omega, fun _ => ⟨by omega, ?_⟩⟩
      by_cases c0 : w = 0
      · rw [if_pos c0, c0]; exact p1
      · by_cases c1 : w = 1
        · rw [if_neg c0, if_pos c1, c1]; exact p2
        · have c2 : w = 2 := by omega
          rw [if_neg c0, if_neg c1, if_pos c2, c2]; exact p3
