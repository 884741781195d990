/-! ===== the reference's turnings ===== -/
/-- what turnings of the reference leave (beside its turning and its makers) -/
def zb_frS (m m1 : zb_M) : Prop := (∀ c, (c < 500 ∨ (500 < c ∧ c < 515) ∨ (517 < c ∧ c ≠ 539)) → m1 c = m c) ∧ ∀ j, j ≠ 15 → m1 500 j = m 500 j
theorem s_X12_turnings {d : Nat} {m : zb_M} {s : zb_Gs} {g : Int} (hC : zb_RG m s) (hO : zb_OG s) : zb_T K_X12_turnings (d + 5) [(2, 500), (0, g)] zb_E0 m (fun r m1 => r = v_turnings s g ∧ zb_frS m m1) := by
  apply w_X12_turnings
  unfold PM_X12_turnings
  refine zb_rcall hC hO (fun e => ⟨by unfold v_turnings; rw [if_neg (by omega), e], fun _ _ => rfl, fun _ _ => rfl⟩) (fun e => ⟨by unfold v_turnings; rw [if_neg (by omega), e], fun _ _ => rfl, fun _ _ => rfl⟩) (fun e r m1 l1 l2 l3 l4 => ?_)
  obtain ⟨hN, hA⟩ := zb_shN_asc hO e
  have hn := hN.1.2
  unfold v_turnings
  rw [if_pos e]
  unfold PL_X12_turnings_34
  intro X hX
  refine zb_lq2 (fun c v mm => 0 ≤ v ∧ c = zb_prd (zb_chn (zb_shN (s.1 g))) v.toNat ∧ ∀ b, b ≠ 539 → mm b = m1 b) (zb_shN (s.1 g)).1 (fun c v mm ⟨v0, hcv, hf⟩ vn nxt => hX c v mm ⟨fun c1 => ?_, fun c1 => ?_⟩) 1 0 m1 hN.1.1 ⟨by omega, rfl, fun b _ => rfl⟩
  · rw [hf 500 (by omega), l1.1] at c1
    refine ⟨by rw [hcv, show v = zb_shn (s.1 g) by have : (zb_shN (s.1 g)).1 = zb_shn (s.1 g) := rfl; omega], fun b hb => by rw [hf b (by omega)]; exact l3 b (by omega), fun j hj => by rw [hf 500 (by omega)]; exact l4 j hj⟩
  · rw [hf 500 (by omega), l1.1] at c1
    have hRN : zb_RN mm (zb_shN (s.1 g)) := zb_RN_same l1 (by rw [hf 500 (by omega)]) (hf 516 (by omega)) (hf 517 (by omega))
    refine (s_X12_chainOf (d := d + 1) hN hRN v0 (by omega)).mono (fun r47 m47 ⟨⟨q1, q2⟩, q3⟩ => ?_)
    rw [q1, hcv, ← zb_prd_S _ v0]
    exact ⟨zb_prd_L (by omega) (fun x _ _ => zb_chn_rng hN x), zb_inI_of (by omega) (by omega), nxt (by omega) _ m47 ⟨by omega, rfl, fun b hb => by rw [q3 b hb]; exact hf b hb⟩⟩
theorem s_X12_chain {d : Nat} {m : zb_M} {s : zb_Gs} {g k : Int} (hC : zb_RG m s) (hO : zb_OG s) : zb_T K_X12_chain (d + 5) [(2, 500), (0, g), (0, k)] zb_E0 m (fun r m1 => r = v_chain s g k ∧ zb_frS m m1) := by
  apply w_X12_chain
  unfold PM_X12_chain
  refine zb_rcall hC hO (fun e => ⟨by unfold v_chain; rw [if_neg (by omega), e], fun _ _ => rfl, fun _ _ => rfl⟩) (fun e => ⟨by unfold v_chain; rw [if_neg (by omega), e], fun _ _ => rfl, fun _ _ => rfl⟩) (fun e r m1 l1 l2 l3 l4 => ?_)
  obtain ⟨hN, hA⟩ := zb_shN_asc hO e
  have hn : zb_shn (s.1 g) ≤ 12 := hN.1.2
  have hn0 : 0 ≤ zb_shn (s.1 g) := hN.1.1
  have l15 : m1 500 15 = zb_shn (s.1 g) := l1.1
  unfold v_chain
  rw [if_pos e, l15]
  refine ⟨zb_inI_of (by omega) (by omega), (s_X12_in (d := d + 3)).mono (fun r34 h34 => ?_)⟩
  rcases zb_if1 h34 with ⟨q1, q2⟩ | ⟨q1, q2⟩
  · exact ⟨fun _ => ⟨by rw [if_neg (by omega)], fun c hc => l3 c (by omega), l4⟩, fun z => absurd q1 z⟩
  · refine ⟨fun z => by omega, fun _ => (s_X12_chainOf (d := d + 1) hN l1 q2.1 (show k < zb_shn (s.1 g) by omega)).mono (fun r42 m42 ⟨⟨p1, _⟩, p3⟩ => ⟨by rw [if_pos (by omega)]; exact p1, fun c hc => by rw [p3 c (by omega)]; exact l3 c (by omega), fun j hj => by rw [p3 500 (by omega)]; exact l4 j hj⟩)⟩
theorem s_X12_orbit {d : Nat} {m : zb_M} {s : zb_Gs} {g a : Int} (hC : zb_RG m s) (hO : zb_OG s) : zb_T K_X12_orbit (d + 5) [(2, 500), (0, g), (0, a)] zb_E0 m (fun r m1 => r = v_orbit s g a ∧ zb_frS m m1) := by
  apply w_X12_orbit
  unfold PM_X12_orbit
  refine zb_rcall hC hO (fun e => ⟨by unfold v_orbit; rw [if_neg (by omega), e], fun _ _ => rfl, fun _ _ => rfl⟩) (fun e => ⟨by unfold v_orbit; rw [if_neg (by omega), e], fun _ _ => rfl, fun _ _ => rfl⟩) (fun e r m1 l1 l2 l3 l4 => ?_)
  obtain ⟨hN, hA⟩ := zb_shN_asc hO e
  have hn : zb_shn (s.1 g) ≤ 12 := hN.1.2
  have hn2 : (zb_shN (s.1 g)).1 ≤ 12 := hN.1.2
  unfold v_orbit
  rw [if_pos e]
  refine (s_X12_shownPlace (d := d + 3) (n := zb_shn (s.1 g)) (o := zb_sha (s.1 g)) l1.1 hn hN.1.1 l2).mono (fun x hx => ?_)
  have ex := zb_ix_N hA hN.1.1 hx
  rw [← ex]
  refine ⟨fun q => ?_, fun q => ⟨by rw [if_neg q], fun c hc => l3 c (by omega), l4⟩⟩
  rw [if_pos q]
  have x1 : x < zb_shn (s.1 g) := (zb_ix_rng (k := 0) hx q).1
  unfold PL_X12_orbit_44
  intro X hX
  refine zb_lq2 (fun c v mm => 0 ≤ v ∧ c = zb_sum (fun y => @ite Int (∃ f, zb_led (zb_shN (s.1 g)) 0 x y f) (Classical.propDecidable _) 1 0) v.toNat ∧ (0 ≤ c ∧ c ≤ v) ∧ ∀ b, b ≠ 539 → mm b = m1 b) (zb_shN (s.1 g)).1 (fun c v mm ⟨v0, hc, cr, hf⟩ vn nxt => hX c v mm ⟨fun c1 => ?_, fun c1 => ?_⟩) 0 0 m1 hN.1.1 ⟨Int.le_refl _, rfl, by omega, fun b _ => rfl⟩
  · rw [hf 500 (by omega), l1.1] at c1
    have hv : v = (zb_shN (s.1 g)).1 := by omega
    subst hv
    exact ⟨hc, fun b hb => by rw [hf b (by omega)]; exact l3 b (by omega), fun j hj => by rw [hf 500 (by omega)]; exact l4 j hj⟩
  · rw [hf 500 (by omega), l1.1] at c1
    have hRN : zb_RN mm (zb_shN (s.1 g)) := zb_RN_same l1 (by rw [hf 500 (by omega)]) (hf 516 (by omega)) (hf 517 (by omega))
    refine (s_X12_find (d := d + 2) hN hRN (Int.le_refl _) q x1 (by omega) (by omega)).mono (fun r60 m60 ⟨q1, q2⟩ => ?_)
    have hf60 : ∀ b, b ≠ 539 → m60 b = m1 b := fun b hb => by rw [q2 b hb]; exact hf b hb
    rcases q1 with ⟨r1, r2⟩ | ⟨r1, r2⟩
    · refine ⟨fun z => by omega, fun _ => ⟨zb_inI_of (by omega) (by omega), zb_inI_of (by omega) (by omega), nxt (by omega) (c + 1) m60 ⟨by omega, ?_, by omega, hf60⟩⟩⟩
      rw [zb_sum_S _ v0, ← hc, if_pos ⟨_, r2.1⟩]
    · refine ⟨fun _ => ⟨zb_inI_of (by omega) (by omega), zb_inI_of (by omega) (by omega), nxt (by omega) (c + 0) m60 ⟨by omega, ?_, by omega, hf60⟩⟩, fun z => absurd r1 z⟩
      rw [zb_sum_S _ v0, ← hc, if_neg (fun z => by obtain ⟨f, hz⟩ := z; exact r2 f hz)]
theorem s_X12_clearTurning {d : Nat} {m : zb_M} : zb_T K_X12_clearTurning (d + 1) [(2, 500)] zb_E0 m (fun _ m1 => (m1 500 40 = 1 ∧ ∀ i, 0 ≤ i → i < 12 → m1 533 i = -1) ∧ (∀ j, j ≠ 40 → m1 500 j = m 500 j) ∧ ∀ b, b ≠ 500 → b ≠ 533 → m1 b = m b) := by
  apply w_X12_clearTurning
  unfold PM_X12_clearTurning
  intro m2 e2
  unfold PL_X12_clearTurning_7
  rw [zb_v_500_41]
  intro X hX
  refine zb_lp1 (fun v mm => 0 ≤ v ∧ (∀ i, 0 ≤ i → i < v → mm 533 i = -1) ∧ ∀ b, b ≠ 533 → mm b = m2 b) 12 (fun v mm ⟨v0, t1, t2⟩ vn nxt => hX v mm ⟨fun c => ⟨⟨by rw [t2 500 (by omega)]; exact zb_u1 e2, fun i i0 i1 => t1 i i0 (by omega)⟩, fun j hj => by rw [t2 500 (by omega)]; exact zb_u2 e2 (by omega), fun b b1 b2 => by rw [t2 b b2]; exact zb_u3 e2 b1⟩, fun c => ⟨⟨v0, by omega⟩, fun m19 e19 => ⟨zb_inI_of (by omega) (by omega), nxt (by omega) m19 ⟨by omega, fun i i0 i1 => ?_, fun b hb => by rw [zb_u3 e19 hb]; exact t2 b hb⟩⟩⟩⟩) 0 m2 (by omega) ⟨by omega, fun i i0 i1 => by omega, fun b _ => rfl⟩
  by_cases q : i = v
  · rw [q, zb_u1 e19]
  · rw [zb_u2 e19 (by omega)]; exact t1 i i0 (by omega)
def zb_frST (m m1 : zb_M) : Prop := (∀ c, (c < 500 ∨ (500 < c ∧ c < 515) ∨ (517 < c ∧ c ≠ 539 ∧ c ≠ 533)) → m1 c = m c) ∧ ∀ j, j ≠ 15 → j ≠ 40 → m1 500 j = m 500 j
theorem s_X12_where {d : Nat} {m : zb_M} {s : zb_Gs} {T : zb_Tn} {g a b : Int} (hC : zb_RG m s) (hO : zb_OG s) (hT : zb_RT m T) : zb_T K_X12_where (d + 5) [(2, 500), (0, g), (0, a), (0, b)] zb_E0 m (fun r m1 => r = (v_where s T g a b).1 ∧ zb_RT m1 (v_where s T g a b).2 ∧ zb_frST m m1) := by
  apply w_X12_where
  unfold PM_X12_where
  have same : ∀ m1 : zb_M, m1 533 = m 533 → m1 500 40 = m 500 40 → zb_RT m1 T := fun m1 h3 h4 => by
    match T, hT with
    | none, hT => exact h4.trans hT
    | some t, hT => exact ⟨h4.trans hT.1, by rw [h3]; exact hT.2⟩
  refine zb_rcall hC hO (fun e => ?_) (fun e => ?_) (fun e r m1 l1 l2 l3 l4 => ?_)
  · unfold v_where; rw [if_neg (by omega), e]; exact ⟨rfl, hT, fun _ _ => rfl, fun _ _ _ => rfl⟩
  · unfold v_where; rw [if_neg (by omega), e]; exact ⟨rfl, hT, fun _ _ => rfl, fun _ _ _ => rfl⟩
  obtain ⟨hN, hA⟩ := zb_shN_asc hO e
  have hn : zb_shn (s.1 g) ≤ 12 := hN.1.2
  unfold v_where
  rw [if_pos e]
  refine (s_X12_shownPlace (d := d + 3) (n := zb_shn (s.1 g)) (o := zb_sha (s.1 g)) l1.1 hn hN.1.1 l2).mono (fun x hx => ?_)
  refine (s_X12_shownPlace (d := d + 3) (n := zb_shn (s.1 g)) (o := zb_sha (s.1 g)) l1.1 hn hN.1.1 l2).mono (fun y hy => ?_)
  have ex := zb_ix_N hA hN.1.1 hx
  have ey := zb_ix_N hA hN.1.1 hy
  rw [← ex, ← ey]
  have bad : ¬ (0 ≤ x ∧ 0 ≤ y) → (fun r m1 => r = (if 0 ≤ x ∧ 0 ≤ y then (@ite (Int × zb_Tn) (∃ f, zb_led (zb_shN (s.1 g)) 0 x y f) (Classical.propDecidable _) (1, some (zb_tn (zb_shn (s.1 g)) (zb_sha (s.1 g)) (zb_l0 (zb_shN (s.1 g)) x y))) (0, T)) else (-1, T)).1 ∧ zb_RT m1 (if 0 ≤ x ∧ 0 ≤ y then (@ite (Int × zb_Tn) (∃ f, zb_led (zb_shN (s.1 g)) 0 x y f) (Classical.propDecidable _) (1, some (zb_tn (zb_shn (s.1 g)) (zb_sha (s.1 g)) (zb_l0 (zb_shN (s.1 g)) x y))) (0, T)) else (-1, T)).2 ∧ zb_frST m m1) (-1) m1 := by
    intro q
    show -1 = (if 0 ≤ x ∧ 0 ≤ y then _ else ((-1 : Int), T)).1 ∧ zb_RT m1 (if 0 ≤ x ∧ 0 ≤ y then _ else ((-1 : Int), T)).2 ∧ zb_frST m m1
    rw [if_neg q]
    exact ⟨rfl, same m1 (l3 533 (by omega)) (l4 40 (by omega)), fun c hc => l3 c (by omega), fun j j1 _ => l4 j j1⟩
  refine ⟨fun q => bad (by omega), fun q => ⟨fun q2 => ?_, fun q2 => bad (by omega)⟩⟩
  have x1 : x < zb_shn (s.1 g) := (zb_ix_rng (k := 0) hx (by omega)).1
  have y1 : y < zb_shn (s.1 g) := (zb_ix_rng (k := 0) hy q2).1
  rw [if_pos ⟨by omega, q2⟩]
  refine (s_X12_find (d := d + 2) hN l1 (Int.le_refl _) (by omega) x1 q2 y1).mono (fun r58 m58 ⟨g1, g2⟩ => ?_)
  rcases g1 with ⟨r1, r2⟩ | ⟨r1, r2⟩
  · refine ⟨fun z => by omega, fun _ => (s_X12_clearTurning (d := d + 3)).mono (fun _ m67 ⟨⟨c1, c2⟩, c3, c4⟩ => ?_)⟩
    rw [if_pos ⟨_, r2.1⟩]
    have hpm := r2.1.1.1.1
    have e39 : m67 539 = m58 539 := c4 539 (by omega) (by omega)
    have e15 : m67 515 = m1 515 := by rw [c4 515 (by omega) (by omega), g2 515 (by omega)]
    have en : m67 500 15 = zb_shn (s.1 g) := by rw [c3 15 (by omega), g2 500 (by omega)]; exact l1.1
    unfold PL_X12_where_73
    rw [zb_v_500_16, zb_v_500_41, zb_v_500_48]
    intro X hX
    refine zb_lp1 (fun v mm => 0 ≤ v ∧ (∀ i, 0 ≤ i → i < 12 → mm 533 i = zb_tn v (zb_sha (s.1 g)) (m58 539) i) ∧ ∀ b, b ≠ 533 → mm b = m67 b) (zb_shn (s.1 g)) (fun v mm ⟨v0, t1, t2⟩ vn nxt => hX v mm ⟨fun c => ?_, fun c => ?_⟩) 0 m67 hN.1.1 ⟨by omega, fun i i0 i1 => by rw [c2 i i0 i1]; rfl, fun b _ => rfl⟩
    · rw [t2 500 (by omega), en] at c
      have hv : v = zb_shn (s.1 g) := by omega
      subst hv
      exact ⟨rfl, ⟨by rw [t2 500 (by omega)]; exact c1, fun i i0 i1 => (t1 i i0 i1).trans (zb_tn_congr (zb_l0_ok r2) i)⟩, fun c hc => by rw [t2 c (by omega), c4 c (by omega) (by omega), g2 c (by omega)]; exact l3 c (by omega), fun j j1 j2 => by rw [t2 500 (by omega), c3 j j2, g2 500 (by omega)]; exact l4 j j1⟩
    · rw [t2 500 (by omega), en] at c
      have hv1 : v < zb_shn (s.1 g) := by omega
      have hfv := hpm.1 v v0 hv1
      have hov := hA.1 v v0 hv1
      have hfv1 : m58 539 v < zb_shn (s.1 g) := hfv.2
      rw [t2 539 (by omega), t2 515 (by omega), e39, e15, l2 v v0 hv1, l2 _ hfv.1 hfv.2]
      refine ⟨⟨v0, by omega⟩, ⟨hfv.1, by omega⟩, ⟨hov.1, hov.2⟩, fun m105 e105 => ⟨zb_inI_of (by omega) (by omega), nxt (by omega) m105 ⟨by omega, fun i i0 i1 => ?_, fun b hb => by rw [zb_u3 e105 hb]; exact t2 b hb⟩⟩⟩
      rw [zb_tn_S v0]
      by_cases q : zb_sha (s.1 g) v = i
      · rw [if_pos q, ← q, zb_u1 e105]
      · rw [if_neg q, zb_u2 e105 (by omega)]; exact t1 i i0 i1
  · refine ⟨fun _ => ?_, fun z => absurd r1 z⟩
    rw [if_neg (fun z => by obtain ⟨f, hz⟩ := z; exact r2 f hz)]
    exact ⟨rfl, same m58 (by rw [g2 533 (by omega)]; exact l3 533 (by omega)) (by rw [g2 500 (by omega)]; exact l4 40 (by omega)), fun c hc => by rw [g2 c (by omega)]; exact l3 c (by omega), fun j j1 _ => by rw [g2 500 (by omega)]; exact l4 j j1⟩
theorem s_X12_by {d : Nat} {m : zb_M} {T : zb_Tn} {i : Int} (h : zb_RT m T) (hOT : zb_OT T) : zb_Tp K_X12_by (d + 2) [(2, 500), (0, i)] zb_E0 m (fun r => r = v_by T i) := by
  apply w_X12_by
  unfold PM_X12_by
  rw [zb_v_500_41]
  match T, h, hOT with
  | none, h, _ => exact ⟨fun _ => rfl, fun z => absurd h z⟩
  | some t, ⟨h1, h2⟩, hOT =>
    refine ⟨fun z => by omega, fun _ => s_X12_in.mono (fun r hr => ?_)⟩
    show (r = 0 → -1 = (if 0 ≤ i ∧ i < 12 then t i else -1)) ∧ (¬ r = 0 → (0 ≤ i ∧ i < 12) ∧ (m 533 i < 0 → -1 = (if 0 ≤ i ∧ i < 12 then t i else -1)) ∧ (¬ m 533 i < 0 → m 533 i = (if 0 ≤ i ∧ i < 12 then t i else -1)))
    rcases zb_if1 hr with ⟨q1, q2⟩ | ⟨q1, q2⟩
    · exact ⟨fun _ => by rw [if_neg (by omega)], fun z => absurd q1 z⟩
    · have hi : 0 ≤ i ∧ i < 12 := by omega
      have := hOT i hi.1 hi.2
      rw [if_pos hi, h2 i hi.1 hi.2]
      exact ⟨fun z => by omega, fun _ => ⟨hi, fun c => by omega, fun _ => rfl⟩⟩
theorem s_X12_maker {d : Nat} {m : zb_M} {K : zb_Km} {k i : Int} (hK : zb_RK m K) (hOK : zb_OK K) : zb_Tp K_X12_maker (d + 2) [(2, 500), (0, k), (0, i)] zb_E0 m (fun r => r = v_maker K k i) := by
  apply w_X12_maker
  unfold PM_X12_maker v_maker
  obtain ⟨⟨h1, h2⟩, b, hb, eb, hbits⟩ := hK
  have hk := hOK.2.2.1
  rw [h1, eb, zb_v_500_50]
  refine ⟨zb_inI_of (by omega) (by omega), s_X12_in.mono (fun r hr => ?_)⟩
  rcases zb_if1 hr with ⟨q1, q2⟩ | ⟨q1, q2⟩
  · exact ⟨fun _ => by rw [if_neg (by omega)], fun z => absurd q1 z⟩
  refine ⟨fun z => by omega, fun _ => s_X12_in.mono (fun r18 h18 => ?_)⟩
  rcases zb_if1 h18 with ⟨q3, q4⟩ | ⟨q3, q4⟩
  · exact ⟨fun _ => by rw [if_neg (by omega)], fun z => absurd q3 z⟩
  have hi : 0 ≤ i ∧ i < 12 := by omega
  have hkk : 0 ≤ k ∧ k < K.2.2.1 := by omega
  rw [if_pos ⟨hkk, hi⟩, zb_has_get hb hi.1 hi.2, hbits i hi.1 hi.2]
  have hx := zb_ix_rg K.2.1 i K.1.toNat
  have hn := hOK.1
  unfold zb_tn
  refine ⟨fun z => by omega, fun _ => ⟨fun c => ⟨zb_inI_of (by omega) (by omega), zb_inI_of (by omega) (by omega), ⟨by omega, by omega⟩, ?_⟩, fun c => by rw [if_neg c]⟩⟩
  rw [if_pos c]
  have := h2 k (zb_ix K.2.1 i K.1.toNat) hkk.1 hkk.2 c (by omega)
  rw [hx.2.2 c] at this
  exact this
theorem s_X12_then {d : Nat} {m : zb_M} {T : zb_Tn} {K : zb_Km} {k : Int} (hT : zb_RT m T) (hOT : zb_OT T) (hK : zb_RK m K) (hOK : zb_OK K) : zb_T K_X12_then (d + 2) [(2, 500), (0, k)] zb_E0 m (fun r m1 => r = (v_then T K k).1 ∧ zb_RT m1 (v_then T K k).2 ∧ ∀ c, c ≠ 533 → m1 c = m c) := by
  apply w_X12_then
  unfold PM_X12_then v_then
  obtain ⟨⟨h1, h2⟩, b, hb, eb, hbits⟩ := hK
  have hk := hOK.2.2.1
  rw [h1]
  refine ⟨zb_inI_of (by omega) (by omega), s_X12_in.mono (fun r hr => ?_)⟩
  rcases zb_if1 hr with ⟨q1, q2⟩ | ⟨q1, q2⟩
  · refine ⟨fun _ => ?_, fun z => absurd q1 z⟩
    rw [if_neg (by omega)]
    exact ⟨rfl, hT, fun _ _ => rfl⟩
  have hkk : 0 ≤ k ∧ k < K.2.2.1 := by omega
  refine ⟨fun z => by omega, fun _ => ?_⟩
  rw [if_pos hkk]
  match T, hT, hOT with
  | none, hT, _ =>
    have hT : m 500 40 = 0 := hT
    rw [hT]
    unfold PL_X12_then_23
    intro X hX
    refine hX 0 0 ⟨fun z => by omega, fun _ => ⟨fun _ => ?_, fun z => absurd rfl z⟩⟩
    unfold PJ_X12_then_105
    exact ⟨fun _ => ⟨rfl, hT, fun _ _ => rfl⟩, fun z => absurd rfl z⟩
  | some t, ⟨t1, t2⟩, hOT =>
    rw [t1]
    have fin : ∀ v : Int, ((v = 1 ∧ zb_wth t K) ∨ (v = 0 ∧ ¬ zb_wth t K)) → PJ_X12_then_105 (d + 1) zb_E0 500 k m (fun r m1 => r = (@ite (Int × zb_Tn) (zb_wth t K) (Classical.propDecidable _) (1, some (fun i => if t i = -1 then -1 else zb_tn K.1 K.2.1 (K.2.2.2 k) (t i))) (-2, some t)).1 ∧ zb_RT m1 (@ite (Int × zb_Tn) (zb_wth t K) (Classical.propDecidable _) (1, some (fun i => if t i = -1 then -1 else zb_tn K.1 K.2.1 (K.2.2.2 k) (t i))) (-2, some t)).2 ∧ ∀ c, c ≠ 533 → m1 c = m c) v := by
      intro v hv
      unfold PJ_X12_then_105
      rcases hv with ⟨v1, hw⟩ | ⟨v1, hw⟩
      · refine ⟨fun z => by omega, fun _ => ?_⟩
        rw [if_pos hw]
        unfold PL_X12_then_114
        rw [zb_v_500_41, zb_v_500_50]
        intro X hX
        refine zb_lp1 (fun v mm => 0 ≤ v ∧ (∀ i, 0 ≤ i → i < v → mm 533 i = if t i = -1 then -1 else zb_tn K.1 K.2.1 (K.2.2.2 k) (t i)) ∧ (∀ i, v ≤ i → i < 12 → mm 533 i = t i) ∧ ∀ c, c ≠ 533 → mm c = m c) 12 (fun v mm ⟨v0, u1, u2, u3⟩ vn nxt => hX v mm ⟨fun c => ⟨rfl, ⟨by rw [u3 500 (by omega)]; exact t1, fun i i0 i1 => u1 i i0 (by omega)⟩, u3⟩, fun c => ⟨⟨v0, by omega⟩, ?_⟩⟩) 0 m (by omega) ⟨by omega, fun i i0 i1 => by omega, fun i i0 i1 => t2 i i0 i1, fun _ _ => rfl⟩
        have ev := u2 v (Int.le_refl _) (by omega)
        have hr := hOT v v0 (by omega)
        have hw1 := hw v v0 (by omega)
        have up : ∀ (w : Int) (m1 : zb_M), w = (if t v = -1 then -1 else zb_tn K.1 K.2.1 (K.2.2.2 k) (t v)) → m1 = zb_up mm 533 v w → zb_inI (v + 1) ∧ X (v + 1) m1 := fun w m1 ew e1 => ⟨zb_inI_of (by omega) (by omega), nxt (by omega) m1 ⟨by omega, fun i i0 i1 => by
          by_cases q : i = v
          · rw [q, zb_u1 e1]; exact ew
          · rw [zb_u2 e1 (by omega)]; exact u1 i i0 (by omega), fun i i0 i1 => by rw [zb_u2 e1 (by omega)]; exact u2 i (by omega) i1, fun c hc => by rw [zb_u3 e1 hc]; exact u3 c hc⟩⟩
        rw [ev]
        refine ⟨fun c2 => ⟨zb_inI_of (by omega) (by omega), zb_inI_of (by omega) (by omega), ⟨by omega, by omega⟩, fun m154 e154 => up _ m154 ?_ e154⟩, fun c2 m154 e154 => up _ m154 (by rw [if_pos (by omega)]) e154⟩
        have y1 : t v ≠ -1 := by omega
        have hx := zb_ix_rg K.2.1 (t v) K.1.toNat
        have hn := hOK.1
        have hz := hw1.2 y1
        rw [if_neg y1, u3 540 (by omega)]
        unfold zb_tn
        rw [if_pos hz]
        have := h2 k _ hkk.1 hkk.2 hz (by omega)
        rw [hx.2.2 hz] at this
        exact this
      · refine ⟨fun _ => ?_, fun z => absurd v1 z⟩
        rw [if_neg hw]
        exact ⟨rfl, ⟨t1, t2⟩, fun _ _ => rfl⟩
    unfold PL_X12_then_23
    intro X hX
    refine zb_lq (fun c v => 0 ≤ v ∧ ((c = 1 ∧ ∀ i, 0 ≤ i → i < v → (t i ≠ -1 ↔ 0 ≤ zb_ix K.2.1 i K.1.toNat) ∧ (t i ≠ -1 → 0 ≤ zb_ix K.2.1 (t i) K.1.toNat)) ∨ (c = 0 ∧ ¬ zb_wth t K))) 12 (fun c v ⟨v0, hc⟩ vn nxt => hX c v ⟨fun c1 => ?_, fun c1 => ⟨fun c2 => ?_, fun c2 => ?_⟩⟩) 1 0 (by omega) ⟨by omega, Or.inl ⟨rfl, fun i i0 i1 => by omega⟩⟩
    · rcases hc with ⟨a1, a2⟩ | ⟨a1, a2⟩
      · exact fin c (Or.inl ⟨a1, fun i i0 i1 => a2 i i0 (by omega)⟩)
      · exact fin c (Or.inr ⟨a1, a2⟩)
    · rcases hc with ⟨a1, a2⟩ | ⟨a1, a2⟩
      · omega
      · exact fin c (Or.inr ⟨a1, a2⟩)
    · rcases hc with ⟨a1, a2⟩ | ⟨a1, a2⟩
      · have hr := hOT v v0 (by omega)
        have good : (t v ≠ -1 ↔ 0 ≤ zb_ix K.2.1 v K.1.toNat) → (t v ≠ -1 → 0 ≤ zb_ix K.2.1 (t v) K.1.toNat) → zb_inI (v + 1) ∧ X 1 (v + 1) := fun g1 g2 => ⟨zb_inI_of (by omega) (by omega), nxt (by omega) 1 ⟨by omega, Or.inl ⟨rfl, fun i i0 i1 => by
          by_cases q : i = v
          · rw [q]; exact ⟨g1, g2⟩
          · exact a2 i i0 (by omega)⟩⟩⟩
        have bad : ¬ ((t v ≠ -1 ↔ 0 ≤ zb_ix K.2.1 v K.1.toNat) ∧ (t v ≠ -1 → 0 ≤ zb_ix K.2.1 (t v) K.1.toNat)) → zb_inI (v + 1) ∧ X 0 (v + 1) := fun g => ⟨zb_inI_of (by omega) (by omega), nxt (by omega) 0 ⟨by omega, Or.inr ⟨rfl, fun z => g (z v v0 (by omega))⟩⟩⟩
        have j50 : ∀ s0 : Int, ((s0 = 1 ∧ 0 ≤ zb_ix K.2.1 v K.1.toNat) ∨ (s0 = 0 ∧ ¬ 0 ≤ zb_ix K.2.1 v K.1.toNat)) → PJ_X12_then_50 (d + 1) zb_E0 500 m v X (fun r m1 => r = (@ite (Int × zb_Tn) (zb_wth t K) (Classical.propDecidable _) (1, some (fun i => if t i = -1 then -1 else zb_tn K.1 K.2.1 (K.2.2.2 k) (t i))) (-2, some t)).1 ∧ zb_RT m1 (@ite (Int × zb_Tn) (zb_wth t K) (Classical.propDecidable _) (1, some (fun i => if t i = -1 then -1 else zb_tn K.1 K.2.1 (K.2.2.2 k) (t i))) (-2, some t)).2 ∧ ∀ c, c ≠ 533 → m1 c = m c) s0 := by
          intro s0 hs0
          unfold PJ_X12_then_50 PJ_X12_then_68
          rw [zb_v_500_41, t2 v v0 (by omega), eb]
          refine ⟨⟨v0, by omega⟩, fun c3 => ⟨fun c4 => ⟨fun c5 => ?_, fun c5 => absurd c4 c5⟩, fun c4 => ?_⟩, fun c3 => ⟨fun c4 => ⟨fun c5 => by omega, fun c5 => ?_⟩, fun c4 => ?_⟩⟩
          · rcases hs0 with ⟨b1, b2⟩ | ⟨b1, b2⟩
            · omega
            · exact good ⟨fun z => by omega, fun z => absurd z b2⟩ (fun z => by omega)
          · rcases hs0 with ⟨b1, b2⟩ | ⟨b1, b2⟩
            · exact bad (fun z => by have := z.1.2 b2; omega)
            · exact absurd b1 c4
          · rw [zb_has_get hb (by omega) hr.2, hbits (t v) (by omega) hr.2]
            rcases hs0 with ⟨b1, b2⟩ | ⟨b1, b2⟩
            · exact ⟨fun c6 => good ⟨fun _ => b2, fun _ => by omega⟩ (fun _ => c6), fun c6 => bad (fun z => c6 (z.2 (by omega)))⟩
            · omega
          · rcases hs0 with ⟨b1, b2⟩ | ⟨b1, b2⟩
            · exact absurd b1 c4
            · exact bad (fun z => b2 (z.1.1 (by omega)))
        rw [eb, zb_has_get hb v0 (by omega), hbits v v0 (by omega)]
        exact ⟨fun c3 => j50 1 (Or.inl ⟨rfl, c3⟩), fun c3 => j50 0 (Or.inr ⟨rfl, c3⟩)⟩
      · exact absurd a1 c2
