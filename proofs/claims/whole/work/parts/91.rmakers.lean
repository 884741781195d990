/-! ===== the reference finds makers ===== -/
def zb_frSM (m m1 : zb_M) : Prop := (∀ c, (c < 500 ∨ (500 < c ∧ c < 515) ∨ (517 < c ∧ c ≠ 539 ∧ c ≠ 540)) → m1 c = m c) ∧ ∀ j, j ≠ 15 → j ≠ 49 → j ≠ 51 → m1 500 j = m 500 j
/-- where the search for makers stands -/
def zb_Rs (mB : zb_M) (N : zb_N) (o : Int → Int) (M : zb_Mk) (mm : zb_M) : Prop := zb_rmk mm N.1 o M ∧ (∀ c, c ≠ 500 → c ≠ 539 → c ≠ 540 → mm c = mB c) ∧ ∀ j, j ≠ 49 → mm 500 j = mB 500 j
theorem zb_Rs_step {d : Nat} {mB mm : zb_M} {N : zb_N} {o : Int → Int} {M : zb_Mk} {x y : Int} {X : Int → zb_M → Prop} {Q : Int → zb_M → Prop} (hN : zb_ON N) (hA : zb_asc N.1 12 o) (hRN : zb_RN mB N) (hat : ∀ z, 0 ≤ z → z < N.1 → mB 515 z = o z) (hM : zb_MI N x M) (x0 : 0 ≤ x) (x1 : x < N.1) (y0 : 0 ≤ y) (y1 : y < N.1) (h : zb_Rs mB N o M mm) (hX : ∀ m2, zb_Rs mB N o (zb_mst N M x y) m2 → X (y + 1) m2) : (zb_Tp K_X12_leads (d + 4) [(2, 500), (0, mm 515 x), (0, mm 515 y)] zb_E0 mm (fun r103 => (r103 = 0 → zb_T K_X12_find (d + 4) [(2, 500), (0, x), (0, x), (0, y)] zb_E0 mm (fun r113 m113 => (r113 = 0 → (zb_inI (y + 1)) ∧ (X (y + 1) m113)) ∧ (¬ r113 = 0 → PL_X12_makers_122 (d + 4) zb_E0 500 Q (PJ_X12_makers_152 (d + 4) zb_E0 500 y X Q) 0 m113))) ∧ (¬ r103 = 0 → (zb_inI (y + 1)) ∧ (X (y + 1) mm)))) := by
  have hn := hN.1.2
  have hcnt := (zb_MI_cnt hM hN.1.1).2 (by omega)
  have hM0 := hM.2.1
  obtain ⟨h1, h2, h3⟩ := h
  have at' : ∀ z, 0 ≤ z → z < N.1 → mm 515 z = o z := fun z z0 z1 => by rw [h2 515 (by omega) (by omega) (by omega)]; exact hat z z0 z1
  have hRNm : zb_RN mm N := zb_RN_same hRN (h3 15 (by omega)) (h2 516 (by omega) (by omega) (by omega)) (h2 517 (by omega) (by omega) (by omega))
  rw [at' x x0 x1, at' y y0 y1]
  refine (s_X12_leads (d := d + 3) hN.1.1 hA h1 hM0 (by omega) (fun j j0 j1 => (hM.1 j j0 j1).1.1) x0 x1 y0 y1).mono (fun r103 hr => ?_)
  rcases hr with ⟨r1, r2⟩ | ⟨r1, r2⟩
  · exact ⟨fun z => by omega, fun _ => ⟨zb_inI_of (by omega) (by omega), hX mm (by rw [zb_mst_n (Or.inl r2)]; exact ⟨h1, h2, h3⟩)⟩⟩
  refine ⟨fun _ => (s_X12_find (d := d + 2) hN hRNm x0 (Int.le_refl _) x1 y0 y1).mono (fun r113 m113 ⟨g1, g2⟩ => ?_), fun z => absurd r1 z⟩
  rcases g1.symm with ⟨q1, q2⟩ | ⟨q1, q2⟩
  · refine ⟨fun _ => ⟨zb_inI_of (by omega) (by omega), hX m113 ?_⟩, fun z => absurd q1 z⟩
    rw [zb_mst_n (Or.inr q2)]
    exact ⟨⟨by rw [g2 500 (by omega)]; exact h1.1, fun k z k0 k1 z0 z1 => by rw [g2 540 (by omega)]; exact h1.2 k z k0 k1 z0 z1⟩, fun c c1 c2 c3 => by rw [g2 c c2]; exact h2 c c1 c2 c3, fun j hj => by rw [g2 500 (by omega)]; exact h3 j hj⟩
  refine ⟨fun z => by omega, fun _ => ?_⟩
  have hex : ∃ f, zb_led N x x y f := ⟨_, q2.1⟩
  have hlf := zb_lf_ok (zb_led_lst hN hex)
  have hag := zb_lst_uniq q2 hlf
  have hpm := q2.1.1.1.1
  have e49 : m113 500 49 = M.1 := by rw [g2 500 (by omega)]; exact h1.1
  have e15 : m113 500 15 = N.1 := by rw [g2 500 (by omega)]; exact hRNm.1
  have at3 : ∀ z, 0 ≤ z → z < N.1 → m113 515 z = o z := fun z z0 z1 => by rw [g2 515 (by omega)]; exact at' z z0 z1
  unfold PL_X12_makers_122
  rw [zb_v_500_50]
  intro Y hY
  refine zb_lp1 (fun v mn => 0 ≤ v ∧ (∀ j, j < 12 * M.1 → mn 540 j = m113 540 j) ∧ ∀ c, c ≠ 540 → mn c = m113 c) 12 (fun v mn ⟨v0, t1, t2⟩ vn nxt => hY v mn ?_) 0 m113 (by omega) ⟨by omega, fun j _ => rfl, fun c _ => rfl⟩
  rw [t2 500 (by omega), e49]
  refine ⟨fun c => ?_, fun c => ⟨zb_inI_of (by omega) (by omega), zb_inI_of (by omega) (by omega), ⟨by omega, by omega⟩, fun m145 e145 => ⟨zb_inI_of (by omega) (by omega), nxt (by omega) m145 ⟨by omega, fun j hj => by rw [zb_u2 e145 (by omega)]; exact t1 j hj, fun c hc => by rw [zb_u3 e145 hc]; exact t2 c hc⟩⟩⟩⟩
  unfold PJ_X12_makers_152 PL_X12_makers_155
  rw [zb_v_500_16, zb_v_500_48, zb_v_500_50]
  intro Z hZ
  refine zb_lp1 (fun v mo => 0 ≤ v ∧ (∀ j, j < 12 * M.1 → mo 540 j = m113 540 j) ∧ (∀ z, 0 ≤ z → z < v → mo 540 (12 * M.1 + o z) = o (m113 539 z)) ∧ ∀ c, c ≠ 540 → mo c = m113 c) N.1 (fun v mo ⟨v0, u1, u2, u3⟩ vn nx2 => hZ v mo ?_) 0 mn hN.1.1 ⟨by omega, t1, fun z z0 z1 => by omega, t2⟩
  have e49o : mo 500 49 = M.1 := by rw [u3 500 (by omega)]; exact e49
  rw [u3 500 (by omega), e15, e49]
  refine ⟨fun c2 => ?_, fun c2 => ?_⟩
  · have hv : v = N.1 := by omega
    subst hv
    unfold PJ_X12_makers_202
    rw [e49o]
    refine ⟨zb_inI_of (by omega) (by omega), fun m209 e209 => ⟨zb_inI_of (by omega) (by omega), hX m209 ?_⟩⟩
    rw [zb_mst_y r2 hex]
    refine ⟨⟨zb_u1 e209, fun k z k0 k1 z0 z1 => ?_⟩, fun c c1 c2 c3 => by rw [zb_u3 e209 c1, u3 c c3, g2 c c2]; exact h2 c c1 c2 c3, fun j hj => by rw [zb_u2 e209 (by omega), u3 500 (by omega), g2 500 (by omega)]; exact h3 j hj⟩
    have k1 : k < M.1 + 1 := k1
    show m209 540 (12 * k + o z) = o ((if k = M.1 then zb_lf N x y else M.2 k) z)
    rw [zb_u3 e209 (by omega)]
    have hoz := hA.1 z z0 z1
    by_cases q : k = M.1
    · rw [if_pos q, q, u2 z z0 z1, hag z z0 z1]
    · rw [if_neg q, u1 _ (by omega), g2 540 (by omega)]
      exact h1.2 k z k0 (by omega) z0 z1
  · have hv1 : v < N.1 := by omega
    have hov := hA.1 v v0 hv1
    have him := hpm.1 v v0 hv1
    rw [u3 515 (by omega), u3 539 (by omega), at3 v v0 hv1, at3 _ him.1 him.2]
    refine ⟨zb_inI_of (by omega) (by omega), ⟨v0, by omega⟩, zb_inI_of (by omega) (by omega), ⟨him.1, by omega⟩, ⟨by omega, by omega⟩, fun m195 e195 => ⟨zb_inI_of (by omega) (by omega), nx2 (by omega) m195 ⟨by omega, fun j hj => by rw [zb_u2 e195 (by omega)]; exact u1 j hj, fun z z0 z1 => ?_, fun c hc => by rw [zb_u3 e195 hc]; exact u3 c hc⟩⟩⟩
    by_cases q : z = v
    · rw [q, zb_u1 e195]
    · have ne : o z ≠ o v := fun e => q (zb_asc_inj hA z v z0 (by omega) v0 hv1 e)
      rw [zb_u2 e195 (by omega)]; exact u2 z z0 (by omega)
theorem zb_Rs_loop {d : Nat} {mB : zb_M} {N : zb_N} {o : Int → Int} {Q : Int → zb_M → Prop} {KK : zb_M → Prop} (hN : zb_ON N) (hA : zb_asc N.1 12 o) (hRN : zb_RN mB N) (hat : ∀ z, 0 ≤ z → z < N.1 → mB 515 z = o z) (h0 : zb_Rs mB N o (zb_mkx N 0) mB) (fin : ∀ m2, zb_Rs mB N o (zb_mks N) m2 → KK m2) : PL_X12_makers_76 (d + 4) zb_E0 500 Q KK (N.1 - 1) mB := by
  have hn := hN.1.2
  have hn0 := hN.1.1
  unfold PL_X12_makers_76
  intro Y hY
  have key : ∀ (f t : Nat) (mn : zb_M), (t : Int) + f = N.1 → zb_Rs mB N o (zb_mkx N t) mn → Y (N.1 - 1 - t) mn := by
    intro f
    induction f with
    | zero =>
      intro t mn htf hR
      have et : t = N.1.toNat := by omega
      subst et
      exact hY _ mn ⟨fun _ => fin mn hR, fun z => absurd (show N.1 - 1 - ((N.1.toNat : Nat) : Int) < 0 by omega) z⟩
    | succ f ih =>
      intro t mn htf hR
      have x0 : 0 ≤ N.1 - 1 - (t : Int) := by omega
      have x1 : N.1 - 1 - (t : Int) < N.1 := by omega
      have hMt := zb_mx_MI hN t (by omega)
      have hMx := zb_MI_le hMt (show N.1 - 1 - (t : Int) ≤ N.1 - t by omega)
      refine hY _ mn ⟨fun z => by omega, fun _ => ?_⟩
      unfold PL_X12_makers_82
      rw [zb_v_500_16]
      intro Z hZ
      have inner : ∀ (g j : Nat) (mo : zb_M), (j : Int) + g = t → zb_Rs mB N o (zb_my N (zb_mkx N t) (N.1 - 1 - t) j) mo → Z (N.1 - 1 - t + 1 + j) mo := by
        intro g
        induction g with
        | zero =>
          intro j mo hjg hR
          have ej : j = t := by omega
          subst ej
          refine hZ _ mo ?_
          rw [hR.2.2 15 (by omega), hRN.1]
          refine ⟨fun _ => ?_, fun z => absurd (show N.1 ≤ N.1 - 1 - (j : Int) + 1 + j by omega) z⟩
          unfold PJ_X12_makers_218
          refine ⟨zb_inI_of (by omega) (by omega), ?_⟩
          rw [show N.1 - 1 - (j : Int) + -1 = N.1 - 1 - ((j + 1 : Nat) : Int) by omega]
          exact ih (j + 1) mo (by omega) hR
        | succ g ihg =>
          intro j mo hjg hR
          have hMj := zb_my_MI hN x0 x1 hMx j (by omega)
          refine hZ _ mo ?_
          rw [hR.2.2 15 (by omega), hRN.1]
          refine ⟨fun z => by omega, fun _ => ⟨⟨x0, by omega⟩, ⟨by omega, by omega⟩, ?_⟩⟩
          refine zb_Rs_step hN hA hRN hat hMj x0 x1 (by omega) (by omega) hR (fun m2 h2 => ?_)
          rw [show N.1 - 1 - (t : Int) + 1 + j + 1 = N.1 - 1 - (t : Int) + 1 + ((j + 1 : Nat) : Int) by omega]
          exact ihg (j + 1) m2 (by omega) h2
      refine hZ _ mn ?_
      rw [hR.2.2 15 (by omega), hRN.1]
      refine ⟨fun z => by omega, fun _ => ⟨⟨x0, by omega⟩, ⟨x0, by omega⟩, ?_⟩⟩
      refine zb_Rs_step hN hA hRN hat hMx x0 x1 x0 x1 hR (fun m2 h2 => ?_)
      rw [zb_mst_n (Or.inl (zb_cn.rf _))] at h2
      have := inner t 0 m2 (by omega) h2
      rw [show N.1 - 1 - (t : Int) + 1 + ((0 : Nat) : Int) = N.1 - 1 - t + 1 by omega] at this
      exact this
  have := key N.1.toNat 0 mB (by omega) h0
  rw [show N.1 - 1 - ((0 : Nat) : Int) = N.1 - 1 by omega] at this
  exact this
theorem s_X12_makers {d : Nat} {m : zb_M} {s : zb_Gs} {K : zb_Km} {g : Int} (hC : zb_RG m s) (hO : zb_OG s) (hK : zb_RK m K) : zb_T K_X12_makers (d + 5) [(2, 500), (0, g)] zb_E0 m (fun r m1 => r = (v_makers s K g).1 ∧ zb_RK m1 (v_makers s K g).2 ∧ zb_frSM m m1) := by
  apply w_X12_makers
  unfold PM_X12_makers
  refine zb_rcall hC hO (fun e => ?_) (fun e => ?_) (fun e r m1 l1 l2 l3 l4 m28 e28 m33 e33 => ?_)
  · unfold v_makers; rw [if_neg (by omega), e]; exact ⟨rfl, hK, fun _ _ => rfl, fun _ _ _ _ => rfl⟩
  · unfold v_makers; rw [if_neg (by omega), e]; exact ⟨rfl, hK, fun _ _ => rfl, fun _ _ _ _ => rfl⟩
  obtain ⟨hN, hA⟩ := zb_shN_asc hO e
  have hn : zb_shn (s.1 g) ≤ 12 := hN.1.2
  have hn0 : 0 ≤ zb_shn (s.1 g) := hN.1.1
  unfold v_makers
  rw [if_pos e]
  have f33 : ∀ c, c ≠ 500 → m33 c = m1 c := fun c hc => by rw [zb_u3 e33 hc, zb_u3 e28 hc]
  have e15 : m33 500 15 = zb_shn (s.1 g) := by rw [zb_u2 e33 (by omega), zb_u2 e28 (by omega)]; exact l1.1
  unfold PL_X12_makers_38
  rw [zb_v_500_16]
  intro X hX
  refine zb_lp1 (fun v mm => 0 ≤ v ∧ (∃ b : Nat, b < 4096 ∧ mm 500 51 = b ∧ ∀ i, 0 ≤ i → (zb_has b i ↔ ∃ z, 0 ≤ z ∧ z < v ∧ zb_sha (s.1 g) z = i)) ∧ (∀ c, c ≠ 500 → mm c = m33 c) ∧ ∀ j, j ≠ 51 → mm 500 j = m33 500 j) (zb_shn (s.1 g)) (fun v mm ⟨v0, ⟨b, b1, b2, b3⟩, t2, t3⟩ vn nxt => hX v mm ?_) 0 m33 hn0 ⟨by omega, ⟨0, by omega, zb_u1 e33, fun i i0 => ⟨fun h => absurd h (zb_has_0 i), fun ⟨z, z0, z1, _⟩ => by omega⟩⟩, fun c _ => rfl, fun j _ => rfl⟩
  rw [t3 15 (by omega), e15, t2 515 (by omega), f33 515 (by omega), b2]
  refine ⟨fun c => ?_, fun c => ⟨⟨v0, by omega⟩, ?_⟩⟩
  · have hv : v = zb_shn (s.1 g) := by omega
    subst hv
    clear nxt hX X
    unfold PJ_X12_makers_69
    have e15m : mm 500 15 = zb_shn (s.1 g) := by rw [t3 15 (by omega)]; exact e15
    rw [e15m]
    refine ⟨zb_inI_of (by omega) (by omega), ?_⟩
    have hRN : zb_RN mm (zb_shN (s.1 g)) := ⟨e15m, fun x x0 x1 => by rw [t2 516 (by omega), f33 516 (by omega)]; exact l1.2.1 x x0 x1, fun x y x0 x1 y0 y1 => by rw [t2 517 (by omega), f33 517 (by omega)]; exact l1.2.2 x y x0 x1 y0 y1⟩
    have hat : ∀ z, 0 ≤ z → z < (zb_shN (s.1 g)).1 → mm 515 z = zb_sha (s.1 g) z := fun z z0 z1 => by rw [t2 515 (by omega), f33 515 (by omega)]; exact l2 z z0 z1
    have hR0 : zb_Rs mm (zb_shN (s.1 g)) (zb_sha (s.1 g)) (zb_mkx (zb_shN (s.1 g)) 0) mm := ⟨⟨by rw [t3 49 (by omega), zb_u2 e33 (by omega)]; exact zb_u1 e28, fun k z k0 k1 => by have k1 : k < 0 := k1; omega⟩, fun _ _ _ _ => rfl, fun _ _ => rfl⟩
    have fin : ∀ m2, zb_Rs mm (zb_shN (s.1 g)) (zb_sha (s.1 g)) (zb_mks (zb_shN (s.1 g))) m2 → PJ_X12_makers_224 (d + 4) zb_E0 500 (fun r m1 => r = ((zb_mks (zb_shN (s.1 g))).1, (zb_shn (s.1 g), zb_sha (s.1 g), zb_mks (zb_shN (s.1 g)))).1 ∧ zb_RK m1 ((zb_mks (zb_shN (s.1 g))).1, (zb_shn (s.1 g), zb_sha (s.1 g), zb_mks (zb_shN (s.1 g)))).2 ∧ zb_frSM m m1) m2 := fun m2 ⟨r1, r2, r3⟩ => by
      unfold PJ_X12_makers_224
      refine ⟨r1.1, ⟨r1, b, b1, by rw [r3 51 (by omega)]; exact b2, fun i i0 i1 => ?_⟩, fun c hc => ?_, fun j j1 j2 j3 => ?_⟩
      · rw [b3 i i0]
        refine ⟨fun ⟨z, z0, z1, ez⟩ => ?_, fun h => ⟨_, h, ?_, (zb_ix_rg _ _ _).2.2 h⟩⟩
        · rw [← ez]
          show 0 ≤ zb_ix (zb_sha (s.1 g)) (zb_sha (s.1 g) z) (zb_shn (s.1 g)).toNat
          rw [zb_ix_hit hA z0 z1]; exact z0
        · have h1 := (zb_ix_rg (zb_sha (s.1 g)) i (zb_shn (s.1 g)).toNat).2.1
          show zb_ix (zb_sha (s.1 g)) i (zb_shn (s.1 g)).toNat < zb_shn (s.1 g)
          omega
      · rw [r2 c (by omega) (by omega) (by omega), t2 c (by omega), f33 c (by omega)]; exact l3 c (by omega)
      · rw [r3 j j2, t3 j j3, zb_u2 e33 (by omega), zb_u2 e28 (by omega)]; exact l4 j j1
    exact zb_Rs_loop hN hA hRN hat hR0 fin
  · have hov := hA.1 v v0 (by omega)
    rw [l2 v v0 (by omega)]
    obtain ⟨b', eb, c1, c2, c3⟩ := zb_has_set (r := b) (i := zb_sha (s.1 g) v) b1 hov.1 hov.2
    rw [eb]
    refine fun m60 e60 => ⟨zb_inI_of (by omega) (by omega), nxt (by omega) m60 ⟨by omega, ⟨b', c1, zb_u1 e60, fun i i0 => ?_⟩, fun c hc => by rw [zb_u3 e60 hc]; exact t2 c hc, fun j hj => by rw [zb_u2 e60 (by omega)]; exact t3 j hj⟩⟩
    rw [c3 i i0, b3 i i0]
    refine ⟨fun h => ?_, fun ⟨z, z0, z1, ez⟩ => ?_⟩
    · rcases h with ⟨z, z0, z1, ez⟩ | h
      · exact ⟨z, z0, by omega, ez⟩
      · exact ⟨v, v0, by omega, h.symm⟩
    · by_cases q : z = v
      · rw [q] at ez; exact Or.inr ez.symm
      · exact Or.inl ⟨z, z0, by omega, ez⟩
/-! what is at hand keeps to its bounds -/
theorem v_where_ok {s : zb_Gs} {T : zb_Tn} {g a b : Int} (hO : zb_OG s) (hT : zb_OT T) : zb_OT (v_where s T g a b).2 := by
  unfold v_where
  by_cases e : v_ref s g = 0
  · rw [if_pos e]
    obtain ⟨hN, hA⟩ := zb_shN_asc hO e
    by_cases q : 0 ≤ zb_ix (zb_sha (s.1 g)) a (zb_shn (s.1 g)).toNat ∧ 0 ≤ zb_ix (zb_sha (s.1 g)) b (zb_shn (s.1 g)).toNat
    · rw [if_pos q]
      by_cases q2 : ∃ f, zb_led (zb_shN (s.1 g)) 0 (zb_ix (zb_sha (s.1 g)) a (zb_shn (s.1 g)).toNat) (zb_ix (zb_sha (s.1 g)) b (zb_shn (s.1 g)).toNat) f
      · rw [if_pos q2]
        obtain ⟨f, hf⟩ := zb_led_lst hN q2
        intro i i0 i1
        have r := zb_tn_rng (f := f) hA hf.1.1.1.1.1 i
        rw [zb_tn_congr (n := zb_shn (s.1 g)) (zb_l0_ok hf) i] at r
        exact ⟨r.1, r.2.1⟩
      · rw [if_neg q2]; exact hT
    · rw [if_neg q]; exact hT
  · rw [if_neg e]; exact hT
theorem v_makers_ok {s : zb_Gs} {K : zb_Km} {g : Int} (hO : zb_OG s) (hK : zb_OK K) : zb_OK (v_makers s K g).2 := by
  unfold v_makers
  by_cases e : v_ref s g = 0
  · rw [if_pos e]
    obtain ⟨hN, hA⟩ := zb_shN_asc hO e
    have hM := zb_mks_MI hN
    have hc := zb_MI_cnt hM hN.1.1
    have hn := hN.1.2
    exact ⟨hN.1.1, hA, ⟨hM.2.1, by show (zb_mks (zb_shN (s.1 g))).1 ≤ 12; omega⟩, fun j j0 j1 => (hM.1 j j0 j1).1.1⟩
  · rw [if_neg e]; exact hK
theorem v_then_ok {T : zb_Tn} {K : zb_Km} {k : Int} (hT : zb_OT T) (hK : zb_OK K) : zb_OT (v_then T K k).2 := by
  unfold v_then
  by_cases q : 0 ≤ k ∧ k < K.2.2.1
  · rw [if_pos q]
    match T, hT with
    | none, _ => trivial
    | some t, hT =>
      show zb_OT (@ite (Int × zb_Tn) (zb_wth t K) (Classical.propDecidable _) (1, some (fun i => if t i = -1 then -1 else zb_tn K.1 K.2.1 (K.2.2.2 k) (t i))) (-2, some t)).2
      by_cases w : zb_wth t K
      · rw [if_pos w]
        intro i i0 i1
        show -1 ≤ (if t i = -1 then -1 else zb_tn K.1 K.2.1 (K.2.2.2 k) (t i)) ∧ (if t i = -1 then -1 else zb_tn K.1 K.2.1 (K.2.2.2 k) (t i)) < 12
        have r := zb_tn_rng (f := K.2.2.2 k) hK.2.1 (hK.2.2.2 k q.1 q.2).1 (t i)
        by_cases z : t i = -1
        · rw [if_pos z]; omega
        · rw [if_neg z]; exact ⟨r.1, r.2.1⟩
      · rw [if_neg w]; exact hT
  · rw [if_neg q]; exact hT
