/-! ===== the reference's tree ===== -/
theorem zb_tw_sy {N : zb_N} {x y : Int} (h : zb_tw N x y) : zb_tw N y x := ⟨h.1.symm, h.2.1.symm, h.2.2.1.symm, fun z z0 z1 q1 q2 => ⟨(h.2.2.2 z z0 z1 q2 q1).1.symm, (h.2.2.2 z z0 z1 q2 q1).2.symm⟩⟩
theorem s_X12_areTwins {d : Nat} {m : zb_M} {x y : Int} {N : zb_N} (hN : zb_ON N) (h : zb_RN m N) (x0 : 0 ≤ x) (x1 : x < N.1) (y0 : 0 ≤ y) (y1 : y < N.1) : zb_Tp K_X12_areTwins (d + 1) [(2, 500), (0, x), (0, y)] zb_E0 m (fun r => (r = 1 ∧ zb_tw N x y) ∨ (r = 0 ∧ ¬ zb_tw N x y)) := by
  apply w_X12_areTwins
  have hn := hN.1.2
  have j70 : ∀ s : Int, ((s = 1 ∧ N.2.1 x = N.2.1 y ∧ N.2.2 x x = N.2.2 y y ∧ N.2.2 x y = N.2.2 y x) ∨ (s = 0 ∧ ¬ zb_tw N x y)) → PJ_X12_areTwins_70 d zb_E0 500 x y m (fun r => (r = 1 ∧ zb_tw N x y) ∨ (r = 0 ∧ ¬ zb_tw N x y)) s := by
    intro s hs
    unfold PJ_X12_areTwins_70 PL_X12_areTwins_74
    rw [h.1, zb_v_500_18]
    intro X hX
    refine zb_lq (fun s v => 0 ≤ v ∧ ((s = 1 ∧ (N.2.1 x = N.2.1 y ∧ N.2.2 x x = N.2.2 y y ∧ N.2.2 x y = N.2.2 y x) ∧ ∀ z, 0 ≤ z → z < v → z ≠ x → z ≠ y → N.2.2 x z = N.2.2 y z ∧ N.2.2 z x = N.2.2 z y) ∨ (s = 0 ∧ ¬ zb_tw N x y))) N.1 (fun s v ⟨v0, hs⟩ vn nxt => hX s v ⟨fun c => ?_, fun c => ⟨fun c2 => ?_, fun c2 => ?_⟩⟩) s 0 hN.1.1 ⟨by omega, ?_⟩
    · rcases hs with ⟨h1, h2⟩ | ⟨h1, h2⟩
      · exact Or.inl ⟨h1, h2, fun z z0 z1 => by omega⟩
      · exact Or.inr ⟨h1, h2⟩
    · rcases hs with ⟨h1, h2, h3⟩ | ⟨h1, h2⟩
      · exact ⟨Or.inr h1, Or.inl ⟨h1, h2.1, h2.2.1, h2.2.2, fun z z0 z1 q1 q2 => h3 z z0 (by omega) q1 q2⟩⟩
      · exact ⟨Or.inl h1, Or.inr ⟨h1, h2⟩⟩
    · rcases hs with ⟨h1, h2, h3⟩ | ⟨h1, h2⟩
      · omega
      · exact ⟨Or.inl h1, Or.inr ⟨h1, h2⟩⟩
    · rcases hs with ⟨h1, h2, h3⟩ | ⟨h1, h2⟩
      · have v1 : v < N.1 := by omega
        have good : (v ≠ x → v ≠ y → N.2.2 x v = N.2.2 y v ∧ N.2.2 v x = N.2.2 v y) → zb_inI (v + 1) ∧ X 1 (v + 1) := fun g => ⟨zb_inI_of (by omega) (by omega), nxt v1 1 ⟨by omega, Or.inl ⟨rfl, h2, fun z z0 z1 q1 q2 => by
          by_cases q : z = v
          · rw [q] at q1 q2 ⊢; exact g q1 q2
          · exact h3 z z0 (by omega) q1 q2⟩⟩⟩
        have bad : ¬ zb_tw N x y → zb_inI (v + 1) ∧ X 0 (v + 1) := fun g => ⟨zb_inI_of (by omega) (by omega), nxt v1 0 ⟨by omega, Or.inr ⟨rfl, g⟩⟩⟩
        refine ⟨fun q => good (fun z => absurd q z), fun q => ⟨fun q2 => good (fun _ z => absurd q2 z), fun q2 => ⟨zb_inI_of (by omega) (by omega), zb_inI_of (by omega) (by omega), ⟨by omega, by omega⟩, zb_inI_of (by omega) (by omega), zb_inI_of (by omega) (by omega), ⟨by omega, by omega⟩, ?_⟩⟩⟩
        rw [h.2.2 x v x0 x1 v0 v1, h.2.2 y v y0 y1 v0 v1, h.2.2 v x v0 v1 x0 x1, h.2.2 v y v0 v1 y0 y1]
        exact ⟨fun c5 => ⟨zb_inI_of (by omega) (by omega), zb_inI_of (by omega) (by omega), ⟨by omega, by omega⟩, zb_inI_of (by omega) (by omega), ⟨by omega, by omega⟩, fun c6 => good (fun _ _ => ⟨c5, c6⟩), fun c6 => bad (fun z => c6 (z.2.2.2 v v0 v1 q q2).2)⟩, fun c5 => bad (fun z => c5 (z.2.2.2 v v0 v1 q q2).1)⟩
      · exact absurd h1 c2
  unfold PM_X12_areTwins PJ_X12_areTwins_69
  rw [zb_v_500_17, zb_v_500_18, h.2.1 x x0 x1, h.2.1 y y0 y1, h.2.2 x x x0 x1 x0 x1, h.2.2 y y y0 y1 y0 y1, h.2.2 x y x0 x1 y0 y1, h.2.2 y x y0 y1 x0 x1]
  exact ⟨⟨x0, by omega⟩, ⟨y0, by omega⟩, fun q => ⟨zb_inI_of (by omega) (by omega), zb_inI_of (by omega) (by omega), ⟨by omega, by omega⟩, zb_inI_of (by omega) (by omega), zb_inI_of (by omega) (by omega), ⟨by omega, by omega⟩, fun q2 => ⟨zb_inI_of (by omega) (by omega), ⟨by omega, by omega⟩, zb_inI_of (by omega) (by omega), ⟨by omega, by omega⟩, fun q3 => j70 1 (Or.inl ⟨rfl, q, q2, q3⟩), fun q3 => j70 0 (Or.inr ⟨rfl, fun z => q3 z.2.2.1⟩)⟩, fun q2 => j70 0 (Or.inr ⟨rfl, fun z => q2 z.2.1⟩)⟩, fun q => j70 0 (Or.inr ⟨rfl, fun z => q z.1⟩)⟩
theorem s_X12_targetOf {d : Nat} {m : zb_M} {lv : Int} {N : zb_N} {p : zb_Pt} (l0 : 0 ≤ lv) (l1 : lv < 15) (hN : zb_ON N) (h : zb_RN m N) (hp : zb_RP m lv N.1 p) (hg : zb_gp N.1 p) : zb_Tp K_X12_targetOf (d + 1) [(2, 500), (0, lv)] zb_E0 m (fun r => zb_isT N.1 p r) := by
  apply w_X12_targetOf
  have hn := hN.1.2
  have hk := zb_gd_le hg hN.1.1
  unfold PM_X12_targetOf PL_X12_targetOf_2
  rw [zb_v_500_20, hp.1]
  intro X hX
  refine zb_lp0 (fun v => 0 ≤ v ∧ ∀ i, 0 ≤ i → i < v → zb_sz N.1 p.1 i ≤ 1) p.2 (fun v ⟨v0, hv⟩ vn nxt => hX v ⟨⟨l0, l1⟩, fun c => Or.inl ⟨rfl, fun i i0 i1 => hv i i0 (by omega)⟩, fun c => ?_⟩) 0 hg.2.2.1 ⟨by omega, fun i i0 i1 => by omega⟩
  unfold PL_X12_targetOf_17
  rw [h.1, zb_v_500_19]
  intro Y hY
  refine zb_lq (fun s u => 0 ≤ u ∧ s = zb_cnt (fun x => p.1 x == v) u.toNat) N.1 (fun s u ⟨u0, hs⟩ un nx2 => hY s u ⟨fun c2 => ?_, fun c2 => ⟨zb_inI_of (by omega) (by omega), zb_inI_of (by omega) (by omega), ⟨by omega, by omega⟩, ?_⟩⟩) 0 0 hN.1.1 ⟨by omega, rfl⟩
  · have es : s = zb_sz N.1 p.1 v := by rw [hs, show u = N.1 by omega]; rfl
    unfold PJ_X12_targetOf_56
    rw [es]
    refine ⟨fun c3 => ⟨zb_inI_of (by omega) (by omega), nxt (by omega) ⟨by omega, fun i i0 i1 => ?_⟩⟩, fun c3 => Or.inr ⟨v0, by omega, by omega, hv⟩⟩
    by_cases q : i = v
    · rw [q]; exact c3
    · exact hv i i0 (by omega)
  · have hr := zb_cnt_rng (fun x => p.1 x == v) u.toNat
    rw [hp.2 u u0 (by omega)]
    have eS := zb_cnt_S (fun x => p.1 x == v) u0
    refine ⟨fun c3 => ⟨zb_inI_of (by omega) (by omega), zb_inI_of (by omega) (by omega), nx2 (by omega) (s + 1) ⟨by omega, ?_⟩⟩, fun c3 => ⟨zb_inI_of (by omega) (by omega), zb_inI_of (by omega) (by omega), nx2 (by omega) (s + 0) ⟨by omega, ?_⟩⟩⟩
    · rw [eS, if_pos (by simpa using c3), hs]
    · rw [eS, if_neg (by simpa using c3), hs]
theorem s_X12_follows {d : Nat} {m : zb_M} {lv t i : Int} {N : zb_N} {p : zb_Pt} (l0 : 0 ≤ lv) (l1 : lv < 15) (hN : zb_ON N) (h : zb_RN m N) (hp : zb_RP m lv N.1 p) (hT : zb_isT N.1 p t) (hg : zb_gp N.1 p) (i0 : 0 ≤ i) (i1 : i < N.1) : zb_Tp K_X12_follows (d + 2) [(2, 500), (0, lv), (0, t), (0, i)] zb_E0 m (fun r => (r = 1 ∧ zb_flw N p i) ∨ (r = 0 ∧ ¬ zb_flw N p i)) := by
  apply w_X12_follows
  have hn := hN.1.2
  have hgi := hg.1 i i0 i1
  have ft : zb_flw N p i → p.1 i = t := fun ⟨⟨u, _, hu, e⟩, _⟩ => e.trans (zb_isT_uniq hu hT)
  have j20 : ∀ s : Int, ((s = 1 ∧ p.1 i = t) ∨ (s = 0 ∧ ¬ zb_flw N p i)) → PJ_X12_follows_20 (d + 1) zb_E0 500 lv t i m (fun r => (r = 1 ∧ zb_flw N p i) ∨ (r = 0 ∧ ¬ zb_flw N p i)) s := by
    intro s hs
    unfold PJ_X12_follows_20 PL_X12_follows_25
    rw [zb_v_500_19]
    intro X hX
    refine zb_lq (fun s v => 0 ≤ v ∧ ((s = 1 ∧ p.1 i = t ∧ ∀ y, 0 ≤ y → y < v → p.1 y = p.1 i → ¬ zb_tw N i y) ∨ (s = 0 ∧ ¬ zb_flw N p i))) i (fun s v ⟨v0, hs⟩ vn nxt => hX s v ⟨fun c => ?_, fun c => ⟨fun c2 => ?_, fun c2 => ⟨zb_inI_of (by omega) (by omega), ⟨by omega, by omega⟩, ?_⟩⟩⟩) s 0 i0 ⟨by omega, ?_⟩
    · rcases hs with ⟨h1, h2⟩ | ⟨h1, h2⟩
      · exact Or.inl ⟨h1, h2, fun z z0 z1 => by omega⟩
      · exact Or.inr ⟨h1, h2⟩
    · rcases hs with ⟨h1, h2, h3⟩ | ⟨h1, h2⟩
      · exact ⟨Or.inr h1, Or.inl ⟨h1, ⟨t, by omega, hT, h2⟩, fun y y0 y1 => h3 y y0 (by omega)⟩⟩
      · exact ⟨Or.inl h1, Or.inr ⟨h1, h2⟩⟩
    · rcases hs with ⟨h1, h2, h3⟩ | ⟨h1, h2⟩
      · omega
      · exact ⟨Or.inl h1, Or.inr ⟨h1, h2⟩⟩
    · rcases hs with ⟨h1, h2, h3⟩ | ⟨h1, h2⟩
      · have v1 : v < N.1 := by omega
        have good : (p.1 v = p.1 i → ¬ zb_tw N i v) → zb_inI (v + 1) ∧ X 1 (v + 1) := fun g => ⟨zb_inI_of (by omega) (by omega), nxt (by omega) 1 ⟨by omega, Or.inl ⟨rfl, h2, fun y y0 y1 e => by
          by_cases q : y = v
          · rw [q] at e ⊢; exact g e
          · exact h3 y y0 (by omega) e⟩⟩⟩
        rw [hp.2 v v0 v1]
        refine ⟨fun c3 => (s_X12_areTwins hN h v0 v1 i0 i1).mono (fun r56 h56 => ?_), fun c3 => good (fun e => absurd (e.trans h2) c3)⟩
        rcases h56 with ⟨r1, r2⟩ | ⟨r1, r2⟩
        · exact ⟨fun z => by omega, fun _ => ⟨zb_inI_of (by omega) (by omega), nxt (by omega) 0 ⟨by omega, Or.inr ⟨rfl, fun z => z.2 v v0 (by omega) (c3.trans h2.symm) (zb_tw_sy r2)⟩⟩⟩⟩
        · exact ⟨fun _ => good (fun _ z => r2 (zb_tw_sy z)), fun z => absurd r1 z⟩
      · exact absurd h1 c2
  unfold PM_X12_follows
  rw [zb_v_500_19, hp.2 i i0 i1]
  exact ⟨zb_inI_of (by omega) (by omega), zb_inI_of (by omega) (by omega), ⟨by omega, by omega⟩, fun q => j20 1 (Or.inl ⟨rfl, q⟩), fun q => j20 0 (Or.inr ⟨rfl, fun z => q (ft z)⟩)⟩
theorem s_X12_sizeOf {d : Nat} {m : zb_M} {n : Int} (h0 : 0 ≤ n) (h1 : n ≤ 12) : zb_Tp K_X12_sizeOf (d + 1) [(0, n)] zb_E0 m (fun r => r = zb_rsz n) := by
  apply w_X12_sizeOf
  have := zb_nn h0 h1
  exact ⟨zb_inI_of (by omega) (by omega), zb_inI_of (by omega) (by omega), zb_inI_of (by omega) (by omega), rfl⟩
/-- what the reference has found -/
def zb_RW (m : zb_M) (N : zb_N) (o : Int → Int) (W : zb_Wk) : Prop := m 500 28 = W.1 ∧ m 500 29 = W.2.1 ∧ (W.1 ≠ 0 → zb_eqo (zb_rsz N.1) (m 525) W.2.2.1 ∧ ∀ i, 0 ≤ i → i < N.1 → m 526 i = o (W.2.2.2 i))
theorem s_X12_leaf {d : Nat} {m : zb_M} {lv : Int} {N : zb_N} {o : Int → Int} {p : zb_Pt} {W : zb_Wk} (l0 : 0 ≤ lv) (l1 : lv < 15) (hN : zb_ON N) (h : zb_RN m N) (hat : ∀ x, 0 ≤ x → x < N.1 → m 515 x = o x) (hp : zb_RP m lv N.1 p) (hg : zb_gp N.1 p) (ep : p.2 = N.1) (hR : zb_RW m N o W) (hW : 0 ≤ W.1 ∧ W.1 ≤ 3000) : zb_T K_X12_leaf (d + 2) [(2, 500), (0, lv)] zb_E0 m (fun _ m1 => zb_RW m1 N o (zb_lf1 N p W) ∧ (∀ c, c ≠ 500 → (c < 525 ∨ 528 < c) → m1 c = m c) ∧ ∀ j, j ≠ 28 → m1 500 j = m 500 j) := by
  apply w_X12_leaf
  have h0 := hN.1.1
  have hn := hN.1.2
  have hnn := zb_nn h0 hn
  obtain ⟨q3, q4, q5⟩ := hR
  unfold PM_X12_leaf
  rw [q3]
  refine ⟨zb_inI_of (by omega) (by omega), fun m7 e7 => ?_⟩
  have f7 : ∀ c, c ≠ 500 → m7 c = m c := fun c hc => zb_u3 e7 hc
  have e15 : m7 500 15 = N.1 := by rw [zb_u2 e7 (by omega)]; exact h.1
  unfold PL_X12_leaf_12
  rw [zb_v_500_19, zb_v_500_33]
  intro X hX
  refine zb_lp1 (fun v mm => 0 ≤ v ∧ (∀ x, 0 ≤ x → x < v → mm 528 (p.1 x) = x) ∧ ∀ c, c ≠ 528 → mm c = m7 c) N.1 (fun v mm ⟨v0, t1, t2⟩ vn nxt => hX v mm ?_) 0 m7 h0 ⟨by omega, fun x x0 x1 => by omega, fun c _ => rfl⟩
  rw [t2 500 (by omega), e15, t2 518 (by omega), f7 518 (by omega)]
  refine ⟨fun q => ?_, fun q => ?_⟩
  · have hv : v = N.1 := by omega
    subst hv
    clear nxt hX X
    have hlo : ∀ i, 0 ≤ i → i < N.1 → mm 528 i = zb_lord N.1 p i := fun i i0 i1 => by
      obtain ⟨a, b⟩ := zb_lord_rng hg ep i0 i1
      have := t1 _ a.1 a.2
      rw [b] at this
      exact this
    have rlo : ∀ i, 0 ≤ i → i < N.1 → 0 ≤ zb_lord N.1 p i ∧ zb_lord N.1 p i < N.1 := fun i i0 i1 => (zb_lord_rng hg ep i0 i1).1
    unfold PJ_X12_leaf_43
    rw [zb_v_500_32, t2 500 (by omega), e15]
    intro m52 e52
    have f52 : ∀ c, c ≠ 527 → m52 c = mm c := fun c hc => zb_u3 e52 hc
    unfold PL_X12_leaf_55
    rw [zb_v_500_17, zb_v_500_32, zb_v_500_33]
    intro Y hY
    refine zb_lp1 (fun v mn => 0 ≤ v ∧ mn 527 0 = N.1 ∧ (∀ u, 0 ≤ u → u < v → mn 527 (1 + u) = N.2.1 (zb_lord N.1 p u)) ∧ (∀ u w, 0 ≤ u → u < v → 0 ≤ w → w < N.1 → mn 527 (1 + N.1 + u * N.1 + w) = N.2.2 (zb_lord N.1 p u) (zb_lord N.1 p w)) ∧ ∀ c, c ≠ 527 → mn c = mm c) N.1 (fun v mn ⟨v0, s0, s1, s2, s3⟩ vn nx2 => hY v mn ?_) 0 m52 h0 ⟨by omega, zb_u1 e52, fun u u0 u1 => by omega, fun u w u0 u1 => by omega, f52⟩
    rw [s3 500 (by omega), t2 500 (by omega), e15]
    refine ⟨fun qq => ?_, fun qq => ?_⟩
    · have hrow : zb_eqo (zb_rsz N.1) (mn 527) (zb_rw N (zb_lord N.1 p)) := zb_row_at h0 s0 (fun u u0 u1 => s1 u u0 (by omega)) (fun u w u0 u1 w0 w1 => s2 u w u0 (by omega) w0 w1)
      have fmn : ∀ c, c ≠ 527 → c ≠ 528 → mn c = m7 c := fun c c1 c2 => by rw [s3 c c1, t2 c c2]
      have e28 : mn 500 28 = W.1 + 1 := by rw [fmn 500 (by omega) (by omega)]; exact zb_u1 e7
      have e29 : mn 500 29 = W.2.1 := by rw [fmn 500 (by omega) (by omega), zb_u2 e7 (by omega)]; exact q4
      have e15n : mn 500 15 = N.1 := by rw [fmn 500 (by omega) (by omega)]; exact e15
      have e25 : mn 525 = m 525 := by rw [fmn 525 (by omega) (by omega), f7 525 (by omega)]
      have e26 : mn 526 = m 526 := by rw [fmn 526 (by omega) (by omega), f7 526 (by omega)]
      have loN : ∀ i, 0 ≤ i → i < N.1 → mn 528 i = zb_lord N.1 p i := fun i i0 i1 => by rw [s3 528 (by omega)]; exact hlo i i0 i1
      have frm : (∀ c, c ≠ 500 → (c < 525 ∨ 528 < c) → mn c = m c) ∧ ∀ j, j ≠ 28 → mn 500 j = m 500 j := ⟨fun c c1 c2 => by rw [fmn c (by omega) (by omega), f7 c c1], fun j hj => by rw [fmn 500 (by omega) (by omega), zb_u2 e7 (by omega)]⟩
      unfold PJ_X12_leaf_145
      rw [e15n]
      refine (s_X12_sizeOf h0 hn).mono (fun r149 h149 => ?_)
      rw [h149]
      have rz : 1 ≤ zb_rsz N.1 ∧ zb_rsz N.1 ≤ 157 := by unfold zb_rsz; omega
      have copy : (W.1 = 0 ∨ zb_lex (zb_rsz N.1) (zb_rw N (zb_lord N.1 p)) W.2.2.1) → PJ_X12_leaf_217 (d + 1) zb_E0 500 mn (zb_rsz N.1) (fun _ m1 => zb_RW m1 N o (zb_lf1 N p W) ∧ (∀ c, c ≠ 500 → (c < 525 ∨ 528 < c) → m1 c = m c) ∧ ∀ j, j ≠ 28 → m1 500 j = m 500 j) := by
        intro hl
        have eW : zb_lf1 N p W = (W.1 + 1, W.2.1, zb_rw N (zb_lord N.1 p), zb_lord N.1 p) := by unfold zb_lf1; rw [if_pos hl]
        unfold PJ_X12_leaf_217 PL_X12_leaf_220
        rw [zb_v_500_30, zb_v_500_32]
        intro Z hZ
        refine zb_lp1 (fun v mo => 0 ≤ v ∧ (∀ k, 0 ≤ k → k < v → mo 525 k = mn 527 k) ∧ ∀ c, c ≠ 525 → mo c = mn c) (zb_rsz N.1) (fun v mo ⟨v0, u1, u2⟩ vn nx3 => hZ v mo ⟨fun c1 => ?_, fun c1 => ⟨⟨v0, by omega⟩, fun m239 e239 => ⟨zb_inI_of (by omega) (by omega), nx3 (by omega) m239 ⟨by omega, fun k k0 k1 => ?_, fun c hc => by rw [zb_u3 e239 hc]; exact u2 c hc⟩⟩⟩⟩) 0 mn (by omega) ⟨by omega, fun k k0 k1 => by omega, fun c _ => rfl⟩
        · unfold PJ_X12_leaf_246 PL_X12_leaf_249
          rw [zb_v_500_16, zb_v_500_31, zb_v_500_33]
          intro U hU
          refine zb_lp1 (fun v mr => 0 ≤ v ∧ (∀ i, 0 ≤ i → i < v → mr 526 i = o (zb_lord N.1 p i)) ∧ ∀ c, c ≠ 526 → mr c = mo c) N.1 (fun v mr ⟨v0, z1, z2⟩ vn nx4 => hU v mr ?_) 0 mo h0 ⟨by omega, fun i i0 i1 => by omega, fun c _ => rfl⟩
          rw [z2 500 (by omega), u2 500 (by omega), e15n]
          refine ⟨fun c2 => ?_, fun c2 => ?_⟩
          · rw [eW]
            refine ⟨⟨?_, ?_, fun _ => ⟨fun k k0 k1 => ?_, fun i i0 i1 => z1 i i0 (by omega)⟩⟩, fun c c3 c4 => ?_, fun j hj => ?_⟩
            · rw [z2 500 (by omega), u2 500 (by omega)]; exact e28
            · rw [z2 500 (by omega), u2 500 (by omega)]; exact e29
            · rw [z2 525 (by omega), u1 k k0 (by omega)]; exact hrow k k0 k1
            · rw [z2 c (by omega), u2 c (by omega)]; exact frm.1 c c3 c4
            · rw [z2 500 (by omega), u2 500 (by omega)]; exact frm.2 j hj
          · have v1 : v < N.1 := by omega
            have rr := rlo v v0 v1
            have eo : mr 515 (zb_lord N.1 p v) = o (zb_lord N.1 p v) := by rw [z2 515 (by omega), u2 515 (by omega), frm.1 515 (by omega) (by omega)]; exact hat _ rr.1 rr.2
            rw [z2 528 (by omega), u2 528 (by omega), loN v v0 v1, eo]
            refine ⟨⟨v0, by omega⟩, ⟨rr.1, by omega⟩, fun m276 e276 => ⟨zb_inI_of (by omega) (by omega), nx4 v1 m276 ⟨by omega, fun i i0 i1 => ?_, fun c hc => by rw [zb_u3 e276 hc]; exact z2 c hc⟩⟩⟩
            by_cases w : i = v
            · rw [w, zb_u1 e276]
            · rw [zb_u2 e276 (by omega)]; exact z1 i i0 (by omega)
        · by_cases w : k = v
          · rw [w, zb_u1 e239, u2 527 (by omega)]
          · rw [zb_u2 e239 (by omega)]; exact u1 k k0 (by omega)
      have keep : W.1 ≠ 0 → ¬ zb_lex (zb_rsz N.1) (mn 527) (m 525) → zb_RW mn N o (zb_lf1 N p W) ∧ (∀ c, c ≠ 500 → (c < 525 ∨ 528 < c) → mn c = m c) ∧ ∀ j, j ≠ 28 → mn 500 j = m 500 j := fun hw hl => by
        obtain ⟨k1, k2⟩ := q5 hw
        have eW : zb_lf1 N p W = (W.1 + 1, W.2.1, W.2.2) := by
          unfold zb_lf1
          rw [if_neg (fun z => by
            rcases z with z | z
            · exact hw z
            · exact hl (zb_lex_congr (fun k k0 k1 => (hrow k k0 k1).symm) (fun k k0 k3 => (k1 k k0 k3).symm) z))]
        rw [eW]
        exact ⟨⟨e28, e29, fun _ => ⟨by rw [e25]; exact k1, by rw [e26]; exact k2⟩⟩, frm⟩
      unfold PL_X12_leaf_155
      rw [e28, zb_v_500_30, zb_v_500_32, e25]
      intro Z hZ
      have j189 : ∀ k, 0 ≤ k → (W.1 ≠ 0 → (∀ j, 0 ≤ j → j < k → mn 527 j = m 525 j) ∧ (zb_rsz N.1 ≤ k ∨ mn 527 k ≠ m 525 k)) → PJ_X12_leaf_189 (d + 1) zb_E0 500 mn (zb_rsz N.1) (fun _ m1 => zb_RW m1 N o (zb_lf1 N p W) ∧ (∀ c, c ≠ 500 → (c < 525 ∨ 528 < c) → m1 c = m c) ∧ ∀ j, j ≠ 28 → m1 500 j = m 500 j) k := by
        intro k k0 hk
        unfold PJ_X12_leaf_189
        rw [e28, zb_v_500_30, zb_v_500_32, e25]
        refine ⟨fun c1 => copy (Or.inl (by omega)), fun c1 => ?_⟩
        have hw : W.1 ≠ 0 := by omega
        obtain ⟨k1, k2⟩ := hk hw
        refine ⟨fun c2 => keep hw (fun ⟨j, j0, j1, _, j3⟩ => by have := k1 j j0 (by omega); omega), fun c2 => ⟨⟨k0, by omega⟩, fun c3 => keep hw (fun ⟨j, j0, j1, j2, j3⟩ => ?_), fun c3 => copy (Or.inr ?_)⟩⟩
        · rcases Int.lt_trichotomy j k with w | w | w
          · have := k1 j j0 w; omega
          · rw [w] at j3; omega
          · have := j2 k k0 w
            rcases k2 with k2 | k2
            · omega
            · exact k2 this
        · exact zb_lex_congr hrow (q5 hw).1 ⟨k, k0, by omega, k1, by omega⟩
      refine zb_lp0 (fun v => 0 ≤ v ∧ ∀ k, 0 ≤ k → k < v → mn 527 k = m 525 k) (zb_rsz N.1) (fun v ⟨v0, hv⟩ vn nx3 => hZ v ⟨fun c1 => j189 v v0 (fun z => by omega), fun c1 => ⟨fun c2 => j189 v v0 (fun _ => ⟨hv, Or.inl c2⟩), fun c2 => ⟨⟨v0, by omega⟩, fun c3 => ⟨zb_inI_of (by omega) (by omega), nx3 (by omega) ⟨by omega, fun k k0 k1 => ?_⟩⟩, fun c3 => j189 v v0 (fun _ => ⟨hv, Or.inr c3⟩)⟩⟩⟩) 0 (by omega) ⟨by omega, fun k k0 k1 => by omega⟩
      by_cases w : k = v
      · rw [w]; exact c3
      · exact hv k k0 (by omega)
    · have v1 : v < N.1 := by omega
      have rv := rlo v v0 v1
      have ek : mn 516 (zb_lord N.1 p v) = N.2.1 (zb_lord N.1 p v) := by rw [s3 516 (by omega), t2 516 (by omega), f7 516 (by omega)]; exact h.2.1 _ rv.1 rv.2
      rw [s3 528 (by omega), hlo v v0 v1, ek]
      refine ⟨zb_inI_of (by omega) (by omega), ⟨v0, by omega⟩, ⟨rv.1, by omega⟩, ⟨by omega, by omega⟩, fun m81 e81 => ?_⟩
      unfold PL_X12_leaf_84
      rw [zb_v_500_18, zb_v_500_32, zb_v_500_33]
      intro Z hZ
      refine zb_lp1 (fun w mo => 0 ≤ w ∧ mo 527 0 = N.1 ∧ (∀ u, 0 ≤ u → u < v + 1 → mo 527 (1 + u) = N.2.1 (zb_lord N.1 p u)) ∧ (∀ u q, 0 ≤ u → u < v → 0 ≤ q → q < N.1 → mo 527 (1 + N.1 + u * N.1 + q) = N.2.2 (zb_lord N.1 p u) (zb_lord N.1 p q)) ∧ (∀ q, 0 ≤ q → q < w → mo 527 (1 + N.1 + v * N.1 + q) = N.2.2 (zb_lord N.1 p v) (zb_lord N.1 p q)) ∧ ∀ c, c ≠ 527 → mo c = mm c) N.1 (fun w mo ⟨w0, o0, o1, o2, o3, o4⟩ wn nx3 => hZ w mo ?_) 0 m81 h0 ⟨by omega, ?_, fun u u0 u1 => ?_, fun u w u0 u1 w0 w1 => ?_, fun q q0 q1 => by omega, fun c hc => by rw [zb_u3 e81 hc]; exact s3 c hc⟩
      · rw [zb_u2 e81 (by omega)]; exact s0
      · by_cases w : u = v
        · rw [w, zb_u1 e81]
        · rw [zb_u2 e81 (by omega)]; exact s1 u u0 (by omega)
      · have := (zb_pq u0 (show u < N.1 by omega) w0 w1).1
        rw [zb_u2 e81 (by omega)]; exact s2 u w u0 u1 w0 w1
      · rw [o4 500 (by omega), t2 500 (by omega), e15]
        refine ⟨fun q2 => ?_, fun q2 => ?_⟩
        · unfold PJ_X12_leaf_139
          refine ⟨zb_inI_of (by omega) (by omega), nx2 v1 mo ⟨by omega, o0, o1, fun u w u0 u1 w0 w1 => ?_, o4⟩⟩
          by_cases e : u = v
          · rw [e]; exact o3 w w0 (by omega)
          · exact o2 u w u0 (by omega) w0 w1
        · have w1 : w < N.1 := by omega
          have hpq := zb_pq v0 v1 w0 w1
          have rw' := rlo w w0 w1
          have el : mo 517 (12 * zb_lord N.1 p v + zb_lord N.1 p w) = N.2.2 (zb_lord N.1 p v) (zb_lord N.1 p w) := by rw [o4 517 (by omega), t2 517 (by omega), f7 517 (by omega)]; exact h.2.2 _ _ rv.1 rv.2 rw'.1 rw'.2
          rw [o4 528 (by omega), hlo v v0 v1, hlo w w0 w1, el, Int.mul_comm N.1 v]
          refine ⟨zb_inI_of (by omega) (by omega), zb_inI_of (by omega) (by omega), zb_inI_of (by omega) (by omega), zb_inI_of (by omega) (by omega), zb_inI_of (by omega) (by omega), ⟨w0, by omega⟩, zb_inI_of (by omega) (by omega), ⟨by omega, by omega⟩, ⟨by omega, by omega⟩, fun m132 e132 => ⟨zb_inI_of (by omega) (by omega), nx3 w1 m132 ⟨by omega, ?_, fun u u0 u1 => ?_, fun u q u0 u1 q0 q1 => ?_, fun q q0 q1 => ?_, fun c hc => by rw [zb_u3 e132 hc]; exact o4 c hc⟩⟩⟩
          · rw [zb_u2 e132 (by omega)]; exact o0
          · rw [zb_u2 e132 (by omega)]; exact o1 u u0 u1
          · have ne : 1 + N.1 + u * N.1 + q ≠ 1 + N.1 + v * N.1 + w := fun z => by
              have d1 := (zb_dm (p := u) (show 0 < N.1 by omega) q0 q1).1
              have d2 := (zb_dm (p := v) (show 0 < N.1 by omega) w0 w1).1
              rw [show u * N.1 + q = v * N.1 + w by omega, d2] at d1
              omega
            rw [zb_u2 e132 (Or.inr ne)]; exact o2 u q u0 u1 q0 q1
          · by_cases e : q = w
            · rw [e, zb_u1 e132]
            · rw [zb_u2 e132 (by omega)]; exact o3 q q0 (by omega)
  · have v1 : v < N.1 := by omega
    have hh := hg.1 v v0 v1
    rw [hp.2 v v0 v1]
    refine ⟨zb_inI_of (by omega) (by omega), zb_inI_of (by omega) (by omega), ⟨by omega, by omega⟩, ⟨hh.1, by omega⟩, fun m36 e36 => ⟨zb_inI_of (by omega) (by omega), nxt v1 m36 ⟨by omega, fun x x0 x1 => ?_, fun c hc => by rw [zb_u3 e36 hc]; exact t2 c hc⟩⟩⟩
    by_cases w : x = v
    · rw [w, zb_u1 e36]
    · have ne : p.1 x ≠ p.1 v := fun z => w ((zb_gd_full hg ep).2 x v x0 (by omega) v0 v1 z)
      rw [zb_u2 e36 (Or.inr ne)]; exact t1 x x0 (by omega)
