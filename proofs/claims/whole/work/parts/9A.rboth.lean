/-! ===== the reference: same, unlike, why ===== -/
theorem zb_len_sum : (zb_len zb_E0.1 535 = 12 ∧ zb_len zb_E0.1 536 = 13) ∧ zb_len zb_E0.1 537 = 12 ∧ zb_len zb_E0.1 538 = 13 := by decide +kernel
def zb_frUp (a b : Int) (m m1 : zb_M) : Prop := (∀ c, c ≠ a → c ≠ b → (c < 518 ∨ 521 < c) → m1 c = m c) ∧ (∀ j, (j < 168 ∨ 180 ≤ j) → m1 518 j = m 518 j) ∧ ∀ j, j ≠ 14 → m1 519 j = m 519 j
theorem s_X12_sumUp {d : Nat} {m : zb_M} {N : zb_N} {a b : Int} (ha : 534 < a ∧ a < 539) (hb : 534 < b ∧ b < 539) (hab : a ≠ b) (la : zb_len zb_E0.1 a = 12) (lb : zb_len zb_E0.1 b = 13) (hN : zb_ON N) (h : zb_RN m N) : zb_T K_X12_sumUp (d + 4) [(2, 500), (2, a), (2, b)] zb_E0 m (fun _ m1 => zb_eqo N.1 (m1 a) (zb_skf N) ∧ zb_eqo 13 (m1 b) (zb_sz N.1 (zb_beg N).1) ∧ zb_frUp a b m m1) := by
  apply w_X12_sumUp
  have h0 := hN.1.1
  have hn := hN.1.2
  obtain ⟨r1, r2, r3⟩ := h
  unfold PM_X12_sumUp PL_X12_sumUp_2
  intro X hX
  refine zb_lp1 (fun v mm => 0 ≤ v ∧ (∃ S, zb_pm v S ∧ zb_srt (fun _ => 0) N.2.1 S 0 v ∧ ∀ j, 0 ≤ j → j < v → mm a j = N.2.1 (S j)) ∧ ∀ c, c ≠ a → mm c = m c) N.1 (fun v mm ⟨v0, ⟨S, s1, s2, s3⟩, t4⟩ vn nxt => hX v mm ⟨fun c1 => ?_, fun c1 => ?_⟩) 0 m h0 ⟨by omega, ⟨fun x => x, ⟨fun p p0 p1 => by omega, fun p q p0 p1 => by omega⟩, fun i j i0 ij j1 => by omega, fun j j0 j1 => by omega⟩, fun c _ => rfl⟩
  · rw [t4 500 (by omega), r1] at c1
    have hv : v = N.1 := by omega
    subst hv
    have keys : zb_eqo N.1 (mm a) (zb_skf N) := fun j j0 j1 => by
      rw [s3 j j0 j1]
      refine zb_skf_eq h0 s1 (fun x y x0 xy y1 => ?_) j0 j1
      have := s2 x y x0 xy y1
      rw [zb_lt0] at this
      omega
    unfold PJ_X12_sumUp_65
    have rn : zb_RN mm N := zb_RN_same ⟨r1, r2, r3⟩ (by rw [t4 500 (by omega)]) (t4 516 (by omega)) (t4 517 (by omega))
    refine (s_X12_start (d := d) (by omega) (by omega) hN rn).mono (fun _ m68 ⟨p1, p2⟩ => ?_)
    refine (s_X12_splitIn (d := d) (by omega) (by omega) hN (zb_RN_L (zb_RN_frP rn p2)) p1 (zb_rank_gd _ _ _)).mono (fun _ m74 ⟨q1, q2⟩ => ?_)
    have f74 := p2.tr q2
    have q1 : zb_RP m74 14 N.1 (zb_beg N) := q1
    have hg := zb_beg_gd N
    have kn := zb_gd_le hg h0
    unfold PL_X12_sumUp_79
    intro Y hY
    refine zb_lp1 (fun v mn => 0 ≤ v ∧ (∀ i, 0 ≤ i → i < v → mn b i = 0) ∧ ∀ c, c ≠ b → mn c = m74 c) 13 (fun v mn ⟨v0, u1, u2⟩ vn nxt => hY v mn ⟨fun c2 => ?_, fun c2 => ⟨⟨v0, by rw [lb]; omega⟩, fun m88 e88 => ⟨zb_inI_of (by omega) (by omega), nxt (by omega) m88 ⟨by omega, fun i i0 i1 => ?_, fun c hc => by rw [zb_u3 e88 hc]; exact u2 c hc⟩⟩⟩⟩) 0 m74 (by omega) ⟨by omega, fun i i0 i1 => by omega, fun c _ => rfl⟩
    · unfold PJ_X12_sumUp_95 PL_X12_sumUp_97
      rw [zb_v_500_19]
      intro Z hZ
      refine zb_lp1 (fun v mo => 0 ≤ v ∧ (∀ i, 0 ≤ i → i < 13 → mo b i = zb_cnt (fun x => (zb_beg N).1 x == i) v.toNat) ∧ ∀ c, c ≠ b → mo c = mn c) N.1 (fun v mo ⟨v0, w1, w2⟩ vn nx2 => hZ v mo ⟨fun c3 => ?_, fun c3 => ?_⟩) 0 mn h0 ⟨by omega, fun i i0 i1 => u1 i i0 (by omega), fun c _ => rfl⟩
      · have e15 : mo 500 15 = N.1 := by rw [w2 500 (by omega), u2 500 (by omega), f74.1 500 (by omega), t4 500 (by omega)]; exact r1
        rw [e15] at c3
        have hv : v = N.1 := by omega
        subst hv
        refine ⟨fun j j0 j1 => by rw [w2 a hab, u2 a hab, f74.1 a (by omega)]; exact keys j j0 j1, w1, fun c k1 k2 k3 => by rw [w2 c k2, u2 c k2, f74.1 c (by omega), t4 c k1], fun j hj => ?_, fun j hj => ?_⟩
        · rw [w2 518 (by omega), u2 518 (by omega), f74.2.1 j (by omega), t4 518 (by omega)]
        · rw [w2 519 (by omega), u2 519 (by omega), f74.2.2 j (by omega), t4 519 (by omega)]
      · have e15 : mo 500 15 = N.1 := by rw [w2 500 (by omega), u2 500 (by omega), f74.1 500 (by omega), t4 500 (by omega)]; exact r1
        rw [e15] at c3
        have e18 : mo 518 (168 + v) = (zb_beg N).1 v := by rw [w2 518 (by omega), u2 518 (by omega)]; exact q1.2 v v0 (by omega)
        have rg := hg.1 v v0 (by omega)
        rw [e18, w1 _ rg.1 (by omega)]
        have ct := zb_cnt_rng (fun x => (zb_beg N).1 x == (zb_beg N).1 v) v.toNat
        refine ⟨zb_inI_of (by omega) (by omega), ⟨by omega, by omega⟩, ⟨rg.1, by rw [lb]; omega⟩, zb_inI_of (by omega) (by omega), fun m120 e120 => ⟨zb_inI_of (by omega) (by omega), nx2 (by omega) m120 ⟨by omega, fun i i0 i1 => ?_, fun c hc => by rw [zb_u3 e120 hc]; exact w2 c hc⟩⟩⟩
        rw [zb_cnt_S _ v0]
        by_cases z : (zb_beg N).1 v = i
        · rw [← z, zb_u1 e120, if_pos (by simp)]
        · rw [zb_u2 e120 (by omega), if_neg (by simpa using z), w1 i i0 i1]; omega
    · by_cases z : i = v
      · rw [z, zb_u1 e88]
      · rw [zb_u2 e88 (by omega)]; exact u1 i i0 (by omega)
  · rw [t4 500 (by omega), r1] at c1
    unfold PL_X12_sumUp_13
    rw [la, zb_v_500_17]
    intro Y hY
    have hT := zb_ins_pm s1 v0
    have hTs := zb_ins_srt s2
    have T1 : ∀ j, j < v → zb_ins S v j = S j := fun j hj => by unfold zb_ins; rw [if_neg (by omega)]
    have T2 : zb_ins S v v = v := by unfold zb_ins; rw [if_pos rfl]
    generalize zb_ins S v = T at hT hTs T1 T2
    have e16 : ∀ mn : zb_M, (∀ c, c ≠ a → mn c = m c) → mn 516 v = N.2.1 v := fun mn q => by rw [q 516 (by omega)]; exact r2 v v0 (by omega)
    have fin : ∀ (u : Int) (mn : zb_M), 0 ≤ u → u ≤ v → (∀ j, 0 ≤ j → j < u → mn a j = N.2.1 (T j)) → (∀ j, u < j → j ≤ v → mn a j = N.2.1 (T (j - 1))) → (∀ c, c ≠ a → mn c = m c) → (∀ j, u ≤ j → j < v → zb_lt (fun _ => 0) N.2.1 (T v) (T j)) → (0 < u → ¬ zb_lt (fun _ => 0) N.2.1 (T v) (T (u - 1))) → PJ_X12_sumUp_49 (d + 3) zb_E0 500 a v X (fun _ m1 => zb_eqo N.1 (m1 a) (zb_skf N) ∧ zb_eqo 13 (m1 b) (zb_sz N.1 (zb_beg N).1) ∧ zb_frUp a b m m1) u mn := by
      intro u mn u0 uv q1 q2 q3 q4 q5
      unfold PJ_X12_sumUp_49
      rw [la, zb_v_500_17, e16 mn q3]
      refine ⟨⟨v0, by omega⟩, ⟨u0, by omega⟩, fun m58 e58 => ⟨zb_inI_of (by omega) (by omega), nxt (by omega) m58 ⟨by omega, ⟨zb_rot T u v, zb_rot_pm hT u0 uv (by omega), zb_rot_srt hTs u0 uv q4 q5, fun j j0 j1 => ?_⟩, fun c hc => by rw [zb_u3 e58 hc]; exact q3 c hc⟩⟩⟩
      unfold zb_rot
      by_cases w : j = u
      · rw [if_pos w, w, zb_u1 e58, T2]
      · rw [if_neg w, zb_u2 e58 (by omega)]
        by_cases w2 : u < j ∧ j ≤ v
        · rw [if_pos w2]; exact q2 j w2.1 w2.2
        · rw [if_neg w2]; exact q1 j j0 (by omega)
    have go : ∀ (f : Nat) (u : Int) (mn : zb_M), 0 ≤ u → u ≤ v → u ≤ f → (∀ j, 0 ≤ j → j < u → mn a j = N.2.1 (T j)) → (∀ j, u < j → j ≤ v → mn a j = N.2.1 (T (j - 1))) → (∀ c, c ≠ a → mn c = m c) → (∀ j, u ≤ j → j < v → zb_lt (fun _ => 0) N.2.1 (T v) (T j)) → Y u mn := by
      intro f
      induction f with
      | zero =>
        intro u mn u0 uv uf q1 q2 q3 q4
        exact hY u mn ⟨fun _ => fin u mn u0 uv q1 q2 q3 q4 (fun z => by omega), fun z => absurd (show u ≤ 0 by omega) z⟩
      | succ f ih =>
        intro u mn u0 uv uf q1 q2 q3 q4
        refine hY u mn ⟨fun z => fin u mn u0 uv q1 q2 q3 q4 (fun z2 => by omega), fun z => ⟨zb_inI_of (by omega) (by omega), ⟨by omega, by omega⟩, ⟨v0, by omega⟩, ?_⟩⟩
        rw [q1 (u - 1) (by omega) (by omega), T1 (u - 1) (by omega), e16 mn q3]
        refine ⟨fun c3 => fin u mn u0 uv q1 q2 q3 q4 (fun _ => ?_), fun c3 => ⟨⟨u0, by omega⟩, fun m42 e42 => ⟨zb_inI_of (by omega) (by omega), ?_⟩⟩⟩
        · rw [T2, T1 (u - 1) (by omega), zb_lt0]; omega
        · refine ih (u + -1) m42 (by omega) (by omega) (by omega) (fun j j0 j1 => ?_) (fun j j0 j1 => ?_) (fun c hc => ?_) (fun j j0 j1 => ?_)
          · rw [zb_u2 e42 (by omega)]; exact q1 j j0 (by omega)
          · by_cases w : j = u
            · rw [w, zb_u1 e42, T1 (u - 1) (by omega)]
            · rw [zb_u2 e42 (by omega)]; exact q2 j (by omega) j1
          · rw [zb_u3 e42 hc]; exact q3 c hc
          · by_cases w : j = u - 1
            · rw [w, T2, T1 (u - 1) (by omega), zb_lt0]; omega
            · exact q4 j (by omega) j1
    exact go v.toNat v mm v0 (Int.le_refl _) (by omega) (fun j j0 j1 => by rw [T1 j j1]; exact s3 j j0 j1) (fun j j0 j1 => by omega) t4 (fun j j0 j1 => by omega)
theorem s_X12_unlikeBy {d : Nat} {m : zb_M} {w a b c : Int} : zb_T K_X12_unlikeBy (d + 1) [(2, 500), (0, w), (0, a), (0, b), (0, c)] zb_E0 m (fun r m1 => r = w ∧ zb_RY m1 (some (a, b, c)) ∧ (∀ x, x ≠ 500 → x ≠ 534 → m1 x = m x) ∧ ∀ j, j ≠ 42 → m1 500 j = m 500 j) := by
  apply w_X12_unlikeBy
  unfold PM_X12_unlikeBy
  rw [zb_v_500_43]
  intro m2 e2 m11 e11 m18 e18 m26 e26
  refine ⟨rfl, ⟨?_, ?_, ?_, ?_⟩, fun x x1 x2 => ?_, fun j hj => ?_⟩
  · rw [zb_u3 e26 (by omega), zb_u3 e18 (by omega), zb_u3 e11 (by omega), zb_u1 e2]
  · rw [zb_u2 e26 (by omega), zb_u2 e18 (by omega), zb_u1 e11]
  · rw [zb_u2 e26 (by omega), zb_u1 e18]
  · rw [zb_u1 e26]
  · rw [zb_u3 e26 x2, zb_u3 e18 x2, zb_u3 e11 x2, zb_u3 e2 x1]
  · rw [zb_u3 e26 (by omega), zb_u3 e18 (by omega), zb_u3 e11 (by omega), zb_u2 e2 (by omega)]
theorem s_X12_keepOther {d : Nat} {m : zb_M} : zb_T K_X12_keepOther (d + 1) [(2, 500)] zb_E0 m (fun _ m1 => zb_eqo 160 (m1 531) (m 525) ∧ zb_eqo 12 (m1 532) (m 526) ∧ ∀ c, c ≠ 531 → c ≠ 532 → m1 c = m c) := by
  apply w_X12_keepOther
  unfold PM_X12_keepOther PL_X12_keepOther_2
  rw [zb_v_500_30, zb_v_500_38]
  intro X hX
  refine zb_lp1 (fun v mm => 0 ≤ v ∧ (∀ k, 0 ≤ k → k < v → mm 531 k = m 525 k) ∧ ∀ c, c ≠ 531 → mm c = m c) 160 (fun v mm ⟨v0, t1, t2⟩ vn nxt => hX v mm ⟨fun c => ?_, fun c => ⟨⟨v0, by omega⟩, fun m64 e64 => ⟨zb_inI_of (by omega) (by omega), nxt (by omega) m64 ⟨by omega, fun k k0 kk => ?_, fun c hc => by rw [zb_u3 e64 hc]; exact t2 c hc⟩⟩⟩⟩) 0 m (by omega) ⟨by omega, fun k k0 kk => by omega, fun c _ => rfl⟩
  · unfold PJ_X12_keepOther_27 PL_X12_keepOther_29
    rw [zb_v_500_31, zb_v_500_39]
    intro Y hY
    refine zb_lp1 (fun v mn => 0 ≤ v ∧ (∀ k, 0 ≤ k → k < v → mn 532 k = m 526 k) ∧ ∀ c, c ≠ 532 → mn c = mm c) 12 (fun v mn ⟨v0, u1, u2⟩ vn nx2 => hY v mn ⟨fun c2 => ?_, fun c2 => ⟨⟨v0, by omega⟩, fun m90 e90 => ⟨zb_inI_of (by omega) (by omega), nx2 (by omega) m90 ⟨by omega, fun k k0 kk => ?_, fun c hc => by rw [zb_u3 e90 hc]; exact u2 c hc⟩⟩⟩⟩) 0 mm (by omega) ⟨by omega, fun k k0 kk => by omega, fun c _ => rfl⟩
    · exact ⟨fun k k0 k1 => by rw [u2 531 (by omega)]; exact t1 k k0 (by omega), fun k k0 k1 => u1 k k0 (by omega), fun c c1 c3 => by rw [u2 c c3, t2 c c1]⟩
    · by_cases w : k = v
      · rw [w, zb_u1 e90, u2 526 (by omega), t2 526 (by omega)]
      · rw [zb_u2 e90 (by omega)]; exact u1 k k0 (by omega)
  · by_cases w : k = v
    · rw [w, zb_u1 e64, t2 525 (by omega)]
    · rw [zb_u2 e64 (by omega)]; exact t1 k k0 (by omega)
theorem s_X12_differsAt {d : Nat} {m : zb_M} {l : Int} (l0 : 0 ≤ l) (l1 : l ≤ 157) : zb_Tp K_X12_differsAt (d + 1) [(2, 500), (0, l)] zb_E0 m (fun r => zb_fd (m 531) (m 525) l r) := by
  apply w_X12_differsAt
  unfold PM_X12_differsAt PL_X12_differsAt_2
  rw [zb_v_500_30, zb_v_500_38]
  intro X hX
  refine zb_lp0 (fun v => 0 ≤ v ∧ ∀ k, 0 ≤ k → k < v → m 531 k = m 525 k) l (fun v ⟨v0, hv⟩ vn nxt => hX v ⟨fun c => Or.inl ⟨rfl, fun k k0 k1 => hv k k0 (by omega)⟩, fun c => ⟨⟨v0, by omega⟩, fun c2 => ⟨zb_inI_of (by omega) (by omega), nxt (by omega) ⟨by omega, fun k k0 k1 => ?_⟩⟩, fun c2 => Or.inr ⟨v0, by omega, hv, c2⟩⟩⟩) 0 l0 ⟨by omega, fun k k0 k1 => by omega⟩
  by_cases q : k = v
  · rw [q]; exact c2
  · exact hv k k0 (by omega)
