/-! ===== the reference's partings ===== -/
def zb_RP (m : zb_M) (lv n : Int) (p : zb_Pt) : Prop := m 519 lv = p.2 ∧ ∀ x, 0 ≤ x → x < n → m 518 (12 * lv + x) = p.1 x
/-- nothing but one level (and sights) has changed -/
def zb_frP (lv : Int) (m m1 : zb_M) : Prop := (∀ b, (b < 518 ∨ 521 < b) → m1 b = m b) ∧ (∀ j, (j < 12 * lv ∨ 12 * lv + 12 ≤ j) → m1 518 j = m 518 j) ∧ ∀ j, j ≠ lv → m1 519 j = m 519 j
theorem zb_frP.rf (lv : Int) (m : zb_M) : zb_frP lv m m := ⟨fun _ _ => rfl, fun _ _ => rfl, fun _ _ => rfl⟩
theorem zb_frP.tr {lv : Int} {m m1 m2 : zb_M} (a : zb_frP lv m m1) (b : zb_frP lv m1 m2) : zb_frP lv m m2 := ⟨fun x h => (b.1 x h).trans (a.1 x h), fun j h => (b.2.1 j h).trans (a.2.1 j h), fun j h => (b.2.2 j h).trans (a.2.2 j h)⟩
theorem zb_RN_frP {lv : Int} {m m1 : zb_M} {N : zb_N} (h : zb_RN m N) (f : zb_frP lv m m1) : zb_RN m1 N := zb_RN_same h (by rw [f.1 500 (by omega)]) (f.1 516 (by omega)) (f.1 517 (by omega))
/-- how many things, and the lines -/
def zb_RL (m : zb_M) (N : zb_N) : Prop := m 500 15 = N.1 ∧ ∀ x y, 0 ≤ x → x < N.1 → 0 ≤ y → y < N.1 → m 517 (12 * x + y) = N.2.2 x y
theorem zb_RN_L {m : zb_M} {N : zb_N} (h : zb_RN m N) : zb_RL m N := ⟨h.1, h.2.2⟩
theorem zb_RL_same {m m1 : zb_M} {N : zb_N} (h : zb_RL m N) (h5 : m1 500 15 = m 500 15) (h7 : m1 517 = m 517) : zb_RL m1 N := by
  refine ⟨h5.trans h.1, ?_⟩
  rw [h7]; exact h.2
theorem zb_RL_frP {lv : Int} {m m1 : zb_M} {N : zb_N} (h : zb_RL m N) (f : zb_frP lv m m1) : zb_RL m1 N := zb_RL_same h (by rw [f.1 500 (by omega)]) (f.1 517 (by omega))
theorem s_X12_orderSights {d : Nat} {m : zb_M} {a b n size B : Int} {K : Int → Int} {R : Int → Int → Int} (n1 : n ≤ 12) (z0 : 0 ≤ size) (z1 : size ≤ 217) (hR : ∀ x, 0 ≤ x → x < n → ∀ k, 0 ≤ k → k < size → m 520 (220 * x + k) = R x k) (hB : ∀ x k, 0 ≤ x → x < n → 0 ≤ k → k < size → (0 ≤ R x k ∧ R x k < B) ∧ R x k ≤ 100000) (hK : ∀ x, 0 ≤ x → x < n → K x = zb_P B (R x) size.toNat) (a0 : 0 ≤ a) (a1 : a < n) (b0 : 0 ≤ b) (b1 : b < n) : zb_Tp K_X12_orderSights (d + 1) [(2, 500), (0, a), (0, b), (0, size)] zb_E0 m (fun r => (r = 0 ∧ K a = K b) ∨ (0 < r ∧ K b < K a) ∨ (r < 0 ∧ K a < K b)) := by
  apply w_X12_orderSights
  unfold PM_X12_orderSights PL_X12_orderSights_3
  rw [zb_v_500_21, hK a a0 a1, hK b b0 b1]
  intro X hX
  refine zb_lp0 (fun v => 0 ≤ v ∧ ∀ k, 0 ≤ k → k < v → R a k = R b k) size (fun v ⟨v0, hv⟩ vn nxt => hX v ⟨fun c => Or.inl ⟨rfl, zb_P_congr (fun i i0 i1 => hv i i0 (by omega))⟩, fun c => ⟨zb_inI_of (by omega) (by omega), zb_inI_of (by omega) (by omega), ⟨by omega, by omega⟩, zb_inI_of (by omega) (by omega), zb_inI_of (by omega) (by omega), ⟨by omega, by omega⟩, ?_⟩⟩) 0 z0 ⟨by omega, fun k k0 k1 => by omega⟩
  rw [hR a a0 a1 v v0 (by omega), hR b b0 b1 v v0 (by omega)]
  refine ⟨fun c2 => ⟨zb_inI_of (by omega) (by omega), nxt (by omega) ⟨by omega, fun k k0 k1 => ?_⟩⟩, fun c2 => ?_⟩
  · by_cases q : k = v
    · rw [q]; exact c2
    · exact hv k k0 (by omega)
  · unfold PJ_X12_orderSights_38
    rw [zb_v_500_21, hR a a0 a1 v v0 (by omega), hR b b0 b1 v v0 (by omega)]
    have r1 := hB a v a0 a1 v0 (by omega)
    have r2 := hB b v b0 b1 v0 (by omega)
    refine ⟨zb_inI_of (by omega) (by omega), zb_inI_of (by omega) (by omega), ⟨by omega, by omega⟩, zb_inI_of (by omega) (by omega), zb_inI_of (by omega) (by omega), ⟨by omega, by omega⟩, zb_inI_of (by omega) (by omega), ?_⟩
    rcases Int.lt_trichotomy (R a v) (R b v) with c3 | c3 | c3
    · exact Or.inr (Or.inr ⟨by omega, zb_P_lt v0 (fun i i0 i1 => hv i i0 i1) c3 (by omega) (fun i i0 i1 => (hB a i a0 a1 i0 (by omega)).1) (fun i i0 i1 => (hB b i b0 b1 i0 (by omega)).1)⟩)
    · exact absurd c3 c2
    · exact Or.inr (Or.inl ⟨by omega, zb_P_lt v0 (fun i i0 i1 => (hv i i0 i1).symm) c3 (by omega) (fun i i0 i1 => (hB b i b0 b1 i0 (by omega)).1) (fun i i0 i1 => (hB a i a0 a1 i0 (by omega)).1)⟩)
theorem zb_lt0 {K : Int → Int} {x y : Int} : zb_lt (fun _ => 0) K x y ↔ K x < K y := by
  unfold zb_lt
  exact ⟨fun h => by
    rcases h with h | h
    · exact absurd h (Int.lt_irrefl 0)
    · exact h.2, fun h => Or.inr ⟨rfl, h⟩⟩
/-- one thing more behind a row that takes each once -/
def zb_ins (S : Int → Int) (v : Int) : Int → Int := fun x => if x = v then v else S x
theorem zb_ins_pm {v : Int} {S : Int → Int} (h : zb_pm v S) (v0 : 0 ≤ v) : zb_pm (v + 1) (zb_ins S v) := by
  refine ⟨fun p p0 p1 => ?_, fun p q p0 p1 q0 q1 e => ?_⟩
  · show 0 ≤ (if p = v then v else S p) ∧ (if p = v then v else S p) < v + 1
    by_cases c : p = v
    · rw [if_pos c]; omega
    · rw [if_neg c]; have := h.1 p p0 (by omega); omega
  · have e : (if p = v then v else S p) = (if q = v then v else S q) := e
    by_cases c : p = v
    · rw [if_pos c] at e
      by_cases c2 : q = v
      · omega
      · rw [if_neg c2] at e; have := h.1 q q0 (by omega); omega
    · rw [if_neg c] at e
      by_cases c2 : q = v
      · rw [if_pos c2] at e; have := h.1 p p0 (by omega); omega
      · rw [if_neg c2] at e; exact h.2 p q p0 (by omega) q0 (by omega) e
theorem zb_ins_srt {v : Int} {h K S : Int → Int} (hs : zb_srt h K S 0 v) : zb_srt h K (zb_ins S v) 0 v := by
  intro i j i0 ij j1
  unfold zb_ins
  rw [if_neg (by omega), if_neg (by omega)]
  exact hs i j i0 ij j1
theorem s_X12_gather {d : Nat} {m : zb_M} {lv n size B : Int} {K : Int → Int} {R : Int → Int → Int} (l0 : 0 ≤ lv) (l1 : lv < 15) (hn : m 500 15 = n) (n0 : 0 ≤ n) (n1 : n ≤ 12) (z0 : 0 ≤ size) (z1 : size ≤ 217) (hR : ∀ x, 0 ≤ x → x < n → ∀ k, 0 ≤ k → k < size → m 520 (220 * x + k) = R x k) (hB : ∀ x k, 0 ≤ x → x < n → 0 ≤ k → k < size → (0 ≤ R x k ∧ R x k < B) ∧ R x k ≤ 100000) (hK : ∀ x, 0 ≤ x → x < n → K x = zb_P B (R x) size.toNat) : zb_T K_X12_gather (d + 2) [(2, 500), (0, lv), (0, size)] zb_E0 m (fun _ m1 => zb_RP m1 lv n (zb_rank n (fun _ => 0) K) ∧ zb_frP lv m m1 ∧ m1 520 = m 520) := by
  apply w_X12_gather
  unfold PM_X12_gather PL_X12_gather_2
  intro X hX
  refine zb_lp1 (fun v mm => 0 ≤ v ∧ (∃ S, zb_pm v S ∧ zb_srt (fun _ => 0) K S 0 v ∧ ∀ j, 0 ≤ j → j < v → mm 521 j = S j) ∧ ∀ b, b ≠ 521 → mm b = m b) n (fun v mm ⟨v0, ⟨S, s1, s2, s3⟩, t4⟩ vn nxt => hX v mm ⟨fun c1 => ?_, fun c1 => ?_⟩) 0 m n0 ⟨by omega, ⟨fun x => x, ⟨fun p p0 p1 => by omega, fun p q p0 p1 => by omega⟩, fun i j i0 ij j1 => by omega, fun j j0 j1 => by omega⟩, fun b _ => rfl⟩
  · rw [t4 500 (by omega), hn] at c1
    have hv : v = n := by omega
    subst hv
    clear nxt hX X
    unfold PJ_X12_gather_72 PL_X12_gather_77
    rw [zb_v_500_22]
    intro Y hY
    refine zb_lq2 (fun c k mn => 0 ≤ k ∧ c = (if k = 0 then -1 else zb_J (fun _ => 0) K S (k - 1).toNat) ∧ (∀ q, 0 ≤ q → q < k → mn 518 (12 * lv + S q) = zb_J (fun _ => 0) K S q.toNat) ∧ (∀ j, (j < 12 * lv ∨ 12 * lv + 12 ≤ j) → mn 518 j = mm 518 j) ∧ ∀ b, b ≠ 518 → mn b = mm b) v (fun c k mn ⟨k0, u1, u2, u3, u4⟩ kn nx2 => hY c k mn ⟨fun c2 => ?_, fun c2 => ?_⟩) (-1) 0 mm n0 ⟨by omega, by rw [if_pos rfl], fun q q0 q1 => by omega, fun j _ => rfl, fun b _ => rfl⟩
    · rw [u4 500 (by omega), t4 500 (by omega), hn] at c2
      have hk : k = v := by omega
      subst hk
      unfold PJ_X12_gather_147
      rw [zb_v_500_20]
      have rk : zb_rk k (fun _ => 0) K (fun x => mn 518 (12 * lv + x)) (c + 1) ∧ 0 ≤ c + 1 ∧ c + 1 ≤ 12 := by
        by_cases w : k = 0
        · rw [if_pos w] at u1
          exact ⟨⟨fun x x0 x1 => by omega, fun i i0 i1 => by omega, fun x y x0 x1 => by omega⟩, by omega, by omega⟩
        · rw [if_neg w] at u1
          have := zb_J_rng (fun _ => 0) K S (x := k - 1) (by omega)
          refine ⟨?_, by omega, by omega⟩
          rw [u1]
          exact zb_rk_of_srt s1 s2 (by omega) u2
      obtain ⟨rk, c0, c3⟩ := rk
      obtain ⟨eq2, eq1⟩ := zb_rank_eq rk c0
      refine ⟨zb_inI_of (by omega) (by omega), ⟨l0, l1⟩, fun m155 e155 => ⟨⟨by rw [zb_u1 e155]; exact eq2, fun x x0 x1 => by rw [zb_u3 e155 (by omega)]; exact eq1 x x0 x1⟩, ⟨fun b hb => ?_, fun j hj => ?_, fun j hj => ?_⟩, ?_⟩⟩
      · rw [zb_u3 e155 (by omega), u4 b (by omega), t4 b (by omega)]
      · rw [zb_u3 e155 (by omega), u3 j hj, t4 518 (by omega)]
      · rw [zb_u2 e155 (by omega), u4 519 (by omega), t4 519 (by omega)]
      · rw [zb_u3 e155 (by omega), u4 520 (by omega), t4 520 (by omega)]
    · rw [u4 500 (by omega), t4 500 (by omega), hn] at c2
      have hSk := s1.1 k k0 (by omega)
      have e521 : ∀ j, 0 ≤ j → j < v → mn 521 j = S j := fun j j0 j1 => by rw [u4 521 (by omega)]; exact s3 j j0 j1
      have jr := zb_J_rng (fun _ => 0) K S (x := k) k0
      have j121 : ∀ s, c + s = zb_J (fun _ => 0) K S k.toNat → PJ_X12_gather_121 (d + 1) zb_E0 500 lv c k mn Y (fun _ m1 => zb_RP m1 lv v (zb_rank v (fun _ => 0) K) ∧ zb_frP lv m m1 ∧ m1 520 = m 520) s := by
        intro s hs
        unfold PJ_X12_gather_121
        rw [zb_v_500_19, zb_v_500_22, e521 k k0 (by omega), hs]
        refine ⟨zb_inI_of (by omega) (by omega), zb_inI_of (by omega) (by omega), ⟨k0, by omega⟩, zb_inI_of (by omega) (by omega), ⟨by omega, by omega⟩, fun m140 e140 => ⟨zb_inI_of (by omega) (by omega), nx2 (by omega) _ m140 ⟨by omega, by rw [if_neg (by omega), show k + 1 - 1 = k by omega], fun q q0 q1 => ?_, fun j hj => by rw [zb_u2 e140 (by omega)]; exact u3 j hj, fun b hb => by rw [zb_u3 e140 hb]; exact u4 b hb⟩⟩⟩
        by_cases w : q = k
        · rw [w, zb_u1 e140]
        · have ne : S q ≠ S k := fun z => w (s1.2 q k q0 (by omega) k0 (by omega) z)
          rw [zb_u2 e140 (by omega)]
          exact u2 q q0 (by omega)
      refine ⟨fun q => ?_, fun q => ⟨zb_inI_of (by omega) (by omega), ⟨by omega, by omega⟩, ⟨k0, by omega⟩, ?_⟩⟩
      · unfold PJ_X12_gather_116
        refine j121 1 ?_
        rw [u1, if_pos q, q]
        rfl
      · have hSk1 := s1.1 (k - 1) (by omega) (by omega)
        have eJ := zb_J_S (fun _ => 0) K S (by omega : 0 < k)
        have h3 := s2 (k - 1) k (by omega) (by omega) (by omega)
        rw [if_neg q] at u1
        rw [e521 (k - 1) (by omega) (by omega), e521 k k0 (by omega)]
        refine (s_X12_orderSights (n := v) n1 z0 z1 (fun x x0 x1 j j0 j1 => by rw [u4 520 (by omega), t4 520 (by omega)]; exact hR x x0 x1 j j0 j1) hB hK hSk1.1 hSk1.2 hSk.1 hSk.2).mono (fun r hr => ⟨fun c3 => j121 0 ?_, fun c3 => ?_⟩)
        · rw [if_neg (fun z => by have := zb_lt0.1 z; omega)] at eJ
          omega
        · unfold PJ_X12_gather_116
          refine j121 1 ?_
          rw [if_pos (zb_lt0.2 (by have h4 : ¬ K (S k) < K (S (k - 1)) := fun z => h3 (zb_lt0.2 z); omega))] at eJ
          omega
  · rw [t4 500 (by omega), hn] at c1
    unfold PL_X12_gather_13
    rw [zb_v_500_22]
    intro Y hY
    have hT := zb_ins_pm s1 v0
    have hTs := zb_ins_srt s2
    have T1 : ∀ j, j < v → zb_ins S v j = S j := fun j hj => by unfold zb_ins; rw [if_neg (by omega)]
    have T2 : zb_ins S v v = v := by unfold zb_ins; rw [if_pos rfl]
    generalize zb_ins S v = T at hT hTs T1 T2
    have fin : ∀ (u : Int) (mn : zb_M), 0 ≤ u → u ≤ v → (∀ j, 0 ≤ j → j < u → mn 521 j = T j) → (∀ j, u < j → j ≤ v → mn 521 j = T (j - 1)) → (∀ b, b ≠ 521 → mn b = m b) → (∀ j, u ≤ j → j < v → zb_lt (fun _ => 0) K (T v) (T j)) → (0 < u → ¬ zb_lt (fun _ => 0) K (T v) (T (u - 1))) → PJ_X12_gather_58 (d + 1) zb_E0 500 v X (fun _ m1 => zb_RP m1 lv n (zb_rank n (fun _ => 0) K) ∧ zb_frP lv m m1 ∧ m1 520 = m 520) u mn := by
      intro u mn u0 uv q1 q2 q3 q4 q5
      unfold PJ_X12_gather_58
      rw [zb_v_500_22]
      refine ⟨⟨u0, by omega⟩, fun m65 e65 => ⟨zb_inI_of (by omega) (by omega), nxt (by omega) m65 ⟨by omega, ⟨zb_rot T u v, zb_rot_pm hT u0 uv (by omega), zb_rot_srt hTs u0 uv q4 q5, fun j j0 j1 => ?_⟩, fun b hb => by rw [zb_u3 e65 hb]; exact q3 b hb⟩⟩⟩
      unfold zb_rot
      by_cases w : j = u
      · rw [if_pos w, w, zb_u1 e65, T2]
      · rw [if_neg w, zb_u2 e65 (by omega)]
        by_cases w2 : u < j ∧ j ≤ v
        · rw [if_pos w2]; exact q2 j w2.1 w2.2
        · rw [if_neg w2]; exact q1 j j0 (by omega)
    have go : ∀ (f : Nat) (u : Int) (mn : zb_M), 0 ≤ u → u ≤ v → u ≤ f → (∀ j, 0 ≤ j → j < u → mn 521 j = T j) → (∀ j, u < j → j ≤ v → mn 521 j = T (j - 1)) → (∀ b, b ≠ 521 → mn b = m b) → (∀ j, u ≤ j → j < v → zb_lt (fun _ => 0) K (T v) (T j)) → Y u mn := by
      intro f
      induction f with
      | zero =>
        intro u mn u0 uv uf q1 q2 q3 q4
        exact hY u mn ⟨fun _ => fin u mn u0 uv q1 q2 q3 q4 (fun z => by omega), fun z => absurd (show u ≤ 0 by omega) z⟩
      | succ f ih =>
        intro u mn u0 uv uf q1 q2 q3 q4
        refine hY u mn ⟨fun z => fin u mn u0 uv q1 q2 q3 q4 (fun z2 => by omega), fun z => ⟨zb_inI_of (by omega) (by omega), ⟨by omega, by omega⟩, ?_⟩⟩
        have hTu := s1.1 (u - 1) (by omega) (by omega)
        rw [q1 (u - 1) (by omega) (by omega), T1 (u - 1) (by omega)]
        refine (s_X12_orderSights (n := n) n1 z0 z1 (fun x x0 x1 j j0 j1 => by rw [q3 520 (by omega)]; exact hR x x0 x1 j j0 j1) hB hK hTu.1 (by omega) v0 (by omega)).mono (fun r hr => ⟨fun c3 => fin u mn u0 uv q1 q2 q3 q4 (fun _ => ?_), fun c3 => ⟨⟨u0, by omega⟩, fun m51 e51 => ⟨zb_inI_of (by omega) (by omega), ?_⟩⟩⟩)
        · rw [T2, T1 (u - 1) (by omega), zb_lt0]; omega
        · refine ih (u + -1) m51 (by omega) (by omega) (by omega) (fun j j0 j1 => ?_) (fun j j0 j1 => ?_) (fun b hb => ?_) (fun j j0 j1 => ?_)
          · rw [zb_u2 e51 (by omega)]; exact q1 j j0 (by omega)
          · by_cases w : j = u
            · rw [w, zb_u1 e51, T1 (u - 1) (by omega)]
            · rw [zb_u2 e51 (by omega)]; exact q2 j (by omega) j1
          · rw [zb_u3 e51 hb]; exact q3 b hb
          · by_cases w : j = u - 1
            · rw [w, T2, T1 (u - 1) (by omega), zb_lt0]; omega
            · exact q4 j (by omega) j1
    exact go v.toNat v mm v0 (Int.le_refl _) (by omega) (fun j j0 j1 => by rw [T1 j j1]; exact s3 j j0 j1) (fun j j0 j1 => by omega) t4 (fun j j0 j1 => by omega)
theorem s_X12_start {d : Nat} {m : zb_M} {lv : Int} {N : zb_N} (l0 : 0 ≤ lv) (l1 : lv < 15) (hN : zb_ON N) (h : zb_RN m N) : zb_T K_X12_start (d + 3) [(2, 500), (0, lv)] zb_E0 m (fun _ m1 => zb_RP m1 lv N.1 (zb_st0 N) ∧ zb_frP lv m m1) := by
  apply w_X12_start
  have h0 := hN.1.1
  have hn := hN.1.2
  unfold PM_X12_start PL_X12_start_2
  rw [zb_v_500_17, zb_v_500_21]
  intro X hX
  refine zb_lp1 (fun v mm => 0 ≤ v ∧ (∀ x, 0 ≤ x → x < v → mm 520 (220 * x) = N.2.1 x) ∧ ∀ b, b ≠ 520 → mm b = m b) N.1 (fun v mm ⟨v0, t1, t2⟩ vn nxt => hX v mm ⟨fun c1 => ?_, fun c1 => ?_⟩) 0 m h0 ⟨by omega, fun x x0 x1 => by omega, fun b _ => rfl⟩
  · rw [t2 500 (by omega), h.1] at c1
    unfold PJ_X12_start_32
    refine (s_X12_gather (n := N.1) (K := N.2.1) (R := fun x _ => N.2.1 x) (B := 68719476736) l0 l1 (by rw [t2 500 (by omega)]; exact h.1) h0 hn (by omega) (by omega) (fun x x0 x1 k k0 k1 => by
      rw [show 220 * x + k = 220 * x by omega]; exact t1 x x0 (by omega)) (fun x k x0 x1 _ _ => by have := hN.2.1 x x0 x1; show (0 ≤ N.2.1 x ∧ N.2.1 x < 68719476736) ∧ N.2.1 x ≤ 100000; omega) (fun x _ _ => by show N.2.1 x = 0 * 68719476736 + N.2.1 x; omega)).mono (fun _ m1 ⟨g1, g2, g3⟩ => ⟨g1, zb_frP.tr ⟨fun b hb => t2 b (by omega), fun j _ => by rw [t2 518 (by omega)], fun j _ => by rw [t2 519 (by omega)]⟩ g2⟩)
  · rw [t2 500 (by omega), h.1] at c1
    rw [t2 516 (by omega), h.2.1 v v0 (by omega)]
    refine ⟨zb_inI_of (by omega) (by omega), ⟨v0, by omega⟩, ⟨by omega, by omega⟩, fun m25 e25 => ⟨zb_inI_of (by omega) (by omega), nxt (by omega) m25 ⟨by omega, fun x x0 x1 => ?_, fun b hb => by rw [zb_u3 e25 hb]; exact t2 b hb⟩⟩⟩
    by_cases q : x = v
    · rw [q, zb_u1 e25]
    · rw [zb_u2 e25 (by omega)]; exact t1 x x0 (by omega)
theorem s_X12_see {d : Nat} {m : zb_M} {lv i : Int} {N : zb_N} {p : zb_Pt} (l0 : 0 ≤ lv) (l1 : lv < 15) (hN : zb_ON N) (h : zb_RL m N) (hp : zb_RP m lv N.1 p) (hg : zb_gp N.1 p) (i0 : 0 ≤ i) (i1 : i < N.1) : zb_T K_X12_see (d + 1) [(2, 500), (0, lv), (0, i)] zb_E0 m (fun _ m1 => (∀ k, 0 ≤ k → k ≤ 18 * p.2 → m1 520 (220 * i + k) = zb_rr N p.1 p.2 i k) ∧ (∀ j, (j < 220 * i ∨ 220 * i + 220 ≤ j) → m1 520 j = m 520 j) ∧ ∀ b, b ≠ 520 → m1 b = m b) := by
  apply w_X12_see
  have h0 := hN.1.1
  have hn := hN.1.2
  have hk := zb_gd_le hg h0
  have k0 := hg.2.2.1
  have hm9 := hp.1
  unfold PM_X12_see
  rw [zb_v_500_19, zb_v_500_21, hp.2 i i0 i1]
  refine ⟨⟨l0, l1⟩, zb_inI_of (by omega) (by omega), zb_inI_of (by omega) (by omega), zb_inI_of (by omega) (by omega), ⟨by omega, by omega⟩, ⟨by omega, by omega⟩, fun m31 e31 => ?_⟩
  unfold PL_X12_see_35
  rw [zb_v_500_20, zb_v_500_21, hm9]
  intro X hX
  refine zb_lp1 (fun v mm => 1 ≤ v ∧ mm 520 (220 * i) = p.1 i ∧ (∀ k, 1 ≤ k → k < v → mm 520 (220 * i + k) = 0) ∧ (∀ j, (j < 220 * i ∨ 220 * i + 220 ≤ j) → mm 520 j = m 520 j) ∧ ∀ b, b ≠ 520 → mm b = m b) (18 * p.2 + 1) (fun v mm ⟨v0, t1, t2, t3, t4⟩ vn nxt => hX v mm ⟨zb_inI_of (by omega) (by omega), fun c1 => ?_, fun c1 => ⟨zb_inI_of (by omega) (by omega), ⟨by omega, by omega⟩, fun m54 e54 => ⟨zb_inI_of (by omega) (by omega), nxt (by omega) m54 ⟨by omega, by rw [zb_u2 e54 (by omega)]; exact t1, fun k k0 k1 => ?_, fun j hj => by rw [zb_u2 e54 (by omega)]; exact t3 j hj, fun b hb => by rw [zb_u3 e54 hb]; exact t4 b hb⟩⟩⟩⟩) 1 m31 (by omega) ⟨by omega, zb_u1 e31, fun k k0 k1 => by omega, fun j hj => zb_u2 e31 (by omega), fun b hb => zb_u3 e31 hb⟩
  · have hv : v = 18 * p.2 + 1 := by omega
    subst hv
    clear nxt hX X
    unfold PJ_X12_see_61 PL_X12_see_64
    rw [zb_v_500_18, zb_v_500_19, zb_v_500_21]
    intro Y hY
    refine zb_lp1 (fun y mn => 0 ≤ y ∧ mn 520 (220 * i) = p.1 i ∧ (∀ k, 1 ≤ k → k ≤ 18 * p.2 → mn 520 (220 * i + k) = zb_sum (zb_ct1 N p.1 p.2 i (k - 1)) y.toNat) ∧ (∀ j, (j < 220 * i ∨ 220 * i + 220 ≤ j) → mn 520 j = m 520 j) ∧ ∀ b, b ≠ 520 → mn b = m b) N.1 (fun y mn ⟨y0, u1, u2, u3, u4⟩ yn nx2 => hY y mn ⟨fun c2 => ⟨fun k k0 k1 => ?_, u3, u4⟩, fun c2 => ?_⟩) 0 mm h0 ⟨by omega, t1, fun k k0 k1 => by rw [t2 k k0 (by omega)]; rfl, t3, t4⟩
    · rw [u4 500 (by omega), h.1] at c2
      unfold zb_rr
      by_cases q : k = 0
      · rw [if_pos q, q, Int.add_zero]; exact u1
      · rw [if_neg q, u2 k (by omega) k1]
        unfold zb_ct
        rw [show y = N.1 by omega]
    · rw [u4 500 (by omega), h.1] at c2
      have hy1 : y < N.1 := by omega
      have e1 : mn 518 (12 * lv + y) = p.1 y := by rw [u4 518 (by omega)]; exact hp.2 y y0 hy1
      have e2 : mn 517 (12 * i + y) = N.2.2 i y := by rw [u4 517 (by omega)]; exact h.2 i y i0 i1 y0 hy1
      have e3 : mn 517 (12 * y + i) = N.2.2 y i := by rw [u4 517 (by omega)]; exact h.2 y i y0 hy1 i0 i1
      have r1 := hN.2.2 i y i0 i1 y0 hy1
      have r2 := hN.2.2 y i y0 hy1 i0 i1
      have hh := hg.1 y y0 hy1
      have sr : ∀ k, 0 ≤ zb_sum (zb_ct1 N p.1 p.2 i k) y.toNat ∧ zb_sum (zb_ct1 N p.1 p.2 i k) y.toNat ≤ 12 := fun k => by
        have := zb_sums_rng (f := zb_ct1 N p.1 p.2 i k) (c := 1) (fun y => by unfold zb_ct1; repeat' split
                                                                              all_goals omega) y.toNat
        omega
      have j140 : ∀ mo : zb_M, mo 520 (220 * i) = p.1 i → (∀ k, 1 ≤ k → k ≤ 18 * p.2 → mo 520 (220 * i + k) = zb_sum (zb_ct1 N p.1 p.2 i (k - 1)) y.toNat + if 0 < N.2.2 i y ∧ k = 9 * p.1 y + N.2.2 i y then 1 else 0) → (∀ j, (j < 220 * i ∨ 220 * i + 220 ≤ j) → mo 520 j = m 520 j) → (∀ b, b ≠ 520 → mo b = m b) → PJ_X12_see_140 d zb_E0 500 lv i m y mn Y (fun _ m1 => (∀ k, 0 ≤ k → k ≤ 18 * p.2 → m1 520 (220 * i + k) = zb_rr N p.1 p.2 i k) ∧ (∀ j, (j < 220 * i ∨ 220 * i + 220 ≤ j) → m1 520 j = m 520 j) ∧ ∀ b, b ≠ 520 → m1 b = m b) mo := by
        intro mo f1 f2 f3 f4
        unfold PJ_X12_see_140
        rw [zb_v_500_18, zb_v_500_19, zb_v_500_20, zb_v_500_21, e1, e3, hm9]
        have done : ∀ mq : zb_M, mq 520 (220 * i) = p.1 i → (∀ k, 1 ≤ k → k ≤ 18 * p.2 → mq 520 (220 * i + k) = mo 520 (220 * i + k) + if 0 < N.2.2 y i ∧ k = 9 * p.2 + 9 * p.1 y + N.2.2 y i then 1 else 0) → (∀ j, (j < 220 * i ∨ 220 * i + 220 ≤ j) → mq 520 j = m 520 j) → (∀ b, b ≠ 520 → mq b = m b) → zb_inI (y + 1) ∧ Y (y + 1) mq := by
          intro mq g1 g2 g3 g4
          refine ⟨zb_inI_of (by omega) (by omega), nx2 (by omega) mq ⟨by omega, g1, fun k k0 k1 => ?_, g3, g4⟩⟩
          rw [g2 k k0 k1, f2 k k0 k1, zb_sum_S _ y0]
          unfold zb_ct1
          by_cases w : k - 1 < 9 * p.2
          · rw [if_pos w]
            by_cases w2 : 0 < N.2.2 i y ∧ k = 9 * p.1 y + N.2.2 i y
            · rw [if_pos w2, if_neg (by omega), if_pos (by omega)]; omega
            · rw [if_neg w2, if_neg (by omega), if_neg (by omega)]; omega
          · rw [if_neg w]
            by_cases w2 : 0 < N.2.2 y i ∧ k = 9 * p.2 + 9 * p.1 y + N.2.2 y i
            · rw [if_pos w2, if_neg (by omega), if_pos (by omega)]; omega
            · rw [if_neg w2, if_neg (by omega), if_neg (by omega)]; omega
        refine ⟨fun c3 => done mo f1 (fun k k0 k1 => by rw [if_neg (by omega)]; omega) f3 f4, fun c3 => ?_⟩
        have es : mo 520 (220 * i + 9 * p.2 + 9 * p.1 y + N.2.2 y i) = zb_sum (zb_ct1 N p.1 p.2 i (9 * p.2 + 9 * p.1 y + N.2.2 y i - 1)) y.toNat + 0 := by
          have := f2 (9 * p.2 + 9 * p.1 y + N.2.2 y i) (by omega) (by omega)
          rw [if_neg (by omega)] at this
          rw [show 220 * i + 9 * p.2 + 9 * p.1 y + N.2.2 y i = 220 * i + (9 * p.2 + 9 * p.1 y + N.2.2 y i) by omega]
          exact this
        have srr := sr (9 * p.2 + 9 * p.1 y + N.2.2 y i - 1)
        refine ⟨zb_inI_of (by omega) (by omega), zb_inI_of (by omega) (by omega), zb_inI_of (by omega) (by omega), zb_inI_of (by omega) (by omega), zb_inI_of (by omega) (by omega), ⟨by omega, by omega⟩, zb_inI_of (by omega) (by omega), fun m169 e169 => done m169 (by rw [zb_u2 e169 (by omega)]; exact f1) (fun k k0 k1 => ?_) (fun j hj => by rw [zb_u2 e169 (by omega)]; exact f3 j hj) (fun b hb => by rw [zb_u3 e169 hb]; exact f4 b hb)⟩
        by_cases w : k = 9 * p.2 + 9 * p.1 y + N.2.2 y i
        · rw [if_pos (by omega), show 220 * i + k = 220 * i + 9 * p.2 + 9 * p.1 y + N.2.2 y i by omega, zb_u1 e169]
        · rw [if_neg (by omega), zb_u2 e169 (by omega)]; omega
      rw [e1, e2]
      refine ⟨zb_inI_of (by omega) (by omega), ⟨by omega, by omega⟩, zb_inI_of (by omega) (by omega), zb_inI_of (by omega) (by omega), ⟨by omega, by omega⟩, zb_inI_of (by omega) (by omega), zb_inI_of (by omega) (by omega), ⟨by omega, by omega⟩, fun c3 => j140 mn u1 (fun k k0 k1 => by rw [if_neg (by omega), u2 k k0 k1]; omega) u3 u4, fun c3 => ?_⟩
      have es : mn 520 (220 * i + 9 * p.1 y + N.2.2 i y) = zb_sum (zb_ct1 N p.1 p.2 i (9 * p.1 y + N.2.2 i y - 1)) y.toNat := by
        rw [show 220 * i + 9 * p.1 y + N.2.2 i y = 220 * i + (9 * p.1 y + N.2.2 i y) by omega]
        exact u2 (9 * p.1 y + N.2.2 i y) (by omega) (by omega)
      have srr := sr (9 * p.1 y + N.2.2 i y - 1)
      rw [es]
      refine ⟨zb_inI_of (by omega) (by omega), zb_inI_of (by omega) (by omega), zb_inI_of (by omega) (by omega), ⟨by omega, by omega⟩, zb_inI_of (by omega) (by omega), fun m139 e139 => j140 m139 (by rw [zb_u2 e139 (by omega)]; exact u1) (fun k k0 k1 => ?_) (fun j hj => by rw [zb_u2 e139 (by omega)]; exact u3 j hj) (fun b hb => by rw [zb_u3 e139 hb]; exact u4 b hb)⟩
      by_cases w : k = 9 * p.1 y + N.2.2 i y
      · rw [if_pos (by omega), show 220 * i + k = 220 * i + 9 * p.1 y + N.2.2 i y by omega, zb_u1 e139, w]
      · rw [if_neg (by omega), zb_u2 e139 (by omega), u2 k k0 k1]; omega
  · by_cases q : k = v
    · rw [q, zb_u1 e54]
    · rw [zb_u2 e54 (by omega)]; exact t2 k k0 (by omega)
