/-! ===== the list, both sides ===== -/
theorem zb_R_b9 {n : Int} (b : Nat) (n0 : 0 ≤ n) (n1 : n ≤ 5) : zb_b9 (zb_rsz n) (zb_R n b) := by
  have hN := zb_dr_ON b n0 n1
  obtain ⟨a1, a2, -⟩ := zb_nmW_ok hN
  intro j j0 j1
  unfold zb_R
  rw [a1]
  unfold zb_rw
  unfold zb_rsz at j1
  show 0 ≤ (if j = 0 then n else if j ≤ n then 0 else (zb_dr n b).2.2 ((zb_nmW (zb_dr n b)).2.2.2 ((j - 1 - n) / n)) ((zb_nmW (zb_dr n b)).2.2.2 ((j - 1 - n) % n))) ∧ (if j = 0 then n else if j ≤ n then 0 else (zb_dr n b).2.2 ((zb_nmW (zb_dr n b)).2.2.2 ((j - 1 - n) / n)) ((zb_nmW (zb_dr n b)).2.2.2 ((j - 1 - n) % n))) ≤ 9
  by_cases q : j = 0
  · rw [if_pos q]; omega
  · rw [if_neg q]
    by_cases q2 : j ≤ n
    · rw [if_pos q2]; omega
    · rw [if_neg q2]
      have hn : 0 < n := by
        by_cases c : n = 0
        · rw [c] at j1 q2; omega
        · omega
      obtain ⟨r1, r2, -⟩ := zb_dm_rng hn (show 0 ≤ j - 1 - n by omega) (by omega)
      have s1 := a2.1 _ r1.1 r1.2
      have s2 := a2.1 _ r2.1 r2.2
      exact hN.2.2 _ _ s1.1 s1.2 s2.1 s2.2
noncomputable def zb_Lst (n : Int) (M : Nat) : zb_Li := @dite _ (∃ L, zb_Sv n M ((2 ^ zb_prN n.toNat : Nat) : Int) L ∧ L.1 ≤ 7) (Classical.propDecidable _) (fun h => Classical.choose h) (fun _ => (0, n, fun _ _ => 0))
theorem zb_Lst_ok {n : Int} {M : Nat} {L : zb_Li} (h : zb_Sv n M ((2 ^ zb_prN n.toNat : Nat) : Int) L ∧ L.1 ≤ 7) : L.1 = (zb_Lst n M).1 ∧ L.2.1 = (zb_Lst n M).2.1 ∧ ∀ k, 0 ≤ k → k < L.1 → zb_eqo (zb_rsz L.2.1) (L.2.2 k) ((zb_Lst n M).2.2 k) := by
  have hex : ∃ L, zb_Sv n M ((2 ^ zb_prN n.toNat : Nat) : Int) L ∧ L.1 ≤ 7 := ⟨L, h⟩
  have e : zb_Lst n M = Classical.choose hex := by unfold zb_Lst; rw [dif_pos hex]
  have s := Classical.choose_spec hex
  rw [← e] at s
  obtain ⟨u1, u2⟩ := zb_Sv_uniq h.1 s.1
  refine ⟨u1, h.1.1.trans s.1.1.symm, fun k k0 k1 => ?_⟩
  rw [h.1.1]
  exact u2 k k0 k1
def zb_OLi (L : zb_Li) : Prop := (0 ≤ L.1 ∧ L.1 ≤ 7) ∧ ∀ k, 0 ≤ k → k < L.1 → (1 ≤ L.2.1 ∧ L.2.1 ≤ 5) ∧ zb_b9 (zb_rsz L.2.1) (L.2.2 k)
noncomputable def v_list (L : zb_Li) (n m : Int) : Int × zb_Li := if (1 ≤ n ∧ n ≤ 5) ∧ 0 ≤ m ∧ m ≤ (n * (n - 1)) / 2 then ((zb_Lst n m.toNat).1, zb_Lst n m.toNat) else (-1, L)
theorem v_list_ok {L : zb_Li} {n m : Int} (h : zb_OLi L) : zb_OLi (v_list L n m).2 := by
  unfold v_list
  by_cases q : (1 ≤ n ∧ n ≤ 5) ∧ 0 ≤ m ∧ m ≤ (n * (n - 1)) / 2
  · rw [if_pos q]
    show zb_OLi (zb_Lst n m.toNat)
    by_cases hex : ∃ L, zb_Sv n m.toNat ((2 ^ zb_prN n.toNat : Nat) : Int) L ∧ L.1 ≤ 7
    · have e : zb_Lst n m.toNat = Classical.choose hex := by unfold zb_Lst; rw [dif_pos hex]
      have s := Classical.choose_spec hex
      rw [← e] at s
      obtain ⟨⟨s1, s2, s3, s4, s5⟩, s6⟩ := s
      refine ⟨⟨s2, s6⟩, fun k k0 k1 => ⟨by rw [s1]; exact q.1, fun j j0 j1 => ?_⟩⟩
      obtain ⟨b, -, -, eb⟩ := s3 k k0 k1
      rw [s1] at j1
      rw [← eb j j0 j1]
      exact zb_R_b9 b (by omega) (by omega) j j0 j1
    · have e : zb_Lst n m.toNat = (0, n, fun _ _ => 0) := by unfold zb_Lst; rw [dif_neg hex]
      rw [e]
      exact ⟨⟨Int.le_refl _, by show (0 : Int) ≤ 7; omega⟩, fun k k0 k1 => by have k1 : k < 0 := k1; omega⟩
  · rw [if_neg q]; exact h
theorem zb_prm {n : Int} (h0 : 1 ≤ n) (h1 : n ≤ 5) : (n * (n - 1)) / 2 ≤ 10 := by
  have : n = 1 ∨ n = 2 ∨ n = 3 ∨ n = 4 ∨ n = 5 := by omega
  rcases this with q | q | q | q | q <;> subst q <;> decide
theorem s_X11_list {d : Nat} {m : zb_M} {L : zb_Li} {n k : Int} (hL : zb_CL m L) : zb_T K_X11_list (d + 22) [(2, 1), (0, n), (0, k)] zb_E0 m (fun r m1 => r = (v_list L n k).1 ∧ zb_CL m1 (v_list L n k).2 ∧ zb_frML m m1) := by
  apply w_X11_list
  unfold PM_X11_list v_list
  rw [zb_v_1_2, zb_v_1_4, zb_v_1_14]
  refine ⟨fun c => ?_, fun c => ⟨fun c2 => ?_, fun c2 => ⟨fun c3 => ?_, fun c3 => ?_⟩⟩⟩
  · rw [if_neg (by omega)]; exact ⟨rfl, hL, fun _ _ => rfl⟩
  · rw [if_neg (by omega)]; exact ⟨rfl, hL, fun _ _ => rfl⟩
  · rw [if_neg (by omega)]; exact ⟨rfl, hL, fun _ _ => rfl⟩
  · have nn1 := zb_nn1 (show 1 ≤ n by omega) (show n ≤ 5 by omega)
    have pm := zb_prm (show 1 ≤ n by omega) (show n ≤ 5 by omega)
    refine ⟨zb_inI_of (by omega) (by omega), zb_inI_of (by omega) (by omega), ⟨nn1.1, by omega⟩, fun c4 => ?_, fun c4 => ?_⟩
    · rw [if_pos ⟨by omega, by omega, c4⟩]
      obtain ⟨M, hM⟩ : ∃ M : Nat, k = (M : Int) := ⟨k.toNat, by omega⟩
      subst hM
      refine (s_X2_make (d := d) (M := M) (show 1 ≤ n by omega) (show n ≤ 5 by omega) (by omega) hL).mono (fun _ m41 ⟨A, h1, h2, h3⟩ => ?_)
      obtain ⟨u1, u2, u3⟩ := zb_Lst_ok h2
      rw [show ((M : Int)).toNat = M by omega]
      have e1 : m41 400 1 = (zb_Lst n M).1 := h1.1.trans u1
      exact ⟨e1, zb_CL_eq h1 u1 u2 u3, h3⟩
    · rw [if_neg (fun z => c4 z.2.2)]; exact ⟨rfl, hL, fun _ _ => rfl⟩
/-! the reference -/
def zb_frRL (m m1 : zb_M) : Prop := (∀ c, c ≠ 500 → (c < 515 ∨ (521 < c ∧ c < 524) ∨ (528 < c ∧ c ≠ 541)) → m1 c = m c) ∧ (∀ j, j ≠ 15 → j ≠ 28 → j ≠ 29 → j ≠ 52 → j ≠ 53 → m1 500 j = m 500 j) ∧ (∀ j, 156 ≤ j → m1 518 j = m 518 j) ∧ ∀ j, 13 ≤ j → m1 519 j = m 519 j
theorem zb_frRL.rf (m : zb_M) : zb_frRL m m := ⟨fun _ _ _ => rfl, fun _ _ _ _ _ _ => rfl, fun _ _ => rfl, fun _ _ => rfl⟩
/-- while the reference lists -/
def zb_Jr (n : Int) (M : Nat) (m : zb_M) (v : Int) (mm : zb_M) (L : zb_Li) : Prop := (zb_RLi mm L ∧ mm 500 53 = n) ∧ zb_Sv n M v L ∧ zb_cle L.1 n M v ∧ (mm 500 15 = n ∧ ∀ x, 0 ≤ x → x < n → mm 515 x = x ∧ mm 516 x = 0) ∧ zb_frRL m mm
theorem zb_bo_lt {v w : Int} (h : w < v) : zb_bo v w = (v * (v - 1)) / 2 + w := by
  unfold zb_bo
  rw [if_neg (by omega), if_pos h]
theorem zb_tri5 {v : Int} (h0 : 0 ≤ v) (h1 : v ≤ 4) : (v * (v - 1)) / 2 + v = ((v + 1) * (v + 1 - 1)) / 2 ∧ 0 ≤ (v * (v - 1)) / 2 ∧ (v * (v - 1)) / 2 ≤ 6 := by
  have : v = 0 ∨ v = 1 ∨ v = 2 ∨ v = 3 ∨ v = 4 := by omega
  rcases this with q | q | q | q | q <;> subst q <;> decide
theorem s_X12_list {d : Nat} {m : zb_M} {L0 : zb_Li} {n k : Int} (hL : zb_RLi m L0) : zb_T K_X12_list (d + 6) [(2, 500), (0, n), (0, k)] zb_E0 m (fun r m1 => r = (v_list L0 n k).1 ∧ zb_RLi m1 (v_list L0 n k).2 ∧ zb_frRL m m1) := by
  apply w_X12_list
  unfold PM_X12_list v_list
  refine s_X12_in.mono (fun r hr => ?_)
  rcases zb_if1 hr with ⟨p1, p2⟩ | ⟨p1, p2⟩
  · exact ⟨fun _ => by rw [if_neg (fun z => p2 z.1)]; exact ⟨rfl, hL, zb_frRL.rf m⟩, fun z => absurd p1 z⟩
  obtain ⟨n0, n1⟩ := p2
  have nn1 := zb_nn1 n0 n1
  have pm := zb_prm n0 n1
  have h10 := zb_pr_10 (n := n) (by omega) n1
  have rz := zb_rsz_rng (show 0 ≤ n by omega) (by omega)
  refine ⟨fun z => by omega, fun _ => ⟨zb_inI_of (by omega) (by omega), zb_inI_of (by omega) (by omega), ⟨nn1.1, by omega⟩, s_X12_in.mono (fun r18 hr18 => ?_)⟩⟩
  rcases zb_if1 hr18 with ⟨p3, p4⟩ | ⟨p3, p4⟩
  · exact ⟨fun _ => by rw [if_neg (fun z => p4 z.2)]; exact ⟨rfl, hL, zb_frRL.rf m⟩, fun z => absurd p3 z⟩
  refine ⟨fun z => by omega, fun _ m28 e28 m33 e33 m38 e38 => ?_⟩
  rw [if_pos ⟨⟨n0, n1⟩, p4⟩]
  obtain ⟨M, hM⟩ : ∃ M : Nat, k = (M : Int) := ⟨k.toNat, by omega⟩
  subst hM
  have M11 : M < 11 := by omega
  rw [show ((M : Int)).toNat = M by omega]
  clear p1 p3 hr hr18
  unfold PL_X12_list_52
  rw [zb_v_500_16, zb_v_500_17]
  intro X hX
  have e5 : ∀ j, m38 500 j = if j = 15 then n else if j = 53 then n else if j = 52 then 0 else m 500 j := fun j => by
    by_cases q : j = 15
    · rw [if_pos q, q, zb_u1 e38]
    · rw [if_neg q, zb_u2 e38 (Or.inr q)]
      by_cases q2 : j = 53
      · rw [if_pos q2, q2, zb_u1 e33]
      · rw [if_neg q2, zb_u2 e33 (Or.inr q2)]
        by_cases q3 : j = 52
        · rw [if_pos q3, q3, zb_u1 e28]
        · rw [if_neg q3, zb_u2 e28 (Or.inr q3)]
  have e38' : ∀ c, c ≠ 500 → m38 c = m c := fun c hc => by rw [zb_u3 e38 hc, zb_u3 e33 hc, zb_u3 e28 hc]
  refine zb_lp1 (fun v mm => 0 ≤ v ∧ (∀ x, 0 ≤ x → x < v → mm 515 x = x ∧ mm 516 x = 0) ∧ ∀ c, c ≠ 515 → c ≠ 516 → mm c = m38 c) n (fun v mm ⟨v0, t1, t2⟩ vn nxt => hX v mm ⟨fun c => ?_, fun c => ?_⟩) 0 m38 (by omega) ⟨by omega, fun x x0 x1 => by omega, fun _ _ _ => rfl⟩
  · have e15 : mm 500 15 = n := by rw [t2 500 (by omega) (by omega), e5, if_pos rfl]
    rw [e15] at c
    have hv : v = n := by omega
    subst hv
    unfold PJ_X12_list_84 PL_X12_list_87
    rw [zb_shl_pr n0 n1]
    obtain ⟨P, hP⟩ : ∃ P : Nat, P = 2 ^ zb_prN v.toNat := ⟨_, rfl⟩
    have hP' : P ≤ 1024 := by rw [hP]; exact h10.2.1
    intro Y hY
    rw [← hP] at hY
    have start : zb_Jr v M m 0 mm (0, v, fun _ _ => 0) := by
      refine ⟨⟨⟨by rw [t2 500 (by omega) (by omega), e5, if_neg (by omega), if_neg (by omega), if_pos rfl], fun z => by have z : (0 : Int) < 0 := z; omega, fun k k0 k1 => by have k1 : k < 0 := k1; omega⟩, by rw [t2 500 (by omega) (by omega), e5, if_neg (by omega), if_pos rfl]⟩, ⟨rfl, Int.le_refl _, fun k k0 k1 => by have k1 : k < 0 := k1; omega, fun b b1 => by omega, fun i k i0 ik k1 => by have k1 : k < 0 := k1; omega⟩, by unfold zb_cle; exact Int.natCast_nonneg _, ⟨e15, t1⟩, fun c c1 c2 => by rw [t2 c (by omega) (by omega), e38' c c1], fun j j1 j2 j3 j4 j5 => by rw [t2 500 (by omega) (by omega), e5, if_neg j1, if_neg j5, if_neg j4], fun j hj => by rw [t2 518 (by omega) (by omega), e38' 518 (by omega)], fun j hj => by rw [t2 519 (by omega) (by omega), e38' 519 (by omega)]⟩
    refine zb_lp1 (fun b mn => 0 ≤ b ∧ ∃ L, zb_Jr v M m b mn L) (P : Int) (fun b mn ⟨b0, L, hJ⟩ bn nx2 => hY b mn ⟨fun c2 => ?_, fun c2 => ?_⟩) 0 mm (by omega) ⟨by omega, _, start⟩
    · have hb : b = P := by omega
      subst hb
      obtain ⟨⟨a1, a1'⟩, a2, a3, a4, a5⟩ := hJ
      rw [hP] at a2 a3
      have c7 := zb_cle_7 a3 n0 n1 M11 (Int.le_refl _)
      obtain ⟨u1, u2, u3⟩ := zb_Lst_ok ⟨a2, c7⟩
      unfold PJ_X12_list_221
      have e52 : mn 500 52 = (zb_Lst v M).1 := a1.1.trans u1
      refine ⟨e52, ⟨e52, fun _ => ?_, fun k k0 k1 j j0 j1 => ?_⟩, a5⟩
      · rw [← u2, a2.1]; exact a1'
      · have k1 : k < (zb_Lst v M).1 := k1
        have j1 : j < zb_rsz (zb_Lst v M).2.1 := j1
        rw [← u2] at j1
        show _ = (zb_Lst v M).2.2 k j
        rw [a1.2.2 k k0 (by omega) j j0 j1]
        exact u3 k k0 (by omega) j j0 j1
    · have bP' : b < P := by omega
      obtain ⟨b', hb⟩ : ∃ b' : Nat, b = (b' : Int) := ⟨b.toNat, by omega⟩
      subst hb
      have bP : b' < 2 ^ zb_prN v.toNat := by rw [← hP]; omega
      have b1024 : b' < 1024 := by omega
      obtain ⟨⟨a1, a1'⟩, a2, a3, ⟨a15, a4⟩, a5⟩ := hJ
      have c7 := zb_cle_7 a3 n0 n1 M11 (by rw [← hP]; omega)
      have c0 := a2.2.1
      have L21 := a2.1
      refine (s_X12_bitsOf (d := d + 4) b1024).mono (fun r97 e97 => ⟨fun q => ?_, fun q => ⟨zb_inI_of (by omega) (by omega), nx2 bP' mn ⟨by omega, L, ⟨a1, a1'⟩, zb_Sv_skip a2 (fun z => absurd (by rw [e97]; unfold zb_pcM at z; rw [z]) q), zb_cle_up a3 b0, ⟨a15, a4⟩, a5⟩⟩⟩)
      have hp : zb_pcM b' M := by unfold zb_pcM; rw [e97] at q; exact Int.ofNat.inj q
      clear q e97
      unfold PL_X12_list_113
      rw [zb_v_500_18]
      intro Z hZ
      refine zb_lq2 (fun p i mo => (0 ≤ i ∧ p = (i * (i - 1)) / 2) ∧ (∀ x y, 0 ≤ x → x < i → 0 ≤ y → y < i → mo 517 (12 * x + y) = (zb_dr v b').2.2 x y) ∧ ∀ c, c ≠ 517 → mo c = mn c) v (fun p i mo ⟨⟨i0, ep⟩, s1, s2⟩ iv nx3 => hZ p i mo ⟨fun c3 => ?_, fun c3 => ?_⟩) 0 0 mn (by omega) ⟨⟨by omega, rfl⟩, fun x y x0 x1 => by omega, fun _ _ => rfl⟩
      · have e15' : mo 500 15 = v := by rw [s2 500 (by omega)]; exact a15
        rw [e15'] at c3
        have hi : i = v := by omega
        subst hi
        unfold PJ_X12_list_201
        have hON := zb_dr_ON b' (show 0 ≤ i by omega) n1
        have rn : zb_RN mo (zb_dr i b') := ⟨e15', fun x x0 x1 => by rw [s2 516 (by omega)]; exact (a4 x x0 x1).2, fun x y x0 x1 y0 y1 => s1 x y x0 x1 y0 y1⟩
        refine (s_X12_grow (d := d) (o := fun x => x) hON rn (fun x x0 x1 => by rw [s2 515 (by omega)]; exact (a4 x x0 x1).1)).mono (fun r202 m202 ⟨g1, g2⟩ => ?_)
        have few : (zb_nmW (zb_dr i b')).1 ≤ 3000 := zb_nmW_few (N := zb_dr i b') n0 n1
        have row : zb_eqo (zb_rsz i) (m202 525) (zb_R i b') := by
          rcases g1 with ⟨-, -, w⟩ | ⟨-, w⟩
          · exact (w.2.2 (by have := (zb_nmW_ok hON).2.2; omega)).1
          · omega
        refine (s_X12_sizeOf (d := d + 4) (show 0 ≤ i by omega) (by omega)).mono (fun r209 e209 => ?_)
        rw [e209]
        have f202 : ∀ c, c ≠ 500 → c ≠ 517 → (c < 518 ∨ (521 < c ∧ c < 524) ∨ 528 < c) → m202 c = mn c := fun c c1 c2 c3 => by rw [g2.1 c c1 c3]; exact s2 c c2
        have f500 : ∀ j, j ≠ 28 → j ≠ 29 → m202 500 j = mn 500 j := fun j j1 j2 => by rw [g2.2.1 j j1 j2, s2 500 (by omega)]
        have rl : zb_RLi m202 L := ⟨by rw [f500 52 (by omega) (by omega)]; exact a1.1, fun z => by rw [f500 53 (by omega) (by omega)]; exact a1.2.1 z, fun k k0 k1 j j0 j1 => by rw [f202 541 (by omega) (by omega) (by omega)]; exact a1.2.2 k k0 k1 j j0 j1⟩
        have l31 : zb_rsz i ≤ 31 := by
          unfold zb_rsz
          have : i = 1 ∨ i = 2 ∨ i = 3 ∨ i = 4 ∨ i = 5 := by omega
          rcases this with q | q | q | q | q <;> subst q <;> decide
        have bL : ∀ k, 0 ≤ k → k < L.1 → zb_b9 (zb_rsz i) (L.2.2 k) := fun k k0 k1 j j0 j1 => by
          obtain ⟨x, -, -, ex⟩ := a2.2.2.1 k k0 k1
          rw [← ex j j0 j1]
          exact zb_R_b9 x (by omega) n1 j j0 j1
        refine (s_X12_enter (d := d + 3) (f := zb_R i b') (by omega) l31 (by rw [L21]) c0 c7 rl row (zb_R_b9 b' (by omega) n1) bL a2.2.2.2.2).mono (fun _ m212 ⟨w1, w2, w3⟩ => ⟨zb_inI_of (by omega) (by omega), ?_⟩)
        have fr : zb_frRL m m212 := ⟨fun c c1 c2 => by rw [w2 c c1 (by omega), f202 c c1 (by omega) (by omega)]; exact a5.1 c c1 c2, fun j j1 j2 j3 j4 j5 => by rw [w3 j j4, f500 j j2 j3]; exact a5.2.1 j j1 j2 j3 j4 j5, fun j hj => by rw [w2 518 (by omega) (by omega), g2.2.2.1 j (by omega), s2 518 (by omega)]; exact a5.2.2.1 j hj, fun j hj => by rw [w2 519 (by omega) (by omega), g2.2.2.2.1 j (by omega), s2 519 (by omega)]; exact a5.2.2.2 j hj⟩
        have k15 : m212 500 15 = i ∧ ∀ x, 0 ≤ x → x < i → m212 515 x = x ∧ m212 516 x = 0 := ⟨by rw [w3 15 (by omega), f500 15 (by omega) (by omega)]; exact a15, fun x x0 x1 => by rw [w2 515 (by omega) (by omega), w2 516 (by omega) (by omega), f202 515 (by omega) (by omega) (by omega), f202 516 (by omega) (by omega) (by omega)]; exact a4 x x0 x1⟩
        have k53 : m212 500 53 = i := by rw [w3 53 (by omega), f500 53 (by omega) (by omega)]; exact a1'
        rcases w1 with ⟨em, kk, kr, ke⟩ | ⟨ii, ⟨i0', i1'⟩, q1, q2, q3, q4⟩
        · subst em
          exact nx2 bP' m212 ⟨by omega, L, ⟨rl, k53⟩, zb_Sv_skip a2 (fun _ => ⟨kk, kr, ke⟩), zb_cle_up a3 b0, k15, fr⟩
        · have hne : ∀ x : Nat, x < b' → zb_pcM x M → ¬ zb_eqo (zb_rsz i) (zb_R i x) (zb_R i b') := fun x x1 hx e => by
            obtain ⟨k, ⟨k0, k1⟩, ek⟩ := a2.2.2.2.1 x (by omega) hx
            by_cases c : k < ii
            · exact zb_lex_ir (q1 k k0 c) (Or.inl (e.sy.tr ek))
            · exact zb_lex_ir (q2 k (by omega) k1) (Or.inl (ek.sy.tr e))
          exact nx2 bP' m212 ⟨by omega, zb_LI L ii (zb_R i b'), ⟨⟨q3, fun _ => by rw [k53]; exact L21.symm, fun k k0 k1 j j0 j1 => q4 k k0 k1 j j0 (by have j1 : j < zb_rsz L.2.1 := j1; rw [L21] at j1; exact j1)⟩, k53⟩, zb_Sv_in a2 hp (zb_eqo.rf _ _) i0' i1' q1 q2, zb_cle_new a3 n0 n1 bP hp hne, k15, fr⟩
      · have e15' : mo 500 15 = v := by rw [s2 500 (by omega)]; exact a15
        rw [e15'] at c3
        have i1 : i < v := by omega
        have tr := zb_tri5 i0 (show i ≤ 4 by omega)
        refine ⟨zb_inI_of (by omega) (by omega), zb_inI_of (by omega) (by omega), ⟨by omega, by omega⟩, fun m135 e135 => ?_⟩
        unfold PL_X12_list_139
        rw [zb_v_500_18]
        intro V hV
        generalize ht : (i * (i - 1)) / 2 = t at ep tr
        refine zb_lq2 (fun p w mp => (0 ≤ w ∧ p = t + w) ∧ (∀ x y, 0 ≤ x → x < v → 0 ≤ y → y < v → ((x < i ∧ y < i) ∨ (x = i ∧ y = i) ∨ (x = i ∧ y < w) ∨ (y = i ∧ x < w)) → mp 517 (12 * x + y) = (zb_dr v b').2.2 x y) ∧ ∀ c, c ≠ 517 → mp c = mn c) i (fun p w mp ⟨⟨w0, ew⟩, r1, r2⟩ wi nx4 => hV p w mp ⟨fun c4 => ?_, fun c4 => ?_⟩) p 0 m135 i0 ⟨⟨by omega, by omega⟩, fun x y x0 x1 y0 y1 z => ?_, fun c hc => by rw [zb_u3 e135 hc]; exact s2 c hc⟩
        · by_cases q : x = i ∧ y = i
          · rw [q.1, q.2, zb_u1 e135]
            show 0 = (if i = i then (0 : Int) else _)
            rw [if_pos rfl]
          · rw [zb_u2 e135 (by omega)]; exact s1 x y x0 (by omega) y0 (by omega)
        · have hw : w = i := by omega
          subst hw
          unfold PJ_X12_list_195
          refine ⟨zb_inI_of (by omega) (by omega), nx3 i1 p mp ⟨⟨by omega, by rw [ew]; exact tr.1⟩, fun x y x0 x1 y0 y1 => r1 x y x0 (by omega) y0 (by omega) (by omega), r2⟩⟩
        · have bo := zb_bo_rng n1 i0 i1 w0 (show w < v by omega) (by omega)
          have eb : zb_bo i w = p := by rw [zb_bo_lt (by omega), ht, ew]
          rw [eb] at bo
          have bt := zb_bit (b := b') (i := p) (show b' < 4096 by omega) bo.1 (by omega)
          obtain ⟨l, hl1, hl2, hl3⟩ : ∃ l : Int, (True → zb_and (zb_shr (b' : Int) p) 1 = l) ∧ (True → l = (zb_dr v b').2.2 i w) ∧ (True → l = (zb_dr v b').2.2 w i) := by
            refine ⟨if b'.testBit p.toNat then 1 else 0, fun _ => bt, fun _ => ?_, fun _ => ?_⟩
            · clear bt; rw [zb_dr_one (show i ≠ w by omega), eb]
            · clear bt; rw [zb_dr_one (show w ≠ i by omega), zb_bo_sy w i, eb]
          clear bt
          rw [hl1 trivial]
          refine ⟨zb_inI_of (by omega) (by omega), ⟨by omega, by omega⟩, fun m165 e165 => ⟨zb_inI_of (by omega) (by omega), zb_inI_of (by omega) (by omega), ⟨by omega, by omega⟩, fun m185 e185 => ⟨zb_inI_of (by omega) (by omega), zb_inI_of (by omega) (by omega), nx4 (by omega) (p + 1) m185 ⟨⟨by omega, by omega⟩, fun x y x0 x1 y0 y1 z => ?_, fun c hc => by rw [zb_u3 e185 hc, zb_u3 e165 hc]; exact r2 c hc⟩⟩⟩⟩
          by_cases q : x = w ∧ y = i
          · rw [q.1, q.2, zb_u1 e185]; exact hl3 trivial
          · rw [zb_u2 e185 (by omega)]
            by_cases q2 : x = i ∧ y = w
            · rw [q2.1, q2.2, zb_u1 e165]; exact hl2 trivial
            · rw [zb_u2 e165 (by omega)]; exact r1 x y x0 x1 y0 y1 (by omega)
  · have e15 : mm 500 15 = n := by rw [t2 500 (by omega) (by omega), e5, if_pos rfl]
    rw [e15] at c
    refine ⟨⟨v0, by omega⟩, fun m69 e69 m77 e77 => ⟨zb_inI_of (by omega) (by omega), nxt (by omega) m77 ⟨by omega, fun x x0 x1 => ?_, fun c c1 c2 => by rw [zb_u3 e77 c2, zb_u3 e69 c1]; exact t2 c c1 c2⟩⟩⟩
    by_cases w : x = v
    · rw [w, zb_u1 e77, zb_u3 e77 (by omega), zb_u1 e69]; exact ⟨rfl, rfl⟩
    · rw [zb_u2 e77 (by omega), zb_u2 e69 (by omega), zb_u2 e77 (by omega), zb_u3 e69 (by omega)]; exact t1 x x0 (by omega)
