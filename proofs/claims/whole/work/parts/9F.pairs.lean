/-! ===== the class: numbers of pairs, exchanges, counts of bits ===== -/
theorem zb_bit {b : Nat} {i : Int} (hb : b < 4096) (i0 : 0 ≤ i) (i1 : i < 12) : zb_and (zb_shr (b : Int) i) 1 = if b.testBit i.toNat then 1 else 0 := by
  have h := ((zb_bits hb).1 i.toNat (by omega)).2
  rw [show ((i.toNat : Nat) : Int) = i by omega] at h
  exact h
theorem zb_mm1 {m : Int} (h0 : 0 ≤ m) (h1 : m ≤ 4) : 0 ≤ m * (m - 1) ∧ m * (m - 1) ≤ 12 := by
  have : m = 0 ∨ m = 1 ∨ m = 2 ∨ m = 3 ∨ m = 4 := by omega
  rcases this with q | q | q | q | q <;> subst q <;> decide
theorem s_X2_bitOf {d : Nat} {m : zb_M} {i j : Int} (i0 : 0 ≤ i) (i1 : i < 5) (j0 : 0 ≤ j) (j1 : j < 5) : zb_Tp K_X2_bitOf (d + 1) [(0, i), (0, j)] zb_E0 m (fun r => r = zb_bo i j) := by
  apply w_X2_bitOf
  unfold PM_X2_bitOf zb_bo
  have hM : 0 ≤ (if i < j then j else i) ∧ (if i < j then j else i) ≤ 4 := by split <;> omega
  have hm : 0 ≤ (if j < i then j else i) ∧ (if j < i then j else i) ≤ 4 := by split <;> omega
  generalize (if i < j then j else i) = M at hM
  generalize (if j < i then j else i) = k at hm
  have h2 := zb_mm1 hM.1 hM.2
  generalize M * (M - 1) = w at h2
  exact ⟨zb_inI_of (by omega) (by omega), zb_inI_of (by omega) (by omega), ⟨h2.1, by omega⟩, zb_inI_of (by omega) (by omega), rfl⟩
theorem s_X2_neighbourOf {d : Nat} {m : zb_M} {i x : Int} (x0 : 0 ≤ x) (x1 : x < 5) : zb_Tp K_X2_neighbourOf (d + 1) [(0, i), (0, x)] zb_E0 m (fun r => r = zb_nbr x i) := by
  apply w_X2_neighbourOf
  unfold PM_X2_neighbourOf zb_nbr zb_swp
  refine ⟨fun c => ⟨zb_inI_of (by omega) (by omega), by rw [if_pos c]⟩, fun c => ⟨zb_inI_of (by omega) (by omega), fun c2 => by rw [if_neg c, if_pos c2], fun c2 => by rw [if_neg c, if_neg c2]⟩⟩
/-- bit k comes of a pair that is done -/
def zb_xp (b : Nat) (x v w : Int) (k : Nat) : Prop := ∃ i j : Int, (0 ≤ j ∧ j < i) ∧ (i < v ∨ (i = v ∧ j < w)) ∧ b.testBit (zb_bo i j).toNat = true ∧ k = (zb_bo (zb_nbr x i) (zb_nbr x j)).toNat
theorem s_X2_exchanged {d : Nat} {m : zb_M} {n x : Int} {b : Nat} (n1 : n ≤ 5) (x0 : 0 ≤ x) (x1 : x + 1 < n) (hb : b < 2 ^ zb_prN n.toNat) : zb_Tp K_X2_exchanged (d + 2) [(0, n), (0, (b : Int)), (0, x)] zb_E0 m (fun r => r = (zb_xN x.toNat b : Int)) := by
  apply w_X2_exchanged
  have h10 := zb_pr_10 (n := n) (by omega) n1
  have hb4 : b < 4096 := by omega
  unfold PM_X2_exchanged PL_X2_exchanged_5
  intro X hX
  refine zb_lq (fun c v => 1 ≤ v ∧ ∃ r : Nat, c = (r : Int) ∧ r < 4096 ∧ ∀ k, r.testBit k = true ↔ zb_xp b x v 0 k) n (fun c v ⟨v0, r, ec, r4, hr⟩ vn nxt => hX c v ⟨fun q => ?_, fun q => ?_⟩) 0 1 (by omega) ⟨by omega, 0, rfl, by omega, fun k => ⟨fun z => by simp at z, fun ⟨i, j, h1, h2, _⟩ => by omega⟩⟩
  · have hv : v = n := by omega
    subst hv
    rw [ec]
    congr 1
    have hx := (zb_xN_ok (b := b) (x := x.toNat) (by omega) (by omega)).2.2.2 v.toNat (by omega) (by omega) hb
    refine Nat.eq_of_testBit_eq (fun k => Bool.eq_iff_iff.2 ((hr k).trans ⟨fun ⟨i, j, h1, h2, h3, h4⟩ => ?_, fun z => ?_⟩))
    · rw [h4, zb_xN_bit n1 x0 x1 hb (by omega) (by omega) h1.1 (by omega) (by omega)]
      exact h3
    · have hk : k < zb_prN v.toNat := by
        by_cases c : k < zb_prN v.toNat
        · exact c
        · rw [Nat.testBit_lt_two_pow (Nat.lt_of_lt_of_le hx (Nat.pow_le_pow_right (by omega) (by omega)))] at z
          exact absurd z (by simp)
      obtain ⟨i, j, ⟨a1, a2, a3⟩, e⟩ := zb_bo_sur (by omega) n1 hk
      have r1 := zb_nbr_rng x0 x1 (show 0 ≤ i by omega) a3
      have r2 := zb_nbr_rng x0 x1 a1 (show j < v by omega)
      have ne := zb_nbr_ne (x := x) (show i ≠ j by omega)
      have bt := zb_xN_bit n1 x0 x1 hb r1.1 r1.2 r2.1 r2.2 ne
      rw [zb_nbr_2, zb_nbr_2, e, show ((k : Int)).toNat = k by omega, z] at bt
      rcases Int.lt_trichotomy (zb_nbr x j) (zb_nbr x i) with c | c | c
      · exact ⟨zb_nbr x i, zb_nbr x j, ⟨r2.1, c⟩, Or.inl r1.2, bt.symm, by rw [zb_nbr_2, zb_nbr_2, e]; omega⟩
      · exact absurd c.symm ne
      · exact ⟨zb_nbr x j, zb_nbr x i, ⟨r1.1, c⟩, Or.inl r2.2, by rw [zb_bo_sy]; exact bt.symm, by rw [zb_nbr_2, zb_nbr_2, zb_bo_sy, e]; omega⟩
  · have vn' : v < n := by omega
    unfold PL_X2_exchanged_14
    intro Y hY
    refine zb_lq (fun c w => 0 ≤ w ∧ ∃ r : Nat, c = (r : Int) ∧ r < 4096 ∧ ∀ k, r.testBit k = true ↔ zb_xp b x v w k) v (fun c w ⟨w0, r, ec, r4, hr⟩ wn nx2 => hY c w ⟨fun q2 => ?_, fun q2 => ?_⟩) c 0 (by omega) ⟨by omega, r, ec, r4, hr⟩
    · have hw : w = v := by omega
      subst hw
      unfold PJ_X2_exchanged_64
      refine ⟨zb_inI_of (by omega) (by omega), nxt vn' c ⟨by omega, r, ec, r4, fun k => (hr k).trans ⟨fun ⟨i, j, h1, h2, h3, h4⟩ => ⟨i, j, h1, by omega, h3, h4⟩, fun ⟨i, j, h1, h2, h3, h4⟩ => ⟨i, j, h1, by omega, h3, h4⟩⟩⟩⟩
    · have bo := zb_bo_rng n1 (show 0 ≤ v by omega) vn' w0 (show w < n by omega) (by omega)
      refine (s_X2_bitOf (by omega) (by omega) w0 (by omega)).mono (fun r26 e26 => ?_)
      rw [e26, zb_bit hb4 bo.1 (by omega)]
      by_cases t : b.testBit (zb_bo v w).toNat = true
      · rw [if_pos t]
        refine ⟨fun z => by omega, fun _ => (s_X2_neighbourOf x0 (by omega)).mono (fun r43 e43 => (s_X2_neighbourOf x0 (by omega)).mono (fun r49 e49 => ?_))⟩
        rw [e43, e49]
        have r1 := zb_nbr_rng x0 x1 (show 0 ≤ v by omega) vn'
        have r2 := zb_nbr_rng x0 x1 w0 (show w < n by omega)
        have bo2 := zb_bo_rng n1 r1.1 r1.2 r2.1 r2.2 (zb_nbr_ne (show v ≠ w by omega))
        refine (s_X2_bitOf r1.1 (by omega) r2.1 (by omega)).mono (fun r52 e52 => ⟨zb_inI_of (by omega) (by omega), nx2 (by omega) _ ⟨by omega, ?_⟩⟩)
        obtain ⟨r', e', l', -, h'⟩ := zb_has_set (r := r) (i := zb_bo (zb_nbr x v) (zb_nbr x w)) r4 bo2.1 (by omega)
        rw [ec, e52]
        refine ⟨r', e', l', fun k => ?_⟩
        have hh := h' (k : Int) (by omega)
        unfold zb_has at hh
        rw [show ((k : Int)).toNat = k by omega] at hh
        refine hh.trans ⟨fun z => ?_, fun ⟨i, j, h1, h2, h3, h4⟩ => ?_⟩
        · rcases z with z | z
          · obtain ⟨i, j, h1, h2, h3, h4⟩ := (hr k).1 z
            exact ⟨i, j, h1, by omega, h3, h4⟩
          · exact ⟨v, w, ⟨w0, by omega⟩, by omega, t, by omega⟩
        · by_cases c : i = v ∧ j = w
          · rw [c.1, c.2] at h4
            exact Or.inr (by omega)
          · exact Or.inl ((hr k).2 ⟨i, j, h1, by omega, h3, h4⟩)
      · rw [if_neg t]
        refine ⟨fun _ => ⟨zb_inI_of (by omega) (by omega), nx2 (by omega) _ ⟨by omega, r, ec, r4, fun k => (hr k).trans ⟨fun ⟨i, j, h1, h2, h3, h4⟩ => ⟨i, j, h1, by omega, h3, h4⟩, fun ⟨i, j, h1, h2, h3, h4⟩ => ⟨i, j, h1, ?_, h3, h4⟩⟩⟩⟩, fun z => absurd rfl z⟩
        by_cases c : i = v ∧ j = w
        · rw [c.1, c.2] at h3; exact absurd h3 t
        · omega
def zb_bcd (d : Nat) (E : zb_E) (x k : Int) (m : zb_M) : Decidable (PM_J6_bitCount_0f7a4 d E x m (fun r => r = k)) := by
  delta PM_J6_bitCount_0f7a4 zb_inI
  infer_instance
def zb_bcc : Bool := (List.range 1024).all fun b => @decide _ (zb_bcd 0 zb_E0 (b : Int) (zb_pc b : Int) (fun _ _ => 0))
set_option maxRecDepth 1000000 in
theorem zb_bcc_ok : zb_bcc = true := by decide +kernel
theorem s_J6_bitCount {d : Nat} {m : zb_M} {b : Nat} (hb : b < 1024) : zb_Tp K_J6_bitCount_0f7a4 (d + 1) [(0, (b : Int))] zb_E0 m (fun r => r = (zb_pc b : Int)) := by
  apply w_J6_bitCount_0f7a4
  have h := @of_decide_eq_true _ (zb_bcd 0 zb_E0 (b : Int) (zb_pc b : Int) (fun _ _ => 0)) (List.all_eq_true.mp zb_bcc_ok b (List.mem_range.mpr hb))
  exact h
theorem zb_shl_pr {n : Int} (h0 : 1 ≤ n) (h1 : n ≤ 5) : zb_shl 1 ((n * (n - 1)) / 2) = ((2 ^ zb_prN n.toNat : Nat) : Int) := by
  have : n = 1 ∨ n = 2 ∨ n = 3 ∨ n = 4 ∨ n = 5 := by omega
  rcases this with q | q | q | q | q <;> subst q <;> decide +kernel
theorem zb_nn1 {n : Int} (h0 : 1 ≤ n) (h1 : n ≤ 5) : 0 ≤ n * (n - 1) ∧ n * (n - 1) ≤ 20 := by
  have : n = 1 ∨ n = 2 ∨ n = 3 ∨ n = 4 ∨ n = 5 := by omega
  rcases this with q | q | q | q | q <;> subst q <;> decide
