/-! ===== SameBenchModel: instructions and walks (laid by gen/layout.py) ===== -/
theorem dX12_shownOf_0 : decode cX12_shownOf 0 = .ok (.iconst 0, 1) := by decide +kernel
theorem dX12_shownOf_1 : decode cX12_shownOf 1 = .ok (.istore_n 2, 1) := by decide +kernel
theorem dX12_shownOf_2 : decode cX12_shownOf 2 = .ok (.bipush 12, 2) := by decide +kernel
theorem dX12_shownOf_4 : decode cX12_shownOf 4 = .ok (.iload_n 1, 1) := by decide +kernel
theorem dX12_shownOf_5 : decode cX12_shownOf 5 = .ok (.imul, 1) := by decide +kernel
theorem dX12_shownOf_6 : decode cX12_shownOf 6 = .ok (.istore_n 3, 1) := by decide +kernel
theorem dX12_shownOf_7 : decode cX12_shownOf 7 = .ok (.iload_n 3, 1) := by decide +kernel
theorem dX12_shownOf_8 : decode cX12_shownOf 8 = .ok (.bipush 12, 2) := by decide +kernel
theorem dX12_shownOf_10 : decode cX12_shownOf 10 = .ok (.iload_n 1, 1) := by decide +kernel
theorem dX12_shownOf_11 : decode cX12_shownOf 11 = .ok (.imul, 1) := by decide +kernel
theorem dX12_shownOf_12 : decode cX12_shownOf 12 = .ok (.aload_n 0, 1) := by decide +kernel
theorem dX12_shownOf_13 : decode cX12_shownOf 13 = .ok (.getfield 7, 3) := by decide +kernel
theorem dX12_shownOf_16 : decode cX12_shownOf 16 = .ok (.iload_n 1, 1) := by decide +kernel
theorem dX12_shownOf_17 : decode cX12_shownOf 17 = .ok (.iaload, 1) := by decide +kernel
theorem dX12_shownOf_18 : decode cX12_shownOf 18 = .ok (.iadd, 1) := by decide +kernel
theorem dX12_shownOf_19 : decode cX12_shownOf 19 = .ok (.if_icmp .ge 27, 3) := by decide +kernel
theorem dX12_shownOf_22 : decode cX12_shownOf 22 = .ok (.iload_n 2, 1) := by decide +kernel
theorem dX12_shownOf_23 : decode cX12_shownOf 23 = .ok (.aload_n 0, 1) := by decide +kernel
theorem dX12_shownOf_24 : decode cX12_shownOf 24 = .ok (.getfield 13, 3) := by decide +kernel
theorem dX12_shownOf_27 : decode cX12_shownOf 27 = .ok (.iload_n 3, 1) := by decide +kernel
theorem dX12_shownOf_28 : decode cX12_shownOf 28 = .ok (.iaload, 1) := by decide +kernel
theorem dX12_shownOf_29 : decode cX12_shownOf 29 = .ok (.iconst 4, 1) := by decide +kernel
theorem dX12_shownOf_30 : decode cX12_shownOf 30 = .ok (.if_icmp .ne 7, 3) := by decide +kernel
theorem dX12_shownOf_33 : decode cX12_shownOf 33 = .ok (.iconst 0, 1) := by decide +kernel
theorem dX12_shownOf_34 : decode cX12_shownOf 34 = .ok (.goto 4, 3) := by decide +kernel
theorem dX12_shownOf_37 : decode cX12_shownOf 37 = .ok (.iconst 1, 1) := by decide +kernel
theorem dX12_shownOf_38 : decode cX12_shownOf 38 = .ok (.iadd, 1) := by decide +kernel
theorem dX12_shownOf_39 : decode cX12_shownOf 39 = .ok (.istore_n 2, 1) := by decide +kernel
theorem dX12_shownOf_40 : decode cX12_shownOf 40 = .ok (.iinc 3 1, 3) := by decide +kernel
theorem dX12_shownOf_43 : decode cX12_shownOf 43 = .ok (.goto (-36), 3) := by decide +kernel
theorem dX12_shownOf_46 : decode cX12_shownOf 46 = .ok (.iload_n 2, 1) := by decide +kernel
theorem dX12_shownOf_47 : decode cX12_shownOf 47 = .ok (.ireturn, 1) := by decide +kernel
def PL_X12_shownOf_7 (d : Nat) (E : zb_E) (x0 : Int) (x1 : Int) (m : zb_M) (Q : Int → Prop)  (v2_7 : Int) (v3_7 : Int) : Prop :=
  ∀ X7 : Int → Int → Prop, (∀ (v2_7 : Int) (v3_7 : Int), ((0 ≤ x1 ∧ x1 < 8) ∧ ((zb_inI ((12 * x1) + (m (E.2 x0 0) x1))) ∧ ((((12 * x1) + (m (E.2 x0 0) x1)) ≤ v3_7 → Q v2_7) ∧ (¬ ((12 * x1) + (m (E.2 x0 0) x1)) ≤ v3_7 → (0 ≤ v3_7 ∧ v3_7 < 96) ∧ (((m (E.2 x0 1) v3_7) = 4 → (zb_inI (v2_7 + 0)) ∧ ((zb_inI (v3_7 + 1)) ∧ (X7 (v2_7 + 0) (v3_7 + 1)))) ∧ (¬ (m (E.2 x0 1) v3_7) = 4 → (zb_inI (v2_7 + 1)) ∧ ((zb_inI (v3_7 + 1)) ∧ (X7 (v2_7 + 1) (v3_7 + 1))))))))) → X7 v2_7 v3_7) → X7 v2_7 v3_7
def PM_X12_shownOf (d : Nat) (E : zb_E) (x0 : Int) (x1 : Int) (m : zb_M) (Q : Int → Prop) : Prop :=
  (zb_inI (12 * x1)) ∧ (PL_X12_shownOf_7 d E x0 x1 m Q 0 (12 * x1))
set_option maxRecDepth 100000 in
set_option maxHeartbeats 4000000 in
theorem w_X12_shownOf {d : Nat} {E : zb_E} {x0 x1 : Int} {m : zb_M} {Q : Int → Prop} (h : PM_X12_shownOf d E x0 x1 m Q) : zb_Tp K_X12_shownOf (d + 1) [(2, x0), (0, x1)] E m Q := by
  unfold PM_X12_shownOf at h
  refine zb_T_in gd_X12_shownOf rfl rfl (fun hW hA G C hF => ?_)
  have i_0 : zb_is E.1 x0 12 := zb_aH hA (by decide)
  show zb_WP _ _ 0 [(0, (2, x0)), (1, (0, x1))] [] _ _ _ _
  refine zb_iconst dX12_shownOf_0 (zb_inIc rfl) ?_
  refine zb_istore_n (L' := [(2, (0, 0)), (0, (2, x0)), (1, (0, x1))]) dX12_shownOf_1 rfl (by decide) rfl ?_
  refine zb_bipush dX12_shownOf_2 (by decide) (zb_inIc rfl) ?_
  refine zb_iload_n (j := 2) dX12_shownOf_4 rfl rfl ?_
  obtain ⟨o1, h⟩ := h
  refine zb_imul dX12_shownOf_5 o1 ?_
  refine zb_istore_n (L' := [(3, (0, (12 * x1))), (2, (0, 0)), (0, (2, x0)), (1, (0, x1))]) dX12_shownOf_6 rfl (by decide) rfl ?_
  refine zb_sub (L' := [(0, (2, x0)), (1, (0, x1)), (2, (0, 0)), (3, (0, (12 * x1)))]) [2, 3, 1, 0] rfl ?_
  unfold PL_X12_shownOf_7 at h
  obtain ⟨X7, hX7⟩ : ∃ X : Int → Int → Prop, ∀ (v2_7 : Int) (v3_7 : Int), (X v2_7 v3_7 ↔ (zb_FIN E m → zb_WP (G, C, d + 1, 0, 0, zb_q E (fun r m' => m' = m ∧ Q r)) F_X12_shownOf 7 [(0, (2, x0)), (1, (0, x1)), (2, (0, v2_7)), (3, (0, v3_7))] [] E.1 m 0 0)) := ⟨fun v2_7 v3_7 => zb_FIN E m → zb_WP (G, C, d + 1, 0, 0, zb_q E (fun r m' => m' = m ∧ Q r)) F_X12_shownOf 7 [(0, (2, x0)), (1, (0, x1)), (2, (0, v2_7)), (3, (0, v3_7))] [] E.1 m 0 0, fun _ _ => Iff.rfl⟩
  refine (hX7 _ _).mp (h X7 (fun v2_7 v3_7 h => (hX7 _ _).mpr (fun hF => ?_))) hF
  refine zb_iload_n (j := 3) dX12_shownOf_7 rfl rfl ?_
  refine zb_bipush dX12_shownOf_8 (by decide) (zb_inIc rfl) ?_
  refine zb_iload_n (j := 1) dX12_shownOf_10 rfl rfl ?_
  refine zb_imul dX12_shownOf_11 o1 ?_
  refine zb_aload_n (j := 0) dX12_shownOf_12 rfl rfl ?_
  refine zb_gFa 0 dX12_shownOf_13 fl_X12_7 i_0 hW hF rfl rfl rfl (by decide) rfl 8 rfl (fun i2 l3 => ?_)
  refine zb_iload_n (j := 1) dX12_shownOf_16 rfl rfl ?_
  obtain ⟨o4, h⟩ := h
  refine zb_lI dX12_shownOf_17 i2 l3 o4.1 o4.2 ?_
  obtain ⟨o5, h⟩ := h
  refine zb_iadd dX12_shownOf_18 o5 ?_
  refine zb_icmp_ge (tgt := 46) dX12_shownOf_19 (by decide) (fun c6 => ?_) (fun c6 => ?_)
  · have h := h.1 c6
    refine zb_iload_n (j := 2) dX12_shownOf_46 rfl rfl ?_
    exact zb_rI dX12_shownOf_47 rfl hF ⟨rfl, h⟩
  · have h := h.2 c6
    refine zb_iload_n (j := 2) dX12_shownOf_22 rfl rfl ?_
    refine zb_aload_n (j := 0) dX12_shownOf_23 rfl rfl ?_
    refine zb_gFa 1 dX12_shownOf_24 fl_X12_13 i_0 hW hF rfl rfl rfl (by decide) rfl 96 rfl (fun i7 l8 => ?_)
    refine zb_iload_n (j := 3) dX12_shownOf_27 rfl rfl ?_
    obtain ⟨o9, h⟩ := h
    refine zb_lI dX12_shownOf_28 i7 l8 o9.1 o9.2 ?_
    refine zb_iconst dX12_shownOf_29 (zb_inIc rfl) ?_
    refine zb_icmp_ne (tgt := 37) dX12_shownOf_30 (by decide) (fun c10 => ?_) (fun c10 => ?_)
    · have h := h.2 c10
      refine zb_iconst dX12_shownOf_37 (zb_inIc rfl) ?_
      obtain ⟨o11, h⟩ := h
      refine zb_iadd dX12_shownOf_38 o11 ?_
      refine zb_istore_n (L' := [(2, (0, (v2_7 + 1))), (0, (2, x0)), (1, (0, x1)), (3, (0, v3_7))]) dX12_shownOf_39 rfl (by decide) rfl ?_
      obtain ⟨o12, h⟩ := h
      refine zb_iinc (j := 3) (L' := [(3, (0, (v3_7 + 1))), (2, (0, (v2_7 + 1))), (0, (2, x0)), (1, (0, x1))]) dX12_shownOf_40 rfl o12 (by decide) rfl ?_
      refine zb_goto (tgt := 7) dX12_shownOf_43 (by decide) ?_
      refine zb_sub (L' := [(0, (2, x0)), (1, (0, x1)), (2, (0, (v2_7 + 1))), (3, (0, (v3_7 + 1)))]) [2, 3, 1, 0] rfl ?_
      exact (hX7 _ _).mp h hF
    · have h := h.1 c10
      refine zb_iconst dX12_shownOf_33 (zb_inIc rfl) ?_
      refine zb_goto (tgt := 38) dX12_shownOf_34 (by decide) ?_
      obtain ⟨o13, h⟩ := h
      refine zb_iadd dX12_shownOf_38 o13 ?_
      refine zb_istore_n (L' := [(2, (0, (v2_7 + 0))), (0, (2, x0)), (1, (0, x1)), (3, (0, v3_7))]) dX12_shownOf_39 rfl (by decide) rfl ?_
      obtain ⟨o14, h⟩ := h
      refine zb_iinc (j := 3) (L' := [(3, (0, (v3_7 + 1))), (2, (0, (v2_7 + 0))), (0, (2, x0)), (1, (0, x1))]) dX12_shownOf_40 rfl o14 (by decide) rfl ?_
      refine zb_goto (tgt := 7) dX12_shownOf_43 (by decide) ?_
      refine zb_sub (L' := [(0, (2, x0)), (1, (0, x1)), (2, (0, (v2_7 + 0))), (3, (0, (v3_7 + 1)))]) [2, 3, 1, 0] rfl ?_
      exact (hX7 _ _).mp h hF
theorem dX12_count_0 : decode cX12_count 0 = .ok (.aload_n 0, 1) := by decide +kernel
theorem dX12_count_1 : decode cX12_count 1 = .ok (.iload_n 1, 1) := by decide +kernel
theorem dX12_count_2 : decode cX12_count 2 = .ok (.invokevirtual 137, 3) := by decide +kernel
theorem dX12_count_5 : decode cX12_count 5 = .ok (.ifCond .eq 12, 3) := by decide +kernel
theorem dX12_count_8 : decode cX12_count 8 = .ok (.iload_n 2, 1) := by decide +kernel
theorem dX12_count_9 : decode cX12_count 9 = .ok (.iconst 0, 1) := by decide +kernel
theorem dX12_count_10 : decode cX12_count 10 = .ok (.iconst 3, 1) := by decide +kernel
theorem dX12_count_11 : decode cX12_count 11 = .ok (.invokestatic 133, 3) := by decide +kernel
theorem dX12_count_14 : decode cX12_count 14 = .ok (.ifCond .ne 5, 3) := by decide +kernel
theorem dX12_count_17 : decode cX12_count 17 = .ok (.iconst (-1), 1) := by decide +kernel
theorem dX12_count_18 : decode cX12_count 18 = .ok (.ireturn, 1) := by decide +kernel
theorem dX12_count_19 : decode cX12_count 19 = .ok (.iload_n 2, 1) := by decide +kernel
theorem dX12_count_20 : decode cX12_count 20 = .ok (.ifCond .ne 12, 3) := by decide +kernel
theorem dX12_count_23 : decode cX12_count 23 = .ok (.aload_n 0, 1) := by decide +kernel
theorem dX12_count_24 : decode cX12_count 24 = .ok (.getfield 7, 3) := by decide +kernel
theorem dX12_count_27 : decode cX12_count 27 = .ok (.iload_n 1, 1) := by decide +kernel
theorem dX12_count_28 : decode cX12_count 28 = .ok (.iaload, 1) := by decide +kernel
theorem dX12_count_29 : decode cX12_count 29 = .ok (.goto 41, 3) := by decide +kernel
theorem dX12_count_32 : decode cX12_count 32 = .ok (.iload_n 2, 1) := by decide +kernel
theorem dX12_count_33 : decode cX12_count 33 = .ok (.iconst 1, 1) := by decide +kernel
theorem dX12_count_34 : decode cX12_count 34 = .ok (.if_icmp .ne 11, 3) := by decide +kernel
theorem dX12_count_37 : decode cX12_count 37 = .ok (.aload_n 0, 1) := by decide +kernel
theorem dX12_count_38 : decode cX12_count 38 = .ok (.iload_n 1, 1) := by decide +kernel
theorem dX12_count_39 : decode cX12_count 39 = .ok (.invokevirtual 168, 3) := by decide +kernel
theorem dX12_count_42 : decode cX12_count 42 = .ok (.goto 28, 3) := by decide +kernel
theorem dX12_count_45 : decode cX12_count 45 = .ok (.iload_n 2, 1) := by decide +kernel
theorem dX12_count_46 : decode cX12_count 46 = .ok (.iconst 2, 1) := by decide +kernel
theorem dX12_count_47 : decode cX12_count 47 = .ok (.if_icmp .ne 19, 3) := by decide +kernel
theorem dX12_count_50 : decode cX12_count 50 = .ok (.aload_n 0, 1) := by decide +kernel
theorem dX12_count_51 : decode cX12_count 51 = .ok (.iload_n 1, 1) := by decide +kernel
theorem dX12_count_52 : decode cX12_count 52 = .ok (.invokevirtual 172, 3) := by decide +kernel
theorem dX12_count_55 : decode cX12_count 55 = .ok (.ifCond .eq 7, 3) := by decide +kernel
theorem dX12_count_58 : decode cX12_count 58 = .ok (.iconst 1, 1) := by decide +kernel
theorem dX12_count_59 : decode cX12_count 59 = .ok (.goto 11, 3) := by decide +kernel
theorem dX12_count_62 : decode cX12_count 62 = .ok (.iconst 0, 1) := by decide +kernel
theorem dX12_count_63 : decode cX12_count 63 = .ok (.goto 7, 3) := by decide +kernel
theorem dX12_count_66 : decode cX12_count 66 = .ok (.aload_n 0, 1) := by decide +kernel
theorem dX12_count_67 : decode cX12_count 67 = .ok (.getfield 141, 3) := by decide +kernel
theorem dX12_count_70 : decode cX12_count 70 = .ok (.ireturn, 1) := by decide +kernel
def PM_X12_count (d : Nat) (E : zb_E) (x0 : Int) (x1 : Int) (x2 : Int) (m : zb_M) (Q : Int → Prop) : Prop :=
  zb_Tp K_X12_isGraph d [(2, x0), (0, x1)] E m (fun r2 => (r2 = 0 → Q (-1)) ∧ (¬ r2 = 0 → zb_Tp K_X12_in d [(0, x2), (0, 0), (0, 3)] E m (fun r11 => (r11 = 0 → Q (-1)) ∧ (¬ r11 = 0 → (x2 = 0 → (0 ≤ x1 ∧ x1 < 8) ∧ (Q (m (E.2 x0 0) x1))) ∧ (¬ x2 = 0 → (x2 = 1 → zb_Tp K_X12_shownOf d [(2, x0), (0, x1)] E m (fun r39 => Q r39)) ∧ (¬ x2 = 1 → (x2 = 2 → zb_Tp K_X12_isRight d [(2, x0), (0, x1)] E m (fun r52 => (r52 = 0 → Q 0) ∧ (¬ r52 = 0 → Q 1))) ∧ (¬ x2 = 2 → Q (m x0 13))))))))
set_option maxRecDepth 100000 in
set_option maxHeartbeats 4000000 in
theorem w_X12_count {d : Nat} {E : zb_E} {x0 x1 x2 : Int} {m : zb_M} {Q : Int → Prop} (h : PM_X12_count d E x0 x1 x2 m Q) : zb_Tp K_X12_count (d + 1) [(2, x0), (0, x1), (0, x2)] E m Q := by
  unfold PM_X12_count at h
  refine zb_T_in gd_X12_count rfl rfl (fun hW hA G C hF => ?_)
  have i_0 : zb_is E.1 x0 12 := zb_aH hA (by decide)
  show zb_WP _ _ 0 [(0, (2, x0)), (1, (0, x1)), (2, (0, x2))] [] _ _ _ _
  refine zb_aload_n (j := 0) dX12_count_0 rfl rfl ?_
  refine zb_iload_n (j := 1) dX12_count_1 rfl rfl ?_
  refine zb_cVp (As := [(0, x1)]) (As' := [(0, x1)]) (st := []) dX12_count_2 lk_X12_137 gd_X12_isGraph rfl rfl i_0 ⟨_, rfl, rfl⟩ h hW hF (zb_aR i_0 (zb_aI zb_a0)) (Nat.le_refl _) (Nat.le_of_ble_eq_true rfl) (fun r2 h => ?_)
  show zb_WP _ _ _ _ [(0, r2)] _ _ _ _
  refine zb_if_eq (tgt := 17) dX12_count_5 (by decide) (fun c1 => ?_) (fun c1 => ?_)
  · have h := h.1 c1
    refine zb_iconst dX12_count_17 (zb_inIc rfl) ?_
    exact zb_rI dX12_count_18 rfl hF ⟨rfl, h⟩
  · have h := h.2 c1
    refine zb_iload_n (j := 2) dX12_count_8 rfl rfl ?_
    refine zb_iconst dX12_count_9 (zb_inIc rfl) ?_
    refine zb_iconst dX12_count_10 (zb_inIc rfl) ?_
    refine zb_cSp (As := [(0, x2), (0, 0), (0, 3)]) (As' := [(0, 3), (0, 0), (0, x2)]) (st := []) dX12_count_11 lk_X12_133 gd_X12_in rfl rfl h hW hF (zb_aI (zb_aI (zb_aI zb_a0))) (Nat.le_refl _) (Nat.le_of_ble_eq_true rfl) (fun r11 h => ?_)
    show zb_WP _ _ _ _ [(0, r11)] _ _ _ _
    refine zb_if_ne (tgt := 19) dX12_count_14 (by decide) (fun c2 => ?_) (fun c2 => ?_)
    · have h := h.2 c2
      refine zb_iload_n (j := 2) dX12_count_19 rfl rfl ?_
      refine zb_if_ne (tgt := 32) dX12_count_20 (by decide) (fun c3 => ?_) (fun c3 => ?_)
      · have h := h.2 c3
        refine zb_iload_n (j := 2) dX12_count_32 rfl rfl ?_
        refine zb_iconst dX12_count_33 (zb_inIc rfl) ?_
        refine zb_icmp_ne (tgt := 45) dX12_count_34 (by decide) (fun c4 => ?_) (fun c4 => ?_)
        · have h := h.2 c4
          refine zb_iload_n (j := 2) dX12_count_45 rfl rfl ?_
          refine zb_iconst dX12_count_46 (zb_inIc rfl) ?_
          refine zb_icmp_ne (tgt := 66) dX12_count_47 (by decide) (fun c5 => ?_) (fun c5 => ?_)
          · have h := h.2 c5
            refine zb_aload_n (j := 0) dX12_count_66 rfl rfl ?_
            refine zb_gI 13 dX12_count_67 fl_X12_141 i_0 rfl rfl ?_
            exact zb_rI dX12_count_70 rfl hF ⟨rfl, h⟩
          · have h := h.1 c5
            refine zb_aload_n (j := 0) dX12_count_50 rfl rfl ?_
            refine zb_iload_n (j := 1) dX12_count_51 rfl rfl ?_
            refine zb_cVp (As := [(0, x1)]) (As' := [(0, x1)]) (st := []) dX12_count_52 lk_X12_172 gd_X12_isRight rfl rfl i_0 ⟨_, rfl, rfl⟩ h hW hF (zb_aR i_0 (zb_aI zb_a0)) (Nat.le_refl _) (Nat.le_of_ble_eq_true rfl) (fun r52 h => ?_)
            show zb_WP _ _ _ _ [(0, r52)] _ _ _ _
            refine zb_if_eq (tgt := 62) dX12_count_55 (by decide) (fun c6 => ?_) (fun c6 => ?_)
            · have h := h.1 c6
              refine zb_iconst dX12_count_62 (zb_inIc rfl) ?_
              refine zb_goto (tgt := 70) dX12_count_63 (by decide) ?_
              exact zb_rI dX12_count_70 rfl hF ⟨rfl, h⟩
            · have h := h.2 c6
              refine zb_iconst dX12_count_58 (zb_inIc rfl) ?_
              refine zb_goto (tgt := 70) dX12_count_59 (by decide) ?_
              exact zb_rI dX12_count_70 rfl hF ⟨rfl, h⟩
        · have h := h.1 c4
          refine zb_aload_n (j := 0) dX12_count_37 rfl rfl ?_
          refine zb_iload_n (j := 1) dX12_count_38 rfl rfl ?_
          refine zb_cVp (As := [(0, x1)]) (As' := [(0, x1)]) (st := []) dX12_count_39 lk_X12_168 gd_X12_shownOf rfl rfl i_0 ⟨_, rfl, rfl⟩ h hW hF (zb_aR i_0 (zb_aI zb_a0)) (Nat.le_refl _) (Nat.le_of_ble_eq_true rfl) (fun r39 h => ?_)
          show zb_WP _ _ _ _ [(0, r39)] _ _ _ _
          refine zb_goto (tgt := 70) dX12_count_42 (by decide) ?_
          exact zb_rI dX12_count_70 rfl hF ⟨rfl, h⟩
      · have h := h.1 c3
        refine zb_aload_n (j := 0) dX12_count_23 rfl rfl ?_
        refine zb_gFa 0 dX12_count_24 fl_X12_7 i_0 hW hF rfl rfl rfl (by decide) rfl 8 rfl (fun i7 l8 => ?_)
        refine zb_iload_n (j := 1) dX12_count_27 rfl rfl ?_
        obtain ⟨o9, h⟩ := h
        refine zb_lI dX12_count_28 i7 l8 o9.1 o9.2 ?_
        refine zb_goto (tgt := 70) dX12_count_29 (by decide) ?_
        exact zb_rI dX12_count_70 rfl hF ⟨rfl, h⟩
    · have h := h.1 c2
      refine zb_iconst dX12_count_17 (zb_inIc rfl) ?_
      exact zb_rI dX12_count_18 rfl hF ⟨rfl, h⟩
theorem dX12_layOut_0 : decode cX12_layOut 0 = .ok (.aload_n 0, 1) := by decide +kernel
theorem dX12_layOut_1 : decode cX12_layOut 1 = .ok (.iconst 0, 1) := by decide +kernel
theorem dX12_layOut_2 : decode cX12_layOut 2 = .ok (.putfield 175, 3) := by decide +kernel
theorem dX12_layOut_5 : decode cX12_layOut 5 = .ok (.iconst 0, 1) := by decide +kernel
theorem dX12_layOut_6 : decode cX12_layOut 6 = .ok (.istore_n 2, 1) := by decide +kernel
theorem dX12_layOut_7 : decode cX12_layOut 7 = .ok (.iload_n 2, 1) := by decide +kernel
theorem dX12_layOut_8 : decode cX12_layOut 8 = .ok (.aload_n 0, 1) := by decide +kernel
theorem dX12_layOut_9 : decode cX12_layOut 9 = .ok (.getfield 7, 3) := by decide +kernel
theorem dX12_layOut_12 : decode cX12_layOut 12 = .ok (.iload_n 1, 1) := by decide +kernel
theorem dX12_layOut_13 : decode cX12_layOut 13 = .ok (.iaload, 1) := by decide +kernel
theorem dX12_layOut_14 : decode cX12_layOut 14 = .ok (.if_icmp .ge 59, 3) := by decide +kernel
theorem dX12_layOut_17 : decode cX12_layOut 17 = .ok (.aload_n 0, 1) := by decide +kernel
theorem dX12_layOut_18 : decode cX12_layOut 18 = .ok (.getfield 13, 3) := by decide +kernel
theorem dX12_layOut_21 : decode cX12_layOut 21 = .ok (.bipush 12, 2) := by decide +kernel
theorem dX12_layOut_23 : decode cX12_layOut 23 = .ok (.iload_n 1, 1) := by decide +kernel
theorem dX12_layOut_24 : decode cX12_layOut 24 = .ok (.imul, 1) := by decide +kernel
theorem dX12_layOut_25 : decode cX12_layOut 25 = .ok (.iload_n 2, 1) := by decide +kernel
theorem dX12_layOut_26 : decode cX12_layOut 26 = .ok (.iadd, 1) := by decide +kernel
theorem dX12_layOut_27 : decode cX12_layOut 27 = .ok (.iaload, 1) := by decide +kernel
theorem dX12_layOut_28 : decode cX12_layOut 28 = .ok (.iconst 4, 1) := by decide +kernel
theorem dX12_layOut_29 : decode cX12_layOut 29 = .ok (.if_icmp .eq 38, 3) := by decide +kernel
theorem dX12_layOut_32 : decode cX12_layOut 32 = .ok (.aload_n 0, 1) := by decide +kernel
theorem dX12_layOut_33 : decode cX12_layOut 33 = .ok (.getfield 52, 3) := by decide +kernel
theorem dX12_layOut_36 : decode cX12_layOut 36 = .ok (.aload_n 0, 1) := by decide +kernel
theorem dX12_layOut_37 : decode cX12_layOut 37 = .ok (.getfield 175, 3) := by decide +kernel
theorem dX12_layOut_40 : decode cX12_layOut 40 = .ok (.iload_n 2, 1) := by decide +kernel
theorem dX12_layOut_41 : decode cX12_layOut 41 = .ok (.iastore, 1) := by decide +kernel
theorem dX12_layOut_42 : decode cX12_layOut 42 = .ok (.aload_n 0, 1) := by decide +kernel
theorem dX12_layOut_43 : decode cX12_layOut 43 = .ok (.getfield 55, 3) := by decide +kernel
theorem dX12_layOut_46 : decode cX12_layOut 46 = .ok (.aload_n 0, 1) := by decide +kernel
theorem dX12_layOut_47 : decode cX12_layOut 47 = .ok (.getfield 175, 3) := by decide +kernel
theorem dX12_layOut_50 : decode cX12_layOut 50 = .ok (.aload_n 0, 1) := by decide +kernel
theorem dX12_layOut_51 : decode cX12_layOut 51 = .ok (.iload_n 1, 1) := by decide +kernel
theorem dX12_layOut_52 : decode cX12_layOut 52 = .ok (.iload_n 2, 1) := by decide +kernel
theorem dX12_layOut_53 : decode cX12_layOut 53 = .ok (.invokevirtual 164, 3) := by decide +kernel
theorem dX12_layOut_56 : decode cX12_layOut 56 = .ok (.iastore, 1) := by decide +kernel
theorem dX12_layOut_57 : decode cX12_layOut 57 = .ok (.aload_n 0, 1) := by decide +kernel
theorem dX12_layOut_58 : decode cX12_layOut 58 = .ok (.dup, 1) := by decide +kernel
theorem dX12_layOut_59 : decode cX12_layOut 59 = .ok (.getfield 175, 3) := by decide +kernel
theorem dX12_layOut_62 : decode cX12_layOut 62 = .ok (.iconst 1, 1) := by decide +kernel
theorem dX12_layOut_63 : decode cX12_layOut 63 = .ok (.iadd, 1) := by decide +kernel
theorem dX12_layOut_64 : decode cX12_layOut 64 = .ok (.putfield 175, 3) := by decide +kernel
theorem dX12_layOut_67 : decode cX12_layOut 67 = .ok (.iinc 2 1, 3) := by decide +kernel
theorem dX12_layOut_70 : decode cX12_layOut 70 = .ok (.goto (-63), 3) := by decide +kernel
theorem dX12_layOut_73 : decode cX12_layOut 73 = .ok (.iconst 0, 1) := by decide +kernel
theorem dX12_layOut_74 : decode cX12_layOut 74 = .ok (.istore_n 2, 1) := by decide +kernel
theorem dX12_layOut_75 : decode cX12_layOut 75 = .ok (.iload_n 2, 1) := by decide +kernel
theorem dX12_layOut_76 : decode cX12_layOut 76 = .ok (.aload_n 0, 1) := by decide +kernel
theorem dX12_layOut_77 : decode cX12_layOut 77 = .ok (.getfield 175, 3) := by decide +kernel
theorem dX12_layOut_80 : decode cX12_layOut 80 = .ok (.if_icmp .ge 53, 3) := by decide +kernel
theorem dX12_layOut_83 : decode cX12_layOut 83 = .ok (.iconst 0, 1) := by decide +kernel
theorem dX12_layOut_84 : decode cX12_layOut 84 = .ok (.istore_n 3, 1) := by decide +kernel
theorem dX12_layOut_85 : decode cX12_layOut 85 = .ok (.iload_n 3, 1) := by decide +kernel
theorem dX12_layOut_86 : decode cX12_layOut 86 = .ok (.aload_n 0, 1) := by decide +kernel
theorem dX12_layOut_87 : decode cX12_layOut 87 = .ok (.getfield 175, 3) := by decide +kernel
theorem dX12_layOut_90 : decode cX12_layOut 90 = .ok (.if_icmp .ge 37, 3) := by decide +kernel
theorem dX12_layOut_93 : decode cX12_layOut 93 = .ok (.aload_n 0, 1) := by decide +kernel
theorem dX12_layOut_94 : decode cX12_layOut 94 = .ok (.getfield 58, 3) := by decide +kernel
theorem dX12_layOut_97 : decode cX12_layOut 97 = .ok (.bipush 12, 2) := by decide +kernel
theorem dX12_layOut_99 : decode cX12_layOut 99 = .ok (.iload_n 2, 1) := by decide +kernel
theorem dX12_layOut_100 : decode cX12_layOut 100 = .ok (.imul, 1) := by decide +kernel
theorem dX12_layOut_101 : decode cX12_layOut 101 = .ok (.iload_n 3, 1) := by decide +kernel
theorem dX12_layOut_102 : decode cX12_layOut 102 = .ok (.iadd, 1) := by decide +kernel
theorem dX12_layOut_103 : decode cX12_layOut 103 = .ok (.aload_n 0, 1) := by decide +kernel
theorem dX12_layOut_104 : decode cX12_layOut 104 = .ok (.iload_n 1, 1) := by decide +kernel
theorem dX12_layOut_105 : decode cX12_layOut 105 = .ok (.aload_n 0, 1) := by decide +kernel
theorem dX12_layOut_106 : decode cX12_layOut 106 = .ok (.getfield 52, 3) := by decide +kernel
theorem dX12_layOut_109 : decode cX12_layOut 109 = .ok (.iload_n 2, 1) := by decide +kernel
theorem dX12_layOut_110 : decode cX12_layOut 110 = .ok (.iaload, 1) := by decide +kernel
theorem dX12_layOut_111 : decode cX12_layOut 111 = .ok (.aload_n 0, 1) := by decide +kernel
theorem dX12_layOut_112 : decode cX12_layOut 112 = .ok (.getfield 52, 3) := by decide +kernel
theorem dX12_layOut_115 : decode cX12_layOut 115 = .ok (.iload_n 3, 1) := by decide +kernel
theorem dX12_layOut_116 : decode cX12_layOut 116 = .ok (.iaload, 1) := by decide +kernel
theorem dX12_layOut_117 : decode cX12_layOut 117 = .ok (.invokevirtual 156, 3) := by decide +kernel
theorem dX12_layOut_120 : decode cX12_layOut 120 = .ok (.iastore, 1) := by decide +kernel
theorem dX12_layOut_121 : decode cX12_layOut 121 = .ok (.iinc 3 1, 3) := by decide +kernel
theorem dX12_layOut_124 : decode cX12_layOut 124 = .ok (.goto (-39), 3) := by decide +kernel
theorem dX12_layOut_127 : decode cX12_layOut 127 = .ok (.iinc 2 1, 3) := by decide +kernel
theorem dX12_layOut_130 : decode cX12_layOut 130 = .ok (.goto (-55), 3) := by decide +kernel
theorem dX12_layOut_133 : decode cX12_layOut 133 = .ok (.return_, 1) := by decide +kernel
def PJ_X12_layOut_127 (d : Nat) (E : zb_E) (v2_75 : Int) (X75 : Int → zb_M → Prop) (Q : Int → zb_M → Prop) (m127j : zb_M) : Prop :=
  (zb_inI (v2_75 + 1)) ∧ (X75 (v2_75 + 1) m127j)
def PL_X12_layOut_85 (d : Nat) (E : zb_E) (x0 : Int) (x1 : Int) (v2_75 : Int) (Q : Int → zb_M → Prop) (K127_85 : zb_M → Prop) (v3_85 : Int) (m85l : zb_M) : Prop :=
  ∀ X85 : Int → zb_M → Prop, (∀ (v3_85 : Int) (m85l : zb_M), (((m85l x0 15) ≤ v3_85 → K127_85 m85l) ∧ (¬ (m85l x0 15) ≤ v3_85 → (zb_inI (12 * v2_75)) ∧ ((zb_inI ((12 * v2_75) + v3_85)) ∧ ((0 ≤ v2_75 ∧ v2_75 < 12) ∧ ((0 ≤ v3_85 ∧ v3_85 < 12) ∧ (zb_Tp K_X12_lineOf d [(2, x0), (0, x1), (0, (m85l (E.2 x0 16) v2_75)), (0, (m85l (E.2 x0 16) v3_85))] E m85l (fun r117 => (0 ≤ ((12 * v2_75) + v3_85) ∧ ((12 * v2_75) + v3_85) < 144) ∧ (∀ m120, m120 = zb_up m85l (E.2 x0 18) ((12 * v2_75) + v3_85) r117 → ((zb_inI (v3_85 + 1)) ∧ (X85 (v3_85 + 1) m120)))))))))) → X85 v3_85 m85l) → X85 v3_85 m85l
def PL_X12_layOut_75 (d : Nat) (E : zb_E) (x0 : Int) (x1 : Int) (Q : Int → zb_M → Prop)  (v2_75 : Int) (m75l : zb_M) : Prop :=
  ∀ X75 : Int → zb_M → Prop, (∀ (v2_75 : Int) (m75l : zb_M), (((m75l x0 15) ≤ v2_75 → Q 0 m75l) ∧ (¬ (m75l x0 15) ≤ v2_75 → PL_X12_layOut_85 d E x0 x1 v2_75 Q (PJ_X12_layOut_127 d E v2_75 X75 Q) 0 m75l)) → X75 v2_75 m75l) → X75 v2_75 m75l
def PJ_X12_layOut_73 (d : Nat) (E : zb_E) (x0 : Int) (x1 : Int) (Q : Int → zb_M → Prop) (m73j : zb_M) : Prop :=
  PL_X12_layOut_75 d E x0 x1 Q 0 m73j
def PL_X12_layOut_7 (d : Nat) (E : zb_E) (x0 : Int) (x1 : Int) (Q : Int → zb_M → Prop) (K73_7 : zb_M → Prop) (v2_7 : Int) (m7l : zb_M) : Prop :=
  ∀ X7 : Int → zb_M → Prop, (∀ (v2_7 : Int) (m7l : zb_M), ((0 ≤ x1 ∧ x1 < 8) ∧ (((m7l (E.2 x0 0) x1) ≤ v2_7 → K73_7 m7l) ∧ (¬ (m7l (E.2 x0 0) x1) ≤ v2_7 → (zb_inI (12 * x1)) ∧ ((zb_inI ((12 * x1) + v2_7)) ∧ ((0 ≤ ((12 * x1) + v2_7) ∧ ((12 * x1) + v2_7) < 96) ∧ (((m7l (E.2 x0 1) ((12 * x1) + v2_7)) = 4 → (zb_inI (v2_7 + 1)) ∧ (X7 (v2_7 + 1) m7l)) ∧ (¬ (m7l (E.2 x0 1) ((12 * x1) + v2_7)) = 4 → (0 ≤ (m7l x0 15) ∧ (m7l x0 15) < 12) ∧ (∀ m41, m41 = zb_up m7l (E.2 x0 16) (m7l x0 15) v2_7 → (zb_Tp K_X12_keyOf d [(2, x0), (0, x1), (0, v2_7)] E m41 (fun r53 => (0 ≤ (m41 x0 15) ∧ (m41 x0 15) < 12) ∧ (∀ m56, m56 = zb_up m41 (E.2 x0 17) (m41 x0 15) r53 → ((zb_inI ((m56 x0 15) + 1)) ∧ (∀ m64, m64 = zb_up m56 x0 15 ((m56 x0 15) + 1) → ((zb_inI (v2_7 + 1)) ∧ (X7 (v2_7 + 1) m64))))))))))))))) → X7 v2_7 m7l) → X7 v2_7 m7l
def PM_X12_layOut (d : Nat) (E : zb_E) (x0 : Int) (x1 : Int) (m : zb_M) (Q : Int → zb_M → Prop) : Prop :=
  ∀ m2, m2 = zb_up m x0 15 0 → (PL_X12_layOut_7 d E x0 x1 Q (PJ_X12_layOut_73 d E x0 x1 Q) 0 m2)
set_option maxRecDepth 100000 in
set_option maxHeartbeats 4000000 in
theorem w_X12_layOut {d : Nat} {E : zb_E} {x0 x1 : Int} {m : zb_M} {Q : Int → zb_M → Prop} (h : PM_X12_layOut d E x0 x1 m Q) : zb_T K_X12_layOut (d + 1) [(2, x0), (0, x1)] E m Q := by
  unfold PM_X12_layOut at h
  refine zb_T_in gd_X12_layOut rfl rfl (fun hW hA G C hF => ?_)
  have i_0 : zb_is E.1 x0 12 := zb_aH hA (by decide)
  show zb_WP _ _ 0 [(0, (2, x0)), (1, (0, x1))] [] _ _ _ _
  refine zb_aload_n (j := 0) dX12_layOut_0 rfl rfl ?_
  refine zb_iconst dX12_layOut_1 (zb_inIc rfl) ?_
  refine zb_pF 15 dX12_layOut_2 fl_X12_175 rfl rfl i_0 (Or.inl rfl) hF rfl rfl (fun m2 e2 hF => ?_)
  have h := h m2 e2
  refine zb_iconst dX12_layOut_5 (zb_inIc rfl) ?_
  refine zb_istore_n (L' := [(2, (0, 0)), (0, (2, x0)), (1, (0, x1))]) dX12_layOut_6 rfl (by decide) rfl ?_
  refine zb_sub (L' := [(0, (2, x0)), (1, (0, x1)), (2, (0, 0))]) [1, 2, 0] rfl ?_
  have hJ73 : ∀ (m73j : zb_M), zb_FIN E m73j → PJ_X12_layOut_73 d E x0 x1 Q m73j → zb_WP (G, C, d + 1, 0, 0, zb_q E Q) F_X12_layOut 73 [(0, (2, x0)), (1, (0, x1))] [] E.1 m73j 0 0 := by
    intro m73j hF h
    unfold PJ_X12_layOut_73 at h
    refine zb_iconst dX12_layOut_73 (zb_inIc rfl) ?_
    refine zb_istore_n (L' := [(2, (0, 0)), (0, (2, x0)), (1, (0, x1))]) dX12_layOut_74 rfl (by decide) rfl ?_
    refine zb_sub (L' := [(0, (2, x0)), (1, (0, x1)), (2, (0, 0))]) [1, 2, 0] rfl ?_
    unfold PL_X12_layOut_75 at h
    obtain ⟨X75, hX75⟩ : ∃ X : Int → zb_M → Prop, ∀ (v2_75 : Int) (m75l : zb_M), (X v2_75 m75l ↔ (zb_FIN E m75l → zb_WP (G, C, d + 1, 0, 0, zb_q E Q) F_X12_layOut 75 [(0, (2, x0)), (1, (0, x1)), (2, (0, v2_75))] [] E.1 m75l 0 0)) := ⟨fun v2_75 m75l => zb_FIN E m75l → zb_WP (G, C, d + 1, 0, 0, zb_q E Q) F_X12_layOut 75 [(0, (2, x0)), (1, (0, x1)), (2, (0, v2_75))] [] E.1 m75l 0 0, fun _ _ => Iff.rfl⟩
    refine (hX75 _ _).mp (h X75 (fun v2_75 m75l h => (hX75 _ _).mpr (fun hF => ?_))) hF
    refine zb_iload_n (j := 2) dX12_layOut_75 rfl rfl ?_
    refine zb_aload_n (j := 0) dX12_layOut_76 rfl rfl ?_
    refine zb_gI 15 dX12_layOut_77 fl_X12_175 i_0 rfl rfl ?_
    refine zb_icmp_ge (tgt := 133) dX12_layOut_80 (by decide) (fun c1 => ?_) (fun c1 => ?_)
    · have h := h.1 c1
      exact zb_rV dX12_layOut_133 rfl hF h
    · have h := h.2 c1
      refine zb_iconst dX12_layOut_83 (zb_inIc rfl) ?_
      refine zb_istore_n (L' := [(3, (0, 0)), (0, (2, x0)), (1, (0, x1)), (2, (0, v2_75))]) dX12_layOut_84 rfl (by decide) rfl ?_
      refine zb_sub (L' := [(0, (2, x0)), (1, (0, x1)), (2, (0, v2_75)), (3, (0, 0))]) [1, 2, 3, 0] rfl ?_
      have hJ127 : ∀ (m127j : zb_M), zb_FIN E m127j → PJ_X12_layOut_127 d E v2_75 X75 Q m127j → zb_WP (G, C, d + 1, 0, 0, zb_q E Q) F_X12_layOut 127 [(0, (2, x0)), (1, (0, x1)), (2, (0, v2_75))] [] E.1 m127j 0 0 := by
        intro m127j hF h
        unfold PJ_X12_layOut_127 at h
        obtain ⟨o2, h⟩ := h
        refine zb_iinc (j := 2) (L' := [(2, (0, (v2_75 + 1))), (0, (2, x0)), (1, (0, x1))]) dX12_layOut_127 rfl o2 (by decide) rfl ?_
        refine zb_goto (tgt := 75) dX12_layOut_130 (by decide) ?_
        refine zb_sub (L' := [(0, (2, x0)), (1, (0, x1)), (2, (0, (v2_75 + 1)))]) [1, 2, 0] rfl ?_
        exact (hX75 _ _).mp h hF
      unfold PL_X12_layOut_85 at h
      obtain ⟨X85, hX85⟩ : ∃ X : Int → zb_M → Prop, ∀ (v3_85 : Int) (m85l : zb_M), (X v3_85 m85l ↔ (zb_FIN E m85l → zb_WP (G, C, d + 1, 0, 0, zb_q E Q) F_X12_layOut 85 [(0, (2, x0)), (1, (0, x1)), (2, (0, v2_75)), (3, (0, v3_85))] [] E.1 m85l 0 0)) := ⟨fun v3_85 m85l => zb_FIN E m85l → zb_WP (G, C, d + 1, 0, 0, zb_q E Q) F_X12_layOut 85 [(0, (2, x0)), (1, (0, x1)), (2, (0, v2_75)), (3, (0, v3_85))] [] E.1 m85l 0 0, fun _ _ => Iff.rfl⟩
      refine (hX85 _ _).mp (h X85 (fun v3_85 m85l h => (hX85 _ _).mpr (fun hF => ?_))) hF
      refine zb_iload_n (j := 3) dX12_layOut_85 rfl rfl ?_
      refine zb_aload_n (j := 0) dX12_layOut_86 rfl rfl ?_
      refine zb_gI 15 dX12_layOut_87 fl_X12_175 i_0 rfl rfl ?_
      refine zb_icmp_ge (tgt := 127) dX12_layOut_90 (by decide) (fun c3 => ?_) (fun c3 => ?_)
      · have h := h.1 c3
        refine zb_sub (L' := [(0, (2, x0)), (1, (0, x1)), (2, (0, v2_75))]) [0, 1, 2] rfl ?_
        exact hJ127 _ hF h
      · have h := h.2 c3
        refine zb_aload_n (j := 0) dX12_layOut_93 rfl rfl ?_
        refine zb_gFa 18 dX12_layOut_94 fl_X12_58 i_0 hW hF rfl rfl rfl (by decide) rfl 144 rfl (fun i4 l5 => ?_)
        refine zb_bipush dX12_layOut_97 (by decide) (zb_inIc rfl) ?_
        refine zb_iload_n (j := 2) dX12_layOut_99 rfl rfl ?_
        obtain ⟨o6, h⟩ := h
        refine zb_imul dX12_layOut_100 o6 ?_
        refine zb_iload_n (j := 3) dX12_layOut_101 rfl rfl ?_
        obtain ⟨o7, h⟩ := h
        refine zb_iadd dX12_layOut_102 o7 ?_
        refine zb_aload_n (j := 0) dX12_layOut_103 rfl rfl ?_
        refine zb_iload_n (j := 1) dX12_layOut_104 rfl rfl ?_
        refine zb_aload_n (j := 0) dX12_layOut_105 rfl rfl ?_
        refine zb_gFa 16 dX12_layOut_106 fl_X12_52 i_0 hW hF rfl rfl rfl (by decide) rfl 12 rfl (fun i8 l9 => ?_)
        refine zb_iload_n (j := 2) dX12_layOut_109 rfl rfl ?_
        obtain ⟨o10, h⟩ := h
        refine zb_lI dX12_layOut_110 i8 l9 o10.1 o10.2 ?_
        refine zb_aload_n (j := 0) dX12_layOut_111 rfl rfl ?_
        refine zb_gFa 16 dX12_layOut_112 fl_X12_52 i_0 hW hF rfl rfl rfl (by decide) rfl 12 rfl (fun i11 l12 => ?_)
        refine zb_iload_n (j := 3) dX12_layOut_115 rfl rfl ?_
        obtain ⟨o13, h⟩ := h
        refine zb_lI dX12_layOut_116 i11 l12 o13.1 o13.2 ?_
        refine zb_cVp (As := [(0, x1), (0, (m85l (E.2 x0 16) v2_75)), (0, (m85l (E.2 x0 16) v3_85))]) (As' := [(0, (m85l (E.2 x0 16) v3_85)), (0, (m85l (E.2 x0 16) v2_75)), (0, x1)]) (st := [(0, ((12 * v2_75) + v3_85)), (2, (E.2 x0 18))]) dX12_layOut_117 lk_X12_156 gd_X12_lineOf rfl rfl i_0 ⟨_, rfl, rfl⟩ h hW hF (zb_aR i_0 (zb_aI (zb_aI (zb_aI zb_a0)))) (Nat.le_refl _) (Nat.le_of_ble_eq_true rfl) (fun r117 h => ?_)
        show zb_WP _ _ _ _ [(0, r117), (0, ((12 * v2_75) + v3_85)), (2, (E.2 x0 18))] _ _ _ _
        obtain ⟨o14, h⟩ := h
        refine zb_sI dX12_layOut_120 i4 l5 o14.1 o14.2 hF (fun m120 e120 hF => ?_)
        have h := h m120 e120
        obtain ⟨o15, h⟩ := h
        refine zb_iinc (j := 3) (L' := [(3, (0, (v3_85 + 1))), (0, (2, x0)), (1, (0, x1)), (2, (0, v2_75))]) dX12_layOut_121 rfl o15 (by decide) rfl ?_
        refine zb_goto (tgt := 85) dX12_layOut_124 (by decide) ?_
        refine zb_sub (L' := [(0, (2, x0)), (1, (0, x1)), (2, (0, v2_75)), (3, (0, (v3_85 + 1)))]) [1, 2, 3, 0] rfl ?_
        exact (hX85 _ _).mp h hF
  unfold PL_X12_layOut_7 at h
  obtain ⟨X7, hX7⟩ : ∃ X : Int → zb_M → Prop, ∀ (v2_7 : Int) (m7l : zb_M), (X v2_7 m7l ↔ (zb_FIN E m7l → zb_WP (G, C, d + 1, 0, 0, zb_q E Q) F_X12_layOut 7 [(0, (2, x0)), (1, (0, x1)), (2, (0, v2_7))] [] E.1 m7l 0 0)) := ⟨fun v2_7 m7l => zb_FIN E m7l → zb_WP (G, C, d + 1, 0, 0, zb_q E Q) F_X12_layOut 7 [(0, (2, x0)), (1, (0, x1)), (2, (0, v2_7))] [] E.1 m7l 0 0, fun _ _ => Iff.rfl⟩
  refine (hX7 _ _).mp (h X7 (fun v2_7 m7l h => (hX7 _ _).mpr (fun hF => ?_))) hF
  refine zb_iload_n (j := 2) dX12_layOut_7 rfl rfl ?_
  refine zb_aload_n (j := 0) dX12_layOut_8 rfl rfl ?_
  refine zb_gFa 0 dX12_layOut_9 fl_X12_7 i_0 hW hF rfl rfl rfl (by decide) rfl 8 rfl (fun i16 l17 => ?_)
  refine zb_iload_n (j := 1) dX12_layOut_12 rfl rfl ?_
  obtain ⟨o18, h⟩ := h
  refine zb_lI dX12_layOut_13 i16 l17 o18.1 o18.2 ?_
  refine zb_icmp_ge (tgt := 73) dX12_layOut_14 (by decide) (fun c19 => ?_) (fun c19 => ?_)
  · have h := h.1 c19
    refine zb_sub (L' := [(0, (2, x0)), (1, (0, x1))]) [0, 1] rfl ?_
    exact hJ73 _ hF h
  · have h := h.2 c19
    refine zb_aload_n (j := 0) dX12_layOut_17 rfl rfl ?_
    refine zb_gFa 1 dX12_layOut_18 fl_X12_13 i_0 hW hF rfl rfl rfl (by decide) rfl 96 rfl (fun i20 l21 => ?_)
    refine zb_bipush dX12_layOut_21 (by decide) (zb_inIc rfl) ?_
    refine zb_iload_n (j := 1) dX12_layOut_23 rfl rfl ?_
    obtain ⟨o22, h⟩ := h
    refine zb_imul dX12_layOut_24 o22 ?_
    refine zb_iload_n (j := 2) dX12_layOut_25 rfl rfl ?_
    obtain ⟨o23, h⟩ := h
    refine zb_iadd dX12_layOut_26 o23 ?_
    obtain ⟨o24, h⟩ := h
    refine zb_lI dX12_layOut_27 i20 l21 o24.1 o24.2 ?_
    refine zb_iconst dX12_layOut_28 (zb_inIc rfl) ?_
    refine zb_icmp_eq (tgt := 67) dX12_layOut_29 (by decide) (fun c25 => ?_) (fun c25 => ?_)
    · have h := h.1 c25
      obtain ⟨o26, h⟩ := h
      refine zb_iinc (j := 2) (L' := [(2, (0, (v2_7 + 1))), (0, (2, x0)), (1, (0, x1))]) dX12_layOut_67 rfl o26 (by decide) rfl ?_
      refine zb_goto (tgt := 7) dX12_layOut_70 (by decide) ?_
      refine zb_sub (L' := [(0, (2, x0)), (1, (0, x1)), (2, (0, (v2_7 + 1)))]) [1, 2, 0] rfl ?_
      exact (hX7 _ _).mp h hF
    · have h := h.2 c25
      refine zb_aload_n (j := 0) dX12_layOut_32 rfl rfl ?_
      refine zb_gFa 16 dX12_layOut_33 fl_X12_52 i_0 hW hF rfl rfl rfl (by decide) rfl 12 rfl (fun i27 l28 => ?_)
      refine zb_aload_n (j := 0) dX12_layOut_36 rfl rfl ?_
      refine zb_gI 15 dX12_layOut_37 fl_X12_175 i_0 rfl rfl ?_
      refine zb_iload_n (j := 2) dX12_layOut_40 rfl rfl ?_
      obtain ⟨o29, h⟩ := h
      refine zb_sI dX12_layOut_41 i27 l28 o29.1 o29.2 hF (fun m41 e41 hF => ?_)
      have h := h m41 e41
      refine zb_aload_n (j := 0) dX12_layOut_42 rfl rfl ?_
      refine zb_gFa 17 dX12_layOut_43 fl_X12_55 i_0 hW hF rfl rfl rfl (by decide) rfl 12 rfl (fun i30 l31 => ?_)
      refine zb_aload_n (j := 0) dX12_layOut_46 rfl rfl ?_
      refine zb_gI 15 dX12_layOut_47 fl_X12_175 i_0 rfl rfl ?_
      refine zb_aload_n (j := 0) dX12_layOut_50 rfl rfl ?_
      refine zb_iload_n (j := 1) dX12_layOut_51 rfl rfl ?_
      refine zb_iload_n (j := 2) dX12_layOut_52 rfl rfl ?_
      refine zb_cVp (As := [(0, x1), (0, v2_7)]) (As' := [(0, v2_7), (0, x1)]) (st := [(0, (m41 x0 15)), (2, (E.2 x0 17))]) dX12_layOut_53 lk_X12_164 gd_X12_keyOf rfl rfl i_0 ⟨_, rfl, rfl⟩ h hW hF (zb_aR i_0 (zb_aI (zb_aI zb_a0))) (Nat.le_refl _) (Nat.le_of_ble_eq_true rfl) (fun r53 h => ?_)
      show zb_WP _ _ _ _ [(0, r53), (0, (m41 x0 15)), (2, (E.2 x0 17))] _ _ _ _
      obtain ⟨o32, h⟩ := h
      refine zb_sI dX12_layOut_56 i30 l31 o32.1 o32.2 hF (fun m56 e56 hF => ?_)
      have h := h m56 e56
      refine zb_aload_n (j := 0) dX12_layOut_57 rfl rfl ?_
      refine zb_dup dX12_layOut_58 rfl ?_
      refine zb_gI 15 dX12_layOut_59 fl_X12_175 i_0 rfl rfl ?_
      refine zb_iconst dX12_layOut_62 (zb_inIc rfl) ?_
      obtain ⟨o33, h⟩ := h
      refine zb_iadd dX12_layOut_63 o33 ?_
      refine zb_pF 15 dX12_layOut_64 fl_X12_175 rfl rfl i_0 (Or.inl rfl) hF rfl rfl (fun m64 e64 hF => ?_)
      have h := h m64 e64
      obtain ⟨o34, h⟩ := h
      refine zb_iinc (j := 2) (L' := [(2, (0, (v2_7 + 1))), (0, (2, x0)), (1, (0, x1))]) dX12_layOut_67 rfl o34 (by decide) rfl ?_
      refine zb_goto (tgt := 7) dX12_layOut_70 (by decide) ?_
      refine zb_sub (L' := [(0, (2, x0)), (1, (0, x1)), (2, (0, (v2_7 + 1)))]) [1, 2, 0] rfl ?_
      exact (hX7 _ _).mp h hF
theorem dX12_orderSights_0 : decode cX12_orderSights 0 = .ok (.iconst 0, 1) := by decide +kernel
theorem dX12_orderSights_1 : decode cX12_orderSights 1 = .ok (.istore 4, 2) := by decide +kernel
theorem dX12_orderSights_3 : decode cX12_orderSights 3 = .ok (.iload 4, 2) := by decide +kernel
theorem dX12_orderSights_5 : decode cX12_orderSights 5 = .ok (.iload_n 3, 1) := by decide +kernel
theorem dX12_orderSights_6 : decode cX12_orderSights 6 = .ok (.if_icmp .ge 66, 3) := by decide +kernel
theorem dX12_orderSights_9 : decode cX12_orderSights 9 = .ok (.aload_n 0, 1) := by decide +kernel
theorem dX12_orderSights_10 : decode cX12_orderSights 10 = .ok (.getfield 67, 3) := by decide +kernel
theorem dX12_orderSights_13 : decode cX12_orderSights 13 = .ok (.sipush 220, 3) := by decide +kernel
theorem dX12_orderSights_16 : decode cX12_orderSights 16 = .ok (.iload_n 1, 1) := by decide +kernel
theorem dX12_orderSights_17 : decode cX12_orderSights 17 = .ok (.imul, 1) := by decide +kernel
theorem dX12_orderSights_18 : decode cX12_orderSights 18 = .ok (.iload 4, 2) := by decide +kernel
theorem dX12_orderSights_20 : decode cX12_orderSights 20 = .ok (.iadd, 1) := by decide +kernel
theorem dX12_orderSights_21 : decode cX12_orderSights 21 = .ok (.iaload, 1) := by decide +kernel
theorem dX12_orderSights_22 : decode cX12_orderSights 22 = .ok (.aload_n 0, 1) := by decide +kernel
theorem dX12_orderSights_23 : decode cX12_orderSights 23 = .ok (.getfield 67, 3) := by decide +kernel
theorem dX12_orderSights_26 : decode cX12_orderSights 26 = .ok (.sipush 220, 3) := by decide +kernel
theorem dX12_orderSights_29 : decode cX12_orderSights 29 = .ok (.iload_n 2, 1) := by decide +kernel
theorem dX12_orderSights_30 : decode cX12_orderSights 30 = .ok (.imul, 1) := by decide +kernel
theorem dX12_orderSights_31 : decode cX12_orderSights 31 = .ok (.iload 4, 2) := by decide +kernel
theorem dX12_orderSights_33 : decode cX12_orderSights 33 = .ok (.iadd, 1) := by decide +kernel
theorem dX12_orderSights_34 : decode cX12_orderSights 34 = .ok (.iaload, 1) := by decide +kernel
theorem dX12_orderSights_35 : decode cX12_orderSights 35 = .ok (.if_icmp .eq 31, 3) := by decide +kernel
theorem dX12_orderSights_38 : decode cX12_orderSights 38 = .ok (.aload_n 0, 1) := by decide +kernel
theorem dX12_orderSights_39 : decode cX12_orderSights 39 = .ok (.getfield 67, 3) := by decide +kernel
theorem dX12_orderSights_42 : decode cX12_orderSights 42 = .ok (.sipush 220, 3) := by decide +kernel
theorem dX12_orderSights_45 : decode cX12_orderSights 45 = .ok (.iload_n 1, 1) := by decide +kernel
theorem dX12_orderSights_46 : decode cX12_orderSights 46 = .ok (.imul, 1) := by decide +kernel
theorem dX12_orderSights_47 : decode cX12_orderSights 47 = .ok (.iload 4, 2) := by decide +kernel
theorem dX12_orderSights_49 : decode cX12_orderSights 49 = .ok (.iadd, 1) := by decide +kernel
theorem dX12_orderSights_50 : decode cX12_orderSights 50 = .ok (.iaload, 1) := by decide +kernel
theorem dX12_orderSights_51 : decode cX12_orderSights 51 = .ok (.aload_n 0, 1) := by decide +kernel
theorem dX12_orderSights_52 : decode cX12_orderSights 52 = .ok (.getfield 67, 3) := by decide +kernel
theorem dX12_orderSights_55 : decode cX12_orderSights 55 = .ok (.sipush 220, 3) := by decide +kernel
theorem dX12_orderSights_58 : decode cX12_orderSights 58 = .ok (.iload_n 2, 1) := by decide +kernel
theorem dX12_orderSights_59 : decode cX12_orderSights 59 = .ok (.imul, 1) := by decide +kernel
theorem dX12_orderSights_60 : decode cX12_orderSights 60 = .ok (.iload 4, 2) := by decide +kernel
theorem dX12_orderSights_62 : decode cX12_orderSights 62 = .ok (.iadd, 1) := by decide +kernel
theorem dX12_orderSights_63 : decode cX12_orderSights 63 = .ok (.iaload, 1) := by decide +kernel
theorem dX12_orderSights_64 : decode cX12_orderSights 64 = .ok (.isub, 1) := by decide +kernel
theorem dX12_orderSights_65 : decode cX12_orderSights 65 = .ok (.ireturn, 1) := by decide +kernel
theorem dX12_orderSights_66 : decode cX12_orderSights 66 = .ok (.iinc 4 1, 3) := by decide +kernel
theorem dX12_orderSights_69 : decode cX12_orderSights 69 = .ok (.goto (-66), 3) := by decide +kernel
theorem dX12_orderSights_72 : decode cX12_orderSights 72 = .ok (.iconst 0, 1) := by decide +kernel
theorem dX12_orderSights_73 : decode cX12_orderSights 73 = .ok (.ireturn, 1) := by decide +kernel
def PJ_X12_orderSights_38 (d : Nat) (E : zb_E) (x0 : Int) (x1 : Int) (x2 : Int) (m : zb_M) (Q : Int → Prop) (v4_38 : Int) : Prop :=
  (zb_inI (220 * x1)) ∧ ((zb_inI ((220 * x1) + v4_38)) ∧ ((0 ≤ ((220 * x1) + v4_38) ∧ ((220 * x1) + v4_38) < 2640) ∧ ((zb_inI (220 * x2)) ∧ ((zb_inI ((220 * x2) + v4_38)) ∧ ((0 ≤ ((220 * x2) + v4_38) ∧ ((220 * x2) + v4_38) < 2640) ∧ ((zb_inI ((m (E.2 x0 21) ((220 * x1) + v4_38)) - (m (E.2 x0 21) ((220 * x2) + v4_38)))) ∧ (Q ((m (E.2 x0 21) ((220 * x1) + v4_38)) - (m (E.2 x0 21) ((220 * x2) + v4_38))))))))))
def PL_X12_orderSights_3 (d : Nat) (E : zb_E) (x0 : Int) (x1 : Int) (x2 : Int) (x3 : Int) (m : zb_M) (Q : Int → Prop) (K38_3 : Int → Prop) (v4_3 : Int) : Prop :=
  ∀ X3 : Int → Prop, (∀ (v4_3 : Int), ((x3 ≤ v4_3 → Q 0) ∧ (¬ x3 ≤ v4_3 → (zb_inI (220 * x1)) ∧ ((zb_inI ((220 * x1) + v4_3)) ∧ ((0 ≤ ((220 * x1) + v4_3) ∧ ((220 * x1) + v4_3) < 2640) ∧ ((zb_inI (220 * x2)) ∧ ((zb_inI ((220 * x2) + v4_3)) ∧ ((0 ≤ ((220 * x2) + v4_3) ∧ ((220 * x2) + v4_3) < 2640) ∧ (((m (E.2 x0 21) ((220 * x1) + v4_3)) = (m (E.2 x0 21) ((220 * x2) + v4_3)) → (zb_inI (v4_3 + 1)) ∧ (X3 (v4_3 + 1))) ∧ (¬ (m (E.2 x0 21) ((220 * x1) + v4_3)) = (m (E.2 x0 21) ((220 * x2) + v4_3)) → K38_3 v4_3))))))))) → X3 v4_3) → X3 v4_3
def PM_X12_orderSights (d : Nat) (E : zb_E) (x0 : Int) (x1 : Int) (x2 : Int) (x3 : Int) (m : zb_M) (Q : Int → Prop) : Prop :=
  PL_X12_orderSights_3 d E x0 x1 x2 x3 m Q (PJ_X12_orderSights_38 d E x0 x1 x2 m Q) 0
set_option maxRecDepth 100000 in
set_option maxHeartbeats 4000000 in
theorem w_X12_orderSights {d : Nat} {E : zb_E} {x0 x1 x2 x3 : Int} {m : zb_M} {Q : Int → Prop} (h : PM_X12_orderSights d E x0 x1 x2 x3 m Q) : zb_Tp K_X12_orderSights (d + 1) [(2, x0), (0, x1), (0, x2), (0, x3)] E m Q := by
  unfold PM_X12_orderSights at h
  refine zb_T_in gd_X12_orderSights rfl rfl (fun hW hA G C hF => ?_)
  have i_0 : zb_is E.1 x0 12 := zb_aH hA (by decide)
  show zb_WP _ _ 0 [(0, (2, x0)), (1, (0, x1)), (2, (0, x2)), (3, (0, x3))] [] _ _ _ _
  refine zb_iconst dX12_orderSights_0 (zb_inIc rfl) ?_
  refine zb_istore (L' := [(4, (0, 0)), (0, (2, x0)), (1, (0, x1)), (2, (0, x2)), (3, (0, x3))]) dX12_orderSights_1 (by decide) rfl ?_
  refine zb_sub (L' := [(0, (2, x0)), (1, (0, x1)), (2, (0, x2)), (3, (0, x3)), (4, (0, 0))]) [1, 2, 3, 4, 0] rfl ?_
  have hJ38 : ∀ (v4_38 : Int), zb_FIN E m → PJ_X12_orderSights_38 d E x0 x1 x2 m Q v4_38 → zb_WP (G, C, d + 1, 0, 0, zb_q E (fun r m' => m' = m ∧ Q r)) F_X12_orderSights 38 [(0, (2, x0)), (1, (0, x1)), (2, (0, x2)), (4, (0, v4_38))] [] E.1 m 0 0 := by
    intro v4_38 hF h
    unfold PJ_X12_orderSights_38 at h
    refine zb_aload_n (j := 0) dX12_orderSights_38 rfl rfl ?_
    refine zb_gFa 21 dX12_orderSights_39 fl_X12_67 i_0 hW hF rfl rfl rfl (by decide) rfl 2640 rfl (fun i1 l2 => ?_)
    refine zb_sipush dX12_orderSights_42 (by decide) (zb_inIc rfl) ?_
    refine zb_iload_n (j := 1) dX12_orderSights_45 rfl rfl ?_
    obtain ⟨o3, h⟩ := h
    refine zb_imul dX12_orderSights_46 o3 ?_
    refine zb_iload (j := 3) dX12_orderSights_47 rfl ?_
    obtain ⟨o4, h⟩ := h
    refine zb_iadd dX12_orderSights_49 o4 ?_
    obtain ⟨o5, h⟩ := h
    refine zb_lI dX12_orderSights_50 i1 l2 o5.1 o5.2 ?_
    refine zb_aload_n (j := 0) dX12_orderSights_51 rfl rfl ?_
    refine zb_gFa 21 dX12_orderSights_52 fl_X12_67 i_0 hW hF rfl rfl rfl (by decide) rfl 2640 rfl (fun i6 l7 => ?_)
    refine zb_sipush dX12_orderSights_55 (by decide) (zb_inIc rfl) ?_
    refine zb_iload_n (j := 2) dX12_orderSights_58 rfl rfl ?_
    obtain ⟨o8, h⟩ := h
    refine zb_imul dX12_orderSights_59 o8 ?_
    refine zb_iload (j := 3) dX12_orderSights_60 rfl ?_
    obtain ⟨o9, h⟩ := h
    refine zb_iadd dX12_orderSights_62 o9 ?_
    obtain ⟨o10, h⟩ := h
    refine zb_lI dX12_orderSights_63 i6 l7 o10.1 o10.2 ?_
    obtain ⟨o11, h⟩ := h
    refine zb_isub dX12_orderSights_64 o11 ?_
    exact zb_rI dX12_orderSights_65 rfl hF ⟨rfl, h⟩
  unfold PL_X12_orderSights_3 at h
  obtain ⟨X3, hX3⟩ : ∃ X : Int → Prop, ∀ (v4_3 : Int), (X v4_3 ↔ (zb_FIN E m → zb_WP (G, C, d + 1, 0, 0, zb_q E (fun r m' => m' = m ∧ Q r)) F_X12_orderSights 3 [(0, (2, x0)), (1, (0, x1)), (2, (0, x2)), (3, (0, x3)), (4, (0, v4_3))] [] E.1 m 0 0)) := ⟨fun v4_3 => zb_FIN E m → zb_WP (G, C, d + 1, 0, 0, zb_q E (fun r m' => m' = m ∧ Q r)) F_X12_orderSights 3 [(0, (2, x0)), (1, (0, x1)), (2, (0, x2)), (3, (0, x3)), (4, (0, v4_3))] [] E.1 m 0 0, fun _ => Iff.rfl⟩
  refine (hX3 _).mp (h X3 (fun v4_3 h => (hX3 _).mpr (fun hF => ?_))) hF
  refine zb_iload (j := 4) dX12_orderSights_3 rfl ?_
  refine zb_iload_n (j := 3) dX12_orderSights_5 rfl rfl ?_
  refine zb_icmp_ge (tgt := 72) dX12_orderSights_6 (by decide) (fun c12 => ?_) (fun c12 => ?_)
  · have h := h.1 c12
    refine zb_iconst dX12_orderSights_72 (zb_inIc rfl) ?_
    exact zb_rI dX12_orderSights_73 rfl hF ⟨rfl, h⟩
  · have h := h.2 c12
    refine zb_aload_n (j := 0) dX12_orderSights_9 rfl rfl ?_
    refine zb_gFa 21 dX12_orderSights_10 fl_X12_67 i_0 hW hF rfl rfl rfl (by decide) rfl 2640 rfl (fun i13 l14 => ?_)
    refine zb_sipush dX12_orderSights_13 (by decide) (zb_inIc rfl) ?_
    refine zb_iload_n (j := 1) dX12_orderSights_16 rfl rfl ?_
    obtain ⟨o15, h⟩ := h
    refine zb_imul dX12_orderSights_17 o15 ?_
    refine zb_iload (j := 4) dX12_orderSights_18 rfl ?_
    obtain ⟨o16, h⟩ := h
    refine zb_iadd dX12_orderSights_20 o16 ?_
    obtain ⟨o17, h⟩ := h
    refine zb_lI dX12_orderSights_21 i13 l14 o17.1 o17.2 ?_
    refine zb_aload_n (j := 0) dX12_orderSights_22 rfl rfl ?_
    refine zb_gFa 21 dX12_orderSights_23 fl_X12_67 i_0 hW hF rfl rfl rfl (by decide) rfl 2640 rfl (fun i18 l19 => ?_)
    refine zb_sipush dX12_orderSights_26 (by decide) (zb_inIc rfl) ?_
    refine zb_iload_n (j := 2) dX12_orderSights_29 rfl rfl ?_
    obtain ⟨o20, h⟩ := h
    refine zb_imul dX12_orderSights_30 o20 ?_
    refine zb_iload (j := 4) dX12_orderSights_31 rfl ?_
    obtain ⟨o21, h⟩ := h
    refine zb_iadd dX12_orderSights_33 o21 ?_
    obtain ⟨o22, h⟩ := h
    refine zb_lI dX12_orderSights_34 i18 l19 o22.1 o22.2 ?_
    refine zb_icmp_eq (tgt := 66) dX12_orderSights_35 (by decide) (fun c23 => ?_) (fun c23 => ?_)
    · have h := h.1 c23
      obtain ⟨o24, h⟩ := h
      refine zb_iinc (j := 4) (L' := [(4, (0, (v4_3 + 1))), (0, (2, x0)), (1, (0, x1)), (2, (0, x2)), (3, (0, x3))]) dX12_orderSights_66 rfl o24 (by decide) rfl ?_
      refine zb_goto (tgt := 3) dX12_orderSights_69 (by decide) ?_
      refine zb_sub (L' := [(0, (2, x0)), (1, (0, x1)), (2, (0, x2)), (3, (0, x3)), (4, (0, (v4_3 + 1)))]) [1, 2, 3, 4, 0] rfl ?_
      exact (hX3 _).mp h hF
    · have h := h.2 c23
      refine zb_sub (L' := [(0, (2, x0)), (1, (0, x1)), (2, (0, x2)), (4, (0, v4_3))]) [0, 1, 2, 4] rfl ?_
      exact hJ38 _ hF h
theorem dX12_gather_0 : decode cX12_gather 0 = .ok (.iconst 0, 1) := by decide +kernel
theorem dX12_gather_1 : decode cX12_gather 1 = .ok (.istore_n 3, 1) := by decide +kernel
theorem dX12_gather_2 : decode cX12_gather 2 = .ok (.iload_n 3, 1) := by decide +kernel
theorem dX12_gather_3 : decode cX12_gather 3 = .ok (.aload_n 0, 1) := by decide +kernel
theorem dX12_gather_4 : decode cX12_gather 4 = .ok (.getfield 175, 3) := by decide +kernel
theorem dX12_gather_7 : decode cX12_gather 7 = .ok (.if_icmp .ge 65, 3) := by decide +kernel
theorem dX12_gather_10 : decode cX12_gather 10 = .ok (.iload_n 3, 1) := by decide +kernel
theorem dX12_gather_11 : decode cX12_gather 11 = .ok (.istore 4, 2) := by decide +kernel
theorem dX12_gather_13 : decode cX12_gather 13 = .ok (.iload 4, 2) := by decide +kernel
theorem dX12_gather_15 : decode cX12_gather 15 = .ok (.ifCond .le 43, 3) := by decide +kernel
theorem dX12_gather_18 : decode cX12_gather 18 = .ok (.aload_n 0, 1) := by decide +kernel
theorem dX12_gather_19 : decode cX12_gather 19 = .ok (.aload_n 0, 1) := by decide +kernel
theorem dX12_gather_20 : decode cX12_gather 20 = .ok (.getfield 70, 3) := by decide +kernel
theorem dX12_gather_23 : decode cX12_gather 23 = .ok (.iload 4, 2) := by decide +kernel
theorem dX12_gather_25 : decode cX12_gather 25 = .ok (.iconst 1, 1) := by decide +kernel
theorem dX12_gather_26 : decode cX12_gather 26 = .ok (.isub, 1) := by decide +kernel
theorem dX12_gather_27 : decode cX12_gather 27 = .ok (.iaload, 1) := by decide +kernel
theorem dX12_gather_28 : decode cX12_gather 28 = .ok (.iload_n 3, 1) := by decide +kernel
theorem dX12_gather_29 : decode cX12_gather 29 = .ok (.iload_n 2, 1) := by decide +kernel
theorem dX12_gather_30 : decode cX12_gather 30 = .ok (.invokevirtual 178, 3) := by decide +kernel
theorem dX12_gather_33 : decode cX12_gather 33 = .ok (.ifCond .le 25, 3) := by decide +kernel
theorem dX12_gather_36 : decode cX12_gather 36 = .ok (.aload_n 0, 1) := by decide +kernel
theorem dX12_gather_37 : decode cX12_gather 37 = .ok (.getfield 70, 3) := by decide +kernel
theorem dX12_gather_40 : decode cX12_gather 40 = .ok (.iload 4, 2) := by decide +kernel
theorem dX12_gather_42 : decode cX12_gather 42 = .ok (.aload_n 0, 1) := by decide +kernel
theorem dX12_gather_43 : decode cX12_gather 43 = .ok (.getfield 70, 3) := by decide +kernel
theorem dX12_gather_46 : decode cX12_gather 46 = .ok (.iload 4, 2) := by decide +kernel
theorem dX12_gather_48 : decode cX12_gather 48 = .ok (.iconst 1, 1) := by decide +kernel
theorem dX12_gather_49 : decode cX12_gather 49 = .ok (.isub, 1) := by decide +kernel
theorem dX12_gather_50 : decode cX12_gather 50 = .ok (.iaload, 1) := by decide +kernel
theorem dX12_gather_51 : decode cX12_gather 51 = .ok (.iastore, 1) := by decide +kernel
theorem dX12_gather_52 : decode cX12_gather 52 = .ok (.iinc 4 (-1), 3) := by decide +kernel
theorem dX12_gather_55 : decode cX12_gather 55 = .ok (.goto (-42), 3) := by decide +kernel
theorem dX12_gather_58 : decode cX12_gather 58 = .ok (.aload_n 0, 1) := by decide +kernel
theorem dX12_gather_59 : decode cX12_gather 59 = .ok (.getfield 70, 3) := by decide +kernel
theorem dX12_gather_62 : decode cX12_gather 62 = .ok (.iload 4, 2) := by decide +kernel
theorem dX12_gather_64 : decode cX12_gather 64 = .ok (.iload_n 3, 1) := by decide +kernel
theorem dX12_gather_65 : decode cX12_gather 65 = .ok (.iastore, 1) := by decide +kernel
theorem dX12_gather_66 : decode cX12_gather 66 = .ok (.iinc 3 1, 3) := by decide +kernel
theorem dX12_gather_69 : decode cX12_gather 69 = .ok (.goto (-67), 3) := by decide +kernel
theorem dX12_gather_72 : decode cX12_gather 72 = .ok (.iconst (-1), 1) := by decide +kernel
theorem dX12_gather_73 : decode cX12_gather 73 = .ok (.istore_n 3, 1) := by decide +kernel
theorem dX12_gather_74 : decode cX12_gather 74 = .ok (.iconst 0, 1) := by decide +kernel
theorem dX12_gather_75 : decode cX12_gather 75 = .ok (.istore 4, 2) := by decide +kernel
theorem dX12_gather_77 : decode cX12_gather 77 = .ok (.iload 4, 2) := by decide +kernel
theorem dX12_gather_79 : decode cX12_gather 79 = .ok (.aload_n 0, 1) := by decide +kernel
theorem dX12_gather_80 : decode cX12_gather 80 = .ok (.getfield 175, 3) := by decide +kernel
theorem dX12_gather_83 : decode cX12_gather 83 = .ok (.if_icmp .ge 64, 3) := by decide +kernel
theorem dX12_gather_86 : decode cX12_gather 86 = .ok (.iload_n 3, 1) := by decide +kernel
theorem dX12_gather_87 : decode cX12_gather 87 = .ok (.iload 4, 2) := by decide +kernel
theorem dX12_gather_89 : decode cX12_gather 89 = .ok (.ifCond .eq 27, 3) := by decide +kernel
theorem dX12_gather_92 : decode cX12_gather 92 = .ok (.aload_n 0, 1) := by decide +kernel
theorem dX12_gather_93 : decode cX12_gather 93 = .ok (.aload_n 0, 1) := by decide +kernel
theorem dX12_gather_94 : decode cX12_gather 94 = .ok (.getfield 70, 3) := by decide +kernel
theorem dX12_gather_97 : decode cX12_gather 97 = .ok (.iload 4, 2) := by decide +kernel
theorem dX12_gather_99 : decode cX12_gather 99 = .ok (.iconst 1, 1) := by decide +kernel
theorem dX12_gather_100 : decode cX12_gather 100 = .ok (.isub, 1) := by decide +kernel
theorem dX12_gather_101 : decode cX12_gather 101 = .ok (.iaload, 1) := by decide +kernel
theorem dX12_gather_102 : decode cX12_gather 102 = .ok (.aload_n 0, 1) := by decide +kernel
theorem dX12_gather_103 : decode cX12_gather 103 = .ok (.getfield 70, 3) := by decide +kernel
theorem dX12_gather_106 : decode cX12_gather 106 = .ok (.iload 4, 2) := by decide +kernel
theorem dX12_gather_108 : decode cX12_gather 108 = .ok (.iaload, 1) := by decide +kernel
theorem dX12_gather_109 : decode cX12_gather 109 = .ok (.iload_n 2, 1) := by decide +kernel
theorem dX12_gather_110 : decode cX12_gather 110 = .ok (.invokevirtual 178, 3) := by decide +kernel
theorem dX12_gather_113 : decode cX12_gather 113 = .ok (.ifCond .eq 7, 3) := by decide +kernel
theorem dX12_gather_116 : decode cX12_gather 116 = .ok (.iconst 1, 1) := by decide +kernel
theorem dX12_gather_117 : decode cX12_gather 117 = .ok (.goto 4, 3) := by decide +kernel
theorem dX12_gather_120 : decode cX12_gather 120 = .ok (.iconst 0, 1) := by decide +kernel
theorem dX12_gather_121 : decode cX12_gather 121 = .ok (.iadd, 1) := by decide +kernel
theorem dX12_gather_122 : decode cX12_gather 122 = .ok (.istore_n 3, 1) := by decide +kernel
theorem dX12_gather_123 : decode cX12_gather 123 = .ok (.aload_n 0, 1) := by decide +kernel
theorem dX12_gather_124 : decode cX12_gather 124 = .ok (.getfield 61, 3) := by decide +kernel
theorem dX12_gather_127 : decode cX12_gather 127 = .ok (.bipush 12, 2) := by decide +kernel
theorem dX12_gather_129 : decode cX12_gather 129 = .ok (.iload_n 1, 1) := by decide +kernel
theorem dX12_gather_130 : decode cX12_gather 130 = .ok (.imul, 1) := by decide +kernel
theorem dX12_gather_131 : decode cX12_gather 131 = .ok (.aload_n 0, 1) := by decide +kernel
theorem dX12_gather_132 : decode cX12_gather 132 = .ok (.getfield 70, 3) := by decide +kernel
theorem dX12_gather_135 : decode cX12_gather 135 = .ok (.iload 4, 2) := by decide +kernel
theorem dX12_gather_137 : decode cX12_gather 137 = .ok (.iaload, 1) := by decide +kernel
theorem dX12_gather_138 : decode cX12_gather 138 = .ok (.iadd, 1) := by decide +kernel
theorem dX12_gather_139 : decode cX12_gather 139 = .ok (.iload_n 3, 1) := by decide +kernel
theorem dX12_gather_140 : decode cX12_gather 140 = .ok (.iastore, 1) := by decide +kernel
theorem dX12_gather_141 : decode cX12_gather 141 = .ok (.iinc 4 1, 3) := by decide +kernel
theorem dX12_gather_144 : decode cX12_gather 144 = .ok (.goto (-67), 3) := by decide +kernel
theorem dX12_gather_147 : decode cX12_gather 147 = .ok (.aload_n 0, 1) := by decide +kernel
theorem dX12_gather_148 : decode cX12_gather 148 = .ok (.getfield 64, 3) := by decide +kernel
theorem dX12_gather_151 : decode cX12_gather 151 = .ok (.iload_n 1, 1) := by decide +kernel
theorem dX12_gather_152 : decode cX12_gather 152 = .ok (.iload_n 3, 1) := by decide +kernel
theorem dX12_gather_153 : decode cX12_gather 153 = .ok (.iconst 1, 1) := by decide +kernel
theorem dX12_gather_154 : decode cX12_gather 154 = .ok (.iadd, 1) := by decide +kernel
theorem dX12_gather_155 : decode cX12_gather 155 = .ok (.iastore, 1) := by decide +kernel
theorem dX12_gather_156 : decode cX12_gather 156 = .ok (.return_, 1) := by decide +kernel
def PJ_X12_gather_147 (d : Nat) (E : zb_E) (x0 : Int) (x1 : Int) (Q : Int → zb_M → Prop) (v3_147 : Int) (m147j : zb_M) : Prop :=
  (zb_inI (v3_147 + 1)) ∧ ((0 ≤ x1 ∧ x1 < 15) ∧ (∀ m155, m155 = zb_up m147j (E.2 x0 20) x1 (v3_147 + 1) → (Q 0 m155)))
def PJ_X12_gather_121 (d : Nat) (E : zb_E) (x0 : Int) (x1 : Int) (v3_77 : Int) (v4_77 : Int) (m77l : zb_M) (X77 : Int → Int → zb_M → Prop) (Q : Int → zb_M → Prop) (s1_121 : Int) : Prop :=
  (zb_inI (v3_77 + s1_121)) ∧ ((zb_inI (12 * x1)) ∧ ((0 ≤ v4_77 ∧ v4_77 < 12) ∧ ((zb_inI ((12 * x1) + (m77l (E.2 x0 22) v4_77))) ∧ ((0 ≤ ((12 * x1) + (m77l (E.2 x0 22) v4_77)) ∧ ((12 * x1) + (m77l (E.2 x0 22) v4_77)) < 180) ∧ (∀ m140, m140 = zb_up m77l (E.2 x0 19) ((12 * x1) + (m77l (E.2 x0 22) v4_77)) (v3_77 + s1_121) → ((zb_inI (v4_77 + 1)) ∧ (X77 (v3_77 + s1_121) (v4_77 + 1) m140)))))))
def PJ_X12_gather_116 (d : Nat) (E : zb_E) (x0 : Int) (x1 : Int) (v3_77 : Int) (v4_77 : Int) (m77l : zb_M) (X77 : Int → Int → zb_M → Prop) (Q : Int → zb_M → Prop)  : Prop :=
  PJ_X12_gather_121 d E x0 x1 v3_77 v4_77 m77l X77 Q 1
def PL_X12_gather_77 (d : Nat) (E : zb_E) (x0 : Int) (x1 : Int) (x2 : Int) (Q : Int → zb_M → Prop) (K147_77 : Int → zb_M → Prop) (v3_77 : Int) (v4_77 : Int) (m77l : zb_M) : Prop :=
  ∀ X77 : Int → Int → zb_M → Prop, (∀ (v3_77 : Int) (v4_77 : Int) (m77l : zb_M), (((m77l x0 15) ≤ v4_77 → K147_77 v3_77 m77l) ∧ (¬ (m77l x0 15) ≤ v4_77 → (v4_77 = 0 → PJ_X12_gather_116 d E x0 x1 v3_77 v4_77 m77l X77 Q) ∧ (¬ v4_77 = 0 → (zb_inI (v4_77 - 1)) ∧ ((0 ≤ (v4_77 - 1) ∧ (v4_77 - 1) < 12) ∧ ((0 ≤ v4_77 ∧ v4_77 < 12) ∧ (zb_Tp K_X12_orderSights d [(2, x0), (0, (m77l (E.2 x0 22) (v4_77 - 1))), (0, (m77l (E.2 x0 22) v4_77)), (0, x2)] E m77l (fun r110 => (r110 = 0 → PJ_X12_gather_121 d E x0 x1 v3_77 v4_77 m77l X77 Q 0) ∧ (¬ r110 = 0 → PJ_X12_gather_116 d E x0 x1 v3_77 v4_77 m77l X77 Q)))))))) → X77 v3_77 v4_77 m77l) → X77 v3_77 v4_77 m77l
def PJ_X12_gather_72 (d : Nat) (E : zb_E) (x0 : Int) (x1 : Int) (x2 : Int) (Q : Int → zb_M → Prop) (m72j : zb_M) : Prop :=
  PL_X12_gather_77 d E x0 x1 x2 Q (PJ_X12_gather_147 d E x0 x1 Q) (-1) 0 m72j
def PJ_X12_gather_58 (d : Nat) (E : zb_E) (x0 : Int) (v3_2 : Int) (X2 : Int → zb_M → Prop) (Q : Int → zb_M → Prop) (v4_58 : Int) (m58j : zb_M) : Prop :=
  (0 ≤ v4_58 ∧ v4_58 < 12) ∧ (∀ m65, m65 = zb_up m58j (E.2 x0 22) v4_58 v3_2 → ((zb_inI (v3_2 + 1)) ∧ (X2 (v3_2 + 1) m65)))
def PL_X12_gather_13 (d : Nat) (E : zb_E) (x0 : Int) (x2 : Int) (v3_2 : Int) (Q : Int → zb_M → Prop) (K58_13 : Int → zb_M → Prop) (v4_13 : Int) (m13l : zb_M) : Prop :=
  ∀ X13 : Int → zb_M → Prop, (∀ (v4_13 : Int) (m13l : zb_M), ((v4_13 ≤ 0 → K58_13 v4_13 m13l) ∧ (¬ v4_13 ≤ 0 → (zb_inI (v4_13 - 1)) ∧ ((0 ≤ (v4_13 - 1) ∧ (v4_13 - 1) < 12) ∧ (zb_Tp K_X12_orderSights d [(2, x0), (0, (m13l (E.2 x0 22) (v4_13 - 1))), (0, v3_2), (0, x2)] E m13l (fun r30 => (r30 ≤ 0 → K58_13 v4_13 m13l) ∧ (¬ r30 ≤ 0 → (0 ≤ v4_13 ∧ v4_13 < 12) ∧ (∀ m51, m51 = zb_up m13l (E.2 x0 22) v4_13 (m13l (E.2 x0 22) (v4_13 - 1)) → ((zb_inI (v4_13 + (-1))) ∧ (X13 (v4_13 + (-1)) m51))))))))) → X13 v4_13 m13l) → X13 v4_13 m13l
def PL_X12_gather_2 (d : Nat) (E : zb_E) (x0 : Int) (x2 : Int) (Q : Int → zb_M → Prop) (K72_2 : zb_M → Prop) (v3_2 : Int) (m2l : zb_M) : Prop :=
  ∀ X2 : Int → zb_M → Prop, (∀ (v3_2 : Int) (m2l : zb_M), (((m2l x0 15) ≤ v3_2 → K72_2 m2l) ∧ (¬ (m2l x0 15) ≤ v3_2 → PL_X12_gather_13 d E x0 x2 v3_2 Q (PJ_X12_gather_58 d E x0 v3_2 X2 Q) v3_2 m2l)) → X2 v3_2 m2l) → X2 v3_2 m2l
def PM_X12_gather (d : Nat) (E : zb_E) (x0 : Int) (x1 : Int) (x2 : Int) (m : zb_M) (Q : Int → zb_M → Prop) : Prop :=
  PL_X12_gather_2 d E x0 x2 Q (PJ_X12_gather_72 d E x0 x1 x2 Q) 0 m
set_option maxRecDepth 100000 in
set_option maxHeartbeats 4000000 in
theorem w_X12_gather {d : Nat} {E : zb_E} {x0 x1 x2 : Int} {m : zb_M} {Q : Int → zb_M → Prop} (h : PM_X12_gather d E x0 x1 x2 m Q) : zb_T K_X12_gather (d + 1) [(2, x0), (0, x1), (0, x2)] E m Q := by
  unfold PM_X12_gather at h
  refine zb_T_in gd_X12_gather rfl rfl (fun hW hA G C hF => ?_)
  have i_0 : zb_is E.1 x0 12 := zb_aH hA (by decide)
  show zb_WP _ _ 0 [(0, (2, x0)), (1, (0, x1)), (2, (0, x2))] [] _ _ _ _
  refine zb_iconst dX12_gather_0 (zb_inIc rfl) ?_
  refine zb_istore_n (L' := [(3, (0, 0)), (0, (2, x0)), (1, (0, x1)), (2, (0, x2))]) dX12_gather_1 rfl (by decide) rfl ?_
  refine zb_sub (L' := [(0, (2, x0)), (1, (0, x1)), (2, (0, x2)), (3, (0, 0))]) [1, 2, 3, 0] rfl ?_
  have hJ72 : ∀ (m72j : zb_M), zb_FIN E m72j → PJ_X12_gather_72 d E x0 x1 x2 Q m72j → zb_WP (G, C, d + 1, 0, 0, zb_q E Q) F_X12_gather 72 [(0, (2, x0)), (1, (0, x1)), (2, (0, x2))] [] E.1 m72j 0 0 := by
    intro m72j hF h
    unfold PJ_X12_gather_72 at h
    refine zb_iconst dX12_gather_72 (zb_inIc rfl) ?_
    refine zb_istore_n (L' := [(3, (0, (-1))), (0, (2, x0)), (1, (0, x1)), (2, (0, x2))]) dX12_gather_73 rfl (by decide) rfl ?_
    refine zb_iconst dX12_gather_74 (zb_inIc rfl) ?_
    refine zb_istore (L' := [(4, (0, 0)), (3, (0, (-1))), (0, (2, x0)), (1, (0, x1)), (2, (0, x2))]) dX12_gather_75 (by decide) rfl ?_
    refine zb_sub (L' := [(0, (2, x0)), (1, (0, x1)), (2, (0, x2)), (3, (0, (-1))), (4, (0, 0))]) [2, 3, 4, 1, 0] rfl ?_
    have hJ147 : ∀ (v3_147 : Int) (m147j : zb_M), zb_FIN E m147j → PJ_X12_gather_147 d E x0 x1 Q v3_147 m147j → zb_WP (G, C, d + 1, 0, 0, zb_q E Q) F_X12_gather 147 [(0, (2, x0)), (1, (0, x1)), (3, (0, v3_147))] [] E.1 m147j 0 0 := by
      intro v3_147 m147j hF h
      unfold PJ_X12_gather_147 at h
      refine zb_aload_n (j := 0) dX12_gather_147 rfl rfl ?_
      refine zb_gFa 20 dX12_gather_148 fl_X12_64 i_0 hW hF rfl rfl rfl (by decide) rfl 15 rfl (fun i1 l2 => ?_)
      refine zb_iload_n (j := 1) dX12_gather_151 rfl rfl ?_
      refine zb_iload_n (j := 2) dX12_gather_152 rfl rfl ?_
      refine zb_iconst dX12_gather_153 (zb_inIc rfl) ?_
      obtain ⟨o3, h⟩ := h
      refine zb_iadd dX12_gather_154 o3 ?_
      obtain ⟨o4, h⟩ := h
      refine zb_sI dX12_gather_155 i1 l2 o4.1 o4.2 hF (fun m155 e155 hF => ?_)
      have h := h m155 e155
      exact zb_rV dX12_gather_156 rfl hF h
    unfold PL_X12_gather_77 at h
    obtain ⟨X77, hX77⟩ : ∃ X : Int → Int → zb_M → Prop, ∀ (v3_77 : Int) (v4_77 : Int) (m77l : zb_M), (X v3_77 v4_77 m77l ↔ (zb_FIN E m77l → zb_WP (G, C, d + 1, 0, 0, zb_q E Q) F_X12_gather 77 [(0, (2, x0)), (1, (0, x1)), (2, (0, x2)), (3, (0, v3_77)), (4, (0, v4_77))] [] E.1 m77l 0 0)) := ⟨fun v3_77 v4_77 m77l => zb_FIN E m77l → zb_WP (G, C, d + 1, 0, 0, zb_q E Q) F_X12_gather 77 [(0, (2, x0)), (1, (0, x1)), (2, (0, x2)), (3, (0, v3_77)), (4, (0, v4_77))] [] E.1 m77l 0 0, fun _ _ _ => Iff.rfl⟩
    refine (hX77 _ _ _).mp (h X77 (fun v3_77 v4_77 m77l h => (hX77 _ _ _).mpr (fun hF => ?_))) hF
    refine zb_iload (j := 4) dX12_gather_77 rfl ?_
    refine zb_aload_n (j := 0) dX12_gather_79 rfl rfl ?_
    refine zb_gI 15 dX12_gather_80 fl_X12_175 i_0 rfl rfl ?_
    refine zb_icmp_ge (tgt := 147) dX12_gather_83 (by decide) (fun c5 => ?_) (fun c5 => ?_)
    · have h := h.1 c5
      refine zb_sub (L' := [(0, (2, x0)), (1, (0, x1)), (3, (0, v3_77))]) [0, 1, 3] rfl ?_
      exact hJ147 _ _ hF h
    · have h := h.2 c5
      refine zb_iload_n (j := 3) dX12_gather_86 rfl rfl ?_
      refine zb_iload (j := 4) dX12_gather_87 rfl ?_
      have hJ121 : ∀ (s1_121 : Int), zb_FIN E m77l → PJ_X12_gather_121 d E x0 x1 v3_77 v4_77 m77l X77 Q s1_121 → zb_WP (G, C, d + 1, 0, 0, zb_q E Q) F_X12_gather 121 [(0, (2, x0)), (1, (0, x1)), (2, (0, x2)), (4, (0, v4_77))] [(0, s1_121), (0, v3_77)] E.1 m77l 0 0 := by
        intro s1_121 hF h
        unfold PJ_X12_gather_121 at h
        obtain ⟨o6, h⟩ := h
        refine zb_iadd dX12_gather_121 o6 ?_
        refine zb_istore_n (L' := [(3, (0, (v3_77 + s1_121))), (0, (2, x0)), (1, (0, x1)), (2, (0, x2)), (4, (0, v4_77))]) dX12_gather_122 rfl (by decide) rfl ?_
        refine zb_aload_n (j := 1) dX12_gather_123 rfl rfl ?_
        refine zb_gFa 19 dX12_gather_124 fl_X12_61 i_0 hW hF rfl rfl rfl (by decide) rfl 180 rfl (fun i7 l8 => ?_)
        refine zb_bipush dX12_gather_127 (by decide) (zb_inIc rfl) ?_
        refine zb_iload_n (j := 2) dX12_gather_129 rfl rfl ?_
        obtain ⟨o9, h⟩ := h
        refine zb_imul dX12_gather_130 o9 ?_
        refine zb_aload_n (j := 1) dX12_gather_131 rfl rfl ?_
        refine zb_gFa 22 dX12_gather_132 fl_X12_70 i_0 hW hF rfl rfl rfl (by decide) rfl 12 rfl (fun i10 l11 => ?_)
        refine zb_iload (j := 4) dX12_gather_135 rfl ?_
        obtain ⟨o12, h⟩ := h
        refine zb_lI dX12_gather_137 i10 l11 o12.1 o12.2 ?_
        obtain ⟨o13, h⟩ := h
        refine zb_iadd dX12_gather_138 o13 ?_
        refine zb_iload_n (j := 0) dX12_gather_139 rfl rfl ?_
        obtain ⟨o14, h⟩ := h
        refine zb_sI dX12_gather_140 i7 l8 o14.1 o14.2 hF (fun m140 e140 hF => ?_)
        have h := h m140 e140
        obtain ⟨o15, h⟩ := h
        refine zb_iinc (j := 4) (L' := [(4, (0, (v4_77 + 1))), (3, (0, (v3_77 + s1_121))), (0, (2, x0)), (1, (0, x1)), (2, (0, x2))]) dX12_gather_141 rfl o15 (by decide) rfl ?_
        refine zb_goto (tgt := 77) dX12_gather_144 (by decide) ?_
        refine zb_sub (L' := [(0, (2, x0)), (1, (0, x1)), (2, (0, x2)), (3, (0, (v3_77 + s1_121))), (4, (0, (v4_77 + 1)))]) [2, 3, 4, 1, 0] rfl ?_
        exact (hX77 _ _ _).mp h hF
      have hJ116 : zb_FIN E m77l → PJ_X12_gather_116 d E x0 x1 v3_77 v4_77 m77l X77 Q  → zb_WP (G, C, d + 1, 0, 0, zb_q E Q) F_X12_gather 116 [(0, (2, x0)), (1, (0, x1)), (2, (0, x2)), (4, (0, v4_77))] [(0, v3_77)] E.1 m77l 0 0 := by
        intro  hF h
        unfold PJ_X12_gather_116 at h
        refine zb_iconst dX12_gather_116 (zb_inIc rfl) ?_
        refine zb_goto (tgt := 121) dX12_gather_117 (by decide) ?_
        exact hJ121 _ hF h
      refine zb_if_eq (tgt := 116) dX12_gather_89 (by decide) (fun c16 => ?_) (fun c16 => ?_)
      · have h := h.1 c16
        refine zb_sub (L' := [(0, (2, x0)), (1, (0, x1)), (2, (0, x2)), (4, (0, v4_77))]) [0, 1, 2, 4] rfl ?_
        exact hJ116 hF h
      · have h := h.2 c16
        refine zb_aload_n (j := 0) dX12_gather_92 rfl rfl ?_
        refine zb_aload_n (j := 0) dX12_gather_93 rfl rfl ?_
        refine zb_gFa 22 dX12_gather_94 fl_X12_70 i_0 hW hF rfl rfl rfl (by decide) rfl 12 rfl (fun i17 l18 => ?_)
        refine zb_iload (j := 4) dX12_gather_97 rfl ?_
        refine zb_iconst dX12_gather_99 (zb_inIc rfl) ?_
        obtain ⟨o19, h⟩ := h
        refine zb_isub dX12_gather_100 o19 ?_
        obtain ⟨o20, h⟩ := h
        refine zb_lI dX12_gather_101 i17 l18 o20.1 o20.2 ?_
        refine zb_aload_n (j := 0) dX12_gather_102 rfl rfl ?_
        refine zb_gFa 22 dX12_gather_103 fl_X12_70 i_0 hW hF rfl rfl rfl (by decide) rfl 12 rfl (fun i21 l22 => ?_)
        refine zb_iload (j := 4) dX12_gather_106 rfl ?_
        obtain ⟨o23, h⟩ := h
        refine zb_lI dX12_gather_108 i21 l22 o23.1 o23.2 ?_
        refine zb_iload_n (j := 2) dX12_gather_109 rfl rfl ?_
        refine zb_cVp (As := [(0, (m77l (E.2 x0 22) (v4_77 - 1))), (0, (m77l (E.2 x0 22) v4_77)), (0, x2)]) (As' := [(0, x2), (0, (m77l (E.2 x0 22) v4_77)), (0, (m77l (E.2 x0 22) (v4_77 - 1)))]) (st := [(0, v3_77)]) dX12_gather_110 lk_X12_178 gd_X12_orderSights rfl rfl i_0 ⟨_, rfl, rfl⟩ h hW hF (zb_aR i_0 (zb_aI (zb_aI (zb_aI zb_a0)))) (Nat.le_refl _) (Nat.le_of_ble_eq_true rfl) (fun r110 h => ?_)
        show zb_WP _ _ _ _ [(0, r110), (0, v3_77)] _ _ _ _
        refine zb_if_eq (tgt := 120) dX12_gather_113 (by decide) (fun c24 => ?_) (fun c24 => ?_)
        · have h := h.1 c24
          refine zb_iconst dX12_gather_120 (zb_inIc rfl) ?_
          refine zb_sub (L' := [(0, (2, x0)), (1, (0, x1)), (2, (0, x2)), (4, (0, v4_77))]) [0, 1, 2, 4] rfl ?_
          exact hJ121 _ hF h
        · have h := h.2 c24
          refine zb_sub (L' := [(0, (2, x0)), (1, (0, x1)), (2, (0, x2)), (4, (0, v4_77))]) [0, 1, 2, 4] rfl ?_
          exact hJ116 hF h
  unfold PL_X12_gather_2 at h
  obtain ⟨X2, hX2⟩ : ∃ X : Int → zb_M → Prop, ∀ (v3_2 : Int) (m2l : zb_M), (X v3_2 m2l ↔ (zb_FIN E m2l → zb_WP (G, C, d + 1, 0, 0, zb_q E Q) F_X12_gather 2 [(0, (2, x0)), (1, (0, x1)), (2, (0, x2)), (3, (0, v3_2))] [] E.1 m2l 0 0)) := ⟨fun v3_2 m2l => zb_FIN E m2l → zb_WP (G, C, d + 1, 0, 0, zb_q E Q) F_X12_gather 2 [(0, (2, x0)), (1, (0, x1)), (2, (0, x2)), (3, (0, v3_2))] [] E.1 m2l 0 0, fun _ _ => Iff.rfl⟩
  refine (hX2 _ _).mp (h X2 (fun v3_2 m2l h => (hX2 _ _).mpr (fun hF => ?_))) hF
  refine zb_iload_n (j := 3) dX12_gather_2 rfl rfl ?_
  refine zb_aload_n (j := 0) dX12_gather_3 rfl rfl ?_
  refine zb_gI 15 dX12_gather_4 fl_X12_175 i_0 rfl rfl ?_
  refine zb_icmp_ge (tgt := 72) dX12_gather_7 (by decide) (fun c25 => ?_) (fun c25 => ?_)
  · have h := h.1 c25
    refine zb_sub (L' := [(0, (2, x0)), (1, (0, x1)), (2, (0, x2))]) [0, 1, 2] rfl ?_
    exact hJ72 _ hF h
  · have h := h.2 c25
    refine zb_iload_n (j := 3) dX12_gather_10 rfl rfl ?_
    refine zb_istore (L' := [(4, (0, v3_2)), (0, (2, x0)), (1, (0, x1)), (2, (0, x2)), (3, (0, v3_2))]) dX12_gather_11 (by decide) rfl ?_
    refine zb_sub (L' := [(0, (2, x0)), (1, (0, x1)), (2, (0, x2)), (3, (0, v3_2)), (4, (0, v3_2))]) [1, 2, 3, 4, 0] rfl ?_
    have hJ58 : ∀ (v4_58 : Int) (m58j : zb_M), zb_FIN E m58j → PJ_X12_gather_58 d E x0 v3_2 X2 Q v4_58 m58j → zb_WP (G, C, d + 1, 0, 0, zb_q E Q) F_X12_gather 58 [(0, (2, x0)), (1, (0, x1)), (2, (0, x2)), (3, (0, v3_2)), (4, (0, v4_58))] [] E.1 m58j 0 0 := by
      intro v4_58 m58j hF h
      unfold PJ_X12_gather_58 at h
      refine zb_aload_n (j := 0) dX12_gather_58 rfl rfl ?_
      refine zb_gFa 22 dX12_gather_59 fl_X12_70 i_0 hW hF rfl rfl rfl (by decide) rfl 12 rfl (fun i26 l27 => ?_)
      refine zb_iload (j := 4) dX12_gather_62 rfl ?_
      refine zb_iload_n (j := 3) dX12_gather_64 rfl rfl ?_
      obtain ⟨o28, h⟩ := h
      refine zb_sI dX12_gather_65 i26 l27 o28.1 o28.2 hF (fun m65 e65 hF => ?_)
      have h := h m65 e65
      obtain ⟨o29, h⟩ := h
      refine zb_iinc (j := 3) (L' := [(3, (0, (v3_2 + 1))), (0, (2, x0)), (1, (0, x1)), (2, (0, x2)), (4, (0, v4_58))]) dX12_gather_66 rfl o29 (by decide) rfl ?_
      refine zb_goto (tgt := 2) dX12_gather_69 (by decide) ?_
      refine zb_sub (L' := [(0, (2, x0)), (1, (0, x1)), (2, (0, x2)), (3, (0, (v3_2 + 1)))]) [1, 2, 3, 0] rfl ?_
      exact (hX2 _ _).mp h hF
    unfold PL_X12_gather_13 at h
    obtain ⟨X13, hX13⟩ : ∃ X : Int → zb_M → Prop, ∀ (v4_13 : Int) (m13l : zb_M), (X v4_13 m13l ↔ (zb_FIN E m13l → zb_WP (G, C, d + 1, 0, 0, zb_q E Q) F_X12_gather 13 [(0, (2, x0)), (1, (0, x1)), (2, (0, x2)), (3, (0, v3_2)), (4, (0, v4_13))] [] E.1 m13l 0 0)) := ⟨fun v4_13 m13l => zb_FIN E m13l → zb_WP (G, C, d + 1, 0, 0, zb_q E Q) F_X12_gather 13 [(0, (2, x0)), (1, (0, x1)), (2, (0, x2)), (3, (0, v3_2)), (4, (0, v4_13))] [] E.1 m13l 0 0, fun _ _ => Iff.rfl⟩
    refine (hX13 _ _).mp (h X13 (fun v4_13 m13l h => (hX13 _ _).mpr (fun hF => ?_))) hF
    refine zb_iload (j := 4) dX12_gather_13 rfl ?_
    refine zb_if_le (tgt := 58) dX12_gather_15 (by decide) (fun c30 => ?_) (fun c30 => ?_)
    · have h := h.1 c30
      exact hJ58 _ _ hF h
    · have h := h.2 c30
      refine zb_aload_n (j := 0) dX12_gather_18 rfl rfl ?_
      refine zb_aload_n (j := 0) dX12_gather_19 rfl rfl ?_
      refine zb_gFa 22 dX12_gather_20 fl_X12_70 i_0 hW hF rfl rfl rfl (by decide) rfl 12 rfl (fun i31 l32 => ?_)
      refine zb_iload (j := 4) dX12_gather_23 rfl ?_
      refine zb_iconst dX12_gather_25 (zb_inIc rfl) ?_
      obtain ⟨o33, h⟩ := h
      refine zb_isub dX12_gather_26 o33 ?_
      obtain ⟨o34, h⟩ := h
      refine zb_lI dX12_gather_27 i31 l32 o34.1 o34.2 ?_
      refine zb_iload_n (j := 3) dX12_gather_28 rfl rfl ?_
      refine zb_iload_n (j := 2) dX12_gather_29 rfl rfl ?_
      refine zb_cVp (As := [(0, (m13l (E.2 x0 22) (v4_13 - 1))), (0, v3_2), (0, x2)]) (As' := [(0, x2), (0, v3_2), (0, (m13l (E.2 x0 22) (v4_13 - 1)))]) (st := []) dX12_gather_30 lk_X12_178 gd_X12_orderSights rfl rfl i_0 ⟨_, rfl, rfl⟩ h hW hF (zb_aR i_0 (zb_aI (zb_aI (zb_aI zb_a0)))) (Nat.le_refl _) (Nat.le_of_ble_eq_true rfl) (fun r30 h => ?_)
      show zb_WP _ _ _ _ [(0, r30)] _ _ _ _
      refine zb_if_le (tgt := 58) dX12_gather_33 (by decide) (fun c35 => ?_) (fun c35 => ?_)
      · have h := h.1 c35
        exact hJ58 _ _ hF h
      · have h := h.2 c35
        refine zb_aload_n (j := 0) dX12_gather_36 rfl rfl ?_
        refine zb_gFa 22 dX12_gather_37 fl_X12_70 i_0 hW hF rfl rfl rfl (by decide) rfl 12 rfl (fun i36 l37 => ?_)
        refine zb_iload (j := 4) dX12_gather_40 rfl ?_
        refine zb_aload_n (j := 0) dX12_gather_42 rfl rfl ?_
        refine zb_gFa 22 dX12_gather_43 fl_X12_70 i_0 hW hF rfl rfl rfl (by decide) rfl 12 rfl (fun i38 l39 => ?_)
        refine zb_iload (j := 4) dX12_gather_46 rfl ?_
        refine zb_iconst dX12_gather_48 (zb_inIc rfl) ?_
        refine zb_isub dX12_gather_49 o33 ?_
        refine zb_lI dX12_gather_50 i38 l39 o34.1 o34.2 ?_
        obtain ⟨o40, h⟩ := h
        refine zb_sI dX12_gather_51 i36 l37 o40.1 o40.2 hF (fun m51 e51 hF => ?_)
        have h := h m51 e51
        obtain ⟨o41, h⟩ := h
        refine zb_iinc (j := 4) (L' := [(4, (0, (v4_13 + (-1)))), (0, (2, x0)), (1, (0, x1)), (2, (0, x2)), (3, (0, v3_2))]) dX12_gather_52 rfl o41 (by decide) rfl ?_
        refine zb_goto (tgt := 13) dX12_gather_55 (by decide) ?_
        refine zb_sub (L' := [(0, (2, x0)), (1, (0, x1)), (2, (0, x2)), (3, (0, v3_2)), (4, (0, (v4_13 + (-1))))]) [1, 2, 3, 4, 0] rfl ?_
        exact (hX13 _ _).mp h hF
theorem dX12_start_0 : decode cX12_start 0 = .ok (.iconst 0, 1) := by decide +kernel
theorem dX12_start_1 : decode cX12_start 1 = .ok (.istore_n 2, 1) := by decide +kernel
theorem dX12_start_2 : decode cX12_start 2 = .ok (.iload_n 2, 1) := by decide +kernel
theorem dX12_start_3 : decode cX12_start 3 = .ok (.aload_n 0, 1) := by decide +kernel
theorem dX12_start_4 : decode cX12_start 4 = .ok (.getfield 175, 3) := by decide +kernel
theorem dX12_start_7 : decode cX12_start 7 = .ok (.if_icmp .ge 25, 3) := by decide +kernel
theorem dX12_start_10 : decode cX12_start 10 = .ok (.aload_n 0, 1) := by decide +kernel
theorem dX12_start_11 : decode cX12_start 11 = .ok (.getfield 67, 3) := by decide +kernel
theorem dX12_start_14 : decode cX12_start 14 = .ok (.sipush 220, 3) := by decide +kernel
theorem dX12_start_17 : decode cX12_start 17 = .ok (.iload_n 2, 1) := by decide +kernel
theorem dX12_start_18 : decode cX12_start 18 = .ok (.imul, 1) := by decide +kernel
theorem dX12_start_19 : decode cX12_start 19 = .ok (.aload_n 0, 1) := by decide +kernel
theorem dX12_start_20 : decode cX12_start 20 = .ok (.getfield 55, 3) := by decide +kernel
theorem dX12_start_23 : decode cX12_start 23 = .ok (.iload_n 2, 1) := by decide +kernel
theorem dX12_start_24 : decode cX12_start 24 = .ok (.iaload, 1) := by decide +kernel
theorem dX12_start_25 : decode cX12_start 25 = .ok (.iastore, 1) := by decide +kernel
theorem dX12_start_26 : decode cX12_start 26 = .ok (.iinc 2 1, 3) := by decide +kernel
theorem dX12_start_29 : decode cX12_start 29 = .ok (.goto (-27), 3) := by decide +kernel
theorem dX12_start_32 : decode cX12_start 32 = .ok (.aload_n 0, 1) := by decide +kernel
theorem dX12_start_33 : decode cX12_start 33 = .ok (.iload_n 1, 1) := by decide +kernel
theorem dX12_start_34 : decode cX12_start 34 = .ok (.iconst 1, 1) := by decide +kernel
theorem dX12_start_35 : decode cX12_start 35 = .ok (.invokevirtual 181, 3) := by decide +kernel
theorem dX12_start_38 : decode cX12_start 38 = .ok (.return_, 1) := by decide +kernel
def PJ_X12_start_32 (d : Nat) (E : zb_E) (x0 : Int) (x1 : Int) (Q : Int → zb_M → Prop) (m32j : zb_M) : Prop :=
  zb_T K_X12_gather d [(2, x0), (0, x1), (0, 1)] E m32j (fun r35 m35 => Q 0 m35)
def PL_X12_start_2 (d : Nat) (E : zb_E) (x0 : Int) (Q : Int → zb_M → Prop) (K32_2 : zb_M → Prop) (v2_2 : Int) (m2l : zb_M) : Prop :=
  ∀ X2 : Int → zb_M → Prop, (∀ (v2_2 : Int) (m2l : zb_M), (((m2l x0 15) ≤ v2_2 → K32_2 m2l) ∧ (¬ (m2l x0 15) ≤ v2_2 → (zb_inI (220 * v2_2)) ∧ ((0 ≤ v2_2 ∧ v2_2 < 12) ∧ ((0 ≤ (220 * v2_2) ∧ (220 * v2_2) < 2640) ∧ (∀ m25, m25 = zb_up m2l (E.2 x0 21) (220 * v2_2) (m2l (E.2 x0 17) v2_2) → ((zb_inI (v2_2 + 1)) ∧ (X2 (v2_2 + 1) m25))))))) → X2 v2_2 m2l) → X2 v2_2 m2l
def PM_X12_start (d : Nat) (E : zb_E) (x0 : Int) (x1 : Int) (m : zb_M) (Q : Int → zb_M → Prop) : Prop :=
  PL_X12_start_2 d E x0 Q (PJ_X12_start_32 d E x0 x1 Q) 0 m
set_option maxRecDepth 100000 in
set_option maxHeartbeats 4000000 in
theorem w_X12_start {d : Nat} {E : zb_E} {x0 x1 : Int} {m : zb_M} {Q : Int → zb_M → Prop} (h : PM_X12_start d E x0 x1 m Q) : zb_T K_X12_start (d + 1) [(2, x0), (0, x1)] E m Q := by
  unfold PM_X12_start at h
  refine zb_T_in gd_X12_start rfl rfl (fun hW hA G C hF => ?_)
  have i_0 : zb_is E.1 x0 12 := zb_aH hA (by decide)
  show zb_WP _ _ 0 [(0, (2, x0)), (1, (0, x1))] [] _ _ _ _
  refine zb_iconst dX12_start_0 (zb_inIc rfl) ?_
  refine zb_istore_n (L' := [(2, (0, 0)), (0, (2, x0)), (1, (0, x1))]) dX12_start_1 rfl (by decide) rfl ?_
  refine zb_sub (L' := [(0, (2, x0)), (1, (0, x1)), (2, (0, 0))]) [1, 2, 0] rfl ?_
  have hJ32 : ∀ (m32j : zb_M), zb_FIN E m32j → PJ_X12_start_32 d E x0 x1 Q m32j → zb_WP (G, C, d + 1, 0, 0, zb_q E Q) F_X12_start 32 [(0, (2, x0)), (1, (0, x1))] [] E.1 m32j 0 0 := by
    intro m32j hF h
    unfold PJ_X12_start_32 at h
    refine zb_aload_n (j := 0) dX12_start_32 rfl rfl ?_
    refine zb_iload_n (j := 1) dX12_start_33 rfl rfl ?_
    refine zb_iconst dX12_start_34 (zb_inIc rfl) ?_
    refine zb_cV (As := [(0, x1), (0, 1)]) (As' := [(0, 1), (0, x1)]) (st := []) dX12_start_35 lk_X12_181 gd_X12_gather rfl rfl i_0 ⟨_, rfl, rfl⟩ h hW hF (zb_aR i_0 (zb_aI (zb_aI zb_a0))) (Nat.le_refl _) (Nat.le_of_ble_eq_true rfl) (fun r35 m35 hF h => ?_)
    show zb_WP _ _ _ _ [] _ _ _ _
    exact zb_rV dX12_start_38 rfl hF h
  unfold PL_X12_start_2 at h
  obtain ⟨X2, hX2⟩ : ∃ X : Int → zb_M → Prop, ∀ (v2_2 : Int) (m2l : zb_M), (X v2_2 m2l ↔ (zb_FIN E m2l → zb_WP (G, C, d + 1, 0, 0, zb_q E Q) F_X12_start 2 [(0, (2, x0)), (1, (0, x1)), (2, (0, v2_2))] [] E.1 m2l 0 0)) := ⟨fun v2_2 m2l => zb_FIN E m2l → zb_WP (G, C, d + 1, 0, 0, zb_q E Q) F_X12_start 2 [(0, (2, x0)), (1, (0, x1)), (2, (0, v2_2))] [] E.1 m2l 0 0, fun _ _ => Iff.rfl⟩
  refine (hX2 _ _).mp (h X2 (fun v2_2 m2l h => (hX2 _ _).mpr (fun hF => ?_))) hF
  refine zb_iload_n (j := 2) dX12_start_2 rfl rfl ?_
  refine zb_aload_n (j := 0) dX12_start_3 rfl rfl ?_
  refine zb_gI 15 dX12_start_4 fl_X12_175 i_0 rfl rfl ?_
  refine zb_icmp_ge (tgt := 32) dX12_start_7 (by decide) (fun c1 => ?_) (fun c1 => ?_)
  · have h := h.1 c1
    refine zb_sub (L' := [(0, (2, x0)), (1, (0, x1))]) [0, 1] rfl ?_
    exact hJ32 _ hF h
  · have h := h.2 c1
    refine zb_aload_n (j := 0) dX12_start_10 rfl rfl ?_
    refine zb_gFa 21 dX12_start_11 fl_X12_67 i_0 hW hF rfl rfl rfl (by decide) rfl 2640 rfl (fun i2 l3 => ?_)
    refine zb_sipush dX12_start_14 (by decide) (zb_inIc rfl) ?_
    refine zb_iload_n (j := 2) dX12_start_17 rfl rfl ?_
    obtain ⟨o4, h⟩ := h
    refine zb_imul dX12_start_18 o4 ?_
    refine zb_aload_n (j := 0) dX12_start_19 rfl rfl ?_
    refine zb_gFa 17 dX12_start_20 fl_X12_55 i_0 hW hF rfl rfl rfl (by decide) rfl 12 rfl (fun i5 l6 => ?_)
    refine zb_iload_n (j := 2) dX12_start_23 rfl rfl ?_
    obtain ⟨o7, h⟩ := h
    refine zb_lI dX12_start_24 i5 l6 o7.1 o7.2 ?_
    obtain ⟨o8, h⟩ := h
    refine zb_sI dX12_start_25 i2 l3 o8.1 o8.2 hF (fun m25 e25 hF => ?_)
    have h := h m25 e25
    obtain ⟨o9, h⟩ := h
    refine zb_iinc (j := 2) (L' := [(2, (0, (v2_2 + 1))), (0, (2, x0)), (1, (0, x1))]) dX12_start_26 rfl o9 (by decide) rfl ?_
    refine zb_goto (tgt := 2) dX12_start_29 (by decide) ?_
    refine zb_sub (L' := [(0, (2, x0)), (1, (0, x1)), (2, (0, (v2_2 + 1)))]) [1, 2, 0] rfl ?_
    exact (hX2 _ _).mp h hF
theorem dX12_see_0 : decode cX12_see 0 = .ok (.aload_n 0, 1) := by decide +kernel
theorem dX12_see_1 : decode cX12_see 1 = .ok (.getfield 64, 3) := by decide +kernel
theorem dX12_see_4 : decode cX12_see 4 = .ok (.iload_n 1, 1) := by decide +kernel
theorem dX12_see_5 : decode cX12_see 5 = .ok (.iaload, 1) := by decide +kernel
theorem dX12_see_6 : decode cX12_see 6 = .ok (.istore_n 3, 1) := by decide +kernel
theorem dX12_see_7 : decode cX12_see 7 = .ok (.sipush 220, 3) := by decide +kernel
theorem dX12_see_10 : decode cX12_see 10 = .ok (.iload_n 2, 1) := by decide +kernel
theorem dX12_see_11 : decode cX12_see 11 = .ok (.imul, 1) := by decide +kernel
theorem dX12_see_12 : decode cX12_see 12 = .ok (.istore 4, 2) := by decide +kernel
theorem dX12_see_14 : decode cX12_see 14 = .ok (.aload_n 0, 1) := by decide +kernel
theorem dX12_see_15 : decode cX12_see 15 = .ok (.getfield 67, 3) := by decide +kernel
theorem dX12_see_18 : decode cX12_see 18 = .ok (.iload 4, 2) := by decide +kernel
theorem dX12_see_20 : decode cX12_see 20 = .ok (.aload_n 0, 1) := by decide +kernel
theorem dX12_see_21 : decode cX12_see 21 = .ok (.getfield 61, 3) := by decide +kernel
theorem dX12_see_24 : decode cX12_see 24 = .ok (.bipush 12, 2) := by decide +kernel
theorem dX12_see_26 : decode cX12_see 26 = .ok (.iload_n 1, 1) := by decide +kernel
theorem dX12_see_27 : decode cX12_see 27 = .ok (.imul, 1) := by decide +kernel
theorem dX12_see_28 : decode cX12_see 28 = .ok (.iload_n 2, 1) := by decide +kernel
theorem dX12_see_29 : decode cX12_see 29 = .ok (.iadd, 1) := by decide +kernel
theorem dX12_see_30 : decode cX12_see 30 = .ok (.iaload, 1) := by decide +kernel
theorem dX12_see_31 : decode cX12_see 31 = .ok (.iastore, 1) := by decide +kernel
theorem dX12_see_32 : decode cX12_see 32 = .ok (.iconst 1, 1) := by decide +kernel
theorem dX12_see_33 : decode cX12_see 33 = .ok (.istore 5, 2) := by decide +kernel
theorem dX12_see_35 : decode cX12_see 35 = .ok (.iload 5, 2) := by decide +kernel
theorem dX12_see_37 : decode cX12_see 37 = .ok (.bipush 18, 2) := by decide +kernel
theorem dX12_see_39 : decode cX12_see 39 = .ok (.iload_n 3, 1) := by decide +kernel
theorem dX12_see_40 : decode cX12_see 40 = .ok (.imul, 1) := by decide +kernel
theorem dX12_see_41 : decode cX12_see 41 = .ok (.if_icmp .gt 20, 3) := by decide +kernel
theorem dX12_see_44 : decode cX12_see 44 = .ok (.aload_n 0, 1) := by decide +kernel
theorem dX12_see_45 : decode cX12_see 45 = .ok (.getfield 67, 3) := by decide +kernel
theorem dX12_see_48 : decode cX12_see 48 = .ok (.iload 4, 2) := by decide +kernel
theorem dX12_see_50 : decode cX12_see 50 = .ok (.iload 5, 2) := by decide +kernel
theorem dX12_see_52 : decode cX12_see 52 = .ok (.iadd, 1) := by decide +kernel
theorem dX12_see_53 : decode cX12_see 53 = .ok (.iconst 0, 1) := by decide +kernel
theorem dX12_see_54 : decode cX12_see 54 = .ok (.iastore, 1) := by decide +kernel
theorem dX12_see_55 : decode cX12_see 55 = .ok (.iinc 5 1, 3) := by decide +kernel
theorem dX12_see_58 : decode cX12_see 58 = .ok (.goto (-23), 3) := by decide +kernel
theorem dX12_see_61 : decode cX12_see 61 = .ok (.iconst 0, 1) := by decide +kernel
theorem dX12_see_62 : decode cX12_see 62 = .ok (.istore 5, 2) := by decide +kernel
theorem dX12_see_64 : decode cX12_see 64 = .ok (.iload 5, 2) := by decide +kernel
theorem dX12_see_66 : decode cX12_see 66 = .ok (.aload_n 0, 1) := by decide +kernel
theorem dX12_see_67 : decode cX12_see 67 = .ok (.getfield 175, 3) := by decide +kernel
theorem dX12_see_70 : decode cX12_see 70 = .ok (.if_icmp .ge 106, 3) := by decide +kernel
theorem dX12_see_73 : decode cX12_see 73 = .ok (.aload_n 0, 1) := by decide +kernel
theorem dX12_see_74 : decode cX12_see 74 = .ok (.getfield 61, 3) := by decide +kernel
theorem dX12_see_77 : decode cX12_see 77 = .ok (.bipush 12, 2) := by decide +kernel
theorem dX12_see_79 : decode cX12_see 79 = .ok (.iload_n 1, 1) := by decide +kernel
theorem dX12_see_80 : decode cX12_see 80 = .ok (.imul, 1) := by decide +kernel
theorem dX12_see_81 : decode cX12_see 81 = .ok (.iload 5, 2) := by decide +kernel
theorem dX12_see_83 : decode cX12_see 83 = .ok (.iadd, 1) := by decide +kernel
theorem dX12_see_84 : decode cX12_see 84 = .ok (.iaload, 1) := by decide +kernel
theorem dX12_see_85 : decode cX12_see 85 = .ok (.istore 6, 2) := by decide +kernel
theorem dX12_see_87 : decode cX12_see 87 = .ok (.aload_n 0, 1) := by decide +kernel
theorem dX12_see_88 : decode cX12_see 88 = .ok (.getfield 58, 3) := by decide +kernel
theorem dX12_see_91 : decode cX12_see 91 = .ok (.bipush 12, 2) := by decide +kernel
theorem dX12_see_93 : decode cX12_see 93 = .ok (.iload_n 2, 1) := by decide +kernel
theorem dX12_see_94 : decode cX12_see 94 = .ok (.imul, 1) := by decide +kernel
theorem dX12_see_95 : decode cX12_see 95 = .ok (.iload 5, 2) := by decide +kernel
theorem dX12_see_97 : decode cX12_see 97 = .ok (.iadd, 1) := by decide +kernel
theorem dX12_see_98 : decode cX12_see 98 = .ok (.iaload, 1) := by decide +kernel
theorem dX12_see_99 : decode cX12_see 99 = .ok (.istore 7, 2) := by decide +kernel
theorem dX12_see_101 : decode cX12_see 101 = .ok (.aload_n 0, 1) := by decide +kernel
theorem dX12_see_102 : decode cX12_see 102 = .ok (.getfield 58, 3) := by decide +kernel
theorem dX12_see_105 : decode cX12_see 105 = .ok (.bipush 12, 2) := by decide +kernel
theorem dX12_see_107 : decode cX12_see 107 = .ok (.iload 5, 2) := by decide +kernel
theorem dX12_see_109 : decode cX12_see 109 = .ok (.imul, 1) := by decide +kernel
theorem dX12_see_110 : decode cX12_see 110 = .ok (.iload_n 2, 1) := by decide +kernel
theorem dX12_see_111 : decode cX12_see 111 = .ok (.iadd, 1) := by decide +kernel
theorem dX12_see_112 : decode cX12_see 112 = .ok (.iaload, 1) := by decide +kernel
theorem dX12_see_113 : decode cX12_see 113 = .ok (.istore 8, 2) := by decide +kernel
theorem dX12_see_115 : decode cX12_see 115 = .ok (.iload 7, 2) := by decide +kernel
theorem dX12_see_117 : decode cX12_see 117 = .ok (.ifCond .le 23, 3) := by decide +kernel
theorem dX12_see_120 : decode cX12_see 120 = .ok (.aload_n 0, 1) := by decide +kernel
theorem dX12_see_121 : decode cX12_see 121 = .ok (.getfield 67, 3) := by decide +kernel
theorem dX12_see_124 : decode cX12_see 124 = .ok (.iload 4, 2) := by decide +kernel
theorem dX12_see_126 : decode cX12_see 126 = .ok (.bipush 9, 2) := by decide +kernel
theorem dX12_see_128 : decode cX12_see 128 = .ok (.iload 6, 2) := by decide +kernel
theorem dX12_see_130 : decode cX12_see 130 = .ok (.imul, 1) := by decide +kernel
theorem dX12_see_131 : decode cX12_see 131 = .ok (.iadd, 1) := by decide +kernel
theorem dX12_see_132 : decode cX12_see 132 = .ok (.iload 7, 2) := by decide +kernel
theorem dX12_see_134 : decode cX12_see 134 = .ok (.iadd, 1) := by decide +kernel
theorem dX12_see_135 : decode cX12_see 135 = .ok (.dup2, 1) := by decide +kernel
theorem dX12_see_136 : decode cX12_see 136 = .ok (.iaload, 1) := by decide +kernel
theorem dX12_see_137 : decode cX12_see 137 = .ok (.iconst 1, 1) := by decide +kernel
theorem dX12_see_138 : decode cX12_see 138 = .ok (.iadd, 1) := by decide +kernel
theorem dX12_see_139 : decode cX12_see 139 = .ok (.iastore, 1) := by decide +kernel
theorem dX12_see_140 : decode cX12_see 140 = .ok (.iload 8, 2) := by decide +kernel
theorem dX12_see_142 : decode cX12_see 142 = .ok (.ifCond .le 28, 3) := by decide +kernel
theorem dX12_see_145 : decode cX12_see 145 = .ok (.aload_n 0, 1) := by decide +kernel
theorem dX12_see_146 : decode cX12_see 146 = .ok (.getfield 67, 3) := by decide +kernel
theorem dX12_see_149 : decode cX12_see 149 = .ok (.iload 4, 2) := by decide +kernel
theorem dX12_see_151 : decode cX12_see 151 = .ok (.bipush 9, 2) := by decide +kernel
theorem dX12_see_153 : decode cX12_see 153 = .ok (.iload_n 3, 1) := by decide +kernel
theorem dX12_see_154 : decode cX12_see 154 = .ok (.imul, 1) := by decide +kernel
theorem dX12_see_155 : decode cX12_see 155 = .ok (.iadd, 1) := by decide +kernel
theorem dX12_see_156 : decode cX12_see 156 = .ok (.bipush 9, 2) := by decide +kernel
theorem dX12_see_158 : decode cX12_see 158 = .ok (.iload 6, 2) := by decide +kernel
theorem dX12_see_160 : decode cX12_see 160 = .ok (.imul, 1) := by decide +kernel
theorem dX12_see_161 : decode cX12_see 161 = .ok (.iadd, 1) := by decide +kernel
theorem dX12_see_162 : decode cX12_see 162 = .ok (.iload 8, 2) := by decide +kernel
theorem dX12_see_164 : decode cX12_see 164 = .ok (.iadd, 1) := by decide +kernel
theorem dX12_see_165 : decode cX12_see 165 = .ok (.dup2, 1) := by decide +kernel
theorem dX12_see_166 : decode cX12_see 166 = .ok (.iaload, 1) := by decide +kernel
theorem dX12_see_167 : decode cX12_see 167 = .ok (.iconst 1, 1) := by decide +kernel
theorem dX12_see_168 : decode cX12_see 168 = .ok (.iadd, 1) := by decide +kernel
theorem dX12_see_169 : decode cX12_see 169 = .ok (.iastore, 1) := by decide +kernel
theorem dX12_see_170 : decode cX12_see 170 = .ok (.iinc 5 1, 3) := by decide +kernel
theorem dX12_see_173 : decode cX12_see 173 = .ok (.goto (-109), 3) := by decide +kernel
theorem dX12_see_176 : decode cX12_see 176 = .ok (.return_, 1) := by decide +kernel
def PJ_X12_see_140 (d : Nat) (E : zb_E) (x0 : Int) (x1 : Int) (x2 : Int) (m : zb_M) (v5_64 : Int) (m64l : zb_M) (X64 : Int → zb_M → Prop) (Q : Int → zb_M → Prop) (m140j : zb_M) : Prop :=
  ((m64l (E.2 x0 18) ((12 * v5_64) + x2)) ≤ 0 → (zb_inI (v5_64 + 1)) ∧ (X64 (v5_64 + 1) m140j)) ∧ (¬ (m64l (E.2 x0 18) ((12 * v5_64) + x2)) ≤ 0 → (zb_inI (9 * (m (E.2 x0 20) x1))) ∧ ((zb_inI ((220 * x2) + (9 * (m (E.2 x0 20) x1)))) ∧ ((zb_inI (9 * (m64l (E.2 x0 19) ((12 * x1) + v5_64)))) ∧ ((zb_inI (((220 * x2) + (9 * (m (E.2 x0 20) x1))) + (9 * (m64l (E.2 x0 19) ((12 * x1) + v5_64))))) ∧ ((zb_inI ((((220 * x2) + (9 * (m (E.2 x0 20) x1))) + (9 * (m64l (E.2 x0 19) ((12 * x1) + v5_64)))) + (m64l (E.2 x0 18) ((12 * v5_64) + x2)))) ∧ ((0 ≤ ((((220 * x2) + (9 * (m (E.2 x0 20) x1))) + (9 * (m64l (E.2 x0 19) ((12 * x1) + v5_64)))) + (m64l (E.2 x0 18) ((12 * v5_64) + x2))) ∧ ((((220 * x2) + (9 * (m (E.2 x0 20) x1))) + (9 * (m64l (E.2 x0 19) ((12 * x1) + v5_64)))) + (m64l (E.2 x0 18) ((12 * v5_64) + x2))) < 2640) ∧ ((zb_inI ((m140j (E.2 x0 21) ((((220 * x2) + (9 * (m (E.2 x0 20) x1))) + (9 * (m64l (E.2 x0 19) ((12 * x1) + v5_64)))) + (m64l (E.2 x0 18) ((12 * v5_64) + x2)))) + 1)) ∧ (∀ m169, m169 = zb_up m140j (E.2 x0 21) ((((220 * x2) + (9 * (m (E.2 x0 20) x1))) + (9 * (m64l (E.2 x0 19) ((12 * x1) + v5_64)))) + (m64l (E.2 x0 18) ((12 * v5_64) + x2))) ((m140j (E.2 x0 21) ((((220 * x2) + (9 * (m (E.2 x0 20) x1))) + (9 * (m64l (E.2 x0 19) ((12 * x1) + v5_64)))) + (m64l (E.2 x0 18) ((12 * v5_64) + x2)))) + 1) → ((zb_inI (v5_64 + 1)) ∧ (X64 (v5_64 + 1) m169))))))))))
def PL_X12_see_64 (d : Nat) (E : zb_E) (x0 : Int) (x1 : Int) (x2 : Int) (m : zb_M) (Q : Int → zb_M → Prop)  (v5_64 : Int) (m64l : zb_M) : Prop :=
  ∀ X64 : Int → zb_M → Prop, (∀ (v5_64 : Int) (m64l : zb_M), (((m64l x0 15) ≤ v5_64 → Q 0 m64l) ∧ (¬ (m64l x0 15) ≤ v5_64 → (zb_inI ((12 * x1) + v5_64)) ∧ ((0 ≤ ((12 * x1) + v5_64) ∧ ((12 * x1) + v5_64) < 180) ∧ ((zb_inI (12 * x2)) ∧ ((zb_inI ((12 * x2) + v5_64)) ∧ ((0 ≤ ((12 * x2) + v5_64) ∧ ((12 * x2) + v5_64) < 144) ∧ ((zb_inI (12 * v5_64)) ∧ ((zb_inI ((12 * v5_64) + x2)) ∧ ((0 ≤ ((12 * v5_64) + x2) ∧ ((12 * v5_64) + x2) < 144) ∧ (((m64l (E.2 x0 18) ((12 * x2) + v5_64)) ≤ 0 → PJ_X12_see_140 d E x0 x1 x2 m v5_64 m64l X64 Q m64l) ∧ (¬ (m64l (E.2 x0 18) ((12 * x2) + v5_64)) ≤ 0 → (zb_inI (9 * (m64l (E.2 x0 19) ((12 * x1) + v5_64)))) ∧ ((zb_inI ((220 * x2) + (9 * (m64l (E.2 x0 19) ((12 * x1) + v5_64))))) ∧ ((zb_inI (((220 * x2) + (9 * (m64l (E.2 x0 19) ((12 * x1) + v5_64)))) + (m64l (E.2 x0 18) ((12 * x2) + v5_64)))) ∧ ((0 ≤ (((220 * x2) + (9 * (m64l (E.2 x0 19) ((12 * x1) + v5_64)))) + (m64l (E.2 x0 18) ((12 * x2) + v5_64))) ∧ (((220 * x2) + (9 * (m64l (E.2 x0 19) ((12 * x1) + v5_64)))) + (m64l (E.2 x0 18) ((12 * x2) + v5_64))) < 2640) ∧ ((zb_inI ((m64l (E.2 x0 21) (((220 * x2) + (9 * (m64l (E.2 x0 19) ((12 * x1) + v5_64)))) + (m64l (E.2 x0 18) ((12 * x2) + v5_64)))) + 1)) ∧ (∀ m139, m139 = zb_up m64l (E.2 x0 21) (((220 * x2) + (9 * (m64l (E.2 x0 19) ((12 * x1) + v5_64)))) + (m64l (E.2 x0 18) ((12 * x2) + v5_64))) ((m64l (E.2 x0 21) (((220 * x2) + (9 * (m64l (E.2 x0 19) ((12 * x1) + v5_64)))) + (m64l (E.2 x0 18) ((12 * x2) + v5_64)))) + 1) → (PJ_X12_see_140 d E x0 x1 x2 m v5_64 m64l X64 Q m139))))))))))))))))) → X64 v5_64 m64l) → X64 v5_64 m64l
def PJ_X12_see_61 (d : Nat) (E : zb_E) (x0 : Int) (x1 : Int) (x2 : Int) (m : zb_M) (Q : Int → zb_M → Prop) (m61j : zb_M) : Prop :=
  PL_X12_see_64 d E x0 x1 x2 m Q 0 m61j
def PL_X12_see_35 (d : Nat) (E : zb_E) (x0 : Int) (x1 : Int) (x2 : Int) (m : zb_M) (Q : Int → zb_M → Prop) (K61_35 : zb_M → Prop) (v5_35 : Int) (m35l : zb_M) : Prop :=
  ∀ X35 : Int → zb_M → Prop, (∀ (v5_35 : Int) (m35l : zb_M), ((zb_inI (18 * (m (E.2 x0 20) x1))) ∧ (((18 * (m (E.2 x0 20) x1)) < v5_35 → K61_35 m35l) ∧ (¬ (18 * (m (E.2 x0 20) x1)) < v5_35 → (zb_inI ((220 * x2) + v5_35)) ∧ ((0 ≤ ((220 * x2) + v5_35) ∧ ((220 * x2) + v5_35) < 2640) ∧ (∀ m54, m54 = zb_up m35l (E.2 x0 21) ((220 * x2) + v5_35) 0 → ((zb_inI (v5_35 + 1)) ∧ (X35 (v5_35 + 1) m54))))))) → X35 v5_35 m35l) → X35 v5_35 m35l
def PM_X12_see (d : Nat) (E : zb_E) (x0 : Int) (x1 : Int) (x2 : Int) (m : zb_M) (Q : Int → zb_M → Prop) : Prop :=
  (0 ≤ x1 ∧ x1 < 15) ∧ ((zb_inI (220 * x2)) ∧ ((zb_inI (12 * x1)) ∧ ((zb_inI ((12 * x1) + x2)) ∧ ((0 ≤ ((12 * x1) + x2) ∧ ((12 * x1) + x2) < 180) ∧ ((0 ≤ (220 * x2) ∧ (220 * x2) < 2640) ∧ (∀ m31, m31 = zb_up m (E.2 x0 21) (220 * x2) (m (E.2 x0 19) ((12 * x1) + x2)) → (PL_X12_see_35 d E x0 x1 x2 m Q (PJ_X12_see_61 d E x0 x1 x2 m Q) 1 m31)))))))
set_option maxRecDepth 100000 in
set_option maxHeartbeats 4000000 in
theorem w_X12_see {d : Nat} {E : zb_E} {x0 x1 x2 : Int} {m : zb_M} {Q : Int → zb_M → Prop} (h : PM_X12_see d E x0 x1 x2 m Q) : zb_T K_X12_see (d + 1) [(2, x0), (0, x1), (0, x2)] E m Q := by
  unfold PM_X12_see at h
  refine zb_T_in gd_X12_see rfl rfl (fun hW hA G C hF => ?_)
  have i_0 : zb_is E.1 x0 12 := zb_aH hA (by decide)
  show zb_WP _ _ 0 [(0, (2, x0)), (1, (0, x1)), (2, (0, x2))] [] _ _ _ _
  refine zb_aload_n (j := 0) dX12_see_0 rfl rfl ?_
  refine zb_gFa 20 dX12_see_1 fl_X12_64 i_0 hW hF rfl rfl rfl (by decide) rfl 15 rfl (fun i1 l2 => ?_)
  refine zb_iload_n (j := 1) dX12_see_4 rfl rfl ?_
  obtain ⟨o3, h⟩ := h
  refine zb_lI dX12_see_5 i1 l2 o3.1 o3.2 ?_
  refine zb_istore_n (L' := [(3, (0, (m (E.2 x0 20) x1))), (0, (2, x0)), (1, (0, x1)), (2, (0, x2))]) dX12_see_6 rfl (by decide) rfl ?_
  refine zb_sipush dX12_see_7 (by decide) (zb_inIc rfl) ?_
  refine zb_iload_n (j := 3) dX12_see_10 rfl rfl ?_
  obtain ⟨o4, h⟩ := h
  refine zb_imul dX12_see_11 o4 ?_
  refine zb_istore (L' := [(4, (0, (220 * x2))), (3, (0, (m (E.2 x0 20) x1))), (0, (2, x0)), (1, (0, x1)), (2, (0, x2))]) dX12_see_12 (by decide) rfl ?_
  refine zb_aload_n (j := 2) dX12_see_14 rfl rfl ?_
  refine zb_gFa 21 dX12_see_15 fl_X12_67 i_0 hW hF rfl rfl rfl (by decide) rfl 2640 rfl (fun i5 l6 => ?_)
  refine zb_iload (j := 0) dX12_see_18 rfl ?_
  refine zb_aload_n (j := 2) dX12_see_20 rfl rfl ?_
  refine zb_gFa 19 dX12_see_21 fl_X12_61 i_0 hW hF rfl rfl rfl (by decide) rfl 180 rfl (fun i7 l8 => ?_)
  refine zb_bipush dX12_see_24 (by decide) (zb_inIc rfl) ?_
  refine zb_iload_n (j := 3) dX12_see_26 rfl rfl ?_
  obtain ⟨o9, h⟩ := h
  refine zb_imul dX12_see_27 o9 ?_
  refine zb_iload_n (j := 4) dX12_see_28 rfl rfl ?_
  obtain ⟨o10, h⟩ := h
  refine zb_iadd dX12_see_29 o10 ?_
  obtain ⟨o11, h⟩ := h
  refine zb_lI dX12_see_30 i7 l8 o11.1 o11.2 ?_
  obtain ⟨o12, h⟩ := h
  refine zb_sI dX12_see_31 i5 l6 o12.1 o12.2 hF (fun m31 e31 hF => ?_)
  have h := h m31 e31
  refine zb_iconst dX12_see_32 (zb_inIc rfl) ?_
  refine zb_istore (L' := [(5, (0, 1)), (4, (0, (220 * x2))), (3, (0, (m (E.2 x0 20) x1))), (0, (2, x0)), (1, (0, x1)), (2, (0, x2))]) dX12_see_33 (by decide) rfl ?_
  refine zb_sub (L' := [(0, (2, x0)), (1, (0, x1)), (2, (0, x2)), (3, (0, (m (E.2 x0 20) x1))), (4, (0, (220 * x2))), (5, (0, 1))]) [3, 4, 5, 2, 1, 0] rfl ?_
  have hJ61 : ∀ (m61j : zb_M), zb_FIN E m61j → PJ_X12_see_61 d E x0 x1 x2 m Q m61j → zb_WP (G, C, d + 1, 0, 0, zb_q E Q) F_X12_see 61 [(0, (2, x0)), (1, (0, x1)), (2, (0, x2)), (3, (0, (m (E.2 x0 20) x1))), (4, (0, (220 * x2)))] [] E.1 m61j 0 0 := by
    intro m61j hF h
    unfold PJ_X12_see_61 at h
    refine zb_iconst dX12_see_61 (zb_inIc rfl) ?_
    refine zb_istore (L' := [(5, (0, 0)), (0, (2, x0)), (1, (0, x1)), (2, (0, x2)), (3, (0, (m (E.2 x0 20) x1))), (4, (0, (220 * x2)))]) dX12_see_62 (by decide) rfl ?_
    refine zb_sub (L' := [(0, (2, x0)), (1, (0, x1)), (2, (0, x2)), (3, (0, (m (E.2 x0 20) x1))), (4, (0, (220 * x2))), (5, (0, 0))]) [1, 2, 3, 4, 5, 0] rfl ?_
    unfold PL_X12_see_64 at h
    obtain ⟨X64, hX64⟩ : ∃ X : Int → zb_M → Prop, ∀ (v5_64 : Int) (m64l : zb_M), (X v5_64 m64l ↔ (zb_FIN E m64l → zb_WP (G, C, d + 1, 0, 0, zb_q E Q) F_X12_see 64 [(0, (2, x0)), (1, (0, x1)), (2, (0, x2)), (3, (0, (m (E.2 x0 20) x1))), (4, (0, (220 * x2))), (5, (0, v5_64))] [] E.1 m64l 0 0)) := ⟨fun v5_64 m64l => zb_FIN E m64l → zb_WP (G, C, d + 1, 0, 0, zb_q E Q) F_X12_see 64 [(0, (2, x0)), (1, (0, x1)), (2, (0, x2)), (3, (0, (m (E.2 x0 20) x1))), (4, (0, (220 * x2))), (5, (0, v5_64))] [] E.1 m64l 0 0, fun _ _ => Iff.rfl⟩
    refine (hX64 _ _).mp (h X64 (fun v5_64 m64l h => (hX64 _ _).mpr (fun hF => ?_))) hF
    refine zb_iload (j := 5) dX12_see_64 rfl ?_
    refine zb_aload_n (j := 0) dX12_see_66 rfl rfl ?_
    refine zb_gI 15 dX12_see_67 fl_X12_175 i_0 rfl rfl ?_
    refine zb_icmp_ge (tgt := 176) dX12_see_70 (by decide) (fun c13 => ?_) (fun c13 => ?_)
    · have h := h.1 c13
      exact zb_rV dX12_see_176 rfl hF h
    · have h := h.2 c13
      refine zb_aload_n (j := 0) dX12_see_73 rfl rfl ?_
      refine zb_gFa 19 dX12_see_74 fl_X12_61 i_0 hW hF rfl rfl rfl (by decide) rfl 180 rfl (fun i14 l15 => ?_)
      refine zb_bipush dX12_see_77 (by decide) (zb_inIc rfl) ?_
      refine zb_iload_n (j := 1) dX12_see_79 rfl rfl ?_
      refine zb_imul dX12_see_80 o9 ?_
      refine zb_iload (j := 5) dX12_see_81 rfl ?_
      obtain ⟨o16, h⟩ := h
      refine zb_iadd dX12_see_83 o16 ?_
      obtain ⟨o17, h⟩ := h
      refine zb_lI dX12_see_84 i14 l15 o17.1 o17.2 ?_
      refine zb_istore (L' := [(6, (0, (m64l (E.2 x0 19) ((12 * x1) + v5_64)))), (0, (2, x0)), (1, (0, x1)), (2, (0, x2)), (3, (0, (m (E.2 x0 20) x1))), (4, (0, (220 * x2))), (5, (0, v5_64))]) dX12_see_85 (by decide) rfl ?_
      refine zb_aload_n (j := 1) dX12_see_87 rfl rfl ?_
      refine zb_gFa 18 dX12_see_88 fl_X12_58 i_0 hW hF rfl rfl rfl (by decide) rfl 144 rfl (fun i18 l19 => ?_)
      refine zb_bipush dX12_see_91 (by decide) (zb_inIc rfl) ?_
      refine zb_iload_n (j := 3) dX12_see_93 rfl rfl ?_
      obtain ⟨o20, h⟩ := h
      refine zb_imul dX12_see_94 o20 ?_
      refine zb_iload (j := 6) dX12_see_95 rfl ?_
      obtain ⟨o21, h⟩ := h
      refine zb_iadd dX12_see_97 o21 ?_
      obtain ⟨o22, h⟩ := h
      refine zb_lI dX12_see_98 i18 l19 o22.1 o22.2 ?_
      refine zb_istore (L' := [(7, (0, (m64l (E.2 x0 18) ((12 * x2) + v5_64)))), (6, (0, (m64l (E.2 x0 19) ((12 * x1) + v5_64)))), (0, (2, x0)), (1, (0, x1)), (2, (0, x2)), (3, (0, (m (E.2 x0 20) x1))), (4, (0, (220 * x2))), (5, (0, v5_64))]) dX12_see_99 (by decide) rfl ?_
      refine zb_aload_n (j := 2) dX12_see_101 rfl rfl ?_
      refine zb_gFa 18 dX12_see_102 fl_X12_58 i_0 hW hF rfl rfl rfl (by decide) rfl 144 rfl (fun i23 l24 => ?_)
      refine zb_bipush dX12_see_105 (by decide) (zb_inIc rfl) ?_
      refine zb_iload (j := 7) dX12_see_107 rfl ?_
      obtain ⟨o25, h⟩ := h
      refine zb_imul dX12_see_109 o25 ?_
      refine zb_iload_n (j := 4) dX12_see_110 rfl rfl ?_
      obtain ⟨o26, h⟩ := h
      refine zb_iadd dX12_see_111 o26 ?_
      obtain ⟨o27, h⟩ := h
      refine zb_lI dX12_see_112 i23 l24 o27.1 o27.2 ?_
      refine zb_istore (L' := [(8, (0, (m64l (E.2 x0 18) ((12 * v5_64) + x2)))), (7, (0, (m64l (E.2 x0 18) ((12 * x2) + v5_64)))), (6, (0, (m64l (E.2 x0 19) ((12 * x1) + v5_64)))), (0, (2, x0)), (1, (0, x1)), (2, (0, x2)), (3, (0, (m (E.2 x0 20) x1))), (4, (0, (220 * x2))), (5, (0, v5_64))]) dX12_see_113 (by decide) rfl ?_
      refine zb_iload (j := 1) dX12_see_115 rfl ?_
      have hJ140 : ∀ (m140j : zb_M), zb_FIN E m140j → PJ_X12_see_140 d E x0 x1 x2 m v5_64 m64l X64 Q m140j → zb_WP (G, C, d + 1, 0, 0, zb_q E Q) F_X12_see 140 [(0, (2, x0)), (1, (0, x1)), (2, (0, x2)), (3, (0, (m (E.2 x0 20) x1))), (4, (0, (220 * x2))), (5, (0, v5_64)), (6, (0, (m64l (E.2 x0 19) ((12 * x1) + v5_64)))), (8, (0, (m64l (E.2 x0 18) ((12 * v5_64) + x2))))] [] E.1 m140j 0 0 := by
        intro m140j hF h
        unfold PJ_X12_see_140 at h
        refine zb_iload (j := 7) dX12_see_140 rfl ?_
        refine zb_if_le (tgt := 170) dX12_see_142 (by decide) (fun c28 => ?_) (fun c28 => ?_)
        · have h := h.1 c28
          obtain ⟨o29, h⟩ := h
          refine zb_iinc (j := 5) (L' := [(5, (0, (v5_64 + 1))), (0, (2, x0)), (1, (0, x1)), (2, (0, x2)), (3, (0, (m (E.2 x0 20) x1))), (4, (0, (220 * x2))), (6, (0, (m64l (E.2 x0 19) ((12 * x1) + v5_64)))), (8, (0, (m64l (E.2 x0 18) ((12 * v5_64) + x2))))]) dX12_see_170 rfl o29 (by decide) rfl ?_
          refine zb_goto (tgt := 64) dX12_see_173 (by decide) ?_
          refine zb_sub (L' := [(0, (2, x0)), (1, (0, x1)), (2, (0, x2)), (3, (0, (m (E.2 x0 20) x1))), (4, (0, (220 * x2))), (5, (0, (v5_64 + 1)))]) [1, 2, 3, 4, 5, 0] rfl ?_
          exact (hX64 _ _).mp h hF
        · have h := h.2 c28
          refine zb_aload_n (j := 0) dX12_see_145 rfl rfl ?_
          refine zb_gFa 21 dX12_see_146 fl_X12_67 i_0 hW hF rfl rfl rfl (by decide) rfl 2640 rfl (fun i30 l31 => ?_)
          refine zb_iload (j := 4) dX12_see_149 rfl ?_
          refine zb_bipush dX12_see_151 (by decide) (zb_inIc rfl) ?_
          refine zb_iload_n (j := 3) dX12_see_153 rfl rfl ?_
          obtain ⟨o32, h⟩ := h
          refine zb_imul dX12_see_154 o32 ?_
          obtain ⟨o33, h⟩ := h
          refine zb_iadd dX12_see_155 o33 ?_
          refine zb_bipush dX12_see_156 (by decide) (zb_inIc rfl) ?_
          refine zb_iload (j := 6) dX12_see_158 rfl ?_
          obtain ⟨o34, h⟩ := h
          refine zb_imul dX12_see_160 o34 ?_
          obtain ⟨o35, h⟩ := h
          refine zb_iadd dX12_see_161 o35 ?_
          refine zb_iload (j := 7) dX12_see_162 rfl ?_
          obtain ⟨o36, h⟩ := h
          refine zb_iadd dX12_see_164 o36 ?_
          refine zb_dup2 dX12_see_165 ?_
          obtain ⟨o37, h⟩ := h
          refine zb_lI dX12_see_166 i30 l31 o37.1 o37.2 ?_
          refine zb_iconst dX12_see_167 (zb_inIc rfl) ?_
          obtain ⟨o38, h⟩ := h
          refine zb_iadd dX12_see_168 o38 ?_
          refine zb_sI dX12_see_169 i30 l31 o37.1 o37.2 hF (fun m169 e169 hF => ?_)
          have h := h m169 e169
          obtain ⟨o39, h⟩ := h
          refine zb_iinc (j := 5) (L' := [(5, (0, (v5_64 + 1))), (0, (2, x0)), (1, (0, x1)), (2, (0, x2)), (3, (0, (m (E.2 x0 20) x1))), (4, (0, (220 * x2))), (6, (0, (m64l (E.2 x0 19) ((12 * x1) + v5_64)))), (8, (0, (m64l (E.2 x0 18) ((12 * v5_64) + x2))))]) dX12_see_170 rfl o39 (by decide) rfl ?_
          refine zb_goto (tgt := 64) dX12_see_173 (by decide) ?_
          refine zb_sub (L' := [(0, (2, x0)), (1, (0, x1)), (2, (0, x2)), (3, (0, (m (E.2 x0 20) x1))), (4, (0, (220 * x2))), (5, (0, (v5_64 + 1)))]) [1, 2, 3, 4, 5, 0] rfl ?_
          exact (hX64 _ _).mp h hF
      refine zb_if_le (tgt := 140) dX12_see_117 (by decide) (fun c40 => ?_) (fun c40 => ?_)
      · have h := h.1 c40
        refine zb_sub (L' := [(0, (2, x0)), (1, (0, x1)), (2, (0, x2)), (3, (0, (m (E.2 x0 20) x1))), (4, (0, (220 * x2))), (5, (0, v5_64)), (6, (0, (m64l (E.2 x0 19) ((12 * x1) + v5_64)))), (8, (0, (m64l (E.2 x0 18) ((12 * v5_64) + x2))))]) [3, 4, 5, 6, 7, 8, 2, 0] rfl ?_
        exact hJ140 _ hF h
      · have h := h.2 c40
        refine zb_aload_n (j := 3) dX12_see_120 rfl rfl ?_
        refine zb_gFa 21 dX12_see_121 fl_X12_67 i_0 hW hF rfl rfl rfl (by decide) rfl 2640 rfl (fun i41 l42 => ?_)
        refine zb_iload (j := 7) dX12_see_124 rfl ?_
        refine zb_bipush dX12_see_126 (by decide) (zb_inIc rfl) ?_
        refine zb_iload (j := 2) dX12_see_128 rfl ?_
        obtain ⟨o43, h⟩ := h
        refine zb_imul dX12_see_130 o43 ?_
        obtain ⟨o44, h⟩ := h
        refine zb_iadd dX12_see_131 o44 ?_
        refine zb_iload (j := 1) dX12_see_132 rfl ?_
        obtain ⟨o45, h⟩ := h
        refine zb_iadd dX12_see_134 o45 ?_
        refine zb_dup2 dX12_see_135 ?_
        obtain ⟨o46, h⟩ := h
        refine zb_lI dX12_see_136 i41 l42 o46.1 o46.2 ?_
        refine zb_iconst dX12_see_137 (zb_inIc rfl) ?_
        obtain ⟨o47, h⟩ := h
        refine zb_iadd dX12_see_138 o47 ?_
        refine zb_sI dX12_see_139 i41 l42 o46.1 o46.2 hF (fun m139 e139 hF => ?_)
        have h := h m139 e139
        refine zb_sub (L' := [(0, (2, x0)), (1, (0, x1)), (2, (0, x2)), (3, (0, (m (E.2 x0 20) x1))), (4, (0, (220 * x2))), (5, (0, v5_64)), (6, (0, (m64l (E.2 x0 19) ((12 * x1) + v5_64)))), (8, (0, (m64l (E.2 x0 18) ((12 * v5_64) + x2))))]) [3, 4, 5, 6, 7, 8, 2, 0] rfl ?_
        exact hJ140 _ hF h
  unfold PL_X12_see_35 at h
  obtain ⟨X35, hX35⟩ : ∃ X : Int → zb_M → Prop, ∀ (v5_35 : Int) (m35l : zb_M), (X v5_35 m35l ↔ (zb_FIN E m35l → zb_WP (G, C, d + 1, 0, 0, zb_q E Q) F_X12_see 35 [(0, (2, x0)), (1, (0, x1)), (2, (0, x2)), (3, (0, (m (E.2 x0 20) x1))), (4, (0, (220 * x2))), (5, (0, v5_35))] [] E.1 m35l 0 0)) := ⟨fun v5_35 m35l => zb_FIN E m35l → zb_WP (G, C, d + 1, 0, 0, zb_q E Q) F_X12_see 35 [(0, (2, x0)), (1, (0, x1)), (2, (0, x2)), (3, (0, (m (E.2 x0 20) x1))), (4, (0, (220 * x2))), (5, (0, v5_35))] [] E.1 m35l 0 0, fun _ _ => Iff.rfl⟩
  refine (hX35 _ _).mp (h X35 (fun v5_35 m35l h => (hX35 _ _).mpr (fun hF => ?_))) hF
  refine zb_iload (j := 5) dX12_see_35 rfl ?_
  refine zb_bipush dX12_see_37 (by decide) (zb_inIc rfl) ?_
  refine zb_iload_n (j := 3) dX12_see_39 rfl rfl ?_
  obtain ⟨o48, h⟩ := h
  refine zb_imul dX12_see_40 o48 ?_
  refine zb_icmp_gt (tgt := 61) dX12_see_41 (by decide) (fun c49 => ?_) (fun c49 => ?_)
  · have h := h.1 c49
    refine zb_sub (L' := [(0, (2, x0)), (1, (0, x1)), (2, (0, x2)), (3, (0, (m (E.2 x0 20) x1))), (4, (0, (220 * x2)))]) [0, 1, 2, 3, 4] rfl ?_
    exact hJ61 _ hF h
  · have h := h.2 c49
    refine zb_aload_n (j := 0) dX12_see_44 rfl rfl ?_
    refine zb_gFa 21 dX12_see_45 fl_X12_67 i_0 hW hF rfl rfl rfl (by decide) rfl 2640 rfl (fun i50 l51 => ?_)
    refine zb_iload (j := 4) dX12_see_48 rfl ?_
    refine zb_iload (j := 5) dX12_see_50 rfl ?_
    obtain ⟨o52, h⟩ := h
    refine zb_iadd dX12_see_52 o52 ?_
    refine zb_iconst dX12_see_53 (zb_inIc rfl) ?_
    obtain ⟨o53, h⟩ := h
    refine zb_sI dX12_see_54 i50 l51 o53.1 o53.2 hF (fun m54 e54 hF => ?_)
    have h := h m54 e54
    obtain ⟨o54, h⟩ := h
    refine zb_iinc (j := 5) (L' := [(5, (0, (v5_35 + 1))), (0, (2, x0)), (1, (0, x1)), (2, (0, x2)), (3, (0, (m (E.2 x0 20) x1))), (4, (0, (220 * x2)))]) dX12_see_55 rfl o54 (by decide) rfl ?_
    refine zb_goto (tgt := 35) dX12_see_58 (by decide) ?_
    refine zb_sub (L' := [(0, (2, x0)), (1, (0, x1)), (2, (0, x2)), (3, (0, (m (E.2 x0 20) x1))), (4, (0, (220 * x2))), (5, (0, (v5_35 + 1)))]) [1, 2, 3, 4, 5, 0] rfl ?_
    exact (hX35 _ _).mp h hF
theorem dX12_splitIn_0 : decode cX12_splitIn 0 = .ok (.iconst 1, 1) := by decide +kernel
theorem dX12_splitIn_1 : decode cX12_splitIn 1 = .ok (.istore_n 2, 1) := by decide +kernel
theorem dX12_splitIn_2 : decode cX12_splitIn 2 = .ok (.iload_n 2, 1) := by decide +kernel
theorem dX12_splitIn_3 : decode cX12_splitIn 3 = .ok (.ifCond .eq 65, 3) := by decide +kernel
theorem dX12_splitIn_6 : decode cX12_splitIn 6 = .ok (.aload_n 0, 1) := by decide +kernel
theorem dX12_splitIn_7 : decode cX12_splitIn 7 = .ok (.getfield 64, 3) := by decide +kernel
theorem dX12_splitIn_10 : decode cX12_splitIn 10 = .ok (.iload_n 1, 1) := by decide +kernel
theorem dX12_splitIn_11 : decode cX12_splitIn 11 = .ok (.iaload, 1) := by decide +kernel
theorem dX12_splitIn_12 : decode cX12_splitIn 12 = .ok (.istore_n 3, 1) := by decide +kernel
theorem dX12_splitIn_13 : decode cX12_splitIn 13 = .ok (.iconst 0, 1) := by decide +kernel
theorem dX12_splitIn_14 : decode cX12_splitIn 14 = .ok (.istore 4, 2) := by decide +kernel
theorem dX12_splitIn_16 : decode cX12_splitIn 16 = .ok (.iload 4, 2) := by decide +kernel
theorem dX12_splitIn_18 : decode cX12_splitIn 18 = .ok (.aload_n 0, 1) := by decide +kernel
theorem dX12_splitIn_19 : decode cX12_splitIn 19 = .ok (.getfield 175, 3) := by decide +kernel
theorem dX12_splitIn_22 : decode cX12_splitIn 22 = .ok (.if_icmp .ge 16, 3) := by decide +kernel
theorem dX12_splitIn_25 : decode cX12_splitIn 25 = .ok (.aload_n 0, 1) := by decide +kernel
theorem dX12_splitIn_26 : decode cX12_splitIn 26 = .ok (.iload_n 1, 1) := by decide +kernel
theorem dX12_splitIn_27 : decode cX12_splitIn 27 = .ok (.iload 4, 2) := by decide +kernel
theorem dX12_splitIn_29 : decode cX12_splitIn 29 = .ok (.invokevirtual 185, 3) := by decide +kernel
theorem dX12_splitIn_32 : decode cX12_splitIn 32 = .ok (.iinc 4 1, 3) := by decide +kernel
theorem dX12_splitIn_35 : decode cX12_splitIn 35 = .ok (.goto (-19), 3) := by decide +kernel
theorem dX12_splitIn_38 : decode cX12_splitIn 38 = .ok (.aload_n 0, 1) := by decide +kernel
theorem dX12_splitIn_39 : decode cX12_splitIn 39 = .ok (.iload_n 1, 1) := by decide +kernel
theorem dX12_splitIn_40 : decode cX12_splitIn 40 = .ok (.bipush 18, 2) := by decide +kernel
theorem dX12_splitIn_42 : decode cX12_splitIn 42 = .ok (.iload_n 3, 1) := by decide +kernel
theorem dX12_splitIn_43 : decode cX12_splitIn 43 = .ok (.imul, 1) := by decide +kernel
theorem dX12_splitIn_44 : decode cX12_splitIn 44 = .ok (.iconst 1, 1) := by decide +kernel
theorem dX12_splitIn_45 : decode cX12_splitIn 45 = .ok (.iadd, 1) := by decide +kernel
theorem dX12_splitIn_46 : decode cX12_splitIn 46 = .ok (.invokevirtual 181, 3) := by decide +kernel
theorem dX12_splitIn_49 : decode cX12_splitIn 49 = .ok (.aload_n 0, 1) := by decide +kernel
theorem dX12_splitIn_50 : decode cX12_splitIn 50 = .ok (.getfield 64, 3) := by decide +kernel
theorem dX12_splitIn_53 : decode cX12_splitIn 53 = .ok (.iload_n 1, 1) := by decide +kernel
theorem dX12_splitIn_54 : decode cX12_splitIn 54 = .ok (.iaload, 1) := by decide +kernel
theorem dX12_splitIn_55 : decode cX12_splitIn 55 = .ok (.iload_n 3, 1) := by decide +kernel
theorem dX12_splitIn_56 : decode cX12_splitIn 56 = .ok (.if_icmp .le 7, 3) := by decide +kernel
theorem dX12_splitIn_59 : decode cX12_splitIn 59 = .ok (.iconst 1, 1) := by decide +kernel
theorem dX12_splitIn_60 : decode cX12_splitIn 60 = .ok (.goto 4, 3) := by decide +kernel
theorem dX12_splitIn_63 : decode cX12_splitIn 63 = .ok (.iconst 0, 1) := by decide +kernel
theorem dX12_splitIn_64 : decode cX12_splitIn 64 = .ok (.istore_n 2, 1) := by decide +kernel
theorem dX12_splitIn_65 : decode cX12_splitIn 65 = .ok (.goto (-63), 3) := by decide +kernel
theorem dX12_splitIn_68 : decode cX12_splitIn 68 = .ok (.return_, 1) := by decide +kernel
def PJ_X12_splitIn_38 (d : Nat) (E : zb_E) (x0 : Int) (x1 : Int) (m2l : zb_M) (X2 : Int → zb_M → Prop) (Q : Int → zb_M → Prop) (m38j : zb_M) : Prop :=
  (zb_inI (18 * (m2l (E.2 x0 20) x1))) ∧ ((zb_inI ((18 * (m2l (E.2 x0 20) x1)) + 1)) ∧ (zb_T K_X12_gather d [(2, x0), (0, x1), (0, ((18 * (m2l (E.2 x0 20) x1)) + 1))] E m38j (fun r46 m46 => ((m46 (E.2 x0 20) x1) ≤ (m2l (E.2 x0 20) x1) → X2 0 m46) ∧ (¬ (m46 (E.2 x0 20) x1) ≤ (m2l (E.2 x0 20) x1) → X2 1 m46))))
def PL_X12_splitIn_16 (d : Nat) (E : zb_E) (x0 : Int) (x1 : Int) (Q : Int → zb_M → Prop) (K38_16 : zb_M → Prop) (v4_16 : Int) (m16l : zb_M) : Prop :=
  ∀ X16 : Int → zb_M → Prop, (∀ (v4_16 : Int) (m16l : zb_M), (((m16l x0 15) ≤ v4_16 → K38_16 m16l) ∧ (¬ (m16l x0 15) ≤ v4_16 → zb_T K_X12_see d [(2, x0), (0, x1), (0, v4_16)] E m16l (fun r29 m29 => (zb_inI (v4_16 + 1)) ∧ (X16 (v4_16 + 1) m29)))) → X16 v4_16 m16l) → X16 v4_16 m16l
def PL_X12_splitIn_2 (d : Nat) (E : zb_E) (x0 : Int) (x1 : Int) (Q : Int → zb_M → Prop)  (v2_2 : Int) (m2l : zb_M) : Prop :=
  ∀ X2 : Int → zb_M → Prop, (∀ (v2_2 : Int) (m2l : zb_M), ((v2_2 = 0 → Q 0 m2l) ∧ (¬ v2_2 = 0 → (0 ≤ x1 ∧ x1 < 15) ∧ (PL_X12_splitIn_16 d E x0 x1 Q (PJ_X12_splitIn_38 d E x0 x1 m2l X2 Q) 0 m2l))) → X2 v2_2 m2l) → X2 v2_2 m2l
def PM_X12_splitIn (d : Nat) (E : zb_E) (x0 : Int) (x1 : Int) (m : zb_M) (Q : Int → zb_M → Prop) : Prop :=
  PL_X12_splitIn_2 d E x0 x1 Q 1 m
set_option maxRecDepth 100000 in
set_option maxHeartbeats 4000000 in
theorem w_X12_splitIn {d : Nat} {E : zb_E} {x0 x1 : Int} {m : zb_M} {Q : Int → zb_M → Prop} (h : PM_X12_splitIn d E x0 x1 m Q) : zb_T K_X12_splitIn (d + 1) [(2, x0), (0, x1)] E m Q := by
  unfold PM_X12_splitIn at h
  refine zb_T_in gd_X12_splitIn rfl rfl (fun hW hA G C hF => ?_)
  have i_0 : zb_is E.1 x0 12 := zb_aH hA (by decide)
  show zb_WP _ _ 0 [(0, (2, x0)), (1, (0, x1))] [] _ _ _ _
  refine zb_iconst dX12_splitIn_0 (zb_inIc rfl) ?_
  refine zb_istore_n (L' := [(2, (0, 1)), (0, (2, x0)), (1, (0, x1))]) dX12_splitIn_1 rfl (by decide) rfl ?_
  refine zb_sub (L' := [(0, (2, x0)), (1, (0, x1)), (2, (0, 1))]) [1, 2, 0] rfl ?_
  unfold PL_X12_splitIn_2 at h
  obtain ⟨X2, hX2⟩ : ∃ X : Int → zb_M → Prop, ∀ (v2_2 : Int) (m2l : zb_M), (X v2_2 m2l ↔ (zb_FIN E m2l → zb_WP (G, C, d + 1, 0, 0, zb_q E Q) F_X12_splitIn 2 [(0, (2, x0)), (1, (0, x1)), (2, (0, v2_2))] [] E.1 m2l 0 0)) := ⟨fun v2_2 m2l => zb_FIN E m2l → zb_WP (G, C, d + 1, 0, 0, zb_q E Q) F_X12_splitIn 2 [(0, (2, x0)), (1, (0, x1)), (2, (0, v2_2))] [] E.1 m2l 0 0, fun _ _ => Iff.rfl⟩
  refine (hX2 _ _).mp (h X2 (fun v2_2 m2l h => (hX2 _ _).mpr (fun hF => ?_))) hF
  refine zb_iload_n (j := 2) dX12_splitIn_2 rfl rfl ?_
  refine zb_if_eq (tgt := 68) dX12_splitIn_3 (by decide) (fun c1 => ?_) (fun c1 => ?_)
  · have h := h.1 c1
    exact zb_rV dX12_splitIn_68 rfl hF h
  · have h := h.2 c1
    refine zb_aload_n (j := 0) dX12_splitIn_6 rfl rfl ?_
    refine zb_gFa 20 dX12_splitIn_7 fl_X12_64 i_0 hW hF rfl rfl rfl (by decide) rfl 15 rfl (fun i2 l3 => ?_)
    refine zb_iload_n (j := 1) dX12_splitIn_10 rfl rfl ?_
    obtain ⟨o4, h⟩ := h
    refine zb_lI dX12_splitIn_11 i2 l3 o4.1 o4.2 ?_
    refine zb_istore_n (L' := [(3, (0, (m2l (E.2 x0 20) x1))), (0, (2, x0)), (1, (0, x1)), (2, (0, v2_2))]) dX12_splitIn_12 rfl (by decide) rfl ?_
    refine zb_iconst dX12_splitIn_13 (zb_inIc rfl) ?_
    refine zb_istore (L' := [(4, (0, 0)), (3, (0, (m2l (E.2 x0 20) x1))), (0, (2, x0)), (1, (0, x1)), (2, (0, v2_2))]) dX12_splitIn_14 (by decide) rfl ?_
    refine zb_sub (L' := [(0, (2, x0)), (1, (0, x1)), (3, (0, (m2l (E.2 x0 20) x1))), (4, (0, 0))]) [2, 3, 1, 0] rfl ?_
    have hJ38 : ∀ (m38j : zb_M), zb_FIN E m38j → PJ_X12_splitIn_38 d E x0 x1 m2l X2 Q m38j → zb_WP (G, C, d + 1, 0, 0, zb_q E Q) F_X12_splitIn 38 [(0, (2, x0)), (1, (0, x1)), (3, (0, (m2l (E.2 x0 20) x1)))] [] E.1 m38j 0 0 := by
      intro m38j hF h
      unfold PJ_X12_splitIn_38 at h
      refine zb_aload_n (j := 0) dX12_splitIn_38 rfl rfl ?_
      refine zb_iload_n (j := 1) dX12_splitIn_39 rfl rfl ?_
      refine zb_bipush dX12_splitIn_40 (by decide) (zb_inIc rfl) ?_
      refine zb_iload_n (j := 2) dX12_splitIn_42 rfl rfl ?_
      obtain ⟨o5, h⟩ := h
      refine zb_imul dX12_splitIn_43 o5 ?_
      refine zb_iconst dX12_splitIn_44 (zb_inIc rfl) ?_
      obtain ⟨o6, h⟩ := h
      refine zb_iadd dX12_splitIn_45 o6 ?_
      refine zb_cV (As := [(0, x1), (0, ((18 * (m2l (E.2 x0 20) x1)) + 1))]) (As' := [(0, ((18 * (m2l (E.2 x0 20) x1)) + 1)), (0, x1)]) (st := []) dX12_splitIn_46 lk_X12_181 gd_X12_gather rfl rfl i_0 ⟨_, rfl, rfl⟩ h hW hF (zb_aR i_0 (zb_aI (zb_aI zb_a0))) (Nat.le_refl _) (Nat.le_of_ble_eq_true rfl) (fun r46 m46 hF h => ?_)
      show zb_WP _ _ _ _ [] _ _ _ _
      refine zb_aload_n (j := 0) dX12_splitIn_49 rfl rfl ?_
      refine zb_gFa 20 dX12_splitIn_50 fl_X12_64 i_0 hW hF rfl rfl rfl (by decide) rfl 15 rfl (fun i7 l8 => ?_)
      refine zb_iload_n (j := 1) dX12_splitIn_53 rfl rfl ?_
      refine zb_lI dX12_splitIn_54 i7 l8 o4.1 o4.2 ?_
      refine zb_iload_n (j := 2) dX12_splitIn_55 rfl rfl ?_
      refine zb_icmp_le (tgt := 63) dX12_splitIn_56 (by decide) (fun c9 => ?_) (fun c9 => ?_)
      · have h := h.1 c9
        refine zb_iconst dX12_splitIn_63 (zb_inIc rfl) ?_
        refine zb_istore_n (L' := [(2, (0, 0)), (0, (2, x0)), (1, (0, x1)), (3, (0, (m2l (E.2 x0 20) x1)))]) dX12_splitIn_64 rfl (by decide) rfl ?_
        refine zb_goto (tgt := 2) dX12_splitIn_65 (by decide) ?_
        refine zb_sub (L' := [(0, (2, x0)), (1, (0, x1)), (2, (0, 0))]) [1, 2, 0] rfl ?_
        exact (hX2 _ _).mp h hF
      · have h := h.2 c9
        refine zb_iconst dX12_splitIn_59 (zb_inIc rfl) ?_
        refine zb_goto (tgt := 64) dX12_splitIn_60 (by decide) ?_
        refine zb_istore_n (L' := [(2, (0, 1)), (0, (2, x0)), (1, (0, x1)), (3, (0, (m2l (E.2 x0 20) x1)))]) dX12_splitIn_64 rfl (by decide) rfl ?_
        refine zb_goto (tgt := 2) dX12_splitIn_65 (by decide) ?_
        refine zb_sub (L' := [(0, (2, x0)), (1, (0, x1)), (2, (0, 1))]) [1, 2, 0] rfl ?_
        exact (hX2 _ _).mp h hF
    unfold PL_X12_splitIn_16 at h
    obtain ⟨X16, hX16⟩ : ∃ X : Int → zb_M → Prop, ∀ (v4_16 : Int) (m16l : zb_M), (X v4_16 m16l ↔ (zb_FIN E m16l → zb_WP (G, C, d + 1, 0, 0, zb_q E Q) F_X12_splitIn 16 [(0, (2, x0)), (1, (0, x1)), (3, (0, (m2l (E.2 x0 20) x1))), (4, (0, v4_16))] [] E.1 m16l 0 0)) := ⟨fun v4_16 m16l => zb_FIN E m16l → zb_WP (G, C, d + 1, 0, 0, zb_q E Q) F_X12_splitIn 16 [(0, (2, x0)), (1, (0, x1)), (3, (0, (m2l (E.2 x0 20) x1))), (4, (0, v4_16))] [] E.1 m16l 0 0, fun _ _ => Iff.rfl⟩
    refine (hX16 _ _).mp (h X16 (fun v4_16 m16l h => (hX16 _ _).mpr (fun hF => ?_))) hF
    refine zb_iload (j := 3) dX12_splitIn_16 rfl ?_
    refine zb_aload_n (j := 0) dX12_splitIn_18 rfl rfl ?_
    refine zb_gI 15 dX12_splitIn_19 fl_X12_175 i_0 rfl rfl ?_
    refine zb_icmp_ge (tgt := 38) dX12_splitIn_22 (by decide) (fun c10 => ?_) (fun c10 => ?_)
    · have h := h.1 c10
      refine zb_sub (L' := [(0, (2, x0)), (1, (0, x1)), (3, (0, (m2l (E.2 x0 20) x1)))]) [0, 1, 2] rfl ?_
      exact hJ38 _ hF h
    · have h := h.2 c10
      refine zb_aload_n (j := 0) dX12_splitIn_25 rfl rfl ?_
      refine zb_iload_n (j := 1) dX12_splitIn_26 rfl rfl ?_
      refine zb_iload (j := 3) dX12_splitIn_27 rfl ?_
      refine zb_cV (As := [(0, x1), (0, v4_16)]) (As' := [(0, v4_16), (0, x1)]) (st := []) dX12_splitIn_29 lk_X12_185 gd_X12_see rfl rfl i_0 ⟨_, rfl, rfl⟩ h hW hF (zb_aR i_0 (zb_aI (zb_aI zb_a0))) (Nat.le_refl _) (Nat.le_of_ble_eq_true rfl) (fun r29 m29 hF h => ?_)
      show zb_WP _ _ _ _ [] _ _ _ _
      obtain ⟨o11, h⟩ := h
      refine zb_iinc (j := 3) (L' := [(4, (0, (v4_16 + 1))), (0, (2, x0)), (1, (0, x1)), (3, (0, (m2l (E.2 x0 20) x1)))]) dX12_splitIn_32 rfl o11 (by decide) rfl ?_
      refine zb_goto (tgt := 16) dX12_splitIn_35 (by decide) ?_
      refine zb_sub (L' := [(0, (2, x0)), (1, (0, x1)), (3, (0, (m2l (E.2 x0 20) x1))), (4, (0, (v4_16 + 1)))]) [1, 2, 3, 0] rfl ?_
      exact (hX16 _ _).mp h hF
theorem dX12_isAlone_0 : decode cX12_isAlone 0 = .ok (.iconst 1, 1) := by decide +kernel
theorem dX12_isAlone_1 : decode cX12_isAlone 1 = .ok (.istore_n 3, 1) := by decide +kernel
theorem dX12_isAlone_2 : decode cX12_isAlone 2 = .ok (.iconst 0, 1) := by decide +kernel
theorem dX12_isAlone_3 : decode cX12_isAlone 3 = .ok (.istore 4, 2) := by decide +kernel
theorem dX12_isAlone_5 : decode cX12_isAlone 5 = .ok (.iload 4, 2) := by decide +kernel
theorem dX12_isAlone_7 : decode cX12_isAlone 7 = .ok (.aload_n 0, 1) := by decide +kernel
theorem dX12_isAlone_8 : decode cX12_isAlone 8 = .ok (.getfield 175, 3) := by decide +kernel
theorem dX12_isAlone_11 : decode cX12_isAlone 11 = .ok (.if_icmp .ge 51, 3) := by decide +kernel
theorem dX12_isAlone_14 : decode cX12_isAlone 14 = .ok (.iload_n 3, 1) := by decide +kernel
theorem dX12_isAlone_15 : decode cX12_isAlone 15 = .ok (.ifCond .eq 39, 3) := by decide +kernel
theorem dX12_isAlone_18 : decode cX12_isAlone 18 = .ok (.iload 4, 2) := by decide +kernel
theorem dX12_isAlone_20 : decode cX12_isAlone 20 = .ok (.iload_n 2, 1) := by decide +kernel
theorem dX12_isAlone_21 : decode cX12_isAlone 21 = .ok (.if_icmp .eq 29, 3) := by decide +kernel
theorem dX12_isAlone_24 : decode cX12_isAlone 24 = .ok (.aload_n 0, 1) := by decide +kernel
theorem dX12_isAlone_25 : decode cX12_isAlone 25 = .ok (.getfield 61, 3) := by decide +kernel
theorem dX12_isAlone_28 : decode cX12_isAlone 28 = .ok (.bipush 12, 2) := by decide +kernel
theorem dX12_isAlone_30 : decode cX12_isAlone 30 = .ok (.iload_n 1, 1) := by decide +kernel
theorem dX12_isAlone_31 : decode cX12_isAlone 31 = .ok (.imul, 1) := by decide +kernel
theorem dX12_isAlone_32 : decode cX12_isAlone 32 = .ok (.iload 4, 2) := by decide +kernel
theorem dX12_isAlone_34 : decode cX12_isAlone 34 = .ok (.iadd, 1) := by decide +kernel
theorem dX12_isAlone_35 : decode cX12_isAlone 35 = .ok (.iaload, 1) := by decide +kernel
theorem dX12_isAlone_36 : decode cX12_isAlone 36 = .ok (.aload_n 0, 1) := by decide +kernel
theorem dX12_isAlone_37 : decode cX12_isAlone 37 = .ok (.getfield 61, 3) := by decide +kernel
theorem dX12_isAlone_40 : decode cX12_isAlone 40 = .ok (.bipush 12, 2) := by decide +kernel
theorem dX12_isAlone_42 : decode cX12_isAlone 42 = .ok (.iload_n 1, 1) := by decide +kernel
theorem dX12_isAlone_43 : decode cX12_isAlone 43 = .ok (.imul, 1) := by decide +kernel
theorem dX12_isAlone_44 : decode cX12_isAlone 44 = .ok (.iload_n 2, 1) := by decide +kernel
theorem dX12_isAlone_45 : decode cX12_isAlone 45 = .ok (.iadd, 1) := by decide +kernel
theorem dX12_isAlone_46 : decode cX12_isAlone 46 = .ok (.iaload, 1) := by decide +kernel
theorem dX12_isAlone_47 : decode cX12_isAlone 47 = .ok (.if_icmp .eq 7, 3) := by decide +kernel
theorem dX12_isAlone_50 : decode cX12_isAlone 50 = .ok (.iconst 1, 1) := by decide +kernel
theorem dX12_isAlone_51 : decode cX12_isAlone 51 = .ok (.goto 4, 3) := by decide +kernel
theorem dX12_isAlone_54 : decode cX12_isAlone 54 = .ok (.iconst 0, 1) := by decide +kernel
theorem dX12_isAlone_55 : decode cX12_isAlone 55 = .ok (.istore_n 3, 1) := by decide +kernel
theorem dX12_isAlone_56 : decode cX12_isAlone 56 = .ok (.iinc 4 1, 3) := by decide +kernel
theorem dX12_isAlone_59 : decode cX12_isAlone 59 = .ok (.goto (-54), 3) := by decide +kernel
theorem dX12_isAlone_62 : decode cX12_isAlone 62 = .ok (.iload_n 3, 1) := by decide +kernel
theorem dX12_isAlone_63 : decode cX12_isAlone 63 = .ok (.ireturn, 1) := by decide +kernel
def PL_X12_isAlone_5 (d : Nat) (E : zb_E) (x0 : Int) (x1 : Int) (x2 : Int) (m : zb_M) (Q : Int → Prop)  (v3_5 : Int) (v4_5 : Int) : Prop :=
  ∀ X5 : Int → Int → Prop, (∀ (v3_5 : Int) (v4_5 : Int), (((m x0 15) ≤ v4_5 → (v3_5 = 0 ∨ v3_5 = 1) ∧ (Q v3_5)) ∧ (¬ (m x0 15) ≤ v4_5 → (v3_5 = 0 → (zb_inI (v4_5 + 1)) ∧ (X5 0 (v4_5 + 1))) ∧ (¬ v3_5 = 0 → (v4_5 = x2 → (zb_inI (v4_5 + 1)) ∧ (X5 1 (v4_5 + 1))) ∧ (¬ v4_5 = x2 → (zb_inI (12 * x1)) ∧ ((zb_inI ((12 * x1) + v4_5)) ∧ ((0 ≤ ((12 * x1) + v4_5) ∧ ((12 * x1) + v4_5) < 180) ∧ ((zb_inI ((12 * x1) + x2)) ∧ ((0 ≤ ((12 * x1) + x2) ∧ ((12 * x1) + x2) < 180) ∧ (((m (E.2 x0 19) ((12 * x1) + v4_5)) = (m (E.2 x0 19) ((12 * x1) + x2)) → (zb_inI (v4_5 + 1)) ∧ (X5 0 (v4_5 + 1))) ∧ (¬ (m (E.2 x0 19) ((12 * x1) + v4_5)) = (m (E.2 x0 19) ((12 * x1) + x2)) → (zb_inI (v4_5 + 1)) ∧ (X5 1 (v4_5 + 1)))))))))))) → X5 v3_5 v4_5) → X5 v3_5 v4_5
def PM_X12_isAlone (d : Nat) (E : zb_E) (x0 : Int) (x1 : Int) (x2 : Int) (m : zb_M) (Q : Int → Prop) : Prop :=
  PL_X12_isAlone_5 d E x0 x1 x2 m Q 1 0
set_option maxRecDepth 100000 in
set_option maxHeartbeats 4000000 in
theorem w_X12_isAlone {d : Nat} {E : zb_E} {x0 x1 x2 : Int} {m : zb_M} {Q : Int → Prop} (h : PM_X12_isAlone d E x0 x1 x2 m Q) : zb_Tp K_X12_isAlone (d + 1) [(2, x0), (0, x1), (0, x2)] E m Q := by
  unfold PM_X12_isAlone at h
  refine zb_T_in gd_X12_isAlone rfl rfl (fun hW hA G C hF => ?_)
  have i_0 : zb_is E.1 x0 12 := zb_aH hA (by decide)
  show zb_WP _ _ 0 [(0, (2, x0)), (1, (0, x1)), (2, (0, x2))] [] _ _ _ _
  refine zb_iconst dX12_isAlone_0 (zb_inIc rfl) ?_
  refine zb_istore_n (L' := [(3, (0, 1)), (0, (2, x0)), (1, (0, x1)), (2, (0, x2))]) dX12_isAlone_1 rfl (by decide) rfl ?_
  refine zb_iconst dX12_isAlone_2 (zb_inIc rfl) ?_
  refine zb_istore (L' := [(4, (0, 0)), (3, (0, 1)), (0, (2, x0)), (1, (0, x1)), (2, (0, x2))]) dX12_isAlone_3 (by decide) rfl ?_
  refine zb_sub (L' := [(0, (2, x0)), (1, (0, x1)), (2, (0, x2)), (3, (0, 1)), (4, (0, 0))]) [2, 3, 4, 1, 0] rfl ?_
  unfold PL_X12_isAlone_5 at h
  obtain ⟨X5, hX5⟩ : ∃ X : Int → Int → Prop, ∀ (v3_5 : Int) (v4_5 : Int), (X v3_5 v4_5 ↔ (zb_FIN E m → zb_WP (G, C, d + 1, 0, 0, zb_q E (fun r m' => m' = m ∧ Q r)) F_X12_isAlone 5 [(0, (2, x0)), (1, (0, x1)), (2, (0, x2)), (3, (0, v3_5)), (4, (0, v4_5))] [] E.1 m 0 0)) := ⟨fun v3_5 v4_5 => zb_FIN E m → zb_WP (G, C, d + 1, 0, 0, zb_q E (fun r m' => m' = m ∧ Q r)) F_X12_isAlone 5 [(0, (2, x0)), (1, (0, x1)), (2, (0, x2)), (3, (0, v3_5)), (4, (0, v4_5))] [] E.1 m 0 0, fun _ _ => Iff.rfl⟩
  refine (hX5 _ _).mp (h X5 (fun v3_5 v4_5 h => (hX5 _ _).mpr (fun hF => ?_))) hF
  refine zb_iload (j := 4) dX12_isAlone_5 rfl ?_
  refine zb_aload_n (j := 0) dX12_isAlone_7 rfl rfl ?_
  refine zb_gI 15 dX12_isAlone_8 fl_X12_175 i_0 rfl rfl ?_
  refine zb_icmp_ge (tgt := 62) dX12_isAlone_11 (by decide) (fun c1 => ?_) (fun c1 => ?_)
  · have h := h.1 c1
    refine zb_iload_n (j := 3) dX12_isAlone_62 rfl rfl ?_
    obtain ⟨o2, h⟩ := h
    exact zb_rZ dX12_isAlone_63 rfl hF o2 ⟨rfl, h⟩
  · have h := h.2 c1
    refine zb_iload_n (j := 3) dX12_isAlone_14 rfl rfl ?_
    refine zb_if_eq (tgt := 54) dX12_isAlone_15 (by decide) (fun c3 => ?_) (fun c3 => ?_)
    · have h := h.1 c3
      refine zb_iconst dX12_isAlone_54 (zb_inIc rfl) ?_
      refine zb_istore_n (L' := [(3, (0, 0)), (0, (2, x0)), (1, (0, x1)), (2, (0, x2)), (4, (0, v4_5))]) dX12_isAlone_55 rfl (by decide) rfl ?_
      obtain ⟨o4, h⟩ := h
      refine zb_iinc (j := 4) (L' := [(4, (0, (v4_5 + 1))), (3, (0, 0)), (0, (2, x0)), (1, (0, x1)), (2, (0, x2))]) dX12_isAlone_56 rfl o4 (by decide) rfl ?_
      refine zb_goto (tgt := 5) dX12_isAlone_59 (by decide) ?_
      refine zb_sub (L' := [(0, (2, x0)), (1, (0, x1)), (2, (0, x2)), (3, (0, 0)), (4, (0, (v4_5 + 1)))]) [2, 3, 4, 1, 0] rfl ?_
      exact (hX5 _ _).mp h hF
    · have h := h.2 c3
      refine zb_iload (j := 4) dX12_isAlone_18 rfl ?_
      refine zb_iload_n (j := 2) dX12_isAlone_20 rfl rfl ?_
      refine zb_icmp_eq (tgt := 50) dX12_isAlone_21 (by decide) (fun c5 => ?_) (fun c5 => ?_)
      · have h := h.1 c5
        refine zb_iconst dX12_isAlone_50 (zb_inIc rfl) ?_
        refine zb_goto (tgt := 55) dX12_isAlone_51 (by decide) ?_
        refine zb_istore_n (L' := [(3, (0, 1)), (0, (2, x0)), (1, (0, x1)), (2, (0, x2)), (4, (0, v4_5))]) dX12_isAlone_55 rfl (by decide) rfl ?_
        obtain ⟨o6, h⟩ := h
        refine zb_iinc (j := 4) (L' := [(4, (0, (v4_5 + 1))), (3, (0, 1)), (0, (2, x0)), (1, (0, x1)), (2, (0, x2))]) dX12_isAlone_56 rfl o6 (by decide) rfl ?_
        refine zb_goto (tgt := 5) dX12_isAlone_59 (by decide) ?_
        refine zb_sub (L' := [(0, (2, x0)), (1, (0, x1)), (2, (0, x2)), (3, (0, 1)), (4, (0, (v4_5 + 1)))]) [2, 3, 4, 1, 0] rfl ?_
        exact (hX5 _ _).mp h hF
      · have h := h.2 c5
        refine zb_aload_n (j := 0) dX12_isAlone_24 rfl rfl ?_
        refine zb_gFa 19 dX12_isAlone_25 fl_X12_61 i_0 hW hF rfl rfl rfl (by decide) rfl 180 rfl (fun i7 l8 => ?_)
        refine zb_bipush dX12_isAlone_28 (by decide) (zb_inIc rfl) ?_
        refine zb_iload_n (j := 1) dX12_isAlone_30 rfl rfl ?_
        obtain ⟨o9, h⟩ := h
        refine zb_imul dX12_isAlone_31 o9 ?_
        refine zb_iload (j := 4) dX12_isAlone_32 rfl ?_
        obtain ⟨o10, h⟩ := h
        refine zb_iadd dX12_isAlone_34 o10 ?_
        obtain ⟨o11, h⟩ := h
        refine zb_lI dX12_isAlone_35 i7 l8 o11.1 o11.2 ?_
        refine zb_aload_n (j := 0) dX12_isAlone_36 rfl rfl ?_
        refine zb_gFa 19 dX12_isAlone_37 fl_X12_61 i_0 hW hF rfl rfl rfl (by decide) rfl 180 rfl (fun i12 l13 => ?_)
        refine zb_bipush dX12_isAlone_40 (by decide) (zb_inIc rfl) ?_
        refine zb_iload_n (j := 1) dX12_isAlone_42 rfl rfl ?_
        refine zb_imul dX12_isAlone_43 o9 ?_
        refine zb_iload_n (j := 2) dX12_isAlone_44 rfl rfl ?_
        obtain ⟨o14, h⟩ := h
        refine zb_iadd dX12_isAlone_45 o14 ?_
        obtain ⟨o15, h⟩ := h
        refine zb_lI dX12_isAlone_46 i12 l13 o15.1 o15.2 ?_
        refine zb_icmp_eq (tgt := 54) dX12_isAlone_47 (by decide) (fun c16 => ?_) (fun c16 => ?_)
        · have h := h.1 c16
          refine zb_iconst dX12_isAlone_54 (zb_inIc rfl) ?_
          refine zb_istore_n (L' := [(3, (0, 0)), (0, (2, x0)), (1, (0, x1)), (2, (0, x2)), (4, (0, v4_5))]) dX12_isAlone_55 rfl (by decide) rfl ?_
          obtain ⟨o17, h⟩ := h
          refine zb_iinc (j := 4) (L' := [(4, (0, (v4_5 + 1))), (3, (0, 0)), (0, (2, x0)), (1, (0, x1)), (2, (0, x2))]) dX12_isAlone_56 rfl o17 (by decide) rfl ?_
          refine zb_goto (tgt := 5) dX12_isAlone_59 (by decide) ?_
          refine zb_sub (L' := [(0, (2, x0)), (1, (0, x1)), (2, (0, x2)), (3, (0, 0)), (4, (0, (v4_5 + 1)))]) [2, 3, 4, 1, 0] rfl ?_
          exact (hX5 _ _).mp h hF
        · have h := h.2 c16
          refine zb_iconst dX12_isAlone_50 (zb_inIc rfl) ?_
          refine zb_goto (tgt := 55) dX12_isAlone_51 (by decide) ?_
          refine zb_istore_n (L' := [(3, (0, 1)), (0, (2, x0)), (1, (0, x1)), (2, (0, x2)), (4, (0, v4_5))]) dX12_isAlone_55 rfl (by decide) rfl ?_
          obtain ⟨o18, h⟩ := h
          refine zb_iinc (j := 4) (L' := [(4, (0, (v4_5 + 1))), (3, (0, 1)), (0, (2, x0)), (1, (0, x1)), (2, (0, x2))]) dX12_isAlone_56 rfl o18 (by decide) rfl ?_
          refine zb_goto (tgt := 5) dX12_isAlone_59 (by decide) ?_
          refine zb_sub (L' := [(0, (2, x0)), (1, (0, x1)), (2, (0, x2)), (3, (0, 1)), (4, (0, (v4_5 + 1)))]) [2, 3, 4, 1, 0] rfl ?_
          exact (hX5 _ _).mp h hF
theorem dX12_markIn_0 : decode cX12_markIn 0 = .ok (.aload_n 0, 1) := by decide +kernel
theorem dX12_markIn_1 : decode cX12_markIn 1 = .ok (.iload_n 1, 1) := by decide +kernel
theorem dX12_markIn_2 : decode cX12_markIn 2 = .ok (.iload_n 2, 1) := by decide +kernel
theorem dX12_markIn_3 : decode cX12_markIn 3 = .ok (.invokevirtual 188, 3) := by decide +kernel
theorem dX12_markIn_6 : decode cX12_markIn 6 = .ok (.ifCond .ne 85, 3) := by decide +kernel
theorem dX12_markIn_9 : decode cX12_markIn 9 = .ok (.aload_n 0, 1) := by decide +kernel
theorem dX12_markIn_10 : decode cX12_markIn 10 = .ok (.getfield 61, 3) := by decide +kernel
theorem dX12_markIn_13 : decode cX12_markIn 13 = .ok (.bipush 12, 2) := by decide +kernel
theorem dX12_markIn_15 : decode cX12_markIn 15 = .ok (.iload_n 1, 1) := by decide +kernel
theorem dX12_markIn_16 : decode cX12_markIn 16 = .ok (.imul, 1) := by decide +kernel
theorem dX12_markIn_17 : decode cX12_markIn 17 = .ok (.iload_n 2, 1) := by decide +kernel
theorem dX12_markIn_18 : decode cX12_markIn 18 = .ok (.iadd, 1) := by decide +kernel
theorem dX12_markIn_19 : decode cX12_markIn 19 = .ok (.iaload, 1) := by decide +kernel
theorem dX12_markIn_20 : decode cX12_markIn 20 = .ok (.istore_n 3, 1) := by decide +kernel
theorem dX12_markIn_21 : decode cX12_markIn 21 = .ok (.iconst 0, 1) := by decide +kernel
theorem dX12_markIn_22 : decode cX12_markIn 22 = .ok (.istore 4, 2) := by decide +kernel
theorem dX12_markIn_24 : decode cX12_markIn 24 = .ok (.iload 4, 2) := by decide +kernel
theorem dX12_markIn_26 : decode cX12_markIn 26 = .ok (.aload_n 0, 1) := by decide +kernel
theorem dX12_markIn_27 : decode cX12_markIn 27 = .ok (.getfield 175, 3) := by decide +kernel
theorem dX12_markIn_30 : decode cX12_markIn 30 = .ok (.if_icmp .ge 51, 3) := by decide +kernel
theorem dX12_markIn_33 : decode cX12_markIn 33 = .ok (.aload_n 0, 1) := by decide +kernel
theorem dX12_markIn_34 : decode cX12_markIn 34 = .ok (.getfield 61, 3) := by decide +kernel
theorem dX12_markIn_37 : decode cX12_markIn 37 = .ok (.bipush 12, 2) := by decide +kernel
theorem dX12_markIn_39 : decode cX12_markIn 39 = .ok (.iload_n 1, 1) := by decide +kernel
theorem dX12_markIn_40 : decode cX12_markIn 40 = .ok (.imul, 1) := by decide +kernel
theorem dX12_markIn_41 : decode cX12_markIn 41 = .ok (.iload 4, 2) := by decide +kernel
theorem dX12_markIn_43 : decode cX12_markIn 43 = .ok (.iadd, 1) := by decide +kernel
theorem dX12_markIn_44 : decode cX12_markIn 44 = .ok (.dup2, 1) := by decide +kernel
theorem dX12_markIn_45 : decode cX12_markIn 45 = .ok (.iaload, 1) := by decide +kernel
theorem dX12_markIn_46 : decode cX12_markIn 46 = .ok (.iload 4, 2) := by decide +kernel
theorem dX12_markIn_48 : decode cX12_markIn 48 = .ok (.iload_n 2, 1) := by decide +kernel
theorem dX12_markIn_49 : decode cX12_markIn 49 = .ok (.if_icmp .eq 23, 3) := by decide +kernel
theorem dX12_markIn_52 : decode cX12_markIn 52 = .ok (.aload_n 0, 1) := by decide +kernel
theorem dX12_markIn_53 : decode cX12_markIn 53 = .ok (.getfield 61, 3) := by decide +kernel
theorem dX12_markIn_56 : decode cX12_markIn 56 = .ok (.bipush 12, 2) := by decide +kernel
theorem dX12_markIn_58 : decode cX12_markIn 58 = .ok (.iload_n 1, 1) := by decide +kernel
theorem dX12_markIn_59 : decode cX12_markIn 59 = .ok (.imul, 1) := by decide +kernel
theorem dX12_markIn_60 : decode cX12_markIn 60 = .ok (.iload 4, 2) := by decide +kernel
theorem dX12_markIn_62 : decode cX12_markIn 62 = .ok (.iadd, 1) := by decide +kernel
theorem dX12_markIn_63 : decode cX12_markIn 63 = .ok (.iaload, 1) := by decide +kernel
theorem dX12_markIn_64 : decode cX12_markIn 64 = .ok (.iload_n 3, 1) := by decide +kernel
theorem dX12_markIn_65 : decode cX12_markIn 65 = .ok (.if_icmp .lt 7, 3) := by decide +kernel
theorem dX12_markIn_68 : decode cX12_markIn 68 = .ok (.iconst 1, 1) := by decide +kernel
theorem dX12_markIn_69 : decode cX12_markIn 69 = .ok (.goto 4, 3) := by decide +kernel
theorem dX12_markIn_72 : decode cX12_markIn 72 = .ok (.iconst 0, 1) := by decide +kernel
theorem dX12_markIn_73 : decode cX12_markIn 73 = .ok (.iadd, 1) := by decide +kernel
theorem dX12_markIn_74 : decode cX12_markIn 74 = .ok (.iastore, 1) := by decide +kernel
theorem dX12_markIn_75 : decode cX12_markIn 75 = .ok (.iinc 4 1, 3) := by decide +kernel
theorem dX12_markIn_78 : decode cX12_markIn 78 = .ok (.goto (-54), 3) := by decide +kernel
theorem dX12_markIn_81 : decode cX12_markIn 81 = .ok (.aload_n 0, 1) := by decide +kernel
theorem dX12_markIn_82 : decode cX12_markIn 82 = .ok (.getfield 64, 3) := by decide +kernel
theorem dX12_markIn_85 : decode cX12_markIn 85 = .ok (.iload_n 1, 1) := by decide +kernel
theorem dX12_markIn_86 : decode cX12_markIn 86 = .ok (.dup2, 1) := by decide +kernel
theorem dX12_markIn_87 : decode cX12_markIn 87 = .ok (.iaload, 1) := by decide +kernel
theorem dX12_markIn_88 : decode cX12_markIn 88 = .ok (.iconst 1, 1) := by decide +kernel
theorem dX12_markIn_89 : decode cX12_markIn 89 = .ok (.iadd, 1) := by decide +kernel
theorem dX12_markIn_90 : decode cX12_markIn 90 = .ok (.iastore, 1) := by decide +kernel
theorem dX12_markIn_91 : decode cX12_markIn 91 = .ok (.aload_n 0, 1) := by decide +kernel
theorem dX12_markIn_92 : decode cX12_markIn 92 = .ok (.iload_n 1, 1) := by decide +kernel
theorem dX12_markIn_93 : decode cX12_markIn 93 = .ok (.invokevirtual 191, 3) := by decide +kernel
theorem dX12_markIn_96 : decode cX12_markIn 96 = .ok (.return_, 1) := by decide +kernel
def PJ_X12_markIn_81 (d : Nat) (E : zb_E) (x0 : Int) (x1 : Int) (Q : Int → zb_M → Prop) (m81j : zb_M) : Prop :=
  (0 ≤ x1 ∧ x1 < 15) ∧ ((zb_inI ((m81j (E.2 x0 20) x1) + 1)) ∧ (∀ m90, m90 = zb_up m81j (E.2 x0 20) x1 ((m81j (E.2 x0 20) x1) + 1) → (zb_T K_X12_splitIn d [(2, x0), (0, x1)] E m90 (fun r93 m93 => Q 0 m93))))
def PL_X12_markIn_24 (d : Nat) (E : zb_E) (x0 : Int) (x1 : Int) (x2 : Int) (m : zb_M) (Q : Int → zb_M → Prop) (K81_24 : zb_M → Prop) (v4_24 : Int) (m24l : zb_M) : Prop :=
  ∀ X24 : Int → zb_M → Prop, (∀ (v4_24 : Int) (m24l : zb_M), (((m24l x0 15) ≤ v4_24 → K81_24 m24l) ∧ (¬ (m24l x0 15) ≤ v4_24 → (zb_inI ((12 * x1) + v4_24)) ∧ ((0 ≤ ((12 * x1) + v4_24) ∧ ((12 * x1) + v4_24) < 180) ∧ ((v4_24 = x2 → (zb_inI ((m24l (E.2 x0 19) ((12 * x1) + v4_24)) + 0)) ∧ (∀ m74, m74 = zb_up m24l (E.2 x0 19) ((12 * x1) + v4_24) ((m24l (E.2 x0 19) ((12 * x1) + v4_24)) + 0) → ((zb_inI (v4_24 + 1)) ∧ (X24 (v4_24 + 1) m74)))) ∧ (¬ v4_24 = x2 → ((m24l (E.2 x0 19) ((12 * x1) + v4_24)) < (m (E.2 x0 19) ((12 * x1) + x2)) → (zb_inI ((m24l (E.2 x0 19) ((12 * x1) + v4_24)) + 0)) ∧ (∀ m74, m74 = zb_up m24l (E.2 x0 19) ((12 * x1) + v4_24) ((m24l (E.2 x0 19) ((12 * x1) + v4_24)) + 0) → ((zb_inI (v4_24 + 1)) ∧ (X24 (v4_24 + 1) m74)))) ∧ (¬ (m24l (E.2 x0 19) ((12 * x1) + v4_24)) < (m (E.2 x0 19) ((12 * x1) + x2)) → (zb_inI ((m24l (E.2 x0 19) ((12 * x1) + v4_24)) + 1)) ∧ (∀ m74, m74 = zb_up m24l (E.2 x0 19) ((12 * x1) + v4_24) ((m24l (E.2 x0 19) ((12 * x1) + v4_24)) + 1) → ((zb_inI (v4_24 + 1)) ∧ (X24 (v4_24 + 1) m74))))))))) → X24 v4_24 m24l) → X24 v4_24 m24l
def PM_X12_markIn (d : Nat) (E : zb_E) (x0 : Int) (x1 : Int) (x2 : Int) (m : zb_M) (Q : Int → zb_M → Prop) : Prop :=
  zb_Tp K_X12_isAlone d [(2, x0), (0, x1), (0, x2)] E m (fun r3 => (r3 = 0 → (zb_inI (12 * x1)) ∧ ((zb_inI ((12 * x1) + x2)) ∧ ((0 ≤ ((12 * x1) + x2) ∧ ((12 * x1) + x2) < 180) ∧ (PL_X12_markIn_24 d E x0 x1 x2 m Q (PJ_X12_markIn_81 d E x0 x1 Q) 0 m)))) ∧ (¬ r3 = 0 → zb_T K_X12_splitIn d [(2, x0), (0, x1)] E m (fun r93 m93 => Q 0 m93)))
set_option maxRecDepth 100000 in
set_option maxHeartbeats 4000000 in
theorem w_X12_markIn {d : Nat} {E : zb_E} {x0 x1 x2 : Int} {m : zb_M} {Q : Int → zb_M → Prop} (h : PM_X12_markIn d E x0 x1 x2 m Q) : zb_T K_X12_markIn (d + 1) [(2, x0), (0, x1), (0, x2)] E m Q := by
  unfold PM_X12_markIn at h
  refine zb_T_in gd_X12_markIn rfl rfl (fun hW hA G C hF => ?_)
  have i_0 : zb_is E.1 x0 12 := zb_aH hA (by decide)
  show zb_WP _ _ 0 [(0, (2, x0)), (1, (0, x1)), (2, (0, x2))] [] _ _ _ _
  refine zb_aload_n (j := 0) dX12_markIn_0 rfl rfl ?_
  refine zb_iload_n (j := 1) dX12_markIn_1 rfl rfl ?_
  refine zb_iload_n (j := 2) dX12_markIn_2 rfl rfl ?_
  refine zb_cVp (As := [(0, x1), (0, x2)]) (As' := [(0, x2), (0, x1)]) (st := []) dX12_markIn_3 lk_X12_188 gd_X12_isAlone rfl rfl i_0 ⟨_, rfl, rfl⟩ h hW hF (zb_aR i_0 (zb_aI (zb_aI zb_a0))) (Nat.le_refl _) (Nat.le_of_ble_eq_true rfl) (fun r3 h => ?_)
  show zb_WP _ _ _ _ [(0, r3)] _ _ _ _
  refine zb_if_ne (tgt := 91) dX12_markIn_6 (by decide) (fun c1 => ?_) (fun c1 => ?_)
  · have h := h.2 c1
    refine zb_aload_n (j := 0) dX12_markIn_91 rfl rfl ?_
    refine zb_iload_n (j := 1) dX12_markIn_92 rfl rfl ?_
    refine zb_cV (As := [(0, x1)]) (As' := [(0, x1)]) (st := []) dX12_markIn_93 lk_X12_191 gd_X12_splitIn rfl rfl i_0 ⟨_, rfl, rfl⟩ h hW hF (zb_aR i_0 (zb_aI zb_a0)) (Nat.le_refl _) (Nat.le_of_ble_eq_true rfl) (fun r93 m93 hF h => ?_)
    show zb_WP _ _ _ _ [] _ _ _ _
    exact zb_rV dX12_markIn_96 rfl hF h
  · have h := h.1 c1
    refine zb_aload_n (j := 0) dX12_markIn_9 rfl rfl ?_
    refine zb_gFa 19 dX12_markIn_10 fl_X12_61 i_0 hW hF rfl rfl rfl (by decide) rfl 180 rfl (fun i2 l3 => ?_)
    refine zb_bipush dX12_markIn_13 (by decide) (zb_inIc rfl) ?_
    refine zb_iload_n (j := 1) dX12_markIn_15 rfl rfl ?_
    obtain ⟨o4, h⟩ := h
    refine zb_imul dX12_markIn_16 o4 ?_
    refine zb_iload_n (j := 2) dX12_markIn_17 rfl rfl ?_
    obtain ⟨o5, h⟩ := h
    refine zb_iadd dX12_markIn_18 o5 ?_
    obtain ⟨o6, h⟩ := h
    refine zb_lI dX12_markIn_19 i2 l3 o6.1 o6.2 ?_
    refine zb_istore_n (L' := [(3, (0, (m (E.2 x0 19) ((12 * x1) + x2)))), (0, (2, x0)), (1, (0, x1)), (2, (0, x2))]) dX12_markIn_20 rfl (by decide) rfl ?_
    refine zb_iconst dX12_markIn_21 (zb_inIc rfl) ?_
    refine zb_istore (L' := [(4, (0, 0)), (3, (0, (m (E.2 x0 19) ((12 * x1) + x2)))), (0, (2, x0)), (1, (0, x1)), (2, (0, x2))]) dX12_markIn_22 (by decide) rfl ?_
    refine zb_sub (L' := [(0, (2, x0)), (1, (0, x1)), (2, (0, x2)), (3, (0, (m (E.2 x0 19) ((12 * x1) + x2)))), (4, (0, 0))]) [2, 3, 4, 1, 0] rfl ?_
    have hJ81 : ∀ (m81j : zb_M), zb_FIN E m81j → PJ_X12_markIn_81 d E x0 x1 Q m81j → zb_WP (G, C, d + 1, 0, 0, zb_q E Q) F_X12_markIn 81 [(0, (2, x0)), (1, (0, x1))] [] E.1 m81j 0 0 := by
      intro m81j hF h
      unfold PJ_X12_markIn_81 at h
      refine zb_aload_n (j := 0) dX12_markIn_81 rfl rfl ?_
      refine zb_gFa 20 dX12_markIn_82 fl_X12_64 i_0 hW hF rfl rfl rfl (by decide) rfl 15 rfl (fun i7 l8 => ?_)
      refine zb_iload_n (j := 1) dX12_markIn_85 rfl rfl ?_
      refine zb_dup2 dX12_markIn_86 ?_
      obtain ⟨o9, h⟩ := h
      refine zb_lI dX12_markIn_87 i7 l8 o9.1 o9.2 ?_
      refine zb_iconst dX12_markIn_88 (zb_inIc rfl) ?_
      obtain ⟨o10, h⟩ := h
      refine zb_iadd dX12_markIn_89 o10 ?_
      refine zb_sI dX12_markIn_90 i7 l8 o9.1 o9.2 hF (fun m90 e90 hF => ?_)
      have h := h m90 e90
      refine zb_aload_n (j := 0) dX12_markIn_91 rfl rfl ?_
      refine zb_iload_n (j := 1) dX12_markIn_92 rfl rfl ?_
      refine zb_cV (As := [(0, x1)]) (As' := [(0, x1)]) (st := []) dX12_markIn_93 lk_X12_191 gd_X12_splitIn rfl rfl i_0 ⟨_, rfl, rfl⟩ h hW hF (zb_aR i_0 (zb_aI zb_a0)) (Nat.le_refl _) (Nat.le_of_ble_eq_true rfl) (fun r93 m93 hF h => ?_)
      show zb_WP _ _ _ _ [] _ _ _ _
      exact zb_rV dX12_markIn_96 rfl hF h
    unfold PL_X12_markIn_24 at h
    obtain ⟨X24, hX24⟩ : ∃ X : Int → zb_M → Prop, ∀ (v4_24 : Int) (m24l : zb_M), (X v4_24 m24l ↔ (zb_FIN E m24l → zb_WP (G, C, d + 1, 0, 0, zb_q E Q) F_X12_markIn 24 [(0, (2, x0)), (1, (0, x1)), (2, (0, x2)), (3, (0, (m (E.2 x0 19) ((12 * x1) + x2)))), (4, (0, v4_24))] [] E.1 m24l 0 0)) := ⟨fun v4_24 m24l => zb_FIN E m24l → zb_WP (G, C, d + 1, 0, 0, zb_q E Q) F_X12_markIn 24 [(0, (2, x0)), (1, (0, x1)), (2, (0, x2)), (3, (0, (m (E.2 x0 19) ((12 * x1) + x2)))), (4, (0, v4_24))] [] E.1 m24l 0 0, fun _ _ => Iff.rfl⟩
    refine (hX24 _ _).mp (h X24 (fun v4_24 m24l h => (hX24 _ _).mpr (fun hF => ?_))) hF
    refine zb_iload (j := 4) dX12_markIn_24 rfl ?_
    refine zb_aload_n (j := 0) dX12_markIn_26 rfl rfl ?_
    refine zb_gI 15 dX12_markIn_27 fl_X12_175 i_0 rfl rfl ?_
    refine zb_icmp_ge (tgt := 81) dX12_markIn_30 (by decide) (fun c11 => ?_) (fun c11 => ?_)
    · have h := h.1 c11
      refine zb_sub (L' := [(0, (2, x0)), (1, (0, x1))]) [0, 1] rfl ?_
      exact hJ81 _ hF h
    · have h := h.2 c11
      refine zb_aload_n (j := 0) dX12_markIn_33 rfl rfl ?_
      refine zb_gFa 19 dX12_markIn_34 fl_X12_61 i_0 hW hF rfl rfl rfl (by decide) rfl 180 rfl (fun i12 l13 => ?_)
      refine zb_bipush dX12_markIn_37 (by decide) (zb_inIc rfl) ?_
      refine zb_iload_n (j := 1) dX12_markIn_39 rfl rfl ?_
      refine zb_imul dX12_markIn_40 o4 ?_
      refine zb_iload (j := 4) dX12_markIn_41 rfl ?_
      obtain ⟨o14, h⟩ := h
      refine zb_iadd dX12_markIn_43 o14 ?_
      refine zb_dup2 dX12_markIn_44 ?_
      obtain ⟨o15, h⟩ := h
      refine zb_lI dX12_markIn_45 i12 l13 o15.1 o15.2 ?_
      refine zb_iload (j := 4) dX12_markIn_46 rfl ?_
      refine zb_iload_n (j := 2) dX12_markIn_48 rfl rfl ?_
      refine zb_icmp_eq (tgt := 72) dX12_markIn_49 (by decide) (fun c16 => ?_) (fun c16 => ?_)
      · have h := h.1 c16
        refine zb_iconst dX12_markIn_72 (zb_inIc rfl) ?_
        obtain ⟨o17, h⟩ := h
        refine zb_iadd dX12_markIn_73 o17 ?_
        refine zb_sI dX12_markIn_74 i12 l13 o15.1 o15.2 hF (fun m74 e74 hF => ?_)
        have h := h m74 e74
        obtain ⟨o18, h⟩ := h
        refine zb_iinc (j := 4) (L' := [(4, (0, (v4_24 + 1))), (0, (2, x0)), (1, (0, x1)), (2, (0, x2)), (3, (0, (m (E.2 x0 19) ((12 * x1) + x2))))]) dX12_markIn_75 rfl o18 (by decide) rfl ?_
        refine zb_goto (tgt := 24) dX12_markIn_78 (by decide) ?_
        refine zb_sub (L' := [(0, (2, x0)), (1, (0, x1)), (2, (0, x2)), (3, (0, (m (E.2 x0 19) ((12 * x1) + x2)))), (4, (0, (v4_24 + 1)))]) [1, 2, 3, 4, 0] rfl ?_
        exact (hX24 _ _).mp h hF
      · have h := h.2 c16
        refine zb_aload_n (j := 0) dX12_markIn_52 rfl rfl ?_
        refine zb_gFa 19 dX12_markIn_53 fl_X12_61 i_0 hW hF rfl rfl rfl (by decide) rfl 180 rfl (fun i19 l20 => ?_)
        refine zb_bipush dX12_markIn_56 (by decide) (zb_inIc rfl) ?_
        refine zb_iload_n (j := 1) dX12_markIn_58 rfl rfl ?_
        refine zb_imul dX12_markIn_59 o4 ?_
        refine zb_iload (j := 4) dX12_markIn_60 rfl ?_
        refine zb_iadd dX12_markIn_62 o14 ?_
        refine zb_lI dX12_markIn_63 i19 l20 o15.1 o15.2 ?_
        refine zb_iload_n (j := 3) dX12_markIn_64 rfl rfl ?_
        refine zb_icmp_lt (tgt := 72) dX12_markIn_65 (by decide) (fun c21 => ?_) (fun c21 => ?_)
        · have h := h.1 c21
          refine zb_iconst dX12_markIn_72 (zb_inIc rfl) ?_
          obtain ⟨o22, h⟩ := h
          refine zb_iadd dX12_markIn_73 o22 ?_
          refine zb_sI dX12_markIn_74 i12 l13 o15.1 o15.2 hF (fun m74 e74 hF => ?_)
          have h := h m74 e74
          obtain ⟨o23, h⟩ := h
          refine zb_iinc (j := 4) (L' := [(4, (0, (v4_24 + 1))), (0, (2, x0)), (1, (0, x1)), (2, (0, x2)), (3, (0, (m (E.2 x0 19) ((12 * x1) + x2))))]) dX12_markIn_75 rfl o23 (by decide) rfl ?_
          refine zb_goto (tgt := 24) dX12_markIn_78 (by decide) ?_
          refine zb_sub (L' := [(0, (2, x0)), (1, (0, x1)), (2, (0, x2)), (3, (0, (m (E.2 x0 19) ((12 * x1) + x2)))), (4, (0, (v4_24 + 1)))]) [1, 2, 3, 4, 0] rfl ?_
          exact (hX24 _ _).mp h hF
        · have h := h.2 c21
          refine zb_iconst dX12_markIn_68 (zb_inIc rfl) ?_
          refine zb_goto (tgt := 73) dX12_markIn_69 (by decide) ?_
          obtain ⟨o24, h⟩ := h
          refine zb_iadd dX12_markIn_73 o24 ?_
          refine zb_sI dX12_markIn_74 i12 l13 o15.1 o15.2 hF (fun m74 e74 hF => ?_)
          have h := h m74 e74
          obtain ⟨o25, h⟩ := h
          refine zb_iinc (j := 4) (L' := [(4, (0, (v4_24 + 1))), (0, (2, x0)), (1, (0, x1)), (2, (0, x2)), (3, (0, (m (E.2 x0 19) ((12 * x1) + x2))))]) dX12_markIn_75 rfl o25 (by decide) rfl ?_
          refine zb_goto (tgt := 24) dX12_markIn_78 (by decide) ?_
          refine zb_sub (L' := [(0, (2, x0)), (1, (0, x1)), (2, (0, x2)), (3, (0, (m (E.2 x0 19) ((12 * x1) + x2)))), (4, (0, (v4_24 + 1)))]) [1, 2, 3, 4, 0] rfl ?_
          exact (hX24 _ _).mp h hF
theorem dX12_split_0 : decode cX12_split 0 = .ok (.aload_n 0, 1) := by decide +kernel
theorem dX12_split_1 : decode cX12_split 1 = .ok (.iload_n 1, 1) := by decide +kernel
theorem dX12_split_2 : decode cX12_split 2 = .ok (.invokevirtual 137, 3) := by decide +kernel
theorem dX12_split_5 : decode cX12_split 5 = .ok (.ifCond .ne 5, 3) := by decide +kernel
theorem dX12_split_8 : decode cX12_split 8 = .ok (.iconst (-1), 1) := by decide +kernel
theorem dX12_split_9 : decode cX12_split 9 = .ok (.ireturn, 1) := by decide +kernel
theorem dX12_split_10 : decode cX12_split 10 = .ok (.aload_n 0, 1) := by decide +kernel
theorem dX12_split_11 : decode cX12_split 11 = .ok (.iload_n 1, 1) := by decide +kernel
theorem dX12_split_12 : decode cX12_split 12 = .ok (.invokevirtual 194, 3) := by decide +kernel
theorem dX12_split_15 : decode cX12_split 15 = .ok (.aload_n 0, 1) := by decide +kernel
theorem dX12_split_16 : decode cX12_split 16 = .ok (.bipush 13, 2) := by decide +kernel
theorem dX12_split_18 : decode cX12_split 18 = .ok (.invokevirtual 197, 3) := by decide +kernel
theorem dX12_split_21 : decode cX12_split 21 = .ok (.aload_n 0, 1) := by decide +kernel
theorem dX12_split_22 : decode cX12_split 22 = .ok (.bipush 13, 2) := by decide +kernel
theorem dX12_split_24 : decode cX12_split 24 = .ok (.invokevirtual 191, 3) := by decide +kernel
theorem dX12_split_27 : decode cX12_split 27 = .ok (.aload_n 0, 1) := by decide +kernel
theorem dX12_split_28 : decode cX12_split 28 = .ok (.iconst 1, 1) := by decide +kernel
theorem dX12_split_29 : decode cX12_split 29 = .ok (.putfield 200, 3) := by decide +kernel
theorem dX12_split_32 : decode cX12_split 32 = .ok (.aload_n 0, 1) := by decide +kernel
theorem dX12_split_33 : decode cX12_split 33 = .ok (.aload_n 0, 1) := by decide +kernel
theorem dX12_split_34 : decode cX12_split 34 = .ok (.getfield 175, 3) := by decide +kernel
theorem dX12_split_37 : decode cX12_split 37 = .ok (.putfield 204, 3) := by decide +kernel
theorem dX12_split_40 : decode cX12_split 40 = .ok (.iconst 0, 1) := by decide +kernel
theorem dX12_split_41 : decode cX12_split 41 = .ok (.istore_n 2, 1) := by decide +kernel
theorem dX12_split_42 : decode cX12_split 42 = .ok (.iload_n 2, 1) := by decide +kernel
theorem dX12_split_43 : decode cX12_split 43 = .ok (.aload_n 0, 1) := by decide +kernel
theorem dX12_split_44 : decode cX12_split 44 = .ok (.getfield 175, 3) := by decide +kernel
theorem dX12_split_47 : decode cX12_split 47 = .ok (.if_icmp .ge 21, 3) := by decide +kernel
theorem dX12_split_50 : decode cX12_split 50 = .ok (.aload_n 0, 1) := by decide +kernel
theorem dX12_split_51 : decode cX12_split 51 = .ok (.getfield 73, 3) := by decide +kernel
theorem dX12_split_54 : decode cX12_split 54 = .ok (.iload_n 2, 1) := by decide +kernel
theorem dX12_split_55 : decode cX12_split 55 = .ok (.aload_n 0, 1) := by decide +kernel
theorem dX12_split_56 : decode cX12_split 56 = .ok (.getfield 52, 3) := by decide +kernel
theorem dX12_split_59 : decode cX12_split 59 = .ok (.iload_n 2, 1) := by decide +kernel
theorem dX12_split_60 : decode cX12_split 60 = .ok (.iaload, 1) := by decide +kernel
theorem dX12_split_61 : decode cX12_split 61 = .ok (.iastore, 1) := by decide +kernel
theorem dX12_split_62 : decode cX12_split 62 = .ok (.iinc 2 1, 3) := by decide +kernel
theorem dX12_split_65 : decode cX12_split 65 = .ok (.goto (-23), 3) := by decide +kernel
theorem dX12_split_68 : decode cX12_split 68 = .ok (.iconst 0, 1) := by decide +kernel
theorem dX12_split_69 : decode cX12_split 69 = .ok (.istore_n 2, 1) := by decide +kernel
theorem dX12_split_70 : decode cX12_split 70 = .ok (.iload_n 2, 1) := by decide +kernel
theorem dX12_split_71 : decode cX12_split 71 = .ok (.sipush 144, 3) := by decide +kernel
theorem dX12_split_74 : decode cX12_split 74 = .ok (.if_icmp .ge 21, 3) := by decide +kernel
theorem dX12_split_77 : decode cX12_split 77 = .ok (.aload_n 0, 1) := by decide +kernel
theorem dX12_split_78 : decode cX12_split 78 = .ok (.getfield 76, 3) := by decide +kernel
theorem dX12_split_81 : decode cX12_split 81 = .ok (.iload_n 2, 1) := by decide +kernel
theorem dX12_split_82 : decode cX12_split 82 = .ok (.aload_n 0, 1) := by decide +kernel
theorem dX12_split_83 : decode cX12_split 83 = .ok (.getfield 58, 3) := by decide +kernel
theorem dX12_split_86 : decode cX12_split 86 = .ok (.iload_n 2, 1) := by decide +kernel
theorem dX12_split_87 : decode cX12_split 87 = .ok (.iaload, 1) := by decide +kernel
theorem dX12_split_88 : decode cX12_split 88 = .ok (.iastore, 1) := by decide +kernel
theorem dX12_split_89 : decode cX12_split 89 = .ok (.iinc 2 1, 3) := by decide +kernel
theorem dX12_split_92 : decode cX12_split 92 = .ok (.goto (-22), 3) := by decide +kernel
theorem dX12_split_95 : decode cX12_split 95 = .ok (.aload_n 0, 1) := by decide +kernel
theorem dX12_split_96 : decode cX12_split 96 = .ok (.getfield 64, 3) := by decide +kernel
theorem dX12_split_99 : decode cX12_split 99 = .ok (.bipush 13, 2) := by decide +kernel
theorem dX12_split_101 : decode cX12_split 101 = .ok (.iaload, 1) := by decide +kernel
theorem dX12_split_102 : decode cX12_split 102 = .ok (.ireturn, 1) := by decide +kernel
def PJ_X12_split_95 (d : Nat) (E : zb_E) (x0 : Int) (Q : Int → zb_M → Prop) (m95j : zb_M) : Prop :=
  Q (m95j (E.2 x0 20) 13) m95j
def PL_X12_split_70 (d : Nat) (E : zb_E) (x0 : Int) (Q : Int → zb_M → Prop) (K95_70 : zb_M → Prop) (v2_70 : Int) (m70l : zb_M) : Prop :=
  ∀ X70 : Int → zb_M → Prop, (∀ (v2_70 : Int) (m70l : zb_M), ((144 ≤ v2_70 → K95_70 m70l) ∧ (¬ 144 ≤ v2_70 → (0 ≤ v2_70 ∧ v2_70 < 144) ∧ (∀ m88, m88 = zb_up m70l (E.2 x0 26) v2_70 (m70l (E.2 x0 18) v2_70) → ((zb_inI (v2_70 + 1)) ∧ (X70 (v2_70 + 1) m88))))) → X70 v2_70 m70l) → X70 v2_70 m70l
def PJ_X12_split_68 (d : Nat) (E : zb_E) (x0 : Int) (Q : Int → zb_M → Prop) (m68j : zb_M) : Prop :=
  PL_X12_split_70 d E x0 Q (PJ_X12_split_95 d E x0 Q) 0 m68j
def PL_X12_split_42 (d : Nat) (E : zb_E) (x0 : Int) (Q : Int → zb_M → Prop) (K68_42 : zb_M → Prop) (v2_42 : Int) (m42l : zb_M) : Prop :=
  ∀ X42 : Int → zb_M → Prop, (∀ (v2_42 : Int) (m42l : zb_M), (((m42l x0 15) ≤ v2_42 → K68_42 m42l) ∧ (¬ (m42l x0 15) ≤ v2_42 → (0 ≤ v2_42 ∧ v2_42 < 12) ∧ (∀ m61, m61 = zb_up m42l (E.2 x0 25) v2_42 (m42l (E.2 x0 16) v2_42) → ((zb_inI (v2_42 + 1)) ∧ (X42 (v2_42 + 1) m61))))) → X42 v2_42 m42l) → X42 v2_42 m42l
def PM_X12_split (d : Nat) (E : zb_E) (x0 : Int) (x1 : Int) (m : zb_M) (Q : Int → zb_M → Prop) : Prop :=
  zb_Tp K_X12_isGraph d [(2, x0), (0, x1)] E m (fun r2 => (r2 = 0 → Q (-1) m) ∧ (¬ r2 = 0 → zb_T K_X12_layOut d [(2, x0), (0, x1)] E m (fun r12 m12 => zb_T K_X12_start d [(2, x0), (0, 13)] E m12 (fun r18 m18 => zb_T K_X12_splitIn d [(2, x0), (0, 13)] E m18 (fun r24 m24 => ∀ m29, m29 = zb_up m24 x0 23 1 → (∀ m37, m37 = zb_up m29 x0 24 (m29 x0 15) → (PL_X12_split_42 d E x0 Q (PJ_X12_split_68 d E x0 Q) 0 m37)))))))
set_option maxRecDepth 100000 in
set_option maxHeartbeats 4000000 in
theorem w_X12_split {d : Nat} {E : zb_E} {x0 x1 : Int} {m : zb_M} {Q : Int → zb_M → Prop} (h : PM_X12_split d E x0 x1 m Q) : zb_T K_X12_split (d + 1) [(2, x0), (0, x1)] E m Q := by
  unfold PM_X12_split at h
  refine zb_T_in gd_X12_split rfl rfl (fun hW hA G C hF => ?_)
  have i_0 : zb_is E.1 x0 12 := zb_aH hA (by decide)
  show zb_WP _ _ 0 [(0, (2, x0)), (1, (0, x1))] [] _ _ _ _
  refine zb_aload_n (j := 0) dX12_split_0 rfl rfl ?_
  refine zb_iload_n (j := 1) dX12_split_1 rfl rfl ?_
  refine zb_cVp (As := [(0, x1)]) (As' := [(0, x1)]) (st := []) dX12_split_2 lk_X12_137 gd_X12_isGraph rfl rfl i_0 ⟨_, rfl, rfl⟩ h hW hF (zb_aR i_0 (zb_aI zb_a0)) (Nat.le_refl _) (Nat.le_of_ble_eq_true rfl) (fun r2 h => ?_)
  show zb_WP _ _ _ _ [(0, r2)] _ _ _ _
  refine zb_if_ne (tgt := 10) dX12_split_5 (by decide) (fun c1 => ?_) (fun c1 => ?_)
  · have h := h.2 c1
    refine zb_aload_n (j := 0) dX12_split_10 rfl rfl ?_
    refine zb_iload_n (j := 1) dX12_split_11 rfl rfl ?_
    refine zb_cV (As := [(0, x1)]) (As' := [(0, x1)]) (st := []) dX12_split_12 lk_X12_194 gd_X12_layOut rfl rfl i_0 ⟨_, rfl, rfl⟩ h hW hF (zb_aR i_0 (zb_aI zb_a0)) (Nat.le_refl _) (Nat.le_of_ble_eq_true rfl) (fun r12 m12 hF h => ?_)
    show zb_WP _ _ _ _ [] _ _ _ _
    refine zb_aload_n (j := 0) dX12_split_15 rfl rfl ?_
    refine zb_bipush dX12_split_16 (by decide) (zb_inIc rfl) ?_
    refine zb_cV (As := [(0, 13)]) (As' := [(0, 13)]) (st := []) dX12_split_18 lk_X12_197 gd_X12_start rfl rfl i_0 ⟨_, rfl, rfl⟩ h hW hF (zb_aR i_0 (zb_aI zb_a0)) (Nat.le_refl _) (Nat.le_of_ble_eq_true rfl) (fun r18 m18 hF h => ?_)
    show zb_WP _ _ _ _ [] _ _ _ _
    refine zb_aload_n (j := 0) dX12_split_21 rfl rfl ?_
    refine zb_bipush dX12_split_22 (by decide) (zb_inIc rfl) ?_
    refine zb_cV (As := [(0, 13)]) (As' := [(0, 13)]) (st := []) dX12_split_24 lk_X12_191 gd_X12_splitIn rfl rfl i_0 ⟨_, rfl, rfl⟩ h hW hF (zb_aR i_0 (zb_aI zb_a0)) (Nat.le_refl _) (Nat.le_of_ble_eq_true rfl) (fun r24 m24 hF h => ?_)
    show zb_WP _ _ _ _ [] _ _ _ _
    refine zb_aload_n (j := 0) dX12_split_27 rfl rfl ?_
    refine zb_iconst dX12_split_28 (zb_inIc rfl) ?_
    refine zb_pF 23 dX12_split_29 fl_X12_200 rfl rfl i_0 (Or.inr (Or.inl ⟨rfl, (by decide)⟩)) hF rfl rfl (fun m29 e29 hF => ?_)
    have h := h m29 e29
    refine zb_aload_n (j := 0) dX12_split_32 rfl rfl ?_
    refine zb_aload_n (j := 0) dX12_split_33 rfl rfl ?_
    refine zb_gI 15 dX12_split_34 fl_X12_175 i_0 rfl rfl ?_
    refine zb_pF 24 dX12_split_37 fl_X12_204 rfl rfl i_0 (Or.inl rfl) hF rfl rfl (fun m37 e37 hF => ?_)
    have h := h m37 e37
    refine zb_iconst dX12_split_40 (zb_inIc rfl) ?_
    refine zb_istore_n (L' := [(2, (0, 0)), (0, (2, x0)), (1, (0, x1))]) dX12_split_41 rfl (by decide) rfl ?_
    refine zb_sub (L' := [(0, (2, x0)), (2, (0, 0))]) [1, 0] rfl ?_
    have hJ68 : ∀ (m68j : zb_M), zb_FIN E m68j → PJ_X12_split_68 d E x0 Q m68j → zb_WP (G, C, d + 1, 0, 0, zb_q E Q) F_X12_split 68 [(0, (2, x0))] [] E.1 m68j 0 0 := by
      intro m68j hF h
      unfold PJ_X12_split_68 at h
      refine zb_iconst dX12_split_68 (zb_inIc rfl) ?_
      refine zb_istore_n (L' := [(2, (0, 0)), (0, (2, x0))]) dX12_split_69 rfl (by decide) rfl ?_
      refine zb_sub (L' := [(0, (2, x0)), (2, (0, 0))]) [1, 0] rfl ?_
      have hJ95 : ∀ (m95j : zb_M), zb_FIN E m95j → PJ_X12_split_95 d E x0 Q m95j → zb_WP (G, C, d + 1, 0, 0, zb_q E Q) F_X12_split 95 [(0, (2, x0))] [] E.1 m95j 0 0 := by
        intro m95j hF h
        unfold PJ_X12_split_95 at h
        refine zb_aload_n (j := 0) dX12_split_95 rfl rfl ?_
        refine zb_gFa 20 dX12_split_96 fl_X12_64 i_0 hW hF rfl rfl rfl (by decide) rfl 15 rfl (fun i2 l3 => ?_)
        refine zb_bipush dX12_split_99 (by decide) (zb_inIc rfl) ?_
        refine zb_lI dX12_split_101 i2 l3 (by decide) (by decide) ?_
        exact zb_rI dX12_split_102 rfl hF h
      unfold PL_X12_split_70 at h
      obtain ⟨X70, hX70⟩ : ∃ X : Int → zb_M → Prop, ∀ (v2_70 : Int) (m70l : zb_M), (X v2_70 m70l ↔ (zb_FIN E m70l → zb_WP (G, C, d + 1, 0, 0, zb_q E Q) F_X12_split 70 [(0, (2, x0)), (2, (0, v2_70))] [] E.1 m70l 0 0)) := ⟨fun v2_70 m70l => zb_FIN E m70l → zb_WP (G, C, d + 1, 0, 0, zb_q E Q) F_X12_split 70 [(0, (2, x0)), (2, (0, v2_70))] [] E.1 m70l 0 0, fun _ _ => Iff.rfl⟩
      refine (hX70 _ _).mp (h X70 (fun v2_70 m70l h => (hX70 _ _).mpr (fun hF => ?_))) hF
      refine zb_iload_n (j := 1) dX12_split_70 rfl rfl ?_
      refine zb_sipush dX12_split_71 (by decide) (zb_inIc rfl) ?_
      refine zb_icmp_ge (tgt := 95) dX12_split_74 (by decide) (fun c4 => ?_) (fun c4 => ?_)
      · have h := h.1 c4
        refine zb_sub (L' := [(0, (2, x0))]) [0] rfl ?_
        exact hJ95 _ hF h
      · have h := h.2 c4
        refine zb_aload_n (j := 0) dX12_split_77 rfl rfl ?_
        refine zb_gFa 26 dX12_split_78 fl_X12_76 i_0 hW hF rfl rfl rfl (by decide) rfl 144 rfl (fun i5 l6 => ?_)
        refine zb_iload_n (j := 1) dX12_split_81 rfl rfl ?_
        refine zb_aload_n (j := 0) dX12_split_82 rfl rfl ?_
        refine zb_gFa 18 dX12_split_83 fl_X12_58 i_0 hW hF rfl rfl rfl (by decide) rfl 144 rfl (fun i7 l8 => ?_)
        refine zb_iload_n (j := 1) dX12_split_86 rfl rfl ?_
        obtain ⟨o9, h⟩ := h
        refine zb_lI dX12_split_87 i7 l8 o9.1 o9.2 ?_
        refine zb_sI dX12_split_88 i5 l6 o9.1 o9.2 hF (fun m88 e88 hF => ?_)
        have h := h m88 e88
        obtain ⟨o10, h⟩ := h
        refine zb_iinc (j := 1) (L' := [(2, (0, (v2_70 + 1))), (0, (2, x0))]) dX12_split_89 rfl o10 (by decide) rfl ?_
        refine zb_goto (tgt := 70) dX12_split_92 (by decide) ?_
        refine zb_sub (L' := [(0, (2, x0)), (2, (0, (v2_70 + 1)))]) [1, 0] rfl ?_
        exact (hX70 _ _).mp h hF
    unfold PL_X12_split_42 at h
    obtain ⟨X42, hX42⟩ : ∃ X : Int → zb_M → Prop, ∀ (v2_42 : Int) (m42l : zb_M), (X v2_42 m42l ↔ (zb_FIN E m42l → zb_WP (G, C, d + 1, 0, 0, zb_q E Q) F_X12_split 42 [(0, (2, x0)), (2, (0, v2_42))] [] E.1 m42l 0 0)) := ⟨fun v2_42 m42l => zb_FIN E m42l → zb_WP (G, C, d + 1, 0, 0, zb_q E Q) F_X12_split 42 [(0, (2, x0)), (2, (0, v2_42))] [] E.1 m42l 0 0, fun _ _ => Iff.rfl⟩
    refine (hX42 _ _).mp (h X42 (fun v2_42 m42l h => (hX42 _ _).mpr (fun hF => ?_))) hF
    refine zb_iload_n (j := 1) dX12_split_42 rfl rfl ?_
    refine zb_aload_n (j := 0) dX12_split_43 rfl rfl ?_
    refine zb_gI 15 dX12_split_44 fl_X12_175 i_0 rfl rfl ?_
    refine zb_icmp_ge (tgt := 68) dX12_split_47 (by decide) (fun c11 => ?_) (fun c11 => ?_)
    · have h := h.1 c11
      refine zb_sub (L' := [(0, (2, x0))]) [0] rfl ?_
      exact hJ68 _ hF h
    · have h := h.2 c11
      refine zb_aload_n (j := 0) dX12_split_50 rfl rfl ?_
      refine zb_gFa 25 dX12_split_51 fl_X12_73 i_0 hW hF rfl rfl rfl (by decide) rfl 12 rfl (fun i12 l13 => ?_)
      refine zb_iload_n (j := 1) dX12_split_54 rfl rfl ?_
      refine zb_aload_n (j := 0) dX12_split_55 rfl rfl ?_
      refine zb_gFa 16 dX12_split_56 fl_X12_52 i_0 hW hF rfl rfl rfl (by decide) rfl 12 rfl (fun i14 l15 => ?_)
      refine zb_iload_n (j := 1) dX12_split_59 rfl rfl ?_
      obtain ⟨o16, h⟩ := h
      refine zb_lI dX12_split_60 i14 l15 o16.1 o16.2 ?_
      refine zb_sI dX12_split_61 i12 l13 o16.1 o16.2 hF (fun m61 e61 hF => ?_)
      have h := h m61 e61
      obtain ⟨o17, h⟩ := h
      refine zb_iinc (j := 1) (L' := [(2, (0, (v2_42 + 1))), (0, (2, x0))]) dX12_split_62 rfl o17 (by decide) rfl ?_
      refine zb_goto (tgt := 42) dX12_split_65 (by decide) ?_
      refine zb_sub (L' := [(0, (2, x0)), (2, (0, (v2_42 + 1)))]) [1, 0] rfl ?_
      exact (hX42 _ _).mp h hF
  · have h := h.1 c1
    refine zb_iconst dX12_split_8 (zb_inIc rfl) ?_
    exact zb_rI dX12_split_9 rfl hF h
theorem dX12_handOf_0 : decode cX12_handOf 0 = .ok (.iconst 0, 1) := by decide +kernel
theorem dX12_handOf_1 : decode cX12_handOf 1 = .ok (.istore_n 2, 1) := by decide +kernel
theorem dX12_handOf_2 : decode cX12_handOf 2 = .ok (.iload_n 2, 1) := by decide +kernel
theorem dX12_handOf_3 : decode cX12_handOf 3 = .ok (.aload_n 0, 1) := by decide +kernel
theorem dX12_handOf_4 : decode cX12_handOf 4 = .ok (.getfield 204, 3) := by decide +kernel
theorem dX12_handOf_7 : decode cX12_handOf 7 = .ok (.if_icmp .ge 21, 3) := by decide +kernel
theorem dX12_handOf_10 : decode cX12_handOf 10 = .ok (.aload_n 0, 1) := by decide +kernel
theorem dX12_handOf_11 : decode cX12_handOf 11 = .ok (.getfield 73, 3) := by decide +kernel
theorem dX12_handOf_14 : decode cX12_handOf 14 = .ok (.iload_n 2, 1) := by decide +kernel
theorem dX12_handOf_15 : decode cX12_handOf 15 = .ok (.iaload, 1) := by decide +kernel
theorem dX12_handOf_16 : decode cX12_handOf 16 = .ok (.iload_n 1, 1) := by decide +kernel
theorem dX12_handOf_17 : decode cX12_handOf 17 = .ok (.if_icmp .ne 5, 3) := by decide +kernel
theorem dX12_handOf_20 : decode cX12_handOf 20 = .ok (.iload_n 2, 1) := by decide +kernel
theorem dX12_handOf_21 : decode cX12_handOf 21 = .ok (.ireturn, 1) := by decide +kernel
theorem dX12_handOf_22 : decode cX12_handOf 22 = .ok (.iinc 2 1, 3) := by decide +kernel
theorem dX12_handOf_25 : decode cX12_handOf 25 = .ok (.goto (-23), 3) := by decide +kernel
theorem dX12_handOf_28 : decode cX12_handOf 28 = .ok (.iconst (-1), 1) := by decide +kernel
theorem dX12_handOf_29 : decode cX12_handOf 29 = .ok (.ireturn, 1) := by decide +kernel
def PL_X12_handOf_2 (d : Nat) (E : zb_E) (x0 : Int) (x1 : Int) (m : zb_M) (Q : Int → Prop)  (v2_2 : Int) : Prop :=
  ∀ X2 : Int → Prop, (∀ (v2_2 : Int), (((m x0 24) ≤ v2_2 → Q (-1)) ∧ (¬ (m x0 24) ≤ v2_2 → (0 ≤ v2_2 ∧ v2_2 < 12) ∧ (((m (E.2 x0 25) v2_2) = x1 → Q v2_2) ∧ (¬ (m (E.2 x0 25) v2_2) = x1 → (zb_inI (v2_2 + 1)) ∧ (X2 (v2_2 + 1)))))) → X2 v2_2) → X2 v2_2
def PM_X12_handOf (d : Nat) (E : zb_E) (x0 : Int) (x1 : Int) (m : zb_M) (Q : Int → Prop) : Prop :=
  PL_X12_handOf_2 d E x0 x1 m Q 0
set_option maxRecDepth 100000 in
set_option maxHeartbeats 4000000 in
theorem w_X12_handOf {d : Nat} {E : zb_E} {x0 x1 : Int} {m : zb_M} {Q : Int → Prop} (h : PM_X12_handOf d E x0 x1 m Q) : zb_Tp K_X12_handOf (d + 1) [(2, x0), (0, x1)] E m Q := by
  unfold PM_X12_handOf at h
  refine zb_T_in gd_X12_handOf rfl rfl (fun hW hA G C hF => ?_)
  have i_0 : zb_is E.1 x0 12 := zb_aH hA (by decide)
  show zb_WP _ _ 0 [(0, (2, x0)), (1, (0, x1))] [] _ _ _ _
  refine zb_iconst dX12_handOf_0 (zb_inIc rfl) ?_
  refine zb_istore_n (L' := [(2, (0, 0)), (0, (2, x0)), (1, (0, x1))]) dX12_handOf_1 rfl (by decide) rfl ?_
  refine zb_sub (L' := [(0, (2, x0)), (1, (0, x1)), (2, (0, 0))]) [1, 2, 0] rfl ?_
  unfold PL_X12_handOf_2 at h
  obtain ⟨X2, hX2⟩ : ∃ X : Int → Prop, ∀ (v2_2 : Int), (X v2_2 ↔ (zb_FIN E m → zb_WP (G, C, d + 1, 0, 0, zb_q E (fun r m' => m' = m ∧ Q r)) F_X12_handOf 2 [(0, (2, x0)), (1, (0, x1)), (2, (0, v2_2))] [] E.1 m 0 0)) := ⟨fun v2_2 => zb_FIN E m → zb_WP (G, C, d + 1, 0, 0, zb_q E (fun r m' => m' = m ∧ Q r)) F_X12_handOf 2 [(0, (2, x0)), (1, (0, x1)), (2, (0, v2_2))] [] E.1 m 0 0, fun _ => Iff.rfl⟩
  refine (hX2 _).mp (h X2 (fun v2_2 h => (hX2 _).mpr (fun hF => ?_))) hF
  refine zb_iload_n (j := 2) dX12_handOf_2 rfl rfl ?_
  refine zb_aload_n (j := 0) dX12_handOf_3 rfl rfl ?_
  refine zb_gI 24 dX12_handOf_4 fl_X12_204 i_0 rfl rfl ?_
  refine zb_icmp_ge (tgt := 28) dX12_handOf_7 (by decide) (fun c1 => ?_) (fun c1 => ?_)
  · have h := h.1 c1
    refine zb_iconst dX12_handOf_28 (zb_inIc rfl) ?_
    exact zb_rI dX12_handOf_29 rfl hF ⟨rfl, h⟩
  · have h := h.2 c1
    refine zb_aload_n (j := 0) dX12_handOf_10 rfl rfl ?_
    refine zb_gFa 25 dX12_handOf_11 fl_X12_73 i_0 hW hF rfl rfl rfl (by decide) rfl 12 rfl (fun i2 l3 => ?_)
    refine zb_iload_n (j := 2) dX12_handOf_14 rfl rfl ?_
    obtain ⟨o4, h⟩ := h
    refine zb_lI dX12_handOf_15 i2 l3 o4.1 o4.2 ?_
    refine zb_iload_n (j := 1) dX12_handOf_16 rfl rfl ?_
    refine zb_icmp_ne (tgt := 22) dX12_handOf_17 (by decide) (fun c5 => ?_) (fun c5 => ?_)
    · have h := h.2 c5
      obtain ⟨o6, h⟩ := h
      refine zb_iinc (j := 2) (L' := [(2, (0, (v2_2 + 1))), (0, (2, x0)), (1, (0, x1))]) dX12_handOf_22 rfl o6 (by decide) rfl ?_
      refine zb_goto (tgt := 2) dX12_handOf_25 (by decide) ?_
      refine zb_sub (L' := [(0, (2, x0)), (1, (0, x1)), (2, (0, (v2_2 + 1)))]) [1, 2, 0] rfl ?_
      exact (hX2 _).mp h hF
    · have h := h.1 c5
      refine zb_iload_n (j := 2) dX12_handOf_20 rfl rfl ?_
      exact zb_rI dX12_handOf_21 rfl hF ⟨rfl, h⟩
theorem dX12_mark_0 : decode cX12_mark 0 = .ok (.aload_n 0, 1) := by decide +kernel
theorem dX12_mark_1 : decode cX12_mark 1 = .ok (.getfield 200, 3) := by decide +kernel
theorem dX12_mark_4 : decode cX12_mark 4 = .ok (.ifCond .ne 6, 3) := by decide +kernel
theorem dX12_mark_7 : decode cX12_mark 7 = .ok (.bipush (-2), 2) := by decide +kernel
theorem dX12_mark_9 : decode cX12_mark 9 = .ok (.ireturn, 1) := by decide +kernel
theorem dX12_mark_10 : decode cX12_mark 10 = .ok (.aload_n 0, 1) := by decide +kernel
theorem dX12_mark_11 : decode cX12_mark 11 = .ok (.iload_n 1, 1) := by decide +kernel
theorem dX12_mark_12 : decode cX12_mark 12 = .ok (.invokevirtual 207, 3) := by decide +kernel
theorem dX12_mark_15 : decode cX12_mark 15 = .ok (.istore_n 2, 1) := by decide +kernel
theorem dX12_mark_16 : decode cX12_mark 16 = .ok (.iload_n 2, 1) := by decide +kernel
theorem dX12_mark_17 : decode cX12_mark 17 = .ok (.ifCond .ge 5, 3) := by decide +kernel
theorem dX12_mark_20 : decode cX12_mark 20 = .ok (.iconst (-1), 1) := by decide +kernel
theorem dX12_mark_21 : decode cX12_mark 21 = .ok (.ireturn, 1) := by decide +kernel
theorem dX12_mark_22 : decode cX12_mark 22 = .ok (.aload_n 0, 1) := by decide +kernel
theorem dX12_mark_23 : decode cX12_mark 23 = .ok (.aload_n 0, 1) := by decide +kernel
theorem dX12_mark_24 : decode cX12_mark 24 = .ok (.getfield 204, 3) := by decide +kernel
theorem dX12_mark_27 : decode cX12_mark 27 = .ok (.putfield 175, 3) := by decide +kernel
theorem dX12_mark_30 : decode cX12_mark 30 = .ok (.iconst 0, 1) := by decide +kernel
theorem dX12_mark_31 : decode cX12_mark 31 = .ok (.istore_n 3, 1) := by decide +kernel
theorem dX12_mark_32 : decode cX12_mark 32 = .ok (.iload_n 3, 1) := by decide +kernel
theorem dX12_mark_33 : decode cX12_mark 33 = .ok (.sipush 144, 3) := by decide +kernel
theorem dX12_mark_36 : decode cX12_mark 36 = .ok (.if_icmp .ge 21, 3) := by decide +kernel
theorem dX12_mark_39 : decode cX12_mark 39 = .ok (.aload_n 0, 1) := by decide +kernel
theorem dX12_mark_40 : decode cX12_mark 40 = .ok (.getfield 58, 3) := by decide +kernel
theorem dX12_mark_43 : decode cX12_mark 43 = .ok (.iload_n 3, 1) := by decide +kernel
theorem dX12_mark_44 : decode cX12_mark 44 = .ok (.aload_n 0, 1) := by decide +kernel
theorem dX12_mark_45 : decode cX12_mark 45 = .ok (.getfield 76, 3) := by decide +kernel
theorem dX12_mark_48 : decode cX12_mark 48 = .ok (.iload_n 3, 1) := by decide +kernel
theorem dX12_mark_49 : decode cX12_mark 49 = .ok (.iaload, 1) := by decide +kernel
theorem dX12_mark_50 : decode cX12_mark 50 = .ok (.iastore, 1) := by decide +kernel
theorem dX12_mark_51 : decode cX12_mark 51 = .ok (.iinc 3 1, 3) := by decide +kernel
theorem dX12_mark_54 : decode cX12_mark 54 = .ok (.goto (-22), 3) := by decide +kernel
theorem dX12_mark_57 : decode cX12_mark 57 = .ok (.aload_n 0, 1) := by decide +kernel
theorem dX12_mark_58 : decode cX12_mark 58 = .ok (.bipush 13, 2) := by decide +kernel
theorem dX12_mark_60 : decode cX12_mark 60 = .ok (.iload_n 2, 1) := by decide +kernel
theorem dX12_mark_61 : decode cX12_mark 61 = .ok (.invokevirtual 210, 3) := by decide +kernel
theorem dX12_mark_64 : decode cX12_mark 64 = .ok (.aload_n 0, 1) := by decide +kernel
theorem dX12_mark_65 : decode cX12_mark 65 = .ok (.getfield 64, 3) := by decide +kernel
theorem dX12_mark_68 : decode cX12_mark 68 = .ok (.bipush 13, 2) := by decide +kernel
theorem dX12_mark_70 : decode cX12_mark 70 = .ok (.iaload, 1) := by decide +kernel
theorem dX12_mark_71 : decode cX12_mark 71 = .ok (.ireturn, 1) := by decide +kernel
def PJ_X12_mark_57 (d : Nat) (E : zb_E) (x0 : Int) (r12 : Int) (Q : Int → zb_M → Prop) (m57j : zb_M) : Prop :=
  zb_T K_X12_markIn d [(2, x0), (0, 13), (0, r12)] E m57j (fun r61 m61 => Q (m61 (E.2 x0 20) 13) m61)
def PL_X12_mark_32 (d : Nat) (E : zb_E) (x0 : Int) (Q : Int → zb_M → Prop) (K57_32 : zb_M → Prop) (v3_32 : Int) (m32l : zb_M) : Prop :=
  ∀ X32 : Int → zb_M → Prop, (∀ (v3_32 : Int) (m32l : zb_M), ((144 ≤ v3_32 → K57_32 m32l) ∧ (¬ 144 ≤ v3_32 → (0 ≤ v3_32 ∧ v3_32 < 144) ∧ (∀ m50, m50 = zb_up m32l (E.2 x0 18) v3_32 (m32l (E.2 x0 26) v3_32) → ((zb_inI (v3_32 + 1)) ∧ (X32 (v3_32 + 1) m50))))) → X32 v3_32 m32l) → X32 v3_32 m32l
def PM_X12_mark (d : Nat) (E : zb_E) (x0 : Int) (x1 : Int) (m : zb_M) (Q : Int → zb_M → Prop) : Prop :=
  ((m x0 23) = 0 → Q (-2) m) ∧ (¬ (m x0 23) = 0 → zb_Tp K_X12_handOf d [(2, x0), (0, x1)] E m (fun r12 => (0 ≤ r12 → ∀ m27, m27 = zb_up m x0 15 (m x0 24) → (PL_X12_mark_32 d E x0 Q (PJ_X12_mark_57 d E x0 r12 Q) 0 m27)) ∧ (¬ 0 ≤ r12 → Q (-1) m)))
set_option maxRecDepth 100000 in
set_option maxHeartbeats 4000000 in
theorem w_X12_mark {d : Nat} {E : zb_E} {x0 x1 : Int} {m : zb_M} {Q : Int → zb_M → Prop} (h : PM_X12_mark d E x0 x1 m Q) : zb_T K_X12_mark (d + 1) [(2, x0), (0, x1)] E m Q := by
  unfold PM_X12_mark at h
  refine zb_T_in gd_X12_mark rfl rfl (fun hW hA G C hF => ?_)
  have i_0 : zb_is E.1 x0 12 := zb_aH hA (by decide)
  show zb_WP _ _ 0 [(0, (2, x0)), (1, (0, x1))] [] _ _ _ _
  refine zb_aload_n (j := 0) dX12_mark_0 rfl rfl ?_
  refine zb_gI 23 dX12_mark_1 fl_X12_200 i_0 rfl rfl ?_
  refine zb_if_ne (tgt := 10) dX12_mark_4 (by decide) (fun c1 => ?_) (fun c1 => ?_)
  · have h := h.2 c1
    refine zb_aload_n (j := 0) dX12_mark_10 rfl rfl ?_
    refine zb_iload_n (j := 1) dX12_mark_11 rfl rfl ?_
    refine zb_cVp (As := [(0, x1)]) (As' := [(0, x1)]) (st := []) dX12_mark_12 lk_X12_207 gd_X12_handOf rfl rfl i_0 ⟨_, rfl, rfl⟩ h hW hF (zb_aR i_0 (zb_aI zb_a0)) (Nat.le_refl _) (Nat.le_of_ble_eq_true rfl) (fun r12 h => ?_)
    show zb_WP _ _ _ _ [(0, r12)] _ _ _ _
    refine zb_istore_n (L' := [(2, (0, r12)), (0, (2, x0)), (1, (0, x1))]) dX12_mark_15 rfl (by decide) rfl ?_
    refine zb_iload_n (j := 0) dX12_mark_16 rfl rfl ?_
    refine zb_if_ge (tgt := 22) dX12_mark_17 (by decide) (fun c2 => ?_) (fun c2 => ?_)
    · have h := h.1 c2
      refine zb_aload_n (j := 1) dX12_mark_22 rfl rfl ?_
      refine zb_aload_n (j := 1) dX12_mark_23 rfl rfl ?_
      refine zb_gI 24 dX12_mark_24 fl_X12_204 i_0 rfl rfl ?_
      refine zb_pF 15 dX12_mark_27 fl_X12_175 rfl rfl i_0 (Or.inl rfl) hF rfl rfl (fun m27 e27 hF => ?_)
      have h := h m27 e27
      refine zb_iconst dX12_mark_30 (zb_inIc rfl) ?_
      refine zb_istore_n (L' := [(3, (0, 0)), (2, (0, r12)), (0, (2, x0)), (1, (0, x1))]) dX12_mark_31 rfl (by decide) rfl ?_
      refine zb_sub (L' := [(0, (2, x0)), (2, (0, r12)), (3, (0, 0))]) [2, 1, 0] rfl ?_
      have hJ57 : ∀ (m57j : zb_M), zb_FIN E m57j → PJ_X12_mark_57 d E x0 r12 Q m57j → zb_WP (G, C, d + 1, 0, 0, zb_q E Q) F_X12_mark 57 [(0, (2, x0)), (2, (0, r12))] [] E.1 m57j 0 0 := by
        intro m57j hF h
        unfold PJ_X12_mark_57 at h
        refine zb_aload_n (j := 0) dX12_mark_57 rfl rfl ?_
        refine zb_bipush dX12_mark_58 (by decide) (zb_inIc rfl) ?_
        refine zb_iload_n (j := 1) dX12_mark_60 rfl rfl ?_
        refine zb_cV (As := [(0, 13), (0, r12)]) (As' := [(0, r12), (0, 13)]) (st := []) dX12_mark_61 lk_X12_210 gd_X12_markIn rfl rfl i_0 ⟨_, rfl, rfl⟩ h hW hF (zb_aR i_0 (zb_aI (zb_aI zb_a0))) (Nat.le_refl _) (Nat.le_of_ble_eq_true rfl) (fun r61 m61 hF h => ?_)
        show zb_WP _ _ _ _ [] _ _ _ _
        refine zb_aload_n (j := 0) dX12_mark_64 rfl rfl ?_
        refine zb_gFa 20 dX12_mark_65 fl_X12_64 i_0 hW hF rfl rfl rfl (by decide) rfl 15 rfl (fun i3 l4 => ?_)
        refine zb_bipush dX12_mark_68 (by decide) (zb_inIc rfl) ?_
        refine zb_lI dX12_mark_70 i3 l4 (by decide) (by decide) ?_
        exact zb_rI dX12_mark_71 rfl hF h
      unfold PL_X12_mark_32 at h
      obtain ⟨X32, hX32⟩ : ∃ X : Int → zb_M → Prop, ∀ (v3_32 : Int) (m32l : zb_M), (X v3_32 m32l ↔ (zb_FIN E m32l → zb_WP (G, C, d + 1, 0, 0, zb_q E Q) F_X12_mark 32 [(0, (2, x0)), (2, (0, r12)), (3, (0, v3_32))] [] E.1 m32l 0 0)) := ⟨fun v3_32 m32l => zb_FIN E m32l → zb_WP (G, C, d + 1, 0, 0, zb_q E Q) F_X12_mark 32 [(0, (2, x0)), (2, (0, r12)), (3, (0, v3_32))] [] E.1 m32l 0 0, fun _ _ => Iff.rfl⟩
      refine (hX32 _ _).mp (h X32 (fun v3_32 m32l h => (hX32 _ _).mpr (fun hF => ?_))) hF
      refine zb_iload_n (j := 2) dX12_mark_32 rfl rfl ?_
      refine zb_sipush dX12_mark_33 (by decide) (zb_inIc rfl) ?_
      refine zb_icmp_ge (tgt := 57) dX12_mark_36 (by decide) (fun c5 => ?_) (fun c5 => ?_)
      · have h := h.1 c5
        refine zb_sub (L' := [(0, (2, x0)), (2, (0, r12))]) [0, 1] rfl ?_
        exact hJ57 _ hF h
      · have h := h.2 c5
        refine zb_aload_n (j := 0) dX12_mark_39 rfl rfl ?_
        refine zb_gFa 18 dX12_mark_40 fl_X12_58 i_0 hW hF rfl rfl rfl (by decide) rfl 144 rfl (fun i6 l7 => ?_)
        refine zb_iload_n (j := 2) dX12_mark_43 rfl rfl ?_
        refine zb_aload_n (j := 0) dX12_mark_44 rfl rfl ?_
        refine zb_gFa 26 dX12_mark_45 fl_X12_76 i_0 hW hF rfl rfl rfl (by decide) rfl 144 rfl (fun i8 l9 => ?_)
        refine zb_iload_n (j := 2) dX12_mark_48 rfl rfl ?_
        obtain ⟨o10, h⟩ := h
        refine zb_lI dX12_mark_49 i8 l9 o10.1 o10.2 ?_
        refine zb_sI dX12_mark_50 i6 l7 o10.1 o10.2 hF (fun m50 e50 hF => ?_)
        have h := h m50 e50
        obtain ⟨o11, h⟩ := h
        refine zb_iinc (j := 2) (L' := [(3, (0, (v3_32 + 1))), (0, (2, x0)), (2, (0, r12))]) dX12_mark_51 rfl o11 (by decide) rfl ?_
        refine zb_goto (tgt := 32) dX12_mark_54 (by decide) ?_
        refine zb_sub (L' := [(0, (2, x0)), (2, (0, r12)), (3, (0, (v3_32 + 1)))]) [1, 2, 0] rfl ?_
        exact (hX32 _ _).mp h hF
    · have h := h.2 c2
      refine zb_iconst dX12_mark_20 (zb_inIc rfl) ?_
      exact zb_rI dX12_mark_21 rfl hF h
  · have h := h.1 c1
    refine zb_bipush dX12_mark_7 (by decide) (zb_inIc rfl) ?_
    exact zb_rI dX12_mark_9 rfl hF h
theorem dX12_heapOf_0 : decode cX12_heapOf 0 = .ok (.aload_n 0, 1) := by decide +kernel
theorem dX12_heapOf_1 : decode cX12_heapOf 1 = .ok (.getfield 200, 3) := by decide +kernel
theorem dX12_heapOf_4 : decode cX12_heapOf 4 = .ok (.ifCond .ne 6, 3) := by decide +kernel
theorem dX12_heapOf_7 : decode cX12_heapOf 7 = .ok (.bipush (-2), 2) := by decide +kernel
theorem dX12_heapOf_9 : decode cX12_heapOf 9 = .ok (.ireturn, 1) := by decide +kernel
theorem dX12_heapOf_10 : decode cX12_heapOf 10 = .ok (.aload_n 0, 1) := by decide +kernel
theorem dX12_heapOf_11 : decode cX12_heapOf 11 = .ok (.iload_n 1, 1) := by decide +kernel
theorem dX12_heapOf_12 : decode cX12_heapOf 12 = .ok (.invokevirtual 207, 3) := by decide +kernel
theorem dX12_heapOf_15 : decode cX12_heapOf 15 = .ok (.istore_n 2, 1) := by decide +kernel
theorem dX12_heapOf_16 : decode cX12_heapOf 16 = .ok (.iload_n 2, 1) := by decide +kernel
theorem dX12_heapOf_17 : decode cX12_heapOf 17 = .ok (.ifCond .ge 7, 3) := by decide +kernel
theorem dX12_heapOf_20 : decode cX12_heapOf 20 = .ok (.iconst (-1), 1) := by decide +kernel
theorem dX12_heapOf_21 : decode cX12_heapOf 21 = .ok (.goto 13, 3) := by decide +kernel
theorem dX12_heapOf_24 : decode cX12_heapOf 24 = .ok (.aload_n 0, 1) := by decide +kernel
theorem dX12_heapOf_25 : decode cX12_heapOf 25 = .ok (.getfield 61, 3) := by decide +kernel
theorem dX12_heapOf_28 : decode cX12_heapOf 28 = .ok (.sipush 156, 3) := by decide +kernel
theorem dX12_heapOf_31 : decode cX12_heapOf 31 = .ok (.iload_n 2, 1) := by decide +kernel
theorem dX12_heapOf_32 : decode cX12_heapOf 32 = .ok (.iadd, 1) := by decide +kernel
theorem dX12_heapOf_33 : decode cX12_heapOf 33 = .ok (.iaload, 1) := by decide +kernel
theorem dX12_heapOf_34 : decode cX12_heapOf 34 = .ok (.ireturn, 1) := by decide +kernel
def PM_X12_heapOf (d : Nat) (E : zb_E) (x0 : Int) (x1 : Int) (m : zb_M) (Q : Int → Prop) : Prop :=
  ((m x0 23) = 0 → Q (-2)) ∧ (¬ (m x0 23) = 0 → zb_Tp K_X12_handOf d [(2, x0), (0, x1)] E m (fun r12 => (0 ≤ r12 → (zb_inI (156 + r12)) ∧ ((0 ≤ (156 + r12) ∧ (156 + r12) < 180) ∧ (Q (m (E.2 x0 19) (156 + r12))))) ∧ (¬ 0 ≤ r12 → Q (-1))))
set_option maxRecDepth 100000 in
set_option maxHeartbeats 4000000 in
theorem w_X12_heapOf {d : Nat} {E : zb_E} {x0 x1 : Int} {m : zb_M} {Q : Int → Prop} (h : PM_X12_heapOf d E x0 x1 m Q) : zb_Tp K_X12_heapOf (d + 1) [(2, x0), (0, x1)] E m Q := by
  unfold PM_X12_heapOf at h
  refine zb_T_in gd_X12_heapOf rfl rfl (fun hW hA G C hF => ?_)
  have i_0 : zb_is E.1 x0 12 := zb_aH hA (by decide)
  show zb_WP _ _ 0 [(0, (2, x0)), (1, (0, x1))] [] _ _ _ _
  refine zb_aload_n (j := 0) dX12_heapOf_0 rfl rfl ?_
  refine zb_gI 23 dX12_heapOf_1 fl_X12_200 i_0 rfl rfl ?_
  refine zb_if_ne (tgt := 10) dX12_heapOf_4 (by decide) (fun c1 => ?_) (fun c1 => ?_)
  · have h := h.2 c1
    refine zb_aload_n (j := 0) dX12_heapOf_10 rfl rfl ?_
    refine zb_iload_n (j := 1) dX12_heapOf_11 rfl rfl ?_
    refine zb_cVp (As := [(0, x1)]) (As' := [(0, x1)]) (st := []) dX12_heapOf_12 lk_X12_207 gd_X12_handOf rfl rfl i_0 ⟨_, rfl, rfl⟩ h hW hF (zb_aR i_0 (zb_aI zb_a0)) (Nat.le_refl _) (Nat.le_of_ble_eq_true rfl) (fun r12 h => ?_)
    show zb_WP _ _ _ _ [(0, r12)] _ _ _ _
    refine zb_istore_n (L' := [(2, (0, r12)), (0, (2, x0)), (1, (0, x1))]) dX12_heapOf_15 rfl (by decide) rfl ?_
    refine zb_iload_n (j := 0) dX12_heapOf_16 rfl rfl ?_
    refine zb_if_ge (tgt := 24) dX12_heapOf_17 (by decide) (fun c2 => ?_) (fun c2 => ?_)
    · have h := h.1 c2
      refine zb_aload_n (j := 1) dX12_heapOf_24 rfl rfl ?_
      refine zb_gFa 19 dX12_heapOf_25 fl_X12_61 i_0 hW hF rfl rfl rfl (by decide) rfl 180 rfl (fun i3 l4 => ?_)
      refine zb_sipush dX12_heapOf_28 (by decide) (zb_inIc rfl) ?_
      refine zb_iload_n (j := 0) dX12_heapOf_31 rfl rfl ?_
      obtain ⟨o5, h⟩ := h
      refine zb_iadd dX12_heapOf_32 o5 ?_
      obtain ⟨o6, h⟩ := h
      refine zb_lI dX12_heapOf_33 i3 l4 o6.1 o6.2 ?_
      exact zb_rI dX12_heapOf_34 rfl hF ⟨rfl, h⟩
    · have h := h.2 c2
      refine zb_iconst dX12_heapOf_20 (zb_inIc rfl) ?_
      refine zb_goto (tgt := 34) dX12_heapOf_21 (by decide) ?_
      exact zb_rI dX12_heapOf_34 rfl hF ⟨rfl, h⟩
  · have h := h.1 c1
    refine zb_bipush dX12_heapOf_7 (by decide) (zb_inIc rfl) ?_
    exact zb_rI dX12_heapOf_9 rfl hF ⟨rfl, h⟩
