/-! ===== SameBench$Comparer: instructions and walks (laid by gen/layout.py) ===== -/
theorem dX0_take_0 : decode cX0_take 0 = .ok (.aload_n 0, 1) := by decide +kernel
theorem dX0_take_1 : decode cX0_take 1 = .ok (.getfield 12, 3) := by decide +kernel
theorem dX0_take_4 : decode cX0_take 4 = .ok (.aload_n 1, 1) := by decide +kernel
theorem dX0_take_5 : decode cX0_take 5 = .ok (.invokevirtual 53, 3) := by decide +kernel
theorem dX0_take_8 : decode cX0_take 8 = .ok (.aload_n 0, 1) := by decide +kernel
theorem dX0_take_9 : decode cX0_take 9 = .ok (.getfield 18, 3) := by decide +kernel
theorem dX0_take_12 : decode cX0_take 12 = .ok (.aload_n 2, 1) := by decide +kernel
theorem dX0_take_13 : decode cX0_take 13 = .ok (.invokevirtual 53, 3) := by decide +kernel
theorem dX0_take_16 : decode cX0_take 16 = .ok (.return_, 1) := by decide +kernel
def PM_X0_take (d : Nat) (E : zb_E) (x0 : Int) (x1 : Int) (x2 : Int) (m : zb_M) (Q : Int → zb_M → Prop) : Prop :=
  zb_T K_X6_take d [(2, (E.2 x0 2)), (2, x1)] E m (fun r5 m5 => zb_T K_X6_take d [(2, (E.2 x0 3)), (2, x2)] E m5 (fun r13 m13 => Q 0 m13))
set_option maxRecDepth 100000 in
set_option maxHeartbeats 4000000 in
theorem w_X0_take {d : Nat} {E : zb_E} {x0 x1 x2 : Int} {m : zb_M} {Q : Int → zb_M → Prop} (h : PM_X0_take d E x0 x1 x2 m Q) : zb_T K_X0_take (d + 1) [(2, x0), (2, x1), (2, x2)] E m Q := by
  unfold PM_X0_take at h
  refine zb_T_in gd_X0_take rfl rfl (fun hW hA G C hF => ?_)
  have i_0 : zb_is E.1 x0 0 := zb_aH hA (by decide)
  have i_1 : zb_is E.1 x1 4 := zb_aH (zb_aT hA) (by decide)
  have i_2 : zb_is E.1 x2 4 := zb_aH (zb_aT (zb_aT hA)) (by decide)
  show zb_WP _ _ 0 [(0, (2, x0)), (1, (2, x1)), (2, (2, x2))] [] _ _ _ _
  refine zb_aload_n (j := 0) dX0_take_0 rfl rfl ?_
  refine zb_gFo 2 dX0_take_1 fl_X0_12 i_0 hW hF rfl rfl rfl rfl (fun i1 => ?_)
  refine zb_aload_n (j := 1) dX0_take_4 rfl rfl ?_
  refine zb_cV (As := [(2, x1)]) (As' := [(2, x1)]) (st := []) dX0_take_5 lk_X0_53 gd_X6_take rfl rfl i1 ⟨_, rfl, rfl⟩ h hW hF (zb_aR i1 (zb_aR i_1 zb_a0)) (Nat.le_refl _) (Nat.le_of_ble_eq_true rfl) (fun r5 m5 hF h => ?_)
  show zb_WP _ _ _ _ [] _ _ _ _
  refine zb_aload_n (j := 0) dX0_take_8 rfl rfl ?_
  refine zb_gFo 3 dX0_take_9 fl_X0_18 i_0 hW hF rfl rfl rfl rfl (fun i2 => ?_)
  refine zb_aload_n (j := 2) dX0_take_12 rfl rfl ?_
  refine zb_cV (As := [(2, x2)]) (As' := [(2, x2)]) (st := []) dX0_take_13 lk_X0_53 gd_X6_take rfl rfl i2 ⟨_, rfl, rfl⟩ h hW hF (zb_aR i2 (zb_aR i_2 zb_a0)) (Nat.le_refl _) (Nat.le_of_ble_eq_true rfl) (fun r13 m13 hF h => ?_)
  show zb_WP _ _ _ _ [] _ _ _ _
  exact zb_rV dX0_take_16 rfl hF h
theorem dX0_findNames_0 : decode cX0_findNames 0 = .ok (.aload_n 0, 1) := by decide +kernel
theorem dX0_findNames_1 : decode cX0_findNames 1 = .ok (.getfield 49, 3) := by decide +kernel
theorem dX0_findNames_4 : decode cX0_findNames 4 = .ok (.aload_n 0, 1) := by decide +kernel
theorem dX0_findNames_5 : decode cX0_findNames 5 = .ok (.getfield 12, 3) := by decide +kernel
theorem dX0_findNames_8 : decode cX0_findNames 8 = .ok (.aload_n 0, 1) := by decide +kernel
theorem dX0_findNames_9 : decode cX0_findNames 9 = .ok (.getfield 34, 3) := by decide +kernel
theorem dX0_findNames_12 : decode cX0_findNames 12 = .ok (.invokevirtual 57, 3) := by decide +kernel
theorem dX0_findNames_15 : decode cX0_findNames 15 = .ok (.ifCond .eq 25, 3) := by decide +kernel
theorem dX0_findNames_18 : decode cX0_findNames 18 = .ok (.aload_n 0, 1) := by decide +kernel
theorem dX0_findNames_19 : decode cX0_findNames 19 = .ok (.getfield 49, 3) := by decide +kernel
theorem dX0_findNames_22 : decode cX0_findNames 22 = .ok (.aload_n 0, 1) := by decide +kernel
theorem dX0_findNames_23 : decode cX0_findNames 23 = .ok (.getfield 18, 3) := by decide +kernel
theorem dX0_findNames_26 : decode cX0_findNames 26 = .ok (.aload_n 0, 1) := by decide +kernel
theorem dX0_findNames_27 : decode cX0_findNames 27 = .ok (.getfield 38, 3) := by decide +kernel
theorem dX0_findNames_30 : decode cX0_findNames 30 = .ok (.invokevirtual 57, 3) := by decide +kernel
theorem dX0_findNames_33 : decode cX0_findNames 33 = .ok (.ifCond .eq 7, 3) := by decide +kernel
theorem dX0_findNames_36 : decode cX0_findNames 36 = .ok (.iconst 1, 1) := by decide +kernel
theorem dX0_findNames_37 : decode cX0_findNames 37 = .ok (.goto 4, 3) := by decide +kernel
theorem dX0_findNames_40 : decode cX0_findNames 40 = .ok (.iconst 0, 1) := by decide +kernel
theorem dX0_findNames_41 : decode cX0_findNames 41 = .ok (.ireturn, 1) := by decide +kernel
def PM_X0_findNames (d : Nat) (E : zb_E) (x0 : Int) (m : zb_M) (Q : Int → zb_M → Prop) : Prop :=
  zb_T K_X8_findName d [(2, (E.2 x0 1)), (2, (E.2 x0 2)), (2, (E.2 x0 6))] E m (fun r12 m12 => (r12 = 0 → Q 0 m12) ∧ (¬ r12 = 0 → zb_T K_X8_findName d [(2, (E.2 x0 1)), (2, (E.2 x0 3)), (2, (E.2 x0 7))] E m12 (fun r30 m30 => (r30 = 0 → Q 0 m30) ∧ (¬ r30 = 0 → Q 1 m30))))
set_option maxRecDepth 100000 in
set_option maxHeartbeats 4000000 in
theorem w_X0_findNames {d : Nat} {E : zb_E} {x0 : Int} {m : zb_M} {Q : Int → zb_M → Prop} (h : PM_X0_findNames d E x0 m Q) : zb_T K_X0_findNames (d + 1) [(2, x0)] E m Q := by
  unfold PM_X0_findNames at h
  refine zb_T_in gd_X0_findNames rfl rfl (fun hW hA G C hF => ?_)
  have i_0 : zb_is E.1 x0 0 := zb_aH hA (by decide)
  show zb_WP _ _ 0 [(0, (2, x0))] [] _ _ _ _
  refine zb_aload_n (j := 0) dX0_findNames_0 rfl rfl ?_
  refine zb_gFo 1 dX0_findNames_1 fl_X0_49 i_0 hW hF rfl rfl rfl rfl (fun i1 => ?_)
  refine zb_aload_n (j := 0) dX0_findNames_4 rfl rfl ?_
  refine zb_gFo 2 dX0_findNames_5 fl_X0_12 i_0 hW hF rfl rfl rfl rfl (fun i2 => ?_)
  refine zb_aload_n (j := 0) dX0_findNames_8 rfl rfl ?_
  refine zb_gFo 6 dX0_findNames_9 fl_X0_34 i_0 hW hF rfl rfl rfl rfl (fun i3 => ?_)
  refine zb_cV (As := [(2, (E.2 x0 2)), (2, (E.2 x0 6))]) (As' := [(2, (E.2 x0 6)), (2, (E.2 x0 2))]) (st := []) dX0_findNames_12 lk_X0_57 gd_X8_findName rfl rfl i1 ⟨_, rfl, rfl⟩ h hW hF (zb_aR i1 (zb_aR i2 (zb_aR i3 zb_a0))) (Nat.le_refl _) (Nat.le_of_ble_eq_true rfl) (fun r12 m12 hF h => ?_)
  show zb_WP _ _ _ _ [(0, r12)] _ _ _ _
  refine zb_if_eq (tgt := 40) dX0_findNames_15 (by decide) (fun c4 => ?_) (fun c4 => ?_)
  · have h := h.1 c4
    refine zb_iconst dX0_findNames_40 (zb_inIc rfl) ?_
    exact zb_rZ dX0_findNames_41 rfl hF (by decide) h
  · have h := h.2 c4
    refine zb_aload_n (j := 0) dX0_findNames_18 rfl rfl ?_
    refine zb_gFo 1 dX0_findNames_19 fl_X0_49 i_0 hW hF rfl rfl rfl rfl (fun i5 => ?_)
    refine zb_aload_n (j := 0) dX0_findNames_22 rfl rfl ?_
    refine zb_gFo 3 dX0_findNames_23 fl_X0_18 i_0 hW hF rfl rfl rfl rfl (fun i6 => ?_)
    refine zb_aload_n (j := 0) dX0_findNames_26 rfl rfl ?_
    refine zb_gFo 7 dX0_findNames_27 fl_X0_38 i_0 hW hF rfl rfl rfl rfl (fun i7 => ?_)
    refine zb_cV (As := [(2, (E.2 x0 3)), (2, (E.2 x0 7))]) (As' := [(2, (E.2 x0 7)), (2, (E.2 x0 3))]) (st := []) dX0_findNames_30 lk_X0_57 gd_X8_findName rfl rfl i5 ⟨_, rfl, rfl⟩ h hW hF (zb_aR i5 (zb_aR i6 (zb_aR i7 zb_a0))) (Nat.le_refl _) (Nat.le_of_ble_eq_true rfl) (fun r30 m30 hF h => ?_)
    show zb_WP _ _ _ _ [(0, r30)] _ _ _ _
    refine zb_if_eq (tgt := 40) dX0_findNames_33 (by decide) (fun c8 => ?_) (fun c8 => ?_)
    · have h := h.1 c8
      refine zb_iconst dX0_findNames_40 (zb_inIc rfl) ?_
      exact zb_rZ dX0_findNames_41 rfl hF (by decide) h
    · have h := h.2 c8
      refine zb_iconst dX0_findNames_36 (zb_inIc rfl) ?_
      refine zb_goto (tgt := 41) dX0_findNames_37 (by decide) ?_
      exact zb_rZ dX0_findNames_41 rfl hF (by decide) h
theorem dX0_isOneName_0 : decode cX0_isOneName 0 = .ok (.aload_n 0, 1) := by decide +kernel
theorem dX0_isOneName_1 : decode cX0_isOneName 1 = .ok (.getfield 34, 3) := by decide +kernel
theorem dX0_isOneName_4 : decode cX0_isOneName 4 = .ok (.aload_n 0, 1) := by decide +kernel
theorem dX0_isOneName_5 : decode cX0_isOneName 5 = .ok (.getfield 38, 3) := by decide +kernel
theorem dX0_isOneName_8 : decode cX0_isOneName 8 = .ok (.invokevirtual 63, 3) := by decide +kernel
theorem dX0_isOneName_11 : decode cX0_isOneName 11 = .ok (.ifCond .ge 7, 3) := by decide +kernel
theorem dX0_isOneName_14 : decode cX0_isOneName 14 = .ok (.iconst 1, 1) := by decide +kernel
theorem dX0_isOneName_15 : decode cX0_isOneName 15 = .ok (.goto 4, 3) := by decide +kernel
theorem dX0_isOneName_18 : decode cX0_isOneName 18 = .ok (.iconst 0, 1) := by decide +kernel
theorem dX0_isOneName_19 : decode cX0_isOneName 19 = .ok (.ireturn, 1) := by decide +kernel
def PM_X0_isOneName (d : Nat) (E : zb_E) (x0 : Int) (m : zb_M) (Q : Int → Prop) : Prop :=
  zb_Tp K_X3_differsAt d [(2, (E.2 x0 6)), (2, (E.2 x0 7))] E m (fun r8 => (0 ≤ r8 → Q 0) ∧ (¬ 0 ≤ r8 → Q 1))
set_option maxRecDepth 100000 in
set_option maxHeartbeats 4000000 in
theorem w_X0_isOneName {d : Nat} {E : zb_E} {x0 : Int} {m : zb_M} {Q : Int → Prop} (h : PM_X0_isOneName d E x0 m Q) : zb_Tp K_X0_isOneName (d + 1) [(2, x0)] E m Q := by
  unfold PM_X0_isOneName at h
  refine zb_T_in gd_X0_isOneName rfl rfl (fun hW hA G C hF => ?_)
  have i_0 : zb_is E.1 x0 0 := zb_aH hA (by decide)
  show zb_WP _ _ 0 [(0, (2, x0))] [] _ _ _ _
  refine zb_aload_n (j := 0) dX0_isOneName_0 rfl rfl ?_
  refine zb_gFo 6 dX0_isOneName_1 fl_X0_34 i_0 hW hF rfl rfl rfl rfl (fun i1 => ?_)
  refine zb_aload_n (j := 0) dX0_isOneName_4 rfl rfl ?_
  refine zb_gFo 7 dX0_isOneName_5 fl_X0_38 i_0 hW hF rfl rfl rfl rfl (fun i2 => ?_)
  refine zb_cVp (As := [(2, (E.2 x0 7))]) (As' := [(2, (E.2 x0 7))]) (st := []) dX0_isOneName_8 lk_X0_63 gd_X3_differsAt rfl rfl i1 ⟨_, rfl, rfl⟩ h hW hF (zb_aR i1 (zb_aR i2 zb_a0)) (Nat.le_refl _) (Nat.le_of_ble_eq_true rfl) (fun r8 h => ?_)
  show zb_WP _ _ _ _ [(0, r8)] _ _ _ _
  refine zb_if_ge (tgt := 18) dX0_isOneName_11 (by decide) (fun c3 => ?_) (fun c3 => ?_)
  · have h := h.1 c3
    refine zb_iconst dX0_isOneName_18 (zb_inIc rfl) ?_
    exact zb_rZ dX0_isOneName_19 rfl hF (by decide) ⟨rfl, h⟩
  · have h := h.2 c3
    refine zb_iconst dX0_isOneName_14 (zb_inIc rfl) ?_
    refine zb_goto (tgt := 19) dX0_isOneName_15 (by decide) ?_
    exact zb_rZ dX0_isOneName_19 rfl hF (by decide) ⟨rfl, h⟩
theorem dX0_tellApart_0 : decode cX0_tellApart 0 = .ok (.aload_n 0, 1) := by decide +kernel
theorem dX0_tellApart_1 : decode cX0_tellApart 1 = .ok (.getfield 12, 3) := by decide +kernel
theorem dX0_tellApart_4 : decode cX0_tellApart 4 = .ok (.getfield 67, 3) := by decide +kernel
theorem dX0_tellApart_7 : decode cX0_tellApart 7 = .ok (.aload_n 0, 1) := by decide +kernel
theorem dX0_tellApart_8 : decode cX0_tellApart 8 = .ok (.getfield 18, 3) := by decide +kernel
theorem dX0_tellApart_11 : decode cX0_tellApart 11 = .ok (.getfield 67, 3) := by decide +kernel
theorem dX0_tellApart_14 : decode cX0_tellApart 14 = .ok (.if_icmp .eq 24, 3) := by decide +kernel
theorem dX0_tellApart_17 : decode cX0_tellApart 17 = .ok (.aload_n 0, 1) := by decide +kernel
theorem dX0_tellApart_18 : decode cX0_tellApart 18 = .ok (.iconst 0, 1) := by decide +kernel
theorem dX0_tellApart_19 : decode cX0_tellApart 19 = .ok (.aload_n 0, 1) := by decide +kernel
theorem dX0_tellApart_20 : decode cX0_tellApart 20 = .ok (.getfield 12, 3) := by decide +kernel
theorem dX0_tellApart_23 : decode cX0_tellApart 23 = .ok (.getfield 67, 3) := by decide +kernel
theorem dX0_tellApart_26 : decode cX0_tellApart 26 = .ok (.aload_n 0, 1) := by decide +kernel
theorem dX0_tellApart_27 : decode cX0_tellApart 27 = .ok (.getfield 18, 3) := by decide +kernel
theorem dX0_tellApart_30 : decode cX0_tellApart 30 = .ok (.getfield 67, 3) := by decide +kernel
theorem dX0_tellApart_33 : decode cX0_tellApart 33 = .ok (.invokevirtual 71, 3) := by decide +kernel
theorem dX0_tellApart_36 : decode cX0_tellApart 36 = .ok (.iconst 1, 1) := by decide +kernel
theorem dX0_tellApart_37 : decode cX0_tellApart 37 = .ok (.ireturn, 1) := by decide +kernel
theorem dX0_tellApart_38 : decode cX0_tellApart 38 = .ok (.aload_n 0, 1) := by decide +kernel
theorem dX0_tellApart_39 : decode cX0_tellApart 39 = .ok (.getfield 45, 3) := by decide +kernel
theorem dX0_tellApart_42 : decode cX0_tellApart 42 = .ok (.aload_n 0, 1) := by decide +kernel
theorem dX0_tellApart_43 : decode cX0_tellApart 43 = .ok (.getfield 24, 3) := by decide +kernel
theorem dX0_tellApart_46 : decode cX0_tellApart 46 = .ok (.aload_n 0, 1) := by decide +kernel
theorem dX0_tellApart_47 : decode cX0_tellApart 47 = .ok (.getfield 12, 3) := by decide +kernel
theorem dX0_tellApart_50 : decode cX0_tellApart 50 = .ok (.invokevirtual 75, 3) := by decide +kernel
theorem dX0_tellApart_53 : decode cX0_tellApart 53 = .ok (.aload_n 0, 1) := by decide +kernel
theorem dX0_tellApart_54 : decode cX0_tellApart 54 = .ok (.getfield 45, 3) := by decide +kernel
theorem dX0_tellApart_57 : decode cX0_tellApart 57 = .ok (.aload_n 0, 1) := by decide +kernel
theorem dX0_tellApart_58 : decode cX0_tellApart 58 = .ok (.getfield 28, 3) := by decide +kernel
theorem dX0_tellApart_61 : decode cX0_tellApart 61 = .ok (.aload_n 0, 1) := by decide +kernel
theorem dX0_tellApart_62 : decode cX0_tellApart 62 = .ok (.getfield 18, 3) := by decide +kernel
theorem dX0_tellApart_65 : decode cX0_tellApart 65 = .ok (.invokevirtual 75, 3) := by decide +kernel
theorem dX0_tellApart_68 : decode cX0_tellApart 68 = .ok (.aload_n 0, 1) := by decide +kernel
theorem dX0_tellApart_69 : decode cX0_tellApart 69 = .ok (.invokevirtual 81, 3) := by decide +kernel
theorem dX0_tellApart_72 : decode cX0_tellApart 72 = .ok (.ifCond .eq 5, 3) := by decide +kernel
theorem dX0_tellApart_75 : decode cX0_tellApart 75 = .ok (.iconst 2, 1) := by decide +kernel
theorem dX0_tellApart_76 : decode cX0_tellApart 76 = .ok (.ireturn, 1) := by decide +kernel
theorem dX0_tellApart_77 : decode cX0_tellApart 77 = .ok (.aload_n 0, 1) := by decide +kernel
theorem dX0_tellApart_78 : decode cX0_tellApart 78 = .ok (.invokevirtual 85, 3) := by decide +kernel
theorem dX0_tellApart_81 : decode cX0_tellApart 81 = .ok (.ifCond .eq 5, 3) := by decide +kernel
theorem dX0_tellApart_84 : decode cX0_tellApart 84 = .ok (.iconst 3, 1) := by decide +kernel
theorem dX0_tellApart_85 : decode cX0_tellApart 85 = .ok (.ireturn, 1) := by decide +kernel
theorem dX0_tellApart_86 : decode cX0_tellApart 86 = .ok (.aload_n 0, 1) := by decide +kernel
theorem dX0_tellApart_87 : decode cX0_tellApart 87 = .ok (.invokevirtual 88, 3) := by decide +kernel
theorem dX0_tellApart_90 : decode cX0_tellApart 90 = .ok (.ifCond .ne 6, 3) := by decide +kernel
theorem dX0_tellApart_93 : decode cX0_tellApart 93 = .ok (.bipush (-3), 2) := by decide +kernel
theorem dX0_tellApart_95 : decode cX0_tellApart 95 = .ok (.ireturn, 1) := by decide +kernel
theorem dX0_tellApart_96 : decode cX0_tellApart 96 = .ok (.aload_n 0, 1) := by decide +kernel
theorem dX0_tellApart_97 : decode cX0_tellApart 97 = .ok (.invokevirtual 91, 3) := by decide +kernel
theorem dX0_tellApart_100 : decode cX0_tellApart 100 = .ok (.ifCond .eq 7, 3) := by decide +kernel
theorem dX0_tellApart_103 : decode cX0_tellApart 103 = .ok (.iconst 4, 1) := by decide +kernel
theorem dX0_tellApart_104 : decode cX0_tellApart 104 = .ok (.goto 4, 3) := by decide +kernel
theorem dX0_tellApart_107 : decode cX0_tellApart 107 = .ok (.iconst 0, 1) := by decide +kernel
theorem dX0_tellApart_108 : decode cX0_tellApart 108 = .ok (.ireturn, 1) := by decide +kernel
def PM_X0_tellApart (d : Nat) (E : zb_E) (x0 : Int) (m : zb_M) (Q : Int → zb_M → Prop) : Prop :=
  ((m (E.2 x0 2) 0) = (m (E.2 x0 3) 0) → zb_T K_X7_begin d [(2, (E.2 x0 0)), (2, (E.2 x0 4)), (2, (E.2 x0 2))] E m (fun r50 m50 => zb_T K_X7_begin d [(2, (E.2 x0 0)), (2, (E.2 x0 5)), (2, (E.2 x0 3))] E m50 (fun r65 m65 => zb_T K_X0_isToldByKeys d [(2, x0)] E m65 (fun r69 m69 => (r69 = 0 → zb_T K_X0_isToldByHeaps d [(2, x0)] E m69 (fun r78 m78 => (r78 = 0 → zb_T K_X0_findNames d [(2, x0)] E m78 (fun r87 m87 => (r87 = 0 → Q (-3) m87) ∧ (¬ r87 = 0 → zb_T K_X0_isToldByNames d [(2, x0)] E m87 (fun r97 m97 => (r97 = 0 → Q 0 m97) ∧ (¬ r97 = 0 → Q 4 m97))))) ∧ (¬ r78 = 0 → Q 3 m78))) ∧ (¬ r69 = 0 → Q 2 m69))))) ∧ (¬ (m (E.2 x0 2) 0) = (m (E.2 x0 3) 0) → zb_T K_X0_keepDifference d [(2, x0), (0, 0), (0, (m (E.2 x0 2) 0)), (0, (m (E.2 x0 3) 0))] E m (fun r33 m33 => Q 1 m33))
set_option maxRecDepth 100000 in
set_option maxHeartbeats 4000000 in
theorem w_X0_tellApart {d : Nat} {E : zb_E} {x0 : Int} {m : zb_M} {Q : Int → zb_M → Prop} (h : PM_X0_tellApart d E x0 m Q) : zb_T K_X0_tellApart (d + 1) [(2, x0)] E m Q := by
  unfold PM_X0_tellApart at h
  refine zb_T_in gd_X0_tellApart rfl rfl (fun hW hA G C hF => ?_)
  have i_0 : zb_is E.1 x0 0 := zb_aH hA (by decide)
  show zb_WP _ _ 0 [(0, (2, x0))] [] _ _ _ _
  refine zb_aload_n (j := 0) dX0_tellApart_0 rfl rfl ?_
  refine zb_gFo 2 dX0_tellApart_1 fl_X0_12 i_0 hW hF rfl rfl rfl rfl (fun i1 => ?_)
  refine zb_gI 0 dX0_tellApart_4 fl_X0_67 i1 rfl rfl ?_
  refine zb_aload_n (j := 0) dX0_tellApart_7 rfl rfl ?_
  refine zb_gFo 3 dX0_tellApart_8 fl_X0_18 i_0 hW hF rfl rfl rfl rfl (fun i2 => ?_)
  refine zb_gI 0 dX0_tellApart_11 fl_X0_67 i2 rfl rfl ?_
  refine zb_icmp_eq (tgt := 38) dX0_tellApart_14 (by decide) (fun c3 => ?_) (fun c3 => ?_)
  · have h := h.1 c3
    refine zb_aload_n (j := 0) dX0_tellApart_38 rfl rfl ?_
    refine zb_gFo 0 dX0_tellApart_39 fl_X0_45 i_0 hW hF rfl rfl rfl rfl (fun i4 => ?_)
    refine zb_aload_n (j := 0) dX0_tellApart_42 rfl rfl ?_
    refine zb_gFo 4 dX0_tellApart_43 fl_X0_24 i_0 hW hF rfl rfl rfl rfl (fun i5 => ?_)
    refine zb_aload_n (j := 0) dX0_tellApart_46 rfl rfl ?_
    refine zb_gFo 2 dX0_tellApart_47 fl_X0_12 i_0 hW hF rfl rfl rfl rfl (fun i6 => ?_)
    refine zb_cV (As := [(2, (E.2 x0 4)), (2, (E.2 x0 2))]) (As' := [(2, (E.2 x0 2)), (2, (E.2 x0 4))]) (st := []) dX0_tellApart_50 lk_X0_75 gd_X7_begin rfl rfl i4 ⟨_, rfl, rfl⟩ h hW hF (zb_aR i4 (zb_aR i5 (zb_aR i6 zb_a0))) (Nat.le_refl _) (Nat.le_of_ble_eq_true rfl) (fun r50 m50 hF h => ?_)
    show zb_WP _ _ _ _ [] _ _ _ _
    refine zb_aload_n (j := 0) dX0_tellApart_53 rfl rfl ?_
    refine zb_gFo 0 dX0_tellApart_54 fl_X0_45 i_0 hW hF rfl rfl rfl rfl (fun i7 => ?_)
    refine zb_aload_n (j := 0) dX0_tellApart_57 rfl rfl ?_
    refine zb_gFo 5 dX0_tellApart_58 fl_X0_28 i_0 hW hF rfl rfl rfl rfl (fun i8 => ?_)
    refine zb_aload_n (j := 0) dX0_tellApart_61 rfl rfl ?_
    refine zb_gFo 3 dX0_tellApart_62 fl_X0_18 i_0 hW hF rfl rfl rfl rfl (fun i9 => ?_)
    refine zb_cV (As := [(2, (E.2 x0 5)), (2, (E.2 x0 3))]) (As' := [(2, (E.2 x0 3)), (2, (E.2 x0 5))]) (st := []) dX0_tellApart_65 lk_X0_75 gd_X7_begin rfl rfl i7 ⟨_, rfl, rfl⟩ h hW hF (zb_aR i7 (zb_aR i8 (zb_aR i9 zb_a0))) (Nat.le_refl _) (Nat.le_of_ble_eq_true rfl) (fun r65 m65 hF h => ?_)
    show zb_WP _ _ _ _ [] _ _ _ _
    refine zb_aload_n (j := 0) dX0_tellApart_68 rfl rfl ?_
    refine zb_cV (As := []) (As' := []) (st := []) dX0_tellApart_69 lk_X0_81 gd_X0_isToldByKeys rfl rfl i_0 ⟨_, rfl, rfl⟩ h hW hF (zb_aR i_0 zb_a0) (Nat.le_refl _) (Nat.le_of_ble_eq_true rfl) (fun r69 m69 hF h => ?_)
    show zb_WP _ _ _ _ [(0, r69)] _ _ _ _
    refine zb_if_eq (tgt := 77) dX0_tellApart_72 (by decide) (fun c10 => ?_) (fun c10 => ?_)
    · have h := h.1 c10
      refine zb_aload_n (j := 0) dX0_tellApart_77 rfl rfl ?_
      refine zb_cV (As := []) (As' := []) (st := []) dX0_tellApart_78 lk_X0_85 gd_X0_isToldByHeaps rfl rfl i_0 ⟨_, rfl, rfl⟩ h hW hF (zb_aR i_0 zb_a0) (Nat.le_refl _) (Nat.le_of_ble_eq_true rfl) (fun r78 m78 hF h => ?_)
      show zb_WP _ _ _ _ [(0, r78)] _ _ _ _
      refine zb_if_eq (tgt := 86) dX0_tellApart_81 (by decide) (fun c11 => ?_) (fun c11 => ?_)
      · have h := h.1 c11
        refine zb_aload_n (j := 0) dX0_tellApart_86 rfl rfl ?_
        refine zb_cV (As := []) (As' := []) (st := []) dX0_tellApart_87 lk_X0_88 gd_X0_findNames rfl rfl i_0 ⟨_, rfl, rfl⟩ h hW hF (zb_aR i_0 zb_a0) (Nat.le_refl _) (Nat.le_of_ble_eq_true rfl) (fun r87 m87 hF h => ?_)
        show zb_WP _ _ _ _ [(0, r87)] _ _ _ _
        refine zb_if_ne (tgt := 96) dX0_tellApart_90 (by decide) (fun c12 => ?_) (fun c12 => ?_)
        · have h := h.2 c12
          refine zb_aload_n (j := 0) dX0_tellApart_96 rfl rfl ?_
          refine zb_cV (As := []) (As' := []) (st := []) dX0_tellApart_97 lk_X0_91 gd_X0_isToldByNames rfl rfl i_0 ⟨_, rfl, rfl⟩ h hW hF (zb_aR i_0 zb_a0) (Nat.le_refl _) (Nat.le_of_ble_eq_true rfl) (fun r97 m97 hF h => ?_)
          show zb_WP _ _ _ _ [(0, r97)] _ _ _ _
          refine zb_if_eq (tgt := 107) dX0_tellApart_100 (by decide) (fun c13 => ?_) (fun c13 => ?_)
          · have h := h.1 c13
            refine zb_iconst dX0_tellApart_107 (zb_inIc rfl) ?_
            exact zb_rI dX0_tellApart_108 rfl hF h
          · have h := h.2 c13
            refine zb_iconst dX0_tellApart_103 (zb_inIc rfl) ?_
            refine zb_goto (tgt := 108) dX0_tellApart_104 (by decide) ?_
            exact zb_rI dX0_tellApart_108 rfl hF h
        · have h := h.1 c12
          refine zb_bipush dX0_tellApart_93 (by decide) (zb_inIc rfl) ?_
          exact zb_rI dX0_tellApart_95 rfl hF h
      · have h := h.2 c11
        refine zb_iconst dX0_tellApart_84 (zb_inIc rfl) ?_
        exact zb_rI dX0_tellApart_85 rfl hF h
    · have h := h.2 c10
      refine zb_iconst dX0_tellApart_75 (zb_inIc rfl) ?_
      exact zb_rI dX0_tellApart_76 rfl hF h
  · have h := h.2 c3
    refine zb_aload_n (j := 0) dX0_tellApart_17 rfl rfl ?_
    refine zb_iconst dX0_tellApart_18 (zb_inIc rfl) ?_
    refine zb_aload_n (j := 0) dX0_tellApart_19 rfl rfl ?_
    refine zb_gFo 2 dX0_tellApart_20 fl_X0_12 i_0 hW hF rfl rfl rfl rfl (fun i14 => ?_)
    refine zb_gI 0 dX0_tellApart_23 fl_X0_67 i14 rfl rfl ?_
    refine zb_aload_n (j := 0) dX0_tellApart_26 rfl rfl ?_
    refine zb_gFo 3 dX0_tellApart_27 fl_X0_18 i_0 hW hF rfl rfl rfl rfl (fun i15 => ?_)
    refine zb_gI 0 dX0_tellApart_30 fl_X0_67 i15 rfl rfl ?_
    refine zb_cV (As := [(0, 0), (0, (m (E.2 x0 2) 0)), (0, (m (E.2 x0 3) 0))]) (As' := [(0, (m (E.2 x0 3) 0)), (0, (m (E.2 x0 2) 0)), (0, 0)]) (st := []) dX0_tellApart_33 lk_X0_71 gd_X0_keepDifference rfl rfl i_0 ⟨_, rfl, rfl⟩ h hW hF (zb_aR i_0 (zb_aI (zb_aI (zb_aI zb_a0)))) (Nat.le_refl _) (Nat.le_of_ble_eq_true rfl) (fun r33 m33 hF h => ?_)
    show zb_WP _ _ _ _ [] _ _ _ _
    refine zb_iconst dX0_tellApart_36 (zb_inIc rfl) ?_
    exact zb_rI dX0_tellApart_37 rfl hF h
theorem dX0_keepDifference_0 : decode cX0_keepDifference 0 = .ok (.aload_n 0, 1) := by decide +kernel
theorem dX0_keepDifference_1 : decode cX0_keepDifference 1 = .ok (.getfield 41, 3) := by decide +kernel
theorem dX0_keepDifference_4 : decode cX0_keepDifference 4 = .ok (.iconst 0, 1) := by decide +kernel
theorem dX0_keepDifference_5 : decode cX0_keepDifference 5 = .ok (.iload_n 1, 1) := by decide +kernel
theorem dX0_keepDifference_6 : decode cX0_keepDifference 6 = .ok (.iastore, 1) := by decide +kernel
theorem dX0_keepDifference_7 : decode cX0_keepDifference 7 = .ok (.aload_n 0, 1) := by decide +kernel
theorem dX0_keepDifference_8 : decode cX0_keepDifference 8 = .ok (.getfield 41, 3) := by decide +kernel
theorem dX0_keepDifference_11 : decode cX0_keepDifference 11 = .ok (.iconst 1, 1) := by decide +kernel
theorem dX0_keepDifference_12 : decode cX0_keepDifference 12 = .ok (.iload_n 2, 1) := by decide +kernel
theorem dX0_keepDifference_13 : decode cX0_keepDifference 13 = .ok (.iastore, 1) := by decide +kernel
theorem dX0_keepDifference_14 : decode cX0_keepDifference 14 = .ok (.aload_n 0, 1) := by decide +kernel
theorem dX0_keepDifference_15 : decode cX0_keepDifference 15 = .ok (.getfield 41, 3) := by decide +kernel
theorem dX0_keepDifference_18 : decode cX0_keepDifference 18 = .ok (.iconst 2, 1) := by decide +kernel
theorem dX0_keepDifference_19 : decode cX0_keepDifference 19 = .ok (.iload_n 3, 1) := by decide +kernel
theorem dX0_keepDifference_20 : decode cX0_keepDifference 20 = .ok (.iastore, 1) := by decide +kernel
theorem dX0_keepDifference_21 : decode cX0_keepDifference 21 = .ok (.aload_n 0, 1) := by decide +kernel
theorem dX0_keepDifference_22 : decode cX0_keepDifference 22 = .ok (.iconst 1, 1) := by decide +kernel
theorem dX0_keepDifference_23 : decode cX0_keepDifference 23 = .ok (.putfield 94, 3) := by decide +kernel
theorem dX0_keepDifference_26 : decode cX0_keepDifference 26 = .ok (.return_, 1) := by decide +kernel
def PM_X0_keepDifference (d : Nat) (E : zb_E) (x0 : Int) (x1 : Int) (x2 : Int) (x3 : Int) (m : zb_M) (Q : Int → zb_M → Prop) : Prop :=
  ∀ m6, m6 = zb_up m (E.2 x0 8) 0 x1 → (∀ m13, m13 = zb_up m6 (E.2 x0 8) 1 x2 → (∀ m20, m20 = zb_up m13 (E.2 x0 8) 2 x3 → (∀ m23, m23 = zb_up m20 x0 9 1 → (Q 0 m23))))
set_option maxRecDepth 100000 in
set_option maxHeartbeats 4000000 in
theorem w_X0_keepDifference {d : Nat} {E : zb_E} {x0 x1 x2 x3 : Int} {m : zb_M} {Q : Int → zb_M → Prop} (h : PM_X0_keepDifference d E x0 x1 x2 x3 m Q) : zb_T K_X0_keepDifference (d + 1) [(2, x0), (0, x1), (0, x2), (0, x3)] E m Q := by
  unfold PM_X0_keepDifference at h
  refine zb_T_in gd_X0_keepDifference rfl rfl (fun hW hA G C hF => ?_)
  have i_0 : zb_is E.1 x0 0 := zb_aH hA (by decide)
  show zb_WP _ _ 0 [(0, (2, x0)), (1, (0, x1)), (2, (0, x2)), (3, (0, x3))] [] _ _ _ _
  refine zb_aload_n (j := 0) dX0_keepDifference_0 rfl rfl ?_
  refine zb_gFa 8 dX0_keepDifference_1 fl_X0_41 i_0 hW hF rfl rfl rfl (by decide) rfl 3 rfl (fun i1 l2 => ?_)
  refine zb_iconst dX0_keepDifference_4 (zb_inIc rfl) ?_
  refine zb_iload_n (j := 1) dX0_keepDifference_5 rfl rfl ?_
  refine zb_sI dX0_keepDifference_6 i1 l2 (by decide) (by decide) hF (fun m6 e6 hF => ?_)
  have h := h m6 e6
  refine zb_aload_n (j := 0) dX0_keepDifference_7 rfl rfl ?_
  refine zb_gFa 8 dX0_keepDifference_8 fl_X0_41 i_0 hW hF rfl rfl rfl (by decide) rfl 3 rfl (fun i3 l4 => ?_)
  refine zb_iconst dX0_keepDifference_11 (zb_inIc rfl) ?_
  refine zb_iload_n (j := 2) dX0_keepDifference_12 rfl rfl ?_
  refine zb_sI dX0_keepDifference_13 i3 l4 (by decide) (by decide) hF (fun m13 e13 hF => ?_)
  have h := h m13 e13
  refine zb_aload_n (j := 0) dX0_keepDifference_14 rfl rfl ?_
  refine zb_gFa 8 dX0_keepDifference_15 fl_X0_41 i_0 hW hF rfl rfl rfl (by decide) rfl 3 rfl (fun i5 l6 => ?_)
  refine zb_iconst dX0_keepDifference_18 (zb_inIc rfl) ?_
  refine zb_iload_n (j := 3) dX0_keepDifference_19 rfl rfl ?_
  refine zb_sI dX0_keepDifference_20 i5 l6 (by decide) (by decide) hF (fun m20 e20 hF => ?_)
  have h := h m20 e20
  refine zb_aload_n (j := 0) dX0_keepDifference_21 rfl rfl ?_
  refine zb_iconst dX0_keepDifference_22 (zb_inIc rfl) ?_
  refine zb_pF 9 dX0_keepDifference_23 fl_X0_94 rfl rfl i_0 (Or.inr (Or.inl ⟨rfl, (by decide)⟩)) hF rfl rfl (fun m23 e23 hF => ?_)
  have h := h m23 e23
  exact zb_rV dX0_keepDifference_26 rfl hF h
theorem dX0_isToldByKeys_0 : decode cX0_isToldByKeys 0 = .ok (.iconst 0, 1) := by decide +kernel
theorem dX0_isToldByKeys_1 : decode cX0_isToldByKeys 1 = .ok (.istore_n 1, 1) := by decide +kernel
theorem dX0_isToldByKeys_2 : decode cX0_isToldByKeys 2 = .ok (.iload_n 1, 1) := by decide +kernel
theorem dX0_isToldByKeys_3 : decode cX0_isToldByKeys 3 = .ok (.aload_n 0, 1) := by decide +kernel
theorem dX0_isToldByKeys_4 : decode cX0_isToldByKeys 4 = .ok (.getfield 12, 3) := by decide +kernel
theorem dX0_isToldByKeys_7 : decode cX0_isToldByKeys 7 = .ok (.getfield 67, 3) := by decide +kernel
theorem dX0_isToldByKeys_10 : decode cX0_isToldByKeys 10 = .ok (.if_icmp .ge 59, 3) := by decide +kernel
theorem dX0_isToldByKeys_13 : decode cX0_isToldByKeys 13 = .ok (.aload_n 0, 1) := by decide +kernel
theorem dX0_isToldByKeys_14 : decode cX0_isToldByKeys 14 = .ok (.getfield 12, 3) := by decide +kernel
theorem dX0_isToldByKeys_17 : decode cX0_isToldByKeys 17 = .ok (.getfield 98, 3) := by decide +kernel
theorem dX0_isToldByKeys_20 : decode cX0_isToldByKeys 20 = .ok (.aload_n 0, 1) := by decide +kernel
theorem dX0_isToldByKeys_21 : decode cX0_isToldByKeys 21 = .ok (.getfield 24, 3) := by decide +kernel
theorem dX0_isToldByKeys_24 : decode cX0_isToldByKeys 24 = .ok (.getfield 101, 3) := by decide +kernel
theorem dX0_isToldByKeys_27 : decode cX0_isToldByKeys 27 = .ok (.iload_n 1, 1) := by decide +kernel
theorem dX0_isToldByKeys_28 : decode cX0_isToldByKeys 28 = .ok (.iaload, 1) := by decide +kernel
theorem dX0_isToldByKeys_29 : decode cX0_isToldByKeys 29 = .ok (.iaload, 1) := by decide +kernel
theorem dX0_isToldByKeys_30 : decode cX0_isToldByKeys 30 = .ok (.istore_n 2, 1) := by decide +kernel
theorem dX0_isToldByKeys_31 : decode cX0_isToldByKeys 31 = .ok (.aload_n 0, 1) := by decide +kernel
theorem dX0_isToldByKeys_32 : decode cX0_isToldByKeys 32 = .ok (.getfield 18, 3) := by decide +kernel
theorem dX0_isToldByKeys_35 : decode cX0_isToldByKeys 35 = .ok (.getfield 98, 3) := by decide +kernel
theorem dX0_isToldByKeys_38 : decode cX0_isToldByKeys 38 = .ok (.aload_n 0, 1) := by decide +kernel
theorem dX0_isToldByKeys_39 : decode cX0_isToldByKeys 39 = .ok (.getfield 28, 3) := by decide +kernel
theorem dX0_isToldByKeys_42 : decode cX0_isToldByKeys 42 = .ok (.getfield 101, 3) := by decide +kernel
theorem dX0_isToldByKeys_45 : decode cX0_isToldByKeys 45 = .ok (.iload_n 1, 1) := by decide +kernel
theorem dX0_isToldByKeys_46 : decode cX0_isToldByKeys 46 = .ok (.iaload, 1) := by decide +kernel
theorem dX0_isToldByKeys_47 : decode cX0_isToldByKeys 47 = .ok (.iaload, 1) := by decide +kernel
theorem dX0_isToldByKeys_48 : decode cX0_isToldByKeys 48 = .ok (.istore_n 3, 1) := by decide +kernel
theorem dX0_isToldByKeys_49 : decode cX0_isToldByKeys 49 = .ok (.iload_n 2, 1) := by decide +kernel
theorem dX0_isToldByKeys_50 : decode cX0_isToldByKeys 50 = .ok (.iload_n 3, 1) := by decide +kernel
theorem dX0_isToldByKeys_51 : decode cX0_isToldByKeys 51 = .ok (.if_icmp .eq 12, 3) := by decide +kernel
theorem dX0_isToldByKeys_54 : decode cX0_isToldByKeys 54 = .ok (.aload_n 0, 1) := by decide +kernel
theorem dX0_isToldByKeys_55 : decode cX0_isToldByKeys 55 = .ok (.iload_n 1, 1) := by decide +kernel
theorem dX0_isToldByKeys_56 : decode cX0_isToldByKeys 56 = .ok (.iload_n 2, 1) := by decide +kernel
theorem dX0_isToldByKeys_57 : decode cX0_isToldByKeys 57 = .ok (.iload_n 3, 1) := by decide +kernel
theorem dX0_isToldByKeys_58 : decode cX0_isToldByKeys 58 = .ok (.invokevirtual 71, 3) := by decide +kernel
theorem dX0_isToldByKeys_61 : decode cX0_isToldByKeys 61 = .ok (.iconst 1, 1) := by decide +kernel
theorem dX0_isToldByKeys_62 : decode cX0_isToldByKeys 62 = .ok (.ireturn, 1) := by decide +kernel
theorem dX0_isToldByKeys_63 : decode cX0_isToldByKeys 63 = .ok (.iinc 1 1, 3) := by decide +kernel
theorem dX0_isToldByKeys_66 : decode cX0_isToldByKeys 66 = .ok (.goto (-64), 3) := by decide +kernel
theorem dX0_isToldByKeys_69 : decode cX0_isToldByKeys 69 = .ok (.iconst 0, 1) := by decide +kernel
theorem dX0_isToldByKeys_70 : decode cX0_isToldByKeys 70 = .ok (.ireturn, 1) := by decide +kernel
def PJ_X0_isToldByKeys_54 (d : Nat) (E : zb_E) (x0 : Int) (m : zb_M) (Q : Int → zb_M → Prop) (v1_54 : Int) (v2_54 : Int) (v3_54 : Int) : Prop :=
  zb_T K_X0_keepDifference d [(2, x0), (0, v1_54), (0, v2_54), (0, v3_54)] E m (fun r58 m58 => Q 1 m58)
def PL_X0_isToldByKeys_2 (d : Nat) (E : zb_E) (x0 : Int) (m : zb_M) (Q : Int → zb_M → Prop) (K54_2 : Int → Int → Int → Prop) (v1_2 : Int) : Prop :=
  ∀ X2 : Int → Prop, (∀ (v1_2 : Int), (((m (E.2 x0 2) 0) ≤ v1_2 → Q 0 m) ∧ (¬ (m (E.2 x0 2) 0) ≤ v1_2 → (0 ≤ v1_2 ∧ v1_2 < 12) ∧ ((0 ≤ (m (E.2 (E.2 x0 4) 4) v1_2) ∧ (m (E.2 (E.2 x0 4) 4) v1_2) < 12) ∧ ((0 ≤ (m (E.2 (E.2 x0 5) 4) v1_2) ∧ (m (E.2 (E.2 x0 5) 4) v1_2) < 12) ∧ (((m (E.2 (E.2 x0 2) 3) (m (E.2 (E.2 x0 4) 4) v1_2)) = (m (E.2 (E.2 x0 3) 3) (m (E.2 (E.2 x0 5) 4) v1_2)) → (zb_inI (v1_2 + 1)) ∧ (X2 (v1_2 + 1))) ∧ (¬ (m (E.2 (E.2 x0 2) 3) (m (E.2 (E.2 x0 4) 4) v1_2)) = (m (E.2 (E.2 x0 3) 3) (m (E.2 (E.2 x0 5) 4) v1_2)) → K54_2 v1_2 (m (E.2 (E.2 x0 2) 3) (m (E.2 (E.2 x0 4) 4) v1_2)) (m (E.2 (E.2 x0 3) 3) (m (E.2 (E.2 x0 5) 4) v1_2)))))))) → X2 v1_2) → X2 v1_2
def PM_X0_isToldByKeys (d : Nat) (E : zb_E) (x0 : Int) (m : zb_M) (Q : Int → zb_M → Prop) : Prop :=
  PL_X0_isToldByKeys_2 d E x0 m Q (PJ_X0_isToldByKeys_54 d E x0 m Q) 0
set_option maxRecDepth 100000 in
set_option maxHeartbeats 4000000 in
theorem w_X0_isToldByKeys {d : Nat} {E : zb_E} {x0 : Int} {m : zb_M} {Q : Int → zb_M → Prop} (h : PM_X0_isToldByKeys d E x0 m Q) : zb_T K_X0_isToldByKeys (d + 1) [(2, x0)] E m Q := by
  unfold PM_X0_isToldByKeys at h
  refine zb_T_in gd_X0_isToldByKeys rfl rfl (fun hW hA G C hF => ?_)
  have i_0 : zb_is E.1 x0 0 := zb_aH hA (by decide)
  show zb_WP _ _ 0 [(0, (2, x0))] [] _ _ _ _
  refine zb_iconst dX0_isToldByKeys_0 (zb_inIc rfl) ?_
  refine zb_istore_n (L' := [(1, (0, 0)), (0, (2, x0))]) dX0_isToldByKeys_1 rfl (by decide) rfl ?_
  refine zb_sub (L' := [(0, (2, x0)), (1, (0, 0))]) [1, 0] rfl ?_
  have hJ54 : ∀ (v1_54 : Int) (v2_54 : Int) (v3_54 : Int), zb_FIN E m → PJ_X0_isToldByKeys_54 d E x0 m Q v1_54 v2_54 v3_54 → zb_WP (G, C, d + 1, 0, 0, zb_q E Q) F_X0_isToldByKeys 54 [(0, (2, x0)), (1, (0, v1_54)), (2, (0, v2_54)), (3, (0, v3_54))] [] E.1 m 0 0 := by
    intro v1_54 v2_54 v3_54 hF h
    unfold PJ_X0_isToldByKeys_54 at h
    refine zb_aload_n (j := 0) dX0_isToldByKeys_54 rfl rfl ?_
    refine zb_iload_n (j := 1) dX0_isToldByKeys_55 rfl rfl ?_
    refine zb_iload_n (j := 2) dX0_isToldByKeys_56 rfl rfl ?_
    refine zb_iload_n (j := 3) dX0_isToldByKeys_57 rfl rfl ?_
    refine zb_cV (As := [(0, v1_54), (0, v2_54), (0, v3_54)]) (As' := [(0, v3_54), (0, v2_54), (0, v1_54)]) (st := []) dX0_isToldByKeys_58 lk_X0_71 gd_X0_keepDifference rfl rfl i_0 ⟨_, rfl, rfl⟩ h hW hF (zb_aR i_0 (zb_aI (zb_aI (zb_aI zb_a0)))) (Nat.le_refl _) (Nat.le_of_ble_eq_true rfl) (fun r58 m58 hF h => ?_)
    show zb_WP _ _ _ _ [] _ _ _ _
    refine zb_iconst dX0_isToldByKeys_61 (zb_inIc rfl) ?_
    exact zb_rZ dX0_isToldByKeys_62 rfl hF (by decide) h
  unfold PL_X0_isToldByKeys_2 at h
  obtain ⟨X2, hX2⟩ : ∃ X : Int → Prop, ∀ (v1_2 : Int), (X v1_2 ↔ (zb_FIN E m → zb_WP (G, C, d + 1, 0, 0, zb_q E Q) F_X0_isToldByKeys 2 [(0, (2, x0)), (1, (0, v1_2))] [] E.1 m 0 0)) := ⟨fun v1_2 => zb_FIN E m → zb_WP (G, C, d + 1, 0, 0, zb_q E Q) F_X0_isToldByKeys 2 [(0, (2, x0)), (1, (0, v1_2))] [] E.1 m 0 0, fun _ => Iff.rfl⟩
  refine (hX2 _).mp (h X2 (fun v1_2 h => (hX2 _).mpr (fun hF => ?_))) hF
  refine zb_iload_n (j := 1) dX0_isToldByKeys_2 rfl rfl ?_
  refine zb_aload_n (j := 0) dX0_isToldByKeys_3 rfl rfl ?_
  refine zb_gFo 2 dX0_isToldByKeys_4 fl_X0_12 i_0 hW hF rfl rfl rfl rfl (fun i1 => ?_)
  refine zb_gI 0 dX0_isToldByKeys_7 fl_X0_67 i1 rfl rfl ?_
  refine zb_icmp_ge (tgt := 69) dX0_isToldByKeys_10 (by decide) (fun c2 => ?_) (fun c2 => ?_)
  · have h := h.1 c2
    refine zb_iconst dX0_isToldByKeys_69 (zb_inIc rfl) ?_
    exact zb_rZ dX0_isToldByKeys_70 rfl hF (by decide) h
  · have h := h.2 c2
    refine zb_aload_n (j := 0) dX0_isToldByKeys_13 rfl rfl ?_
    refine zb_gFo 2 dX0_isToldByKeys_14 fl_X0_12 i_0 hW hF rfl rfl rfl rfl (fun i3 => ?_)
    refine zb_gFa 3 dX0_isToldByKeys_17 fl_X0_98 i3 hW hF rfl rfl rfl (by decide) rfl 12 rfl (fun i4 l5 => ?_)
    refine zb_aload_n (j := 0) dX0_isToldByKeys_20 rfl rfl ?_
    refine zb_gFo 4 dX0_isToldByKeys_21 fl_X0_24 i_0 hW hF rfl rfl rfl rfl (fun i6 => ?_)
    refine zb_gFa 4 dX0_isToldByKeys_24 fl_X0_101 i6 hW hF rfl rfl rfl (by decide) rfl 12 rfl (fun i7 l8 => ?_)
    refine zb_iload_n (j := 1) dX0_isToldByKeys_27 rfl rfl ?_
    obtain ⟨o9, h⟩ := h
    refine zb_lI dX0_isToldByKeys_28 i7 l8 o9.1 o9.2 ?_
    obtain ⟨o10, h⟩ := h
    refine zb_lI dX0_isToldByKeys_29 i4 l5 o10.1 o10.2 ?_
    refine zb_istore_n (L' := [(2, (0, (m (E.2 (E.2 x0 2) 3) (m (E.2 (E.2 x0 4) 4) v1_2)))), (0, (2, x0)), (1, (0, v1_2))]) dX0_isToldByKeys_30 rfl (by decide) rfl ?_
    refine zb_aload_n (j := 1) dX0_isToldByKeys_31 rfl rfl ?_
    refine zb_gFo 3 dX0_isToldByKeys_32 fl_X0_18 i_0 hW hF rfl rfl rfl rfl (fun i11 => ?_)
    refine zb_gFa 3 dX0_isToldByKeys_35 fl_X0_98 i11 hW hF rfl rfl rfl (by decide) rfl 12 rfl (fun i12 l13 => ?_)
    refine zb_aload_n (j := 1) dX0_isToldByKeys_38 rfl rfl ?_
    refine zb_gFo 5 dX0_isToldByKeys_39 fl_X0_28 i_0 hW hF rfl rfl rfl rfl (fun i14 => ?_)
    refine zb_gFa 4 dX0_isToldByKeys_42 fl_X0_101 i14 hW hF rfl rfl rfl (by decide) rfl 12 rfl (fun i15 l16 => ?_)
    refine zb_iload_n (j := 2) dX0_isToldByKeys_45 rfl rfl ?_
    refine zb_lI dX0_isToldByKeys_46 i15 l16 o9.1 o9.2 ?_
    obtain ⟨o17, h⟩ := h
    refine zb_lI dX0_isToldByKeys_47 i12 l13 o17.1 o17.2 ?_
    refine zb_istore_n (L' := [(3, (0, (m (E.2 (E.2 x0 3) 3) (m (E.2 (E.2 x0 5) 4) v1_2)))), (2, (0, (m (E.2 (E.2 x0 2) 3) (m (E.2 (E.2 x0 4) 4) v1_2)))), (0, (2, x0)), (1, (0, v1_2))]) dX0_isToldByKeys_48 rfl (by decide) rfl ?_
    refine zb_iload_n (j := 1) dX0_isToldByKeys_49 rfl rfl ?_
    refine zb_iload_n (j := 0) dX0_isToldByKeys_50 rfl rfl ?_
    refine zb_icmp_eq (tgt := 63) dX0_isToldByKeys_51 (by decide) (fun c18 => ?_) (fun c18 => ?_)
    · have h := h.1 c18
      obtain ⟨o19, h⟩ := h
      refine zb_iinc (j := 3) (L' := [(1, (0, (v1_2 + 1))), (3, (0, (m (E.2 (E.2 x0 3) 3) (m (E.2 (E.2 x0 5) 4) v1_2)))), (2, (0, (m (E.2 (E.2 x0 2) 3) (m (E.2 (E.2 x0 4) 4) v1_2)))), (0, (2, x0))]) dX0_isToldByKeys_63 rfl o19 (by decide) rfl ?_
      refine zb_goto (tgt := 2) dX0_isToldByKeys_66 (by decide) ?_
      refine zb_sub (L' := [(0, (2, x0)), (1, (0, (v1_2 + 1)))]) [3, 0] rfl ?_
      exact (hX2 _).mp h hF
    · have h := h.2 c18
      refine zb_sub (L' := [(0, (2, x0)), (1, (0, v1_2)), (2, (0, (m (E.2 (E.2 x0 2) 3) (m (E.2 (E.2 x0 4) 4) v1_2)))), (3, (0, (m (E.2 (E.2 x0 3) 3) (m (E.2 (E.2 x0 5) 4) v1_2))))]) [2, 3, 1, 0] rfl ?_
      exact hJ54 _ _ _ hF h
theorem dX0_isToldByHeaps_0 : decode cX0_isToldByHeaps 0 = .ok (.aload_n 0, 1) := by decide +kernel
theorem dX0_isToldByHeaps_1 : decode cX0_isToldByHeaps 1 = .ok (.getfield 24, 3) := by decide +kernel
theorem dX0_isToldByHeaps_4 : decode cX0_isToldByHeaps 4 = .ok (.getfield 104, 3) := by decide +kernel
theorem dX0_isToldByHeaps_7 : decode cX0_isToldByHeaps 7 = .ok (.aload_n 0, 1) := by decide +kernel
theorem dX0_isToldByHeaps_8 : decode cX0_isToldByHeaps 8 = .ok (.getfield 28, 3) := by decide +kernel
theorem dX0_isToldByHeaps_11 : decode cX0_isToldByHeaps 11 = .ok (.getfield 104, 3) := by decide +kernel
theorem dX0_isToldByHeaps_14 : decode cX0_isToldByHeaps 14 = .ok (.invokestatic 107, 3) := by decide +kernel
theorem dX0_isToldByHeaps_17 : decode cX0_isToldByHeaps 17 = .ok (.istore_n 1, 1) := by decide +kernel
theorem dX0_isToldByHeaps_18 : decode cX0_isToldByHeaps 18 = .ok (.iconst 0, 1) := by decide +kernel
theorem dX0_isToldByHeaps_19 : decode cX0_isToldByHeaps 19 = .ok (.istore_n 2, 1) := by decide +kernel
theorem dX0_isToldByHeaps_20 : decode cX0_isToldByHeaps 20 = .ok (.iload_n 2, 1) := by decide +kernel
theorem dX0_isToldByHeaps_21 : decode cX0_isToldByHeaps 21 = .ok (.iload_n 1, 1) := by decide +kernel
theorem dX0_isToldByHeaps_22 : decode cX0_isToldByHeaps 22 = .ok (.if_icmp .ge 55, 3) := by decide +kernel
theorem dX0_isToldByHeaps_25 : decode cX0_isToldByHeaps 25 = .ok (.aload_n 0, 1) := by decide +kernel
theorem dX0_isToldByHeaps_26 : decode cX0_isToldByHeaps 26 = .ok (.getfield 24, 3) := by decide +kernel
theorem dX0_isToldByHeaps_29 : decode cX0_isToldByHeaps 29 = .ok (.getfield 113, 3) := by decide +kernel
theorem dX0_isToldByHeaps_32 : decode cX0_isToldByHeaps 32 = .ok (.iload_n 2, 1) := by decide +kernel
theorem dX0_isToldByHeaps_33 : decode cX0_isToldByHeaps 33 = .ok (.iaload, 1) := by decide +kernel
theorem dX0_isToldByHeaps_34 : decode cX0_isToldByHeaps 34 = .ok (.aload_n 0, 1) := by decide +kernel
theorem dX0_isToldByHeaps_35 : decode cX0_isToldByHeaps 35 = .ok (.getfield 28, 3) := by decide +kernel
theorem dX0_isToldByHeaps_38 : decode cX0_isToldByHeaps 38 = .ok (.getfield 113, 3) := by decide +kernel
theorem dX0_isToldByHeaps_41 : decode cX0_isToldByHeaps 41 = .ok (.iload_n 2, 1) := by decide +kernel
theorem dX0_isToldByHeaps_42 : decode cX0_isToldByHeaps 42 = .ok (.iaload, 1) := by decide +kernel
theorem dX0_isToldByHeaps_43 : decode cX0_isToldByHeaps 43 = .ok (.if_icmp .eq 28, 3) := by decide +kernel
theorem dX0_isToldByHeaps_46 : decode cX0_isToldByHeaps 46 = .ok (.aload_n 0, 1) := by decide +kernel
theorem dX0_isToldByHeaps_47 : decode cX0_isToldByHeaps 47 = .ok (.iload_n 2, 1) := by decide +kernel
theorem dX0_isToldByHeaps_48 : decode cX0_isToldByHeaps 48 = .ok (.aload_n 0, 1) := by decide +kernel
theorem dX0_isToldByHeaps_49 : decode cX0_isToldByHeaps 49 = .ok (.getfield 24, 3) := by decide +kernel
theorem dX0_isToldByHeaps_52 : decode cX0_isToldByHeaps 52 = .ok (.getfield 113, 3) := by decide +kernel
theorem dX0_isToldByHeaps_55 : decode cX0_isToldByHeaps 55 = .ok (.iload_n 2, 1) := by decide +kernel
theorem dX0_isToldByHeaps_56 : decode cX0_isToldByHeaps 56 = .ok (.iaload, 1) := by decide +kernel
theorem dX0_isToldByHeaps_57 : decode cX0_isToldByHeaps 57 = .ok (.aload_n 0, 1) := by decide +kernel
theorem dX0_isToldByHeaps_58 : decode cX0_isToldByHeaps 58 = .ok (.getfield 28, 3) := by decide +kernel
theorem dX0_isToldByHeaps_61 : decode cX0_isToldByHeaps 61 = .ok (.getfield 113, 3) := by decide +kernel
theorem dX0_isToldByHeaps_64 : decode cX0_isToldByHeaps 64 = .ok (.iload_n 2, 1) := by decide +kernel
theorem dX0_isToldByHeaps_65 : decode cX0_isToldByHeaps 65 = .ok (.iaload, 1) := by decide +kernel
theorem dX0_isToldByHeaps_66 : decode cX0_isToldByHeaps 66 = .ok (.invokevirtual 71, 3) := by decide +kernel
theorem dX0_isToldByHeaps_69 : decode cX0_isToldByHeaps 69 = .ok (.iconst 1, 1) := by decide +kernel
theorem dX0_isToldByHeaps_70 : decode cX0_isToldByHeaps 70 = .ok (.ireturn, 1) := by decide +kernel
theorem dX0_isToldByHeaps_71 : decode cX0_isToldByHeaps 71 = .ok (.iinc 2 1, 3) := by decide +kernel
theorem dX0_isToldByHeaps_74 : decode cX0_isToldByHeaps 74 = .ok (.goto (-54), 3) := by decide +kernel
theorem dX0_isToldByHeaps_77 : decode cX0_isToldByHeaps 77 = .ok (.iconst 0, 1) := by decide +kernel
theorem dX0_isToldByHeaps_78 : decode cX0_isToldByHeaps 78 = .ok (.ireturn, 1) := by decide +kernel
def PJ_X0_isToldByHeaps_46 (d : Nat) (E : zb_E) (x0 : Int) (m : zb_M) (Q : Int → zb_M → Prop) (v2_46 : Int) : Prop :=
  (0 ≤ v2_46 ∧ v2_46 < 12) ∧ (zb_T K_X0_keepDifference d [(2, x0), (0, v2_46), (0, (m (E.2 (E.2 x0 4) 3) v2_46)), (0, (m (E.2 (E.2 x0 5) 3) v2_46))] E m (fun r66 m66 => Q 1 m66))
def PL_X0_isToldByHeaps_20 (d : Nat) (E : zb_E) (x0 : Int) (m : zb_M) (Q : Int → zb_M → Prop) (K46_20 : Int → Prop) (v2_20 : Int) : Prop :=
  ∀ X20 : Int → Prop, (∀ (v2_20 : Int), (((if (m (E.2 x0 5) 1) < (m (E.2 x0 4) 1) then (m (E.2 x0 5) 1) else (m (E.2 x0 4) 1)) ≤ v2_20 → Q 0 m) ∧ (¬ (if (m (E.2 x0 5) 1) < (m (E.2 x0 4) 1) then (m (E.2 x0 5) 1) else (m (E.2 x0 4) 1)) ≤ v2_20 → (0 ≤ v2_20 ∧ v2_20 < 12) ∧ (((m (E.2 (E.2 x0 4) 3) v2_20) = (m (E.2 (E.2 x0 5) 3) v2_20) → (zb_inI (v2_20 + 1)) ∧ (X20 (v2_20 + 1))) ∧ (¬ (m (E.2 (E.2 x0 4) 3) v2_20) = (m (E.2 (E.2 x0 5) 3) v2_20) → K46_20 v2_20)))) → X20 v2_20) → X20 v2_20
def PM_X0_isToldByHeaps (d : Nat) (E : zb_E) (x0 : Int) (m : zb_M) (Q : Int → zb_M → Prop) : Prop :=
  PL_X0_isToldByHeaps_20 d E x0 m Q (PJ_X0_isToldByHeaps_46 d E x0 m Q) 0
set_option maxRecDepth 100000 in
set_option maxHeartbeats 4000000 in
theorem w_X0_isToldByHeaps {d : Nat} {E : zb_E} {x0 : Int} {m : zb_M} {Q : Int → zb_M → Prop} (h : PM_X0_isToldByHeaps d E x0 m Q) : zb_T K_X0_isToldByHeaps (d + 1) [(2, x0)] E m Q := by
  unfold PM_X0_isToldByHeaps at h
  refine zb_T_in gd_X0_isToldByHeaps rfl rfl (fun hW hA G C hF => ?_)
  have i_0 : zb_is E.1 x0 0 := zb_aH hA (by decide)
  show zb_WP _ _ 0 [(0, (2, x0))] [] _ _ _ _
  refine zb_aload_n (j := 0) dX0_isToldByHeaps_0 rfl rfl ?_
  refine zb_gFo 4 dX0_isToldByHeaps_1 fl_X0_24 i_0 hW hF rfl rfl rfl rfl (fun i1 => ?_)
  refine zb_gI 1 dX0_isToldByHeaps_4 fl_X0_104 i1 rfl rfl ?_
  refine zb_aload_n (j := 0) dX0_isToldByHeaps_7 rfl rfl ?_
  refine zb_gFo 5 dX0_isToldByHeaps_8 fl_X0_28 i_0 hW hF rfl rfl rfl rfl (fun i2 => ?_)
  refine zb_gI 1 dX0_isToldByHeaps_11 fl_X0_104 i2 rfl rfl ?_
  refine zb_mn dX0_isToldByHeaps_14 lk_X0_107 (Nat.succ_le_succ (Nat.zero_le _)) (Nat.le_refl _) (Nat.le_refl _) (Nat.le_of_ble_eq_true rfl) ?_
  refine zb_istore_n (L' := [(1, (0, (if (m (E.2 x0 5) 1) < (m (E.2 x0 4) 1) then (m (E.2 x0 5) 1) else (m (E.2 x0 4) 1)))), (0, (2, x0))]) dX0_isToldByHeaps_17 rfl (by decide) rfl ?_
  refine zb_iconst dX0_isToldByHeaps_18 (zb_inIc rfl) ?_
  refine zb_istore_n (L' := [(2, (0, 0)), (1, (0, (if (m (E.2 x0 5) 1) < (m (E.2 x0 4) 1) then (m (E.2 x0 5) 1) else (m (E.2 x0 4) 1)))), (0, (2, x0))]) dX0_isToldByHeaps_19 rfl (by decide) rfl ?_
  refine zb_sub (L' := [(0, (2, x0)), (1, (0, (if (m (E.2 x0 5) 1) < (m (E.2 x0 4) 1) then (m (E.2 x0 5) 1) else (m (E.2 x0 4) 1)))), (2, (0, 0))]) [2, 1, 0] rfl ?_
  have hJ46 : ∀ (v2_46 : Int), zb_FIN E m → PJ_X0_isToldByHeaps_46 d E x0 m Q v2_46 → zb_WP (G, C, d + 1, 0, 0, zb_q E Q) F_X0_isToldByHeaps 46 [(0, (2, x0)), (2, (0, v2_46))] [] E.1 m 0 0 := by
    intro v2_46 hF h
    unfold PJ_X0_isToldByHeaps_46 at h
    refine zb_aload_n (j := 0) dX0_isToldByHeaps_46 rfl rfl ?_
    refine zb_iload_n (j := 1) dX0_isToldByHeaps_47 rfl rfl ?_
    refine zb_aload_n (j := 0) dX0_isToldByHeaps_48 rfl rfl ?_
    refine zb_gFo 4 dX0_isToldByHeaps_49 fl_X0_24 i_0 hW hF rfl rfl rfl rfl (fun i3 => ?_)
    refine zb_gFa 3 dX0_isToldByHeaps_52 fl_X0_113 i3 hW hF rfl rfl rfl (by decide) rfl 12 rfl (fun i4 l5 => ?_)
    refine zb_iload_n (j := 1) dX0_isToldByHeaps_55 rfl rfl ?_
    obtain ⟨o6, h⟩ := h
    refine zb_lI dX0_isToldByHeaps_56 i4 l5 o6.1 o6.2 ?_
    refine zb_aload_n (j := 0) dX0_isToldByHeaps_57 rfl rfl ?_
    refine zb_gFo 5 dX0_isToldByHeaps_58 fl_X0_28 i_0 hW hF rfl rfl rfl rfl (fun i7 => ?_)
    refine zb_gFa 3 dX0_isToldByHeaps_61 fl_X0_113 i7 hW hF rfl rfl rfl (by decide) rfl 12 rfl (fun i8 l9 => ?_)
    refine zb_iload_n (j := 1) dX0_isToldByHeaps_64 rfl rfl ?_
    refine zb_lI dX0_isToldByHeaps_65 i8 l9 o6.1 o6.2 ?_
    refine zb_cV (As := [(0, v2_46), (0, (m (E.2 (E.2 x0 4) 3) v2_46)), (0, (m (E.2 (E.2 x0 5) 3) v2_46))]) (As' := [(0, (m (E.2 (E.2 x0 5) 3) v2_46)), (0, (m (E.2 (E.2 x0 4) 3) v2_46)), (0, v2_46)]) (st := []) dX0_isToldByHeaps_66 lk_X0_71 gd_X0_keepDifference rfl rfl i_0 ⟨_, rfl, rfl⟩ h hW hF (zb_aR i_0 (zb_aI (zb_aI (zb_aI zb_a0)))) (Nat.le_refl _) (Nat.le_of_ble_eq_true rfl) (fun r66 m66 hF h => ?_)
    show zb_WP _ _ _ _ [] _ _ _ _
    refine zb_iconst dX0_isToldByHeaps_69 (zb_inIc rfl) ?_
    exact zb_rZ dX0_isToldByHeaps_70 rfl hF (by decide) h
  unfold PL_X0_isToldByHeaps_20 at h
  obtain ⟨X20, hX20⟩ : ∃ X : Int → Prop, ∀ (v2_20 : Int), (X v2_20 ↔ (zb_FIN E m → zb_WP (G, C, d + 1, 0, 0, zb_q E Q) F_X0_isToldByHeaps 20 [(0, (2, x0)), (1, (0, (if (m (E.2 x0 5) 1) < (m (E.2 x0 4) 1) then (m (E.2 x0 5) 1) else (m (E.2 x0 4) 1)))), (2, (0, v2_20))] [] E.1 m 0 0)) := ⟨fun v2_20 => zb_FIN E m → zb_WP (G, C, d + 1, 0, 0, zb_q E Q) F_X0_isToldByHeaps 20 [(0, (2, x0)), (1, (0, (if (m (E.2 x0 5) 1) < (m (E.2 x0 4) 1) then (m (E.2 x0 5) 1) else (m (E.2 x0 4) 1)))), (2, (0, v2_20))] [] E.1 m 0 0, fun _ => Iff.rfl⟩
  refine (hX20 _).mp (h X20 (fun v2_20 h => (hX20 _).mpr (fun hF => ?_))) hF
  refine zb_iload_n (j := 2) dX0_isToldByHeaps_20 rfl rfl ?_
  refine zb_iload_n (j := 1) dX0_isToldByHeaps_21 rfl rfl ?_
  refine zb_icmp_ge (tgt := 77) dX0_isToldByHeaps_22 (by decide) (fun c10 => ?_) (fun c10 => ?_)
  · have h := h.1 c10
    refine zb_iconst dX0_isToldByHeaps_77 (zb_inIc rfl) ?_
    exact zb_rZ dX0_isToldByHeaps_78 rfl hF (by decide) h
  · have h := h.2 c10
    refine zb_aload_n (j := 0) dX0_isToldByHeaps_25 rfl rfl ?_
    refine zb_gFo 4 dX0_isToldByHeaps_26 fl_X0_24 i_0 hW hF rfl rfl rfl rfl (fun i11 => ?_)
    refine zb_gFa 3 dX0_isToldByHeaps_29 fl_X0_113 i11 hW hF rfl rfl rfl (by decide) rfl 12 rfl (fun i12 l13 => ?_)
    refine zb_iload_n (j := 2) dX0_isToldByHeaps_32 rfl rfl ?_
    obtain ⟨o14, h⟩ := h
    refine zb_lI dX0_isToldByHeaps_33 i12 l13 o14.1 o14.2 ?_
    refine zb_aload_n (j := 0) dX0_isToldByHeaps_34 rfl rfl ?_
    refine zb_gFo 5 dX0_isToldByHeaps_35 fl_X0_28 i_0 hW hF rfl rfl rfl rfl (fun i15 => ?_)
    refine zb_gFa 3 dX0_isToldByHeaps_38 fl_X0_113 i15 hW hF rfl rfl rfl (by decide) rfl 12 rfl (fun i16 l17 => ?_)
    refine zb_iload_n (j := 2) dX0_isToldByHeaps_41 rfl rfl ?_
    refine zb_lI dX0_isToldByHeaps_42 i16 l17 o14.1 o14.2 ?_
    refine zb_icmp_eq (tgt := 71) dX0_isToldByHeaps_43 (by decide) (fun c18 => ?_) (fun c18 => ?_)
    · have h := h.1 c18
      obtain ⟨o19, h⟩ := h
      refine zb_iinc (j := 2) (L' := [(2, (0, (v2_20 + 1))), (0, (2, x0)), (1, (0, (if (m (E.2 x0 5) 1) < (m (E.2 x0 4) 1) then (m (E.2 x0 5) 1) else (m (E.2 x0 4) 1))))]) dX0_isToldByHeaps_71 rfl o19 (by decide) rfl ?_
      refine zb_goto (tgt := 20) dX0_isToldByHeaps_74 (by decide) ?_
      refine zb_sub (L' := [(0, (2, x0)), (1, (0, (if (m (E.2 x0 5) 1) < (m (E.2 x0 4) 1) then (m (E.2 x0 5) 1) else (m (E.2 x0 4) 1)))), (2, (0, (v2_20 + 1)))]) [1, 2, 0] rfl ?_
      exact (hX20 _).mp h hF
    · have h := h.2 c18
      refine zb_sub (L' := [(0, (2, x0)), (2, (0, v2_20))]) [0, 2] rfl ?_
      exact hJ46 _ hF h
theorem dX0_isToldByNames_0 : decode cX0_isToldByNames 0 = .ok (.aload_n 0, 1) := by decide +kernel
theorem dX0_isToldByNames_1 : decode cX0_isToldByNames 1 = .ok (.getfield 34, 3) := by decide +kernel
theorem dX0_isToldByNames_4 : decode cX0_isToldByNames 4 = .ok (.aload_n 0, 1) := by decide +kernel
theorem dX0_isToldByNames_5 : decode cX0_isToldByNames 5 = .ok (.getfield 38, 3) := by decide +kernel
theorem dX0_isToldByNames_8 : decode cX0_isToldByNames 8 = .ok (.invokevirtual 63, 3) := by decide +kernel
theorem dX0_isToldByNames_11 : decode cX0_isToldByNames 11 = .ok (.istore_n 1, 1) := by decide +kernel
theorem dX0_isToldByNames_12 : decode cX0_isToldByNames 12 = .ok (.iload_n 1, 1) := by decide +kernel
theorem dX0_isToldByNames_13 : decode cX0_isToldByNames 13 = .ok (.ifCond .ge 5, 3) := by decide +kernel
theorem dX0_isToldByNames_16 : decode cX0_isToldByNames 16 = .ok (.iconst 0, 1) := by decide +kernel
theorem dX0_isToldByNames_17 : decode cX0_isToldByNames 17 = .ok (.ireturn, 1) := by decide +kernel
theorem dX0_isToldByNames_18 : decode cX0_isToldByNames 18 = .ok (.aload_n 0, 1) := by decide +kernel
theorem dX0_isToldByNames_19 : decode cX0_isToldByNames 19 = .ok (.iload_n 1, 1) := by decide +kernel
theorem dX0_isToldByNames_20 : decode cX0_isToldByNames 20 = .ok (.aload_n 0, 1) := by decide +kernel
theorem dX0_isToldByNames_21 : decode cX0_isToldByNames 21 = .ok (.getfield 34, 3) := by decide +kernel
theorem dX0_isToldByNames_24 : decode cX0_isToldByNames 24 = .ok (.getfield 116, 3) := by decide +kernel
theorem dX0_isToldByNames_27 : decode cX0_isToldByNames 27 = .ok (.iload_n 1, 1) := by decide +kernel
theorem dX0_isToldByNames_28 : decode cX0_isToldByNames 28 = .ok (.iaload, 1) := by decide +kernel
theorem dX0_isToldByNames_29 : decode cX0_isToldByNames 29 = .ok (.aload_n 0, 1) := by decide +kernel
theorem dX0_isToldByNames_30 : decode cX0_isToldByNames 30 = .ok (.getfield 38, 3) := by decide +kernel
theorem dX0_isToldByNames_33 : decode cX0_isToldByNames 33 = .ok (.getfield 116, 3) := by decide +kernel
theorem dX0_isToldByNames_36 : decode cX0_isToldByNames 36 = .ok (.iload_n 1, 1) := by decide +kernel
theorem dX0_isToldByNames_37 : decode cX0_isToldByNames 37 = .ok (.iaload, 1) := by decide +kernel
theorem dX0_isToldByNames_38 : decode cX0_isToldByNames 38 = .ok (.invokevirtual 71, 3) := by decide +kernel
theorem dX0_isToldByNames_41 : decode cX0_isToldByNames 41 = .ok (.iconst 1, 1) := by decide +kernel
theorem dX0_isToldByNames_42 : decode cX0_isToldByNames 42 = .ok (.ireturn, 1) := by decide +kernel
def PM_X0_isToldByNames (d : Nat) (E : zb_E) (x0 : Int) (m : zb_M) (Q : Int → zb_M → Prop) : Prop :=
  zb_Tp K_X3_differsAt d [(2, (E.2 x0 6)), (2, (E.2 x0 7))] E m (fun r8 => (0 ≤ r8 → (0 ≤ r8 ∧ r8 < 157) ∧ (zb_T K_X0_keepDifference d [(2, x0), (0, r8), (0, (m (E.2 (E.2 x0 6) 5) r8)), (0, (m (E.2 (E.2 x0 7) 5) r8))] E m (fun r38 m38 => Q 1 m38))) ∧ (¬ 0 ≤ r8 → Q 0 m))
set_option maxRecDepth 100000 in
set_option maxHeartbeats 4000000 in
theorem w_X0_isToldByNames {d : Nat} {E : zb_E} {x0 : Int} {m : zb_M} {Q : Int → zb_M → Prop} (h : PM_X0_isToldByNames d E x0 m Q) : zb_T K_X0_isToldByNames (d + 1) [(2, x0)] E m Q := by
  unfold PM_X0_isToldByNames at h
  refine zb_T_in gd_X0_isToldByNames rfl rfl (fun hW hA G C hF => ?_)
  have i_0 : zb_is E.1 x0 0 := zb_aH hA (by decide)
  show zb_WP _ _ 0 [(0, (2, x0))] [] _ _ _ _
  refine zb_aload_n (j := 0) dX0_isToldByNames_0 rfl rfl ?_
  refine zb_gFo 6 dX0_isToldByNames_1 fl_X0_34 i_0 hW hF rfl rfl rfl rfl (fun i1 => ?_)
  refine zb_aload_n (j := 0) dX0_isToldByNames_4 rfl rfl ?_
  refine zb_gFo 7 dX0_isToldByNames_5 fl_X0_38 i_0 hW hF rfl rfl rfl rfl (fun i2 => ?_)
  refine zb_cVp (As := [(2, (E.2 x0 7))]) (As' := [(2, (E.2 x0 7))]) (st := []) dX0_isToldByNames_8 lk_X0_63 gd_X3_differsAt rfl rfl i1 ⟨_, rfl, rfl⟩ h hW hF (zb_aR i1 (zb_aR i2 zb_a0)) (Nat.le_refl _) (Nat.le_of_ble_eq_true rfl) (fun r8 h => ?_)
  show zb_WP _ _ _ _ [(0, r8)] _ _ _ _
  refine zb_istore_n (L' := [(1, (0, r8)), (0, (2, x0))]) dX0_isToldByNames_11 rfl (by decide) rfl ?_
  refine zb_iload_n (j := 0) dX0_isToldByNames_12 rfl rfl ?_
  refine zb_if_ge (tgt := 18) dX0_isToldByNames_13 (by decide) (fun c3 => ?_) (fun c3 => ?_)
  · have h := h.1 c3
    refine zb_aload_n (j := 1) dX0_isToldByNames_18 rfl rfl ?_
    refine zb_iload_n (j := 0) dX0_isToldByNames_19 rfl rfl ?_
    refine zb_aload_n (j := 1) dX0_isToldByNames_20 rfl rfl ?_
    refine zb_gFo 6 dX0_isToldByNames_21 fl_X0_34 i_0 hW hF rfl rfl rfl rfl (fun i4 => ?_)
    refine zb_gFa 5 dX0_isToldByNames_24 fl_X0_116 i4 hW hF rfl rfl rfl (by decide) rfl 157 rfl (fun i5 l6 => ?_)
    refine zb_iload_n (j := 0) dX0_isToldByNames_27 rfl rfl ?_
    obtain ⟨o7, h⟩ := h
    refine zb_lI dX0_isToldByNames_28 i5 l6 o7.1 o7.2 ?_
    refine zb_aload_n (j := 1) dX0_isToldByNames_29 rfl rfl ?_
    refine zb_gFo 7 dX0_isToldByNames_30 fl_X0_38 i_0 hW hF rfl rfl rfl rfl (fun i8 => ?_)
    refine zb_gFa 5 dX0_isToldByNames_33 fl_X0_116 i8 hW hF rfl rfl rfl (by decide) rfl 157 rfl (fun i9 l10 => ?_)
    refine zb_iload_n (j := 0) dX0_isToldByNames_36 rfl rfl ?_
    refine zb_lI dX0_isToldByNames_37 i9 l10 o7.1 o7.2 ?_
    refine zb_cV (As := [(0, r8), (0, (m (E.2 (E.2 x0 6) 5) r8)), (0, (m (E.2 (E.2 x0 7) 5) r8))]) (As' := [(0, (m (E.2 (E.2 x0 7) 5) r8)), (0, (m (E.2 (E.2 x0 6) 5) r8)), (0, r8)]) (st := []) dX0_isToldByNames_38 lk_X0_71 gd_X0_keepDifference rfl rfl i_0 ⟨_, rfl, rfl⟩ h hW hF (zb_aR i_0 (zb_aI (zb_aI (zb_aI zb_a0)))) (Nat.le_refl _) (Nat.le_of_ble_eq_true rfl) (fun r38 m38 hF h => ?_)
    show zb_WP _ _ _ _ [] _ _ _ _
    refine zb_iconst dX0_isToldByNames_41 (zb_inIc rfl) ?_
    exact zb_rZ dX0_isToldByNames_42 rfl hF (by decide) h
  · have h := h.2 c3
    refine zb_iconst dX0_isToldByNames_16 (zb_inIc rfl) ?_
    exact zb_rZ dX0_isToldByNames_17 rfl hF (by decide) h
