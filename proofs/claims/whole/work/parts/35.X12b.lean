/-! ===== SameBenchModel: instructions and walks (laid by gen/layout.py) ===== -/
theorem dX12_lineOf_0 : decode cX12_lineOf 0 = .ok (.iload_n 3, 1) := by decide +kernel
theorem dX12_lineOf_1 : decode cX12_lineOf 1 = .ok (.aload_n 0, 1) := by decide +kernel
theorem dX12_lineOf_2 : decode cX12_lineOf 2 = .ok (.getfield 22, 3) := by decide +kernel
theorem dX12_lineOf_5 : decode cX12_lineOf 5 = .ok (.bipush 12, 2) := by decide +kernel
theorem dX12_lineOf_7 : decode cX12_lineOf 7 = .ok (.iload_n 1, 1) := by decide +kernel
theorem dX12_lineOf_8 : decode cX12_lineOf 8 = .ok (.imul, 1) := by decide +kernel
theorem dX12_lineOf_9 : decode cX12_lineOf 9 = .ok (.iload_n 2, 1) := by decide +kernel
theorem dX12_lineOf_10 : decode cX12_lineOf 10 = .ok (.iadd, 1) := by decide +kernel
theorem dX12_lineOf_11 : decode cX12_lineOf 11 = .ok (.iaload, 1) := by decide +kernel
theorem dX12_lineOf_12 : decode cX12_lineOf 12 = .ok (.if_icmp .ge 23, 3) := by decide +kernel
theorem dX12_lineOf_15 : decode cX12_lineOf 15 = .ok (.aload_n 0, 1) := by decide +kernel
theorem dX12_lineOf_16 : decode cX12_lineOf 16 = .ok (.getfield 25, 3) := by decide +kernel
theorem dX12_lineOf_19 : decode cX12_lineOf 19 = .ok (.sipush 144, 3) := by decide +kernel
theorem dX12_lineOf_22 : decode cX12_lineOf 22 = .ok (.iload_n 1, 1) := by decide +kernel
theorem dX12_lineOf_23 : decode cX12_lineOf 23 = .ok (.imul, 1) := by decide +kernel
theorem dX12_lineOf_24 : decode cX12_lineOf 24 = .ok (.bipush 12, 2) := by decide +kernel
theorem dX12_lineOf_26 : decode cX12_lineOf 26 = .ok (.iload_n 2, 1) := by decide +kernel
theorem dX12_lineOf_27 : decode cX12_lineOf 27 = .ok (.imul, 1) := by decide +kernel
theorem dX12_lineOf_28 : decode cX12_lineOf 28 = .ok (.iadd, 1) := by decide +kernel
theorem dX12_lineOf_29 : decode cX12_lineOf 29 = .ok (.iload_n 3, 1) := by decide +kernel
theorem dX12_lineOf_30 : decode cX12_lineOf 30 = .ok (.iadd, 1) := by decide +kernel
theorem dX12_lineOf_31 : decode cX12_lineOf 31 = .ok (.iaload, 1) := by decide +kernel
theorem dX12_lineOf_32 : decode cX12_lineOf 32 = .ok (.goto 4, 3) := by decide +kernel
theorem dX12_lineOf_35 : decode cX12_lineOf 35 = .ok (.iconst 0, 1) := by decide +kernel
theorem dX12_lineOf_36 : decode cX12_lineOf 36 = .ok (.ireturn, 1) := by decide +kernel
def PM_X12_lineOf (d : Nat) (E : zb_E) (x0 : Int) (x1 : Int) (x2 : Int) (x3 : Int) (m : zb_M) (Q : Int → Prop) : Prop :=
  (zb_inI (12 * x1)) ∧ ((zb_inI ((12 * x1) + x2)) ∧ ((0 ≤ ((12 * x1) + x2) ∧ ((12 * x1) + x2) < 96) ∧ (((m (E.2 x0 4) ((12 * x1) + x2)) ≤ x3 → Q 0) ∧ (¬ (m (E.2 x0 4) ((12 * x1) + x2)) ≤ x3 → (zb_inI (144 * x1)) ∧ ((zb_inI (12 * x2)) ∧ ((zb_inI ((144 * x1) + (12 * x2))) ∧ ((zb_inI (((144 * x1) + (12 * x2)) + x3)) ∧ ((0 ≤ (((144 * x1) + (12 * x2)) + x3) ∧ (((144 * x1) + (12 * x2)) + x3) < 1152) ∧ (Q (m (E.2 x0 5) (((144 * x1) + (12 * x2)) + x3)))))))))))
set_option maxRecDepth 100000 in
set_option maxHeartbeats 4000000 in
theorem w_X12_lineOf {d : Nat} {E : zb_E} {x0 x1 x2 x3 : Int} {m : zb_M} {Q : Int → Prop} (h : PM_X12_lineOf d E x0 x1 x2 x3 m Q) : zb_Tp K_X12_lineOf (d + 1) [(2, x0), (0, x1), (0, x2), (0, x3)] E m Q := by
  unfold PM_X12_lineOf at h
  refine zb_T_in gd_X12_lineOf rfl rfl (fun hW hA G C hF => ?_)
  have i_0 : zb_is E.1 x0 12 := zb_aH hA (by decide)
  show zb_WP _ _ 0 [(0, (2, x0)), (1, (0, x1)), (2, (0, x2)), (3, (0, x3))] [] _ _ _ _
  refine zb_iload_n (j := 3) dX12_lineOf_0 rfl rfl ?_
  refine zb_aload_n (j := 0) dX12_lineOf_1 rfl rfl ?_
  refine zb_gFa 4 dX12_lineOf_2 fl_X12_22 i_0 hW hF rfl rfl rfl (by decide) rfl 96 rfl (fun i1 l2 => ?_)
  refine zb_bipush dX12_lineOf_5 (by decide) (zb_inIc rfl) ?_
  refine zb_iload_n (j := 1) dX12_lineOf_7 rfl rfl ?_
  obtain ⟨o3, h⟩ := h
  refine zb_imul dX12_lineOf_8 o3 ?_
  refine zb_iload_n (j := 2) dX12_lineOf_9 rfl rfl ?_
  obtain ⟨o4, h⟩ := h
  refine zb_iadd dX12_lineOf_10 o4 ?_
  obtain ⟨o5, h⟩ := h
  refine zb_lI dX12_lineOf_11 i1 l2 o5.1 o5.2 ?_
  refine zb_icmp_ge (tgt := 35) dX12_lineOf_12 (by decide) (fun c6 => ?_) (fun c6 => ?_)
  · have h := h.1 c6
    refine zb_iconst dX12_lineOf_35 (zb_inIc rfl) ?_
    exact zb_rI dX12_lineOf_36 rfl hF ⟨rfl, h⟩
  · have h := h.2 c6
    refine zb_aload_n (j := 0) dX12_lineOf_15 rfl rfl ?_
    refine zb_gFa 5 dX12_lineOf_16 fl_X12_25 i_0 hW hF rfl rfl rfl (by decide) rfl 1152 rfl (fun i7 l8 => ?_)
    refine zb_sipush dX12_lineOf_19 (by decide) (zb_inIc rfl) ?_
    refine zb_iload_n (j := 1) dX12_lineOf_22 rfl rfl ?_
    obtain ⟨o9, h⟩ := h
    refine zb_imul dX12_lineOf_23 o9 ?_
    refine zb_bipush dX12_lineOf_24 (by decide) (zb_inIc rfl) ?_
    refine zb_iload_n (j := 2) dX12_lineOf_26 rfl rfl ?_
    obtain ⟨o10, h⟩ := h
    refine zb_imul dX12_lineOf_27 o10 ?_
    obtain ⟨o11, h⟩ := h
    refine zb_iadd dX12_lineOf_28 o11 ?_
    refine zb_iload_n (j := 3) dX12_lineOf_29 rfl rfl ?_
    obtain ⟨o12, h⟩ := h
    refine zb_iadd dX12_lineOf_30 o12 ?_
    obtain ⟨o13, h⟩ := h
    refine zb_lI dX12_lineOf_31 i7 l8 o13.1 o13.2 ?_
    refine zb_goto (tgt := 36) dX12_lineOf_32 (by decide) ?_
    exact zb_rI dX12_lineOf_36 rfl hF ⟨rfl, h⟩
theorem dX12_line_0 : decode cX12_line 0 = .ok (.aload_n 0, 1) := by decide +kernel
theorem dX12_line_1 : decode cX12_line 1 = .ok (.iload_n 1, 1) := by decide +kernel
theorem dX12_line_2 : decode cX12_line 2 = .ok (.iload_n 2, 1) := by decide +kernel
theorem dX12_line_3 : decode cX12_line 3 = .ok (.invokevirtual 152, 3) := by decide +kernel
theorem dX12_line_6 : decode cX12_line 6 = .ok (.ifCond .eq 22, 3) := by decide +kernel
theorem dX12_line_9 : decode cX12_line 9 = .ok (.aload_n 0, 1) := by decide +kernel
theorem dX12_line_10 : decode cX12_line 10 = .ok (.iload_n 1, 1) := by decide +kernel
theorem dX12_line_11 : decode cX12_line 11 = .ok (.iload_n 3, 1) := by decide +kernel
theorem dX12_line_12 : decode cX12_line 12 = .ok (.invokevirtual 152, 3) := by decide +kernel
theorem dX12_line_15 : decode cX12_line 15 = .ok (.ifCond .eq 13, 3) := by decide +kernel
theorem dX12_line_18 : decode cX12_line 18 = .ok (.aload_n 0, 1) := by decide +kernel
theorem dX12_line_19 : decode cX12_line 19 = .ok (.iload_n 1, 1) := by decide +kernel
theorem dX12_line_20 : decode cX12_line 20 = .ok (.iload_n 2, 1) := by decide +kernel
theorem dX12_line_21 : decode cX12_line 21 = .ok (.iload_n 3, 1) := by decide +kernel
theorem dX12_line_22 : decode cX12_line 22 = .ok (.invokevirtual 156, 3) := by decide +kernel
theorem dX12_line_25 : decode cX12_line 25 = .ok (.goto 4, 3) := by decide +kernel
theorem dX12_line_28 : decode cX12_line 28 = .ok (.iconst (-1), 1) := by decide +kernel
theorem dX12_line_29 : decode cX12_line 29 = .ok (.ireturn, 1) := by decide +kernel
def PM_X12_line (d : Nat) (E : zb_E) (x0 : Int) (x1 : Int) (x2 : Int) (x3 : Int) (m : zb_M) (Q : Int → Prop) : Prop :=
  zb_Tp K_X12_isThing d [(2, x0), (0, x1), (0, x2)] E m (fun r3 => (r3 = 0 → Q (-1)) ∧ (¬ r3 = 0 → zb_Tp K_X12_isThing d [(2, x0), (0, x1), (0, x3)] E m (fun r12 => (r12 = 0 → Q (-1)) ∧ (¬ r12 = 0 → zb_Tp K_X12_lineOf d [(2, x0), (0, x1), (0, x2), (0, x3)] E m (fun r22 => Q r22)))))
set_option maxRecDepth 100000 in
set_option maxHeartbeats 4000000 in
theorem w_X12_line {d : Nat} {E : zb_E} {x0 x1 x2 x3 : Int} {m : zb_M} {Q : Int → Prop} (h : PM_X12_line d E x0 x1 x2 x3 m Q) : zb_Tp K_X12_line (d + 1) [(2, x0), (0, x1), (0, x2), (0, x3)] E m Q := by
  unfold PM_X12_line at h
  refine zb_T_in gd_X12_line rfl rfl (fun hW hA G C hF => ?_)
  have i_0 : zb_is E.1 x0 12 := zb_aH hA (by decide)
  show zb_WP _ _ 0 [(0, (2, x0)), (1, (0, x1)), (2, (0, x2)), (3, (0, x3))] [] _ _ _ _
  refine zb_aload_n (j := 0) dX12_line_0 rfl rfl ?_
  refine zb_iload_n (j := 1) dX12_line_1 rfl rfl ?_
  refine zb_iload_n (j := 2) dX12_line_2 rfl rfl ?_
  refine zb_cVp (As := [(0, x1), (0, x2)]) (As' := [(0, x2), (0, x1)]) (st := []) dX12_line_3 lk_X12_152 gd_X12_isThing rfl rfl i_0 ⟨_, rfl, rfl⟩ h hW hF (zb_aR i_0 (zb_aI (zb_aI zb_a0))) (Nat.le_refl _) (Nat.le_of_ble_eq_true rfl) (fun r3 h => ?_)
  show zb_WP _ _ _ _ [(0, r3)] _ _ _ _
  refine zb_if_eq (tgt := 28) dX12_line_6 (by decide) (fun c1 => ?_) (fun c1 => ?_)
  · have h := h.1 c1
    refine zb_iconst dX12_line_28 (zb_inIc rfl) ?_
    exact zb_rI dX12_line_29 rfl hF ⟨rfl, h⟩
  · have h := h.2 c1
    refine zb_aload_n (j := 0) dX12_line_9 rfl rfl ?_
    refine zb_iload_n (j := 1) dX12_line_10 rfl rfl ?_
    refine zb_iload_n (j := 3) dX12_line_11 rfl rfl ?_
    refine zb_cVp (As := [(0, x1), (0, x3)]) (As' := [(0, x3), (0, x1)]) (st := []) dX12_line_12 lk_X12_152 gd_X12_isThing rfl rfl i_0 ⟨_, rfl, rfl⟩ h hW hF (zb_aR i_0 (zb_aI (zb_aI zb_a0))) (Nat.le_refl _) (Nat.le_of_ble_eq_true rfl) (fun r12 h => ?_)
    show zb_WP _ _ _ _ [(0, r12)] _ _ _ _
    refine zb_if_eq (tgt := 28) dX12_line_15 (by decide) (fun c2 => ?_) (fun c2 => ?_)
    · have h := h.1 c2
      refine zb_iconst dX12_line_28 (zb_inIc rfl) ?_
      exact zb_rI dX12_line_29 rfl hF ⟨rfl, h⟩
    · have h := h.2 c2
      refine zb_aload_n (j := 0) dX12_line_18 rfl rfl ?_
      refine zb_iload_n (j := 1) dX12_line_19 rfl rfl ?_
      refine zb_iload_n (j := 2) dX12_line_20 rfl rfl ?_
      refine zb_iload_n (j := 3) dX12_line_21 rfl rfl ?_
      refine zb_cVp (As := [(0, x1), (0, x2), (0, x3)]) (As' := [(0, x3), (0, x2), (0, x1)]) (st := []) dX12_line_22 lk_X12_156 gd_X12_lineOf rfl rfl i_0 ⟨_, rfl, rfl⟩ h hW hF (zb_aR i_0 (zb_aI (zb_aI (zb_aI zb_a0)))) (Nat.le_refl _) (Nat.le_of_ble_eq_true rfl) (fun r22 h => ?_)
      show zb_WP _ _ _ _ [(0, r22)] _ _ _ _
      refine zb_goto (tgt := 29) dX12_line_25 (by decide) ?_
      exact zb_rI dX12_line_29 rfl hF ⟨rfl, h⟩
theorem dX12_copy_0 : decode cX12_copy 0 = .ok (.aload_n 0, 1) := by decide +kernel
theorem dX12_copy_1 : decode cX12_copy 1 = .ok (.iload_n 1, 1) := by decide +kernel
theorem dX12_copy_2 : decode cX12_copy 2 = .ok (.iload_n 2, 1) := by decide +kernel
theorem dX12_copy_3 : decode cX12_copy 3 = .ok (.invokevirtual 152, 3) := by decide +kernel
theorem dX12_copy_6 : decode cX12_copy 6 = .ok (.ifCond .eq 14, 3) := by decide +kernel
theorem dX12_copy_9 : decode cX12_copy 9 = .ok (.aload_n 0, 1) := by decide +kernel
theorem dX12_copy_10 : decode cX12_copy 10 = .ok (.iload 4, 2) := by decide +kernel
theorem dX12_copy_12 : decode cX12_copy 12 = .ok (.iload 5, 2) := by decide +kernel
theorem dX12_copy_14 : decode cX12_copy 14 = .ok (.invokevirtual 152, 3) := by decide +kernel
theorem dX12_copy_17 : decode cX12_copy 17 = .ok (.ifCond .ne 5, 3) := by decide +kernel
theorem dX12_copy_20 : decode cX12_copy 20 = .ok (.iconst (-1), 1) := by decide +kernel
theorem dX12_copy_21 : decode cX12_copy 21 = .ok (.ireturn, 1) := by decide +kernel
theorem dX12_copy_22 : decode cX12_copy 22 = .ok (.aload_n 0, 1) := by decide +kernel
theorem dX12_copy_23 : decode cX12_copy 23 = .ok (.getfield 22, 3) := by decide +kernel
theorem dX12_copy_26 : decode cX12_copy 26 = .ok (.bipush 12, 2) := by decide +kernel
theorem dX12_copy_28 : decode cX12_copy 28 = .ok (.iload_n 1, 1) := by decide +kernel
theorem dX12_copy_29 : decode cX12_copy 29 = .ok (.imul, 1) := by decide +kernel
theorem dX12_copy_30 : decode cX12_copy 30 = .ok (.iload_n 2, 1) := by decide +kernel
theorem dX12_copy_31 : decode cX12_copy 31 = .ok (.iadd, 1) := by decide +kernel
theorem dX12_copy_32 : decode cX12_copy 32 = .ok (.iaload, 1) := by decide +kernel
theorem dX12_copy_33 : decode cX12_copy 33 = .ok (.istore 8, 2) := by decide +kernel
theorem dX12_copy_35 : decode cX12_copy 35 = .ok (.aload_n 0, 1) := by decide +kernel
theorem dX12_copy_36 : decode cX12_copy 36 = .ok (.getfield 22, 3) := by decide +kernel
theorem dX12_copy_39 : decode cX12_copy 39 = .ok (.bipush 12, 2) := by decide +kernel
theorem dX12_copy_41 : decode cX12_copy 41 = .ok (.iload 4, 2) := by decide +kernel
theorem dX12_copy_43 : decode cX12_copy 43 = .ok (.imul, 1) := by decide +kernel
theorem dX12_copy_44 : decode cX12_copy 44 = .ok (.iload 5, 2) := by decide +kernel
theorem dX12_copy_46 : decode cX12_copy 46 = .ok (.iadd, 1) := by decide +kernel
theorem dX12_copy_47 : decode cX12_copy 47 = .ok (.iaload, 1) := by decide +kernel
theorem dX12_copy_48 : decode cX12_copy 48 = .ok (.istore 9, 2) := by decide +kernel
theorem dX12_copy_50 : decode cX12_copy 50 = .ok (.iload 8, 2) := by decide +kernel
theorem dX12_copy_52 : decode cX12_copy 52 = .ok (.ifCond .lt 8, 3) := by decide +kernel
theorem dX12_copy_55 : decode cX12_copy 55 = .ok (.iload 9, 2) := by decide +kernel
theorem dX12_copy_57 : decode cX12_copy 57 = .ok (.ifCond .ge 6, 3) := by decide +kernel
theorem dX12_copy_60 : decode cX12_copy 60 = .ok (.bipush (-11), 2) := by decide +kernel
theorem dX12_copy_62 : decode cX12_copy 62 = .ok (.ireturn, 1) := by decide +kernel
theorem dX12_copy_63 : decode cX12_copy 63 = .ok (.iload 7, 2) := by decide +kernel
theorem dX12_copy_65 : decode cX12_copy 65 = .ok (.ifCond .lt 45, 3) := by decide +kernel
theorem dX12_copy_68 : decode cX12_copy 68 = .ok (.iload_n 3, 1) := by decide +kernel
theorem dX12_copy_69 : decode cX12_copy 69 = .ok (.ifCond .lt 41, 3) := by decide +kernel
theorem dX12_copy_72 : decode cX12_copy 72 = .ok (.iload 6, 2) := by decide +kernel
theorem dX12_copy_74 : decode cX12_copy 74 = .ok (.ifCond .lt 36, 3) := by decide +kernel
theorem dX12_copy_77 : decode cX12_copy 77 = .ok (.iload 7, 2) := by decide +kernel
theorem dX12_copy_79 : decode cX12_copy 79 = .ok (.iload 8, 2) := by decide +kernel
theorem dX12_copy_81 : decode cX12_copy 81 = .ok (.if_icmp .gt 29, 3) := by decide +kernel
theorem dX12_copy_84 : decode cX12_copy 84 = .ok (.iload_n 3, 1) := by decide +kernel
theorem dX12_copy_85 : decode cX12_copy 85 = .ok (.iload 8, 2) := by decide +kernel
theorem dX12_copy_87 : decode cX12_copy 87 = .ok (.iload 7, 2) := by decide +kernel
theorem dX12_copy_89 : decode cX12_copy 89 = .ok (.isub, 1) := by decide +kernel
theorem dX12_copy_90 : decode cX12_copy 90 = .ok (.if_icmp .gt 20, 3) := by decide +kernel
theorem dX12_copy_93 : decode cX12_copy 93 = .ok (.iload 7, 2) := by decide +kernel
theorem dX12_copy_95 : decode cX12_copy 95 = .ok (.iload 9, 2) := by decide +kernel
theorem dX12_copy_97 : decode cX12_copy 97 = .ok (.if_icmp .gt 13, 3) := by decide +kernel
theorem dX12_copy_100 : decode cX12_copy 100 = .ok (.iload 6, 2) := by decide +kernel
theorem dX12_copy_102 : decode cX12_copy 102 = .ok (.iload 9, 2) := by decide +kernel
theorem dX12_copy_104 : decode cX12_copy 104 = .ok (.iload 7, 2) := by decide +kernel
theorem dX12_copy_106 : decode cX12_copy 106 = .ok (.isub, 1) := by decide +kernel
theorem dX12_copy_107 : decode cX12_copy 107 = .ok (.if_icmp .le 6, 3) := by decide +kernel
theorem dX12_copy_110 : decode cX12_copy 110 = .ok (.bipush (-12), 2) := by decide +kernel
theorem dX12_copy_112 : decode cX12_copy 112 = .ok (.ireturn, 1) := by decide +kernel
theorem dX12_copy_113 : decode cX12_copy 113 = .ok (.aload_n 0, 1) := by decide +kernel
theorem dX12_copy_114 : decode cX12_copy 114 = .ok (.iload 4, 2) := by decide +kernel
theorem dX12_copy_116 : decode cX12_copy 116 = .ok (.invokevirtual 148, 3) := by decide +kernel
theorem dX12_copy_119 : decode cX12_copy 119 = .ok (.iconst 0, 1) := by decide +kernel
theorem dX12_copy_120 : decode cX12_copy 120 = .ok (.istore 10, 2) := by decide +kernel
theorem dX12_copy_122 : decode cX12_copy 122 = .ok (.iload 10, 2) := by decide +kernel
theorem dX12_copy_124 : decode cX12_copy 124 = .ok (.iload 7, 2) := by decide +kernel
theorem dX12_copy_126 : decode cX12_copy 126 = .ok (.if_icmp .ge 36, 3) := by decide +kernel
theorem dX12_copy_129 : decode cX12_copy 129 = .ok (.aload_n 0, 1) := by decide +kernel
theorem dX12_copy_130 : decode cX12_copy 130 = .ok (.getfield 49, 3) := by decide +kernel
theorem dX12_copy_133 : decode cX12_copy 133 = .ok (.iload 10, 2) := by decide +kernel
theorem dX12_copy_135 : decode cX12_copy 135 = .ok (.aload_n 0, 1) := by decide +kernel
theorem dX12_copy_136 : decode cX12_copy 136 = .ok (.getfield 25, 3) := by decide +kernel
theorem dX12_copy_139 : decode cX12_copy 139 = .ok (.sipush 144, 3) := by decide +kernel
theorem dX12_copy_142 : decode cX12_copy 142 = .ok (.iload_n 1, 1) := by decide +kernel
theorem dX12_copy_143 : decode cX12_copy 143 = .ok (.imul, 1) := by decide +kernel
theorem dX12_copy_144 : decode cX12_copy 144 = .ok (.bipush 12, 2) := by decide +kernel
theorem dX12_copy_146 : decode cX12_copy 146 = .ok (.iload_n 2, 1) := by decide +kernel
theorem dX12_copy_147 : decode cX12_copy 147 = .ok (.imul, 1) := by decide +kernel
theorem dX12_copy_148 : decode cX12_copy 148 = .ok (.iadd, 1) := by decide +kernel
theorem dX12_copy_149 : decode cX12_copy 149 = .ok (.iload_n 3, 1) := by decide +kernel
theorem dX12_copy_150 : decode cX12_copy 150 = .ok (.iadd, 1) := by decide +kernel
theorem dX12_copy_151 : decode cX12_copy 151 = .ok (.iload 10, 2) := by decide +kernel
theorem dX12_copy_153 : decode cX12_copy 153 = .ok (.iadd, 1) := by decide +kernel
theorem dX12_copy_154 : decode cX12_copy 154 = .ok (.iaload, 1) := by decide +kernel
theorem dX12_copy_155 : decode cX12_copy 155 = .ok (.iastore, 1) := by decide +kernel
theorem dX12_copy_156 : decode cX12_copy 156 = .ok (.iinc 10 1, 3) := by decide +kernel
theorem dX12_copy_159 : decode cX12_copy 159 = .ok (.goto (-37), 3) := by decide +kernel
theorem dX12_copy_162 : decode cX12_copy 162 = .ok (.iconst 0, 1) := by decide +kernel
theorem dX12_copy_163 : decode cX12_copy 163 = .ok (.istore 10, 2) := by decide +kernel
theorem dX12_copy_165 : decode cX12_copy 165 = .ok (.iload 10, 2) := by decide +kernel
theorem dX12_copy_167 : decode cX12_copy 167 = .ok (.iload 7, 2) := by decide +kernel
theorem dX12_copy_169 : decode cX12_copy 169 = .ok (.if_icmp .ge 39, 3) := by decide +kernel
theorem dX12_copy_172 : decode cX12_copy 172 = .ok (.aload_n 0, 1) := by decide +kernel
theorem dX12_copy_173 : decode cX12_copy 173 = .ok (.getfield 25, 3) := by decide +kernel
theorem dX12_copy_176 : decode cX12_copy 176 = .ok (.sipush 144, 3) := by decide +kernel
theorem dX12_copy_179 : decode cX12_copy 179 = .ok (.iload 4, 2) := by decide +kernel
theorem dX12_copy_181 : decode cX12_copy 181 = .ok (.imul, 1) := by decide +kernel
theorem dX12_copy_182 : decode cX12_copy 182 = .ok (.bipush 12, 2) := by decide +kernel
theorem dX12_copy_184 : decode cX12_copy 184 = .ok (.iload 5, 2) := by decide +kernel
theorem dX12_copy_186 : decode cX12_copy 186 = .ok (.imul, 1) := by decide +kernel
theorem dX12_copy_187 : decode cX12_copy 187 = .ok (.iadd, 1) := by decide +kernel
theorem dX12_copy_188 : decode cX12_copy 188 = .ok (.iload 6, 2) := by decide +kernel
theorem dX12_copy_190 : decode cX12_copy 190 = .ok (.iadd, 1) := by decide +kernel
theorem dX12_copy_191 : decode cX12_copy 191 = .ok (.iload 10, 2) := by decide +kernel
theorem dX12_copy_193 : decode cX12_copy 193 = .ok (.iadd, 1) := by decide +kernel
theorem dX12_copy_194 : decode cX12_copy 194 = .ok (.aload_n 0, 1) := by decide +kernel
theorem dX12_copy_195 : decode cX12_copy 195 = .ok (.getfield 49, 3) := by decide +kernel
theorem dX12_copy_198 : decode cX12_copy 198 = .ok (.iload 10, 2) := by decide +kernel
theorem dX12_copy_200 : decode cX12_copy 200 = .ok (.iaload, 1) := by decide +kernel
theorem dX12_copy_201 : decode cX12_copy 201 = .ok (.iastore, 1) := by decide +kernel
theorem dX12_copy_202 : decode cX12_copy 202 = .ok (.iinc 10 1, 3) := by decide +kernel
theorem dX12_copy_205 : decode cX12_copy 205 = .ok (.goto (-40), 3) := by decide +kernel
theorem dX12_copy_208 : decode cX12_copy 208 = .ok (.iload 7, 2) := by decide +kernel
theorem dX12_copy_210 : decode cX12_copy 210 = .ok (.ireturn, 1) := by decide +kernel
def PL_X12_copy_165 (d : Nat) (E : zb_E) (x0 : Int) (x4 : Int) (x5 : Int) (x6 : Int) (x7 : Int) (Q : Int → zb_M → Prop)  (v10_165 : Int) (m165l : zb_M) : Prop :=
  ∀ X165 : Int → zb_M → Prop, (∀ (v10_165 : Int) (m165l : zb_M), ((x7 ≤ v10_165 → Q x7 m165l) ∧ (¬ x7 ≤ v10_165 → (zb_inI (144 * x4)) ∧ ((zb_inI (12 * x5)) ∧ ((zb_inI ((144 * x4) + (12 * x5))) ∧ ((zb_inI (((144 * x4) + (12 * x5)) + x6)) ∧ ((zb_inI ((((144 * x4) + (12 * x5)) + x6) + v10_165)) ∧ ((0 ≤ v10_165 ∧ v10_165 < 144) ∧ ((0 ≤ ((((144 * x4) + (12 * x5)) + x6) + v10_165) ∧ ((((144 * x4) + (12 * x5)) + x6) + v10_165) < 1152) ∧ (∀ m201, m201 = zb_up m165l (E.2 x0 5) ((((144 * x4) + (12 * x5)) + x6) + v10_165) (m165l (E.2 x0 14) v10_165) → ((zb_inI (v10_165 + 1)) ∧ (X165 (v10_165 + 1) m201))))))))))) → X165 v10_165 m165l) → X165 v10_165 m165l
def PJ_X12_copy_162 (d : Nat) (E : zb_E) (x0 : Int) (x4 : Int) (x5 : Int) (x6 : Int) (x7 : Int) (Q : Int → zb_M → Prop) (m162j : zb_M) : Prop :=
  PL_X12_copy_165 d E x0 x4 x5 x6 x7 Q 0 m162j
def PL_X12_copy_122 (d : Nat) (E : zb_E) (x0 : Int) (x1 : Int) (x2 : Int) (x3 : Int) (x7 : Int) (Q : Int → zb_M → Prop) (K162_122 : zb_M → Prop) (v10_122 : Int) (m122l : zb_M) : Prop :=
  ∀ X122 : Int → zb_M → Prop, (∀ (v10_122 : Int) (m122l : zb_M), ((x7 ≤ v10_122 → K162_122 m122l) ∧ (¬ x7 ≤ v10_122 → (zb_inI (144 * x1)) ∧ ((zb_inI (12 * x2)) ∧ ((zb_inI ((144 * x1) + (12 * x2))) ∧ ((zb_inI (((144 * x1) + (12 * x2)) + x3)) ∧ ((zb_inI ((((144 * x1) + (12 * x2)) + x3) + v10_122)) ∧ ((0 ≤ ((((144 * x1) + (12 * x2)) + x3) + v10_122) ∧ ((((144 * x1) + (12 * x2)) + x3) + v10_122) < 1152) ∧ ((0 ≤ v10_122 ∧ v10_122 < 144) ∧ (∀ m155, m155 = zb_up m122l (E.2 x0 14) v10_122 (m122l (E.2 x0 5) ((((144 * x1) + (12 * x2)) + x3) + v10_122)) → ((zb_inI (v10_122 + 1)) ∧ (X122 (v10_122 + 1) m155))))))))))) → X122 v10_122 m122l) → X122 v10_122 m122l
def PM_X12_copy (d : Nat) (E : zb_E) (x0 : Int) (x1 : Int) (x2 : Int) (x3 : Int) (x4 : Int) (x5 : Int) (x6 : Int) (x7 : Int) (m : zb_M) (Q : Int → zb_M → Prop) : Prop :=
  zb_Tp K_X12_isThing d [(2, x0), (0, x1), (0, x2)] E m (fun r3 => (r3 = 0 → Q (-1) m) ∧ (¬ r3 = 0 → zb_Tp K_X12_isThing d [(2, x0), (0, x4), (0, x5)] E m (fun r14 => (r14 = 0 → Q (-1) m) ∧ (¬ r14 = 0 → (zb_inI (12 * x1)) ∧ ((zb_inI ((12 * x1) + x2)) ∧ ((0 ≤ ((12 * x1) + x2) ∧ ((12 * x1) + x2) < 96) ∧ ((zb_inI (12 * x4)) ∧ ((zb_inI ((12 * x4) + x5)) ∧ ((0 ≤ ((12 * x4) + x5) ∧ ((12 * x4) + x5) < 96) ∧ (((m (E.2 x0 4) ((12 * x1) + x2)) < 0 → Q (-11) m) ∧ (¬ (m (E.2 x0 4) ((12 * x1) + x2)) < 0 → (0 ≤ (m (E.2 x0 4) ((12 * x4) + x5)) → (x7 < 0 → Q (-12) m) ∧ (¬ x7 < 0 → (x3 < 0 → Q (-12) m) ∧ (¬ x3 < 0 → (x6 < 0 → Q (-12) m) ∧ (¬ x6 < 0 → ((m (E.2 x0 4) ((12 * x1) + x2)) < x7 → Q (-12) m) ∧ (¬ (m (E.2 x0 4) ((12 * x1) + x2)) < x7 → (zb_inI ((m (E.2 x0 4) ((12 * x1) + x2)) - x7)) ∧ ((((m (E.2 x0 4) ((12 * x1) + x2)) - x7) < x3 → Q (-12) m) ∧ (¬ ((m (E.2 x0 4) ((12 * x1) + x2)) - x7) < x3 → ((m (E.2 x0 4) ((12 * x4) + x5)) < x7 → Q (-12) m) ∧ (¬ (m (E.2 x0 4) ((12 * x4) + x5)) < x7 → (zb_inI ((m (E.2 x0 4) ((12 * x4) + x5)) - x7)) ∧ ((x6 ≤ ((m (E.2 x0 4) ((12 * x4) + x5)) - x7) → zb_T K_X12_note d [(2, x0), (0, x4)] E m (fun r116 m116 => PL_X12_copy_122 d E x0 x1 x2 x3 x7 Q (PJ_X12_copy_162 d E x0 x4 x5 x6 x7 Q) 0 m116)) ∧ (¬ x6 ≤ ((m (E.2 x0 4) ((12 * x4) + x5)) - x7) → Q (-12) m)))))))))) ∧ (¬ 0 ≤ (m (E.2 x0 4) ((12 * x4) + x5)) → Q (-11) m))))))))))))
set_option maxRecDepth 100000 in
set_option maxHeartbeats 4000000 in
theorem w_X12_copy {d : Nat} {E : zb_E} {x0 x1 x2 x3 x4 x5 x6 x7 : Int} {m : zb_M} {Q : Int → zb_M → Prop} (h : PM_X12_copy d E x0 x1 x2 x3 x4 x5 x6 x7 m Q) : zb_T K_X12_copy (d + 1) [(2, x0), (0, x1), (0, x2), (0, x3), (0, x4), (0, x5), (0, x6), (0, x7)] E m Q := by
  unfold PM_X12_copy at h
  refine zb_T_in gd_X12_copy rfl rfl (fun hW hA G C hF => ?_)
  have i_0 : zb_is E.1 x0 12 := zb_aH hA (by decide)
  show zb_WP _ _ 0 [(0, (2, x0)), (1, (0, x1)), (2, (0, x2)), (3, (0, x3)), (4, (0, x4)), (5, (0, x5)), (6, (0, x6)), (7, (0, x7))] [] _ _ _ _
  refine zb_aload_n (j := 0) dX12_copy_0 rfl rfl ?_
  refine zb_iload_n (j := 1) dX12_copy_1 rfl rfl ?_
  refine zb_iload_n (j := 2) dX12_copy_2 rfl rfl ?_
  refine zb_cVp (As := [(0, x1), (0, x2)]) (As' := [(0, x2), (0, x1)]) (st := []) dX12_copy_3 lk_X12_152 gd_X12_isThing rfl rfl i_0 ⟨_, rfl, rfl⟩ h hW hF (zb_aR i_0 (zb_aI (zb_aI zb_a0))) (Nat.le_refl _) (Nat.le_of_ble_eq_true rfl) (fun r3 h => ?_)
  show zb_WP _ _ _ _ [(0, r3)] _ _ _ _
  refine zb_if_eq (tgt := 20) dX12_copy_6 (by decide) (fun c1 => ?_) (fun c1 => ?_)
  · have h := h.1 c1
    refine zb_iconst dX12_copy_20 (zb_inIc rfl) ?_
    exact zb_rI dX12_copy_21 rfl hF h
  · have h := h.2 c1
    refine zb_aload_n (j := 0) dX12_copy_9 rfl rfl ?_
    refine zb_iload (j := 4) dX12_copy_10 rfl ?_
    refine zb_iload (j := 5) dX12_copy_12 rfl ?_
    refine zb_cVp (As := [(0, x4), (0, x5)]) (As' := [(0, x5), (0, x4)]) (st := []) dX12_copy_14 lk_X12_152 gd_X12_isThing rfl rfl i_0 ⟨_, rfl, rfl⟩ h hW hF (zb_aR i_0 (zb_aI (zb_aI zb_a0))) (Nat.le_refl _) (Nat.le_of_ble_eq_true rfl) (fun r14 h => ?_)
    show zb_WP _ _ _ _ [(0, r14)] _ _ _ _
    refine zb_if_ne (tgt := 22) dX12_copy_17 (by decide) (fun c2 => ?_) (fun c2 => ?_)
    · have h := h.2 c2
      refine zb_aload_n (j := 0) dX12_copy_22 rfl rfl ?_
      refine zb_gFa 4 dX12_copy_23 fl_X12_22 i_0 hW hF rfl rfl rfl (by decide) rfl 96 rfl (fun i3 l4 => ?_)
      refine zb_bipush dX12_copy_26 (by decide) (zb_inIc rfl) ?_
      refine zb_iload_n (j := 1) dX12_copy_28 rfl rfl ?_
      obtain ⟨o5, h⟩ := h
      refine zb_imul dX12_copy_29 o5 ?_
      refine zb_iload_n (j := 2) dX12_copy_30 rfl rfl ?_
      obtain ⟨o6, h⟩ := h
      refine zb_iadd dX12_copy_31 o6 ?_
      obtain ⟨o7, h⟩ := h
      refine zb_lI dX12_copy_32 i3 l4 o7.1 o7.2 ?_
      refine zb_istore (L' := [(8, (0, (m (E.2 x0 4) ((12 * x1) + x2)))), (0, (2, x0)), (1, (0, x1)), (2, (0, x2)), (3, (0, x3)), (4, (0, x4)), (5, (0, x5)), (6, (0, x6)), (7, (0, x7))]) dX12_copy_33 (by decide) rfl ?_
      refine zb_aload_n (j := 1) dX12_copy_35 rfl rfl ?_
      refine zb_gFa 4 dX12_copy_36 fl_X12_22 i_0 hW hF rfl rfl rfl (by decide) rfl 96 rfl (fun i8 l9 => ?_)
      refine zb_bipush dX12_copy_39 (by decide) (zb_inIc rfl) ?_
      refine zb_iload (j := 5) dX12_copy_41 rfl ?_
      obtain ⟨o10, h⟩ := h
      refine zb_imul dX12_copy_43 o10 ?_
      refine zb_iload (j := 6) dX12_copy_44 rfl ?_
      obtain ⟨o11, h⟩ := h
      refine zb_iadd dX12_copy_46 o11 ?_
      obtain ⟨o12, h⟩ := h
      refine zb_lI dX12_copy_47 i8 l9 o12.1 o12.2 ?_
      refine zb_istore (L' := [(9, (0, (m (E.2 x0 4) ((12 * x4) + x5)))), (8, (0, (m (E.2 x0 4) ((12 * x1) + x2)))), (0, (2, x0)), (1, (0, x1)), (2, (0, x2)), (3, (0, x3)), (4, (0, x4)), (5, (0, x5)), (6, (0, x6)), (7, (0, x7))]) dX12_copy_48 (by decide) rfl ?_
      refine zb_iload (j := 1) dX12_copy_50 rfl ?_
      refine zb_if_lt (tgt := 60) dX12_copy_52 (by decide) (fun c13 => ?_) (fun c13 => ?_)
      · have h := h.1 c13
        refine zb_bipush dX12_copy_60 (by decide) (zb_inIc rfl) ?_
        exact zb_rI dX12_copy_62 rfl hF h
      · have h := h.2 c13
        refine zb_iload (j := 0) dX12_copy_55 rfl ?_
        refine zb_if_ge (tgt := 63) dX12_copy_57 (by decide) (fun c14 => ?_) (fun c14 => ?_)
        · have h := h.1 c14
          refine zb_iload (j := 9) dX12_copy_63 rfl ?_
          refine zb_if_lt (tgt := 110) dX12_copy_65 (by decide) (fun c15 => ?_) (fun c15 => ?_)
          · have h := h.1 c15
            refine zb_bipush dX12_copy_110 (by decide) (zb_inIc rfl) ?_
            exact zb_rI dX12_copy_112 rfl hF h
          · have h := h.2 c15
            refine zb_iload_n (j := 5) dX12_copy_68 rfl rfl ?_
            refine zb_if_lt (tgt := 110) dX12_copy_69 (by decide) (fun c16 => ?_) (fun c16 => ?_)
            · have h := h.1 c16
              refine zb_bipush dX12_copy_110 (by decide) (zb_inIc rfl) ?_
              exact zb_rI dX12_copy_112 rfl hF h
            · have h := h.2 c16
              refine zb_iload (j := 8) dX12_copy_72 rfl ?_
              refine zb_if_lt (tgt := 110) dX12_copy_74 (by decide) (fun c17 => ?_) (fun c17 => ?_)
              · have h := h.1 c17
                refine zb_bipush dX12_copy_110 (by decide) (zb_inIc rfl) ?_
                exact zb_rI dX12_copy_112 rfl hF h
              · have h := h.2 c17
                refine zb_iload (j := 9) dX12_copy_77 rfl ?_
                refine zb_iload (j := 1) dX12_copy_79 rfl ?_
                refine zb_icmp_gt (tgt := 110) dX12_copy_81 (by decide) (fun c18 => ?_) (fun c18 => ?_)
                · have h := h.1 c18
                  refine zb_bipush dX12_copy_110 (by decide) (zb_inIc rfl) ?_
                  exact zb_rI dX12_copy_112 rfl hF h
                · have h := h.2 c18
                  refine zb_iload_n (j := 5) dX12_copy_84 rfl rfl ?_
                  refine zb_iload (j := 1) dX12_copy_85 rfl ?_
                  refine zb_iload (j := 9) dX12_copy_87 rfl ?_
                  obtain ⟨o19, h⟩ := h
                  refine zb_isub dX12_copy_89 o19 ?_
                  refine zb_icmp_gt (tgt := 110) dX12_copy_90 (by decide) (fun c20 => ?_) (fun c20 => ?_)
                  · have h := h.1 c20
                    refine zb_bipush dX12_copy_110 (by decide) (zb_inIc rfl) ?_
                    exact zb_rI dX12_copy_112 rfl hF h
                  · have h := h.2 c20
                    refine zb_iload (j := 9) dX12_copy_93 rfl ?_
                    refine zb_iload (j := 0) dX12_copy_95 rfl ?_
                    refine zb_icmp_gt (tgt := 110) dX12_copy_97 (by decide) (fun c21 => ?_) (fun c21 => ?_)
                    · have h := h.1 c21
                      refine zb_bipush dX12_copy_110 (by decide) (zb_inIc rfl) ?_
                      exact zb_rI dX12_copy_112 rfl hF h
                    · have h := h.2 c21
                      refine zb_iload (j := 8) dX12_copy_100 rfl ?_
                      refine zb_iload (j := 0) dX12_copy_102 rfl ?_
                      refine zb_iload (j := 9) dX12_copy_104 rfl ?_
                      obtain ⟨o22, h⟩ := h
                      refine zb_isub dX12_copy_106 o22 ?_
                      refine zb_icmp_le (tgt := 113) dX12_copy_107 (by decide) (fun c23 => ?_) (fun c23 => ?_)
                      · have h := h.1 c23
                        refine zb_aload_n (j := 2) dX12_copy_113 rfl rfl ?_
                        refine zb_iload (j := 6) dX12_copy_114 rfl ?_
                        refine zb_cV (As := [(0, x4)]) (As' := [(0, x4)]) (st := []) dX12_copy_116 lk_X12_148 gd_X12_note rfl rfl i_0 ⟨_, rfl, rfl⟩ h hW hF (zb_aR i_0 (zb_aI zb_a0)) (Nat.le_refl _) (Nat.le_of_ble_eq_true rfl) (fun r116 m116 hF h => ?_)
                        show zb_WP _ _ _ _ [] _ _ _ _
                        refine zb_iconst dX12_copy_119 (zb_inIc rfl) ?_
                        refine zb_istore (L' := [(10, (0, 0)), (9, (0, (m (E.2 x0 4) ((12 * x4) + x5)))), (8, (0, (m (E.2 x0 4) ((12 * x1) + x2)))), (0, (2, x0)), (1, (0, x1)), (2, (0, x2)), (3, (0, x3)), (4, (0, x4)), (5, (0, x5)), (6, (0, x6)), (7, (0, x7))]) dX12_copy_120 (by decide) rfl ?_
                        refine zb_sub (L' := [(0, (2, x0)), (1, (0, x1)), (2, (0, x2)), (3, (0, x3)), (4, (0, x4)), (5, (0, x5)), (6, (0, x6)), (7, (0, x7)), (10, (0, 0))]) [3, 4, 5, 6, 7, 8, 9, 10, 0] rfl ?_
                        have hJ162 : ∀ (m162j : zb_M), zb_FIN E m162j → PJ_X12_copy_162 d E x0 x4 x5 x6 x7 Q m162j → zb_WP (G, C, d + 1, 0, 0, zb_q E Q) F_X12_copy 162 [(0, (2, x0)), (4, (0, x4)), (5, (0, x5)), (6, (0, x6)), (7, (0, x7))] [] E.1 m162j 0 0 := by
                          intro m162j hF h
                          unfold PJ_X12_copy_162 at h
                          refine zb_iconst dX12_copy_162 (zb_inIc rfl) ?_
                          refine zb_istore (L' := [(10, (0, 0)), (0, (2, x0)), (4, (0, x4)), (5, (0, x5)), (6, (0, x6)), (7, (0, x7))]) dX12_copy_163 (by decide) rfl ?_
                          refine zb_sub (L' := [(0, (2, x0)), (4, (0, x4)), (5, (0, x5)), (6, (0, x6)), (7, (0, x7)), (10, (0, 0))]) [1, 2, 3, 4, 5, 0] rfl ?_
                          unfold PL_X12_copy_165 at h
                          obtain ⟨X165, hX165⟩ : ∃ X : Int → zb_M → Prop, ∀ (v10_165 : Int) (m165l : zb_M), (X v10_165 m165l ↔ (zb_FIN E m165l → zb_WP (G, C, d + 1, 0, 0, zb_q E Q) F_X12_copy 165 [(0, (2, x0)), (4, (0, x4)), (5, (0, x5)), (6, (0, x6)), (7, (0, x7)), (10, (0, v10_165))] [] E.1 m165l 0 0)) := ⟨fun v10_165 m165l => zb_FIN E m165l → zb_WP (G, C, d + 1, 0, 0, zb_q E Q) F_X12_copy 165 [(0, (2, x0)), (4, (0, x4)), (5, (0, x5)), (6, (0, x6)), (7, (0, x7)), (10, (0, v10_165))] [] E.1 m165l 0 0, fun _ _ => Iff.rfl⟩
                          refine (hX165 _ _).mp (h X165 (fun v10_165 m165l h => (hX165 _ _).mpr (fun hF => ?_))) hF
                          refine zb_iload (j := 5) dX12_copy_165 rfl ?_
                          refine zb_iload (j := 4) dX12_copy_167 rfl ?_
                          refine zb_icmp_ge (tgt := 208) dX12_copy_169 (by decide) (fun c24 => ?_) (fun c24 => ?_)
                          · have h := h.1 c24
                            refine zb_iload (j := 4) dX12_copy_208 rfl ?_
                            exact zb_rI dX12_copy_210 rfl hF h
                          · have h := h.2 c24
                            refine zb_aload_n (j := 0) dX12_copy_172 rfl rfl ?_
                            refine zb_gFa 5 dX12_copy_173 fl_X12_25 i_0 hW hF rfl rfl rfl (by decide) rfl 1152 rfl (fun i25 l26 => ?_)
                            refine zb_sipush dX12_copy_176 (by decide) (zb_inIc rfl) ?_
                            refine zb_iload (j := 1) dX12_copy_179 rfl ?_
                            obtain ⟨o27, h⟩ := h
                            refine zb_imul dX12_copy_181 o27 ?_
                            refine zb_bipush dX12_copy_182 (by decide) (zb_inIc rfl) ?_
                            refine zb_iload (j := 2) dX12_copy_184 rfl ?_
                            obtain ⟨o28, h⟩ := h
                            refine zb_imul dX12_copy_186 o28 ?_
                            obtain ⟨o29, h⟩ := h
                            refine zb_iadd dX12_copy_187 o29 ?_
                            refine zb_iload (j := 3) dX12_copy_188 rfl ?_
                            obtain ⟨o30, h⟩ := h
                            refine zb_iadd dX12_copy_190 o30 ?_
                            refine zb_iload (j := 5) dX12_copy_191 rfl ?_
                            obtain ⟨o31, h⟩ := h
                            refine zb_iadd dX12_copy_193 o31 ?_
                            refine zb_aload_n (j := 0) dX12_copy_194 rfl rfl ?_
                            refine zb_gFa 14 dX12_copy_195 fl_X12_49 i_0 hW hF rfl rfl rfl (by decide) rfl 144 rfl (fun i32 l33 => ?_)
                            refine zb_iload (j := 5) dX12_copy_198 rfl ?_
                            obtain ⟨o34, h⟩ := h
                            refine zb_lI dX12_copy_200 i32 l33 o34.1 o34.2 ?_
                            obtain ⟨o35, h⟩ := h
                            refine zb_sI dX12_copy_201 i25 l26 o35.1 o35.2 hF (fun m201 e201 hF => ?_)
                            have h := h m201 e201
                            obtain ⟨o36, h⟩ := h
                            refine zb_iinc (j := 5) (L' := [(10, (0, (v10_165 + 1))), (0, (2, x0)), (4, (0, x4)), (5, (0, x5)), (6, (0, x6)), (7, (0, x7))]) dX12_copy_202 rfl o36 (by decide) rfl ?_
                            refine zb_goto (tgt := 165) dX12_copy_205 (by decide) ?_
                            refine zb_sub (L' := [(0, (2, x0)), (4, (0, x4)), (5, (0, x5)), (6, (0, x6)), (7, (0, x7)), (10, (0, (v10_165 + 1)))]) [1, 2, 3, 4, 5, 0] rfl ?_
                            exact (hX165 _ _).mp h hF
                        unfold PL_X12_copy_122 at h
                        obtain ⟨X122, hX122⟩ : ∃ X : Int → zb_M → Prop, ∀ (v10_122 : Int) (m122l : zb_M), (X v10_122 m122l ↔ (zb_FIN E m122l → zb_WP (G, C, d + 1, 0, 0, zb_q E Q) F_X12_copy 122 [(0, (2, x0)), (1, (0, x1)), (2, (0, x2)), (3, (0, x3)), (4, (0, x4)), (5, (0, x5)), (6, (0, x6)), (7, (0, x7)), (10, (0, v10_122))] [] E.1 m122l 0 0)) := ⟨fun v10_122 m122l => zb_FIN E m122l → zb_WP (G, C, d + 1, 0, 0, zb_q E Q) F_X12_copy 122 [(0, (2, x0)), (1, (0, x1)), (2, (0, x2)), (3, (0, x3)), (4, (0, x4)), (5, (0, x5)), (6, (0, x6)), (7, (0, x7)), (10, (0, v10_122))] [] E.1 m122l 0 0, fun _ _ => Iff.rfl⟩
                        refine (hX122 _ _).mp (h X122 (fun v10_122 m122l h => (hX122 _ _).mpr (fun hF => ?_))) hF
                        refine zb_iload (j := 8) dX12_copy_122 rfl ?_
                        refine zb_iload (j := 7) dX12_copy_124 rfl ?_
                        refine zb_icmp_ge (tgt := 162) dX12_copy_126 (by decide) (fun c37 => ?_) (fun c37 => ?_)
                        · have h := h.1 c37
                          refine zb_sub (L' := [(0, (2, x0)), (4, (0, x4)), (5, (0, x5)), (6, (0, x6)), (7, (0, x7))]) [0, 4, 5, 6, 7] rfl ?_
                          exact hJ162 _ hF h
                        · have h := h.2 c37
                          refine zb_aload_n (j := 0) dX12_copy_129 rfl rfl ?_
                          refine zb_gFa 14 dX12_copy_130 fl_X12_49 i_0 hW hF rfl rfl rfl (by decide) rfl 144 rfl (fun i38 l39 => ?_)
                          refine zb_iload (j := 8) dX12_copy_133 rfl ?_
                          refine zb_aload_n (j := 0) dX12_copy_135 rfl rfl ?_
                          refine zb_gFa 5 dX12_copy_136 fl_X12_25 i_0 hW hF rfl rfl rfl (by decide) rfl 1152 rfl (fun i40 l41 => ?_)
                          refine zb_sipush dX12_copy_139 (by decide) (zb_inIc rfl) ?_
                          refine zb_iload_n (j := 1) dX12_copy_142 rfl rfl ?_
                          obtain ⟨o42, h⟩ := h
                          refine zb_imul dX12_copy_143 o42 ?_
                          refine zb_bipush dX12_copy_144 (by decide) (zb_inIc rfl) ?_
                          refine zb_iload_n (j := 2) dX12_copy_146 rfl rfl ?_
                          obtain ⟨o43, h⟩ := h
                          refine zb_imul dX12_copy_147 o43 ?_
                          obtain ⟨o44, h⟩ := h
                          refine zb_iadd dX12_copy_148 o44 ?_
                          refine zb_iload_n (j := 3) dX12_copy_149 rfl rfl ?_
                          obtain ⟨o45, h⟩ := h
                          refine zb_iadd dX12_copy_150 o45 ?_
                          refine zb_iload (j := 8) dX12_copy_151 rfl ?_
                          obtain ⟨o46, h⟩ := h
                          refine zb_iadd dX12_copy_153 o46 ?_
                          obtain ⟨o47, h⟩ := h
                          refine zb_lI dX12_copy_154 i40 l41 o47.1 o47.2 ?_
                          obtain ⟨o48, h⟩ := h
                          refine zb_sI dX12_copy_155 i38 l39 o48.1 o48.2 hF (fun m155 e155 hF => ?_)
                          have h := h m155 e155
                          obtain ⟨o49, h⟩ := h
                          refine zb_iinc (j := 8) (L' := [(10, (0, (v10_122 + 1))), (0, (2, x0)), (1, (0, x1)), (2, (0, x2)), (3, (0, x3)), (4, (0, x4)), (5, (0, x5)), (6, (0, x6)), (7, (0, x7))]) dX12_copy_156 rfl o49 (by decide) rfl ?_
                          refine zb_goto (tgt := 122) dX12_copy_159 (by decide) ?_
                          refine zb_sub (L' := [(0, (2, x0)), (1, (0, x1)), (2, (0, x2)), (3, (0, x3)), (4, (0, x4)), (5, (0, x5)), (6, (0, x6)), (7, (0, x7)), (10, (0, (v10_122 + 1)))]) [1, 2, 3, 4, 5, 6, 7, 8, 0] rfl ?_
                          exact (hX122 _ _).mp h hF
                      · have h := h.2 c23
                        refine zb_bipush dX12_copy_110 (by decide) (zb_inIc rfl) ?_
                        exact zb_rI dX12_copy_112 rfl hF h
        · have h := h.2 c14
          refine zb_bipush dX12_copy_60 (by decide) (zb_inIc rfl) ?_
          exact zb_rI dX12_copy_62 rfl hF h
    · have h := h.1 c2
      refine zb_iconst dX12_copy_20 (zb_inIc rfl) ?_
      exact zb_rI dX12_copy_21 rfl hF h
theorem dX12_swap_0 : decode cX12_swap 0 = .ok (.aload_n 0, 1) := by decide +kernel
theorem dX12_swap_1 : decode cX12_swap 1 = .ok (.iload_n 1, 1) := by decide +kernel
theorem dX12_swap_2 : decode cX12_swap 2 = .ok (.iload_n 2, 1) := by decide +kernel
theorem dX12_swap_3 : decode cX12_swap 3 = .ok (.invokevirtual 152, 3) := by decide +kernel
theorem dX12_swap_6 : decode cX12_swap 6 = .ok (.ifCond .eq 12, 3) := by decide +kernel
theorem dX12_swap_9 : decode cX12_swap 9 = .ok (.aload_n 0, 1) := by decide +kernel
theorem dX12_swap_10 : decode cX12_swap 10 = .ok (.iload_n 1, 1) := by decide +kernel
theorem dX12_swap_11 : decode cX12_swap 11 = .ok (.iload_n 3, 1) := by decide +kernel
theorem dX12_swap_12 : decode cX12_swap 12 = .ok (.invokevirtual 152, 3) := by decide +kernel
theorem dX12_swap_15 : decode cX12_swap 15 = .ok (.ifCond .ne 5, 3) := by decide +kernel
theorem dX12_swap_18 : decode cX12_swap 18 = .ok (.iconst (-1), 1) := by decide +kernel
theorem dX12_swap_19 : decode cX12_swap 19 = .ok (.ireturn, 1) := by decide +kernel
theorem dX12_swap_20 : decode cX12_swap 20 = .ok (.aload_n 0, 1) := by decide +kernel
theorem dX12_swap_21 : decode cX12_swap 21 = .ok (.iload_n 1, 1) := by decide +kernel
theorem dX12_swap_22 : decode cX12_swap 22 = .ok (.invokevirtual 148, 3) := by decide +kernel
theorem dX12_swap_25 : decode cX12_swap 25 = .ok (.bipush 12, 2) := by decide +kernel
theorem dX12_swap_27 : decode cX12_swap 27 = .ok (.iload_n 1, 1) := by decide +kernel
theorem dX12_swap_28 : decode cX12_swap 28 = .ok (.imul, 1) := by decide +kernel
theorem dX12_swap_29 : decode cX12_swap 29 = .ok (.istore 4, 2) := by decide +kernel
theorem dX12_swap_31 : decode cX12_swap 31 = .ok (.iconst 0, 1) := by decide +kernel
theorem dX12_swap_32 : decode cX12_swap 32 = .ok (.istore 5, 2) := by decide +kernel
theorem dX12_swap_34 : decode cX12_swap 34 = .ok (.iload 5, 2) := by decide +kernel
theorem dX12_swap_36 : decode cX12_swap 36 = .ok (.aload_n 0, 1) := by decide +kernel
theorem dX12_swap_37 : decode cX12_swap 37 = .ok (.getfield 7, 3) := by decide +kernel
theorem dX12_swap_40 : decode cX12_swap 40 = .ok (.iload_n 1, 1) := by decide +kernel
theorem dX12_swap_41 : decode cX12_swap 41 = .ok (.iaload, 1) := by decide +kernel
theorem dX12_swap_42 : decode cX12_swap 42 = .ok (.if_icmp .ge 47, 3) := by decide +kernel
theorem dX12_swap_45 : decode cX12_swap 45 = .ok (.iconst 0, 1) := by decide +kernel
theorem dX12_swap_46 : decode cX12_swap 46 = .ok (.istore 6, 2) := by decide +kernel
theorem dX12_swap_48 : decode cX12_swap 48 = .ok (.iload 6, 2) := by decide +kernel
theorem dX12_swap_50 : decode cX12_swap 50 = .ok (.bipush 12, 2) := by decide +kernel
theorem dX12_swap_52 : decode cX12_swap 52 = .ok (.if_icmp .ge 31, 3) := by decide +kernel
theorem dX12_swap_55 : decode cX12_swap 55 = .ok (.aload_n 0, 1) := by decide +kernel
theorem dX12_swap_56 : decode cX12_swap 56 = .ok (.getfield 49, 3) := by decide +kernel
theorem dX12_swap_59 : decode cX12_swap 59 = .ok (.bipush 12, 2) := by decide +kernel
theorem dX12_swap_61 : decode cX12_swap 61 = .ok (.iload 5, 2) := by decide +kernel
theorem dX12_swap_63 : decode cX12_swap 63 = .ok (.imul, 1) := by decide +kernel
theorem dX12_swap_64 : decode cX12_swap 64 = .ok (.iload 6, 2) := by decide +kernel
theorem dX12_swap_66 : decode cX12_swap 66 = .ok (.iadd, 1) := by decide +kernel
theorem dX12_swap_67 : decode cX12_swap 67 = .ok (.aload_n 0, 1) := by decide +kernel
theorem dX12_swap_68 : decode cX12_swap 68 = .ok (.iload_n 1, 1) := by decide +kernel
theorem dX12_swap_69 : decode cX12_swap 69 = .ok (.iload 5, 2) := by decide +kernel
theorem dX12_swap_71 : decode cX12_swap 71 = .ok (.iload 6, 2) := by decide +kernel
theorem dX12_swap_73 : decode cX12_swap 73 = .ok (.invokevirtual 156, 3) := by decide +kernel
theorem dX12_swap_76 : decode cX12_swap 76 = .ok (.iastore, 1) := by decide +kernel
theorem dX12_swap_77 : decode cX12_swap 77 = .ok (.iinc 6 1, 3) := by decide +kernel
theorem dX12_swap_80 : decode cX12_swap 80 = .ok (.goto (-32), 3) := by decide +kernel
theorem dX12_swap_83 : decode cX12_swap 83 = .ok (.iinc 5 1, 3) := by decide +kernel
theorem dX12_swap_86 : decode cX12_swap 86 = .ok (.goto (-52), 3) := by decide +kernel
theorem dX12_swap_89 : decode cX12_swap 89 = .ok (.iconst 0, 1) := by decide +kernel
theorem dX12_swap_90 : decode cX12_swap 90 = .ok (.istore 5, 2) := by decide +kernel
theorem dX12_swap_92 : decode cX12_swap 92 = .ok (.iload 5, 2) := by decide +kernel
theorem dX12_swap_94 : decode cX12_swap 94 = .ok (.aload_n 0, 1) := by decide +kernel
theorem dX12_swap_95 : decode cX12_swap 95 = .ok (.getfield 7, 3) := by decide +kernel
theorem dX12_swap_98 : decode cX12_swap 98 = .ok (.iload_n 1, 1) := by decide +kernel
theorem dX12_swap_99 : decode cX12_swap 99 = .ok (.iaload, 1) := by decide +kernel
theorem dX12_swap_100 : decode cX12_swap 100 = .ok (.if_icmp .ge 105, 3) := by decide +kernel
theorem dX12_swap_103 : decode cX12_swap 103 = .ok (.iload 5, 2) := by decide +kernel
theorem dX12_swap_105 : decode cX12_swap 105 = .ok (.iload_n 2, 1) := by decide +kernel
theorem dX12_swap_106 : decode cX12_swap 106 = .ok (.if_icmp .ne 7, 3) := by decide +kernel
theorem dX12_swap_109 : decode cX12_swap 109 = .ok (.iload_n 3, 1) := by decide +kernel
theorem dX12_swap_110 : decode cX12_swap 110 = .ok (.goto 15, 3) := by decide +kernel
theorem dX12_swap_113 : decode cX12_swap 113 = .ok (.iload 5, 2) := by decide +kernel
theorem dX12_swap_115 : decode cX12_swap 115 = .ok (.iload_n 3, 1) := by decide +kernel
theorem dX12_swap_116 : decode cX12_swap 116 = .ok (.if_icmp .ne 7, 3) := by decide +kernel
theorem dX12_swap_119 : decode cX12_swap 119 = .ok (.iload_n 2, 1) := by decide +kernel
theorem dX12_swap_120 : decode cX12_swap 120 = .ok (.goto 5, 3) := by decide +kernel
theorem dX12_swap_123 : decode cX12_swap 123 = .ok (.iload 5, 2) := by decide +kernel
theorem dX12_swap_125 : decode cX12_swap 125 = .ok (.istore 6, 2) := by decide +kernel
theorem dX12_swap_127 : decode cX12_swap 127 = .ok (.iconst 0, 1) := by decide +kernel
theorem dX12_swap_128 : decode cX12_swap 128 = .ok (.istore 7, 2) := by decide +kernel
theorem dX12_swap_130 : decode cX12_swap 130 = .ok (.iload 7, 2) := by decide +kernel
theorem dX12_swap_132 : decode cX12_swap 132 = .ok (.bipush 12, 2) := by decide +kernel
theorem dX12_swap_134 : decode cX12_swap 134 = .ok (.if_icmp .ge 65, 3) := by decide +kernel
theorem dX12_swap_137 : decode cX12_swap 137 = .ok (.iload 7, 2) := by decide +kernel
theorem dX12_swap_139 : decode cX12_swap 139 = .ok (.iload_n 2, 1) := by decide +kernel
theorem dX12_swap_140 : decode cX12_swap 140 = .ok (.if_icmp .ne 7, 3) := by decide +kernel
theorem dX12_swap_143 : decode cX12_swap 143 = .ok (.iload_n 3, 1) := by decide +kernel
theorem dX12_swap_144 : decode cX12_swap 144 = .ok (.goto 15, 3) := by decide +kernel
theorem dX12_swap_147 : decode cX12_swap 147 = .ok (.iload 7, 2) := by decide +kernel
theorem dX12_swap_149 : decode cX12_swap 149 = .ok (.iload_n 3, 1) := by decide +kernel
theorem dX12_swap_150 : decode cX12_swap 150 = .ok (.if_icmp .ne 7, 3) := by decide +kernel
theorem dX12_swap_153 : decode cX12_swap 153 = .ok (.iload_n 2, 1) := by decide +kernel
theorem dX12_swap_154 : decode cX12_swap 154 = .ok (.goto 5, 3) := by decide +kernel
theorem dX12_swap_157 : decode cX12_swap 157 = .ok (.iload 7, 2) := by decide +kernel
theorem dX12_swap_159 : decode cX12_swap 159 = .ok (.istore 8, 2) := by decide +kernel
theorem dX12_swap_161 : decode cX12_swap 161 = .ok (.aload_n 0, 1) := by decide +kernel
theorem dX12_swap_162 : decode cX12_swap 162 = .ok (.getfield 25, 3) := by decide +kernel
theorem dX12_swap_165 : decode cX12_swap 165 = .ok (.sipush 144, 3) := by decide +kernel
theorem dX12_swap_168 : decode cX12_swap 168 = .ok (.iload_n 1, 1) := by decide +kernel
theorem dX12_swap_169 : decode cX12_swap 169 = .ok (.imul, 1) := by decide +kernel
theorem dX12_swap_170 : decode cX12_swap 170 = .ok (.bipush 12, 2) := by decide +kernel
theorem dX12_swap_172 : decode cX12_swap 172 = .ok (.iload 5, 2) := by decide +kernel
theorem dX12_swap_174 : decode cX12_swap 174 = .ok (.imul, 1) := by decide +kernel
theorem dX12_swap_175 : decode cX12_swap 175 = .ok (.iadd, 1) := by decide +kernel
theorem dX12_swap_176 : decode cX12_swap 176 = .ok (.iload 7, 2) := by decide +kernel
theorem dX12_swap_178 : decode cX12_swap 178 = .ok (.iadd, 1) := by decide +kernel
theorem dX12_swap_179 : decode cX12_swap 179 = .ok (.aload_n 0, 1) := by decide +kernel
theorem dX12_swap_180 : decode cX12_swap 180 = .ok (.getfield 49, 3) := by decide +kernel
theorem dX12_swap_183 : decode cX12_swap 183 = .ok (.bipush 12, 2) := by decide +kernel
theorem dX12_swap_185 : decode cX12_swap 185 = .ok (.iload 6, 2) := by decide +kernel
theorem dX12_swap_187 : decode cX12_swap 187 = .ok (.imul, 1) := by decide +kernel
theorem dX12_swap_188 : decode cX12_swap 188 = .ok (.iload 8, 2) := by decide +kernel
theorem dX12_swap_190 : decode cX12_swap 190 = .ok (.iadd, 1) := by decide +kernel
theorem dX12_swap_191 : decode cX12_swap 191 = .ok (.iaload, 1) := by decide +kernel
theorem dX12_swap_192 : decode cX12_swap 192 = .ok (.iastore, 1) := by decide +kernel
theorem dX12_swap_193 : decode cX12_swap 193 = .ok (.iinc 7 1, 3) := by decide +kernel
theorem dX12_swap_196 : decode cX12_swap 196 = .ok (.goto (-66), 3) := by decide +kernel
theorem dX12_swap_199 : decode cX12_swap 199 = .ok (.iinc 5 1, 3) := by decide +kernel
theorem dX12_swap_202 : decode cX12_swap 202 = .ok (.goto (-110), 3) := by decide +kernel
theorem dX12_swap_205 : decode cX12_swap 205 = .ok (.aload_n 0, 1) := by decide +kernel
theorem dX12_swap_206 : decode cX12_swap 206 = .ok (.getfield 13, 3) := by decide +kernel
theorem dX12_swap_209 : decode cX12_swap 209 = .ok (.iload 4, 2) := by decide +kernel
theorem dX12_swap_211 : decode cX12_swap 211 = .ok (.iload_n 2, 1) := by decide +kernel
theorem dX12_swap_212 : decode cX12_swap 212 = .ok (.iadd, 1) := by decide +kernel
theorem dX12_swap_213 : decode cX12_swap 213 = .ok (.iload 4, 2) := by decide +kernel
theorem dX12_swap_215 : decode cX12_swap 215 = .ok (.iload_n 3, 1) := by decide +kernel
theorem dX12_swap_216 : decode cX12_swap 216 = .ok (.iadd, 1) := by decide +kernel
theorem dX12_swap_217 : decode cX12_swap 217 = .ok (.invokestatic 160, 3) := by decide +kernel
theorem dX12_swap_220 : decode cX12_swap 220 = .ok (.aload_n 0, 1) := by decide +kernel
theorem dX12_swap_221 : decode cX12_swap 221 = .ok (.getfield 16, 3) := by decide +kernel
theorem dX12_swap_224 : decode cX12_swap 224 = .ok (.iload 4, 2) := by decide +kernel
theorem dX12_swap_226 : decode cX12_swap 226 = .ok (.iload_n 2, 1) := by decide +kernel
theorem dX12_swap_227 : decode cX12_swap 227 = .ok (.iadd, 1) := by decide +kernel
theorem dX12_swap_228 : decode cX12_swap 228 = .ok (.iload 4, 2) := by decide +kernel
theorem dX12_swap_230 : decode cX12_swap 230 = .ok (.iload_n 3, 1) := by decide +kernel
theorem dX12_swap_231 : decode cX12_swap 231 = .ok (.iadd, 1) := by decide +kernel
theorem dX12_swap_232 : decode cX12_swap 232 = .ok (.invokestatic 160, 3) := by decide +kernel
theorem dX12_swap_235 : decode cX12_swap 235 = .ok (.aload_n 0, 1) := by decide +kernel
theorem dX12_swap_236 : decode cX12_swap 236 = .ok (.getfield 19, 3) := by decide +kernel
theorem dX12_swap_239 : decode cX12_swap 239 = .ok (.iload 4, 2) := by decide +kernel
theorem dX12_swap_241 : decode cX12_swap 241 = .ok (.iload_n 2, 1) := by decide +kernel
theorem dX12_swap_242 : decode cX12_swap 242 = .ok (.iadd, 1) := by decide +kernel
theorem dX12_swap_243 : decode cX12_swap 243 = .ok (.iload 4, 2) := by decide +kernel
theorem dX12_swap_245 : decode cX12_swap 245 = .ok (.iload_n 3, 1) := by decide +kernel
theorem dX12_swap_246 : decode cX12_swap 246 = .ok (.iadd, 1) := by decide +kernel
theorem dX12_swap_247 : decode cX12_swap 247 = .ok (.invokestatic 160, 3) := by decide +kernel
theorem dX12_swap_250 : decode cX12_swap 250 = .ok (.aload_n 0, 1) := by decide +kernel
theorem dX12_swap_251 : decode cX12_swap 251 = .ok (.getfield 22, 3) := by decide +kernel
theorem dX12_swap_254 : decode cX12_swap 254 = .ok (.iload 4, 2) := by decide +kernel
theorem dX12_swap_256 : decode cX12_swap 256 = .ok (.iload_n 2, 1) := by decide +kernel
theorem dX12_swap_257 : decode cX12_swap 257 = .ok (.iadd, 1) := by decide +kernel
theorem dX12_swap_258 : decode cX12_swap 258 = .ok (.iload 4, 2) := by decide +kernel
theorem dX12_swap_260 : decode cX12_swap 260 = .ok (.iload_n 3, 1) := by decide +kernel
theorem dX12_swap_261 : decode cX12_swap 261 = .ok (.iadd, 1) := by decide +kernel
theorem dX12_swap_262 : decode cX12_swap 262 = .ok (.invokestatic 160, 3) := by decide +kernel
theorem dX12_swap_265 : decode cX12_swap 265 = .ok (.iconst 0, 1) := by decide +kernel
theorem dX12_swap_266 : decode cX12_swap 266 = .ok (.istore 5, 2) := by decide +kernel
theorem dX12_swap_268 : decode cX12_swap 268 = .ok (.iload 5, 2) := by decide +kernel
theorem dX12_swap_270 : decode cX12_swap 270 = .ok (.aload_n 0, 1) := by decide +kernel
theorem dX12_swap_271 : decode cX12_swap 271 = .ok (.getfield 7, 3) := by decide +kernel
theorem dX12_swap_274 : decode cX12_swap 274 = .ok (.iload_n 1, 1) := by decide +kernel
theorem dX12_swap_275 : decode cX12_swap 275 = .ok (.iaload, 1) := by decide +kernel
theorem dX12_swap_276 : decode cX12_swap 276 = .ok (.if_icmp .ge 38, 3) := by decide +kernel
theorem dX12_swap_279 : decode cX12_swap 279 = .ok (.aload_n 0, 1) := by decide +kernel
theorem dX12_swap_280 : decode cX12_swap 280 = .ok (.getfield 22, 3) := by decide +kernel
theorem dX12_swap_283 : decode cX12_swap 283 = .ok (.iload 4, 2) := by decide +kernel
theorem dX12_swap_285 : decode cX12_swap 285 = .ok (.iload 5, 2) := by decide +kernel
theorem dX12_swap_287 : decode cX12_swap 287 = .ok (.iadd, 1) := by decide +kernel
theorem dX12_swap_288 : decode cX12_swap 288 = .ok (.aload_n 0, 1) := by decide +kernel
theorem dX12_swap_289 : decode cX12_swap 289 = .ok (.getfield 22, 3) := by decide +kernel
theorem dX12_swap_292 : decode cX12_swap 292 = .ok (.iload 4, 2) := by decide +kernel
theorem dX12_swap_294 : decode cX12_swap 294 = .ok (.iload 5, 2) := by decide +kernel
theorem dX12_swap_296 : decode cX12_swap 296 = .ok (.iadd, 1) := by decide +kernel
theorem dX12_swap_297 : decode cX12_swap 297 = .ok (.iaload, 1) := by decide +kernel
theorem dX12_swap_298 : decode cX12_swap 298 = .ok (.ifCond .ge 7, 3) := by decide +kernel
theorem dX12_swap_301 : decode cX12_swap 301 = .ok (.iconst (-1), 1) := by decide +kernel
theorem dX12_swap_302 : decode cX12_swap 302 = .ok (.goto 5, 3) := by decide +kernel
theorem dX12_swap_305 : decode cX12_swap 305 = .ok (.bipush 12, 2) := by decide +kernel
theorem dX12_swap_307 : decode cX12_swap 307 = .ok (.iastore, 1) := by decide +kernel
theorem dX12_swap_308 : decode cX12_swap 308 = .ok (.iinc 5 1, 3) := by decide +kernel
theorem dX12_swap_311 : decode cX12_swap 311 = .ok (.goto (-43), 3) := by decide +kernel
theorem dX12_swap_314 : decode cX12_swap 314 = .ok (.iconst 1, 1) := by decide +kernel
theorem dX12_swap_315 : decode cX12_swap 315 = .ok (.ireturn, 1) := by decide +kernel
def PL_X12_swap_268 (d : Nat) (E : zb_E) (x0 : Int) (x1 : Int) (Q : Int → zb_M → Prop)  (v5_268 : Int) (m268l : zb_M) : Prop :=
  ∀ X268 : Int → zb_M → Prop, (∀ (v5_268 : Int) (m268l : zb_M), ((0 ≤ x1 ∧ x1 < 8) ∧ (((m268l (E.2 x0 0) x1) ≤ v5_268 → Q 1 m268l) ∧ (¬ (m268l (E.2 x0 0) x1) ≤ v5_268 → (zb_inI ((12 * x1) + v5_268)) ∧ ((0 ≤ ((12 * x1) + v5_268) ∧ ((12 * x1) + v5_268) < 96) ∧ ((0 ≤ (m268l (E.2 x0 4) ((12 * x1) + v5_268)) → ∀ m307, m307 = zb_up m268l (E.2 x0 4) ((12 * x1) + v5_268) 12 → ((zb_inI (v5_268 + 1)) ∧ (X268 (v5_268 + 1) m307))) ∧ (¬ 0 ≤ (m268l (E.2 x0 4) ((12 * x1) + v5_268)) → ∀ m307, m307 = zb_up m268l (E.2 x0 4) ((12 * x1) + v5_268) (-1) → ((zb_inI (v5_268 + 1)) ∧ (X268 (v5_268 + 1) m307)))))))) → X268 v5_268 m268l) → X268 v5_268 m268l
def PJ_X12_swap_205 (d : Nat) (E : zb_E) (x0 : Int) (x1 : Int) (x2 : Int) (x3 : Int) (Q : Int → zb_M → Prop) (m205j : zb_M) : Prop :=
  (zb_inI ((12 * x1) + x2)) ∧ ((zb_inI ((12 * x1) + x3)) ∧ (zb_T K_X12_exchange d [(2, (E.2 x0 1)), (0, ((12 * x1) + x2)), (0, ((12 * x1) + x3))] E m205j (fun r217 m217 => zb_T K_X12_exchange d [(2, (E.2 x0 2)), (0, ((12 * x1) + x2)), (0, ((12 * x1) + x3))] E m217 (fun r232 m232 => zb_T K_X12_exchange d [(2, (E.2 x0 3)), (0, ((12 * x1) + x2)), (0, ((12 * x1) + x3))] E m232 (fun r247 m247 => zb_T K_X12_exchange d [(2, (E.2 x0 4)), (0, ((12 * x1) + x2)), (0, ((12 * x1) + x3))] E m247 (fun r262 m262 => PL_X12_swap_268 d E x0 x1 Q 0 m262))))))
def PJ_X12_swap_199 (d : Nat) (E : zb_E) (v5_92 : Int) (X92 : Int → zb_M → Prop) (Q : Int → zb_M → Prop) (m199j : zb_M) : Prop :=
  (zb_inI (v5_92 + 1)) ∧ (X92 (v5_92 + 1) m199j)
def PJ_X12_swap_159 (d : Nat) (E : zb_E) (x0 : Int) (x1 : Int) (v5_92 : Int) (s0_125 : Int) (v7_130 : Int) (m130l : zb_M) (X130 : Int → zb_M → Prop) (Q : Int → zb_M → Prop) (s0_159 : Int) : Prop :=
  (zb_inI (144 * x1)) ∧ ((zb_inI (12 * v5_92)) ∧ ((zb_inI ((144 * x1) + (12 * v5_92))) ∧ ((zb_inI (((144 * x1) + (12 * v5_92)) + v7_130)) ∧ ((zb_inI (12 * s0_125)) ∧ ((zb_inI ((12 * s0_125) + s0_159)) ∧ ((0 ≤ ((12 * s0_125) + s0_159) ∧ ((12 * s0_125) + s0_159) < 144) ∧ ((0 ≤ (((144 * x1) + (12 * v5_92)) + v7_130) ∧ (((144 * x1) + (12 * v5_92)) + v7_130) < 1152) ∧ (∀ m192, m192 = zb_up m130l (E.2 x0 5) (((144 * x1) + (12 * v5_92)) + v7_130) (m130l (E.2 x0 14) ((12 * s0_125) + s0_159)) → ((zb_inI (v7_130 + 1)) ∧ (X130 (v7_130 + 1) m192))))))))))
def PL_X12_swap_130 (d : Nat) (E : zb_E) (x0 : Int) (x1 : Int) (x2 : Int) (x3 : Int) (v5_92 : Int) (s0_125 : Int) (Q : Int → zb_M → Prop) (K199_130 : zb_M → Prop) (v7_130 : Int) (m130l : zb_M) : Prop :=
  ∀ X130 : Int → zb_M → Prop, (∀ (v7_130 : Int) (m130l : zb_M), ((12 ≤ v7_130 → K199_130 m130l) ∧ (¬ 12 ≤ v7_130 → (v7_130 = x2 → PJ_X12_swap_159 d E x0 x1 v5_92 s0_125 v7_130 m130l X130 Q x3) ∧ (¬ v7_130 = x2 → (v7_130 = x3 → PJ_X12_swap_159 d E x0 x1 v5_92 s0_125 v7_130 m130l X130 Q x2) ∧ (¬ v7_130 = x3 → PJ_X12_swap_159 d E x0 x1 v5_92 s0_125 v7_130 m130l X130 Q v7_130)))) → X130 v7_130 m130l) → X130 v7_130 m130l
def PJ_X12_swap_125 (d : Nat) (E : zb_E) (x0 : Int) (x1 : Int) (x2 : Int) (x3 : Int) (v5_92 : Int) (m92l : zb_M) (X92 : Int → zb_M → Prop) (Q : Int → zb_M → Prop) (s0_125 : Int) : Prop :=
  PL_X12_swap_130 d E x0 x1 x2 x3 v5_92 s0_125 Q (PJ_X12_swap_199 d E v5_92 X92 Q) 0 m92l
def PL_X12_swap_92 (d : Nat) (E : zb_E) (x0 : Int) (x1 : Int) (x2 : Int) (x3 : Int) (Q : Int → zb_M → Prop) (K205_92 : zb_M → Prop) (v5_92 : Int) (m92l : zb_M) : Prop :=
  ∀ X92 : Int → zb_M → Prop, (∀ (v5_92 : Int) (m92l : zb_M), ((0 ≤ x1 ∧ x1 < 8) ∧ (((m92l (E.2 x0 0) x1) ≤ v5_92 → K205_92 m92l) ∧ (¬ (m92l (E.2 x0 0) x1) ≤ v5_92 → (v5_92 = x2 → PJ_X12_swap_125 d E x0 x1 x2 x3 v5_92 m92l X92 Q x3) ∧ (¬ v5_92 = x2 → (v5_92 = x3 → PJ_X12_swap_125 d E x0 x1 x2 x3 v5_92 m92l X92 Q x2) ∧ (¬ v5_92 = x3 → PJ_X12_swap_125 d E x0 x1 x2 x3 v5_92 m92l X92 Q v5_92))))) → X92 v5_92 m92l) → X92 v5_92 m92l
def PJ_X12_swap_89 (d : Nat) (E : zb_E) (x0 : Int) (x1 : Int) (x2 : Int) (x3 : Int) (Q : Int → zb_M → Prop) (m89j : zb_M) : Prop :=
  PL_X12_swap_92 d E x0 x1 x2 x3 Q (PJ_X12_swap_205 d E x0 x1 x2 x3 Q) 0 m89j
def PJ_X12_swap_83 (d : Nat) (E : zb_E) (v5_34 : Int) (X34 : Int → zb_M → Prop) (Q : Int → zb_M → Prop) (m83j : zb_M) : Prop :=
  (zb_inI (v5_34 + 1)) ∧ (X34 (v5_34 + 1) m83j)
def PL_X12_swap_48 (d : Nat) (E : zb_E) (x0 : Int) (x1 : Int) (v5_34 : Int) (Q : Int → zb_M → Prop) (K83_48 : zb_M → Prop) (v6_48 : Int) (m48l : zb_M) : Prop :=
  ∀ X48 : Int → zb_M → Prop, (∀ (v6_48 : Int) (m48l : zb_M), ((12 ≤ v6_48 → K83_48 m48l) ∧ (¬ 12 ≤ v6_48 → (zb_inI (12 * v5_34)) ∧ ((zb_inI ((12 * v5_34) + v6_48)) ∧ (zb_Tp K_X12_lineOf d [(2, x0), (0, x1), (0, v5_34), (0, v6_48)] E m48l (fun r73 => (0 ≤ ((12 * v5_34) + v6_48) ∧ ((12 * v5_34) + v6_48) < 144) ∧ (∀ m76, m76 = zb_up m48l (E.2 x0 14) ((12 * v5_34) + v6_48) r73 → ((zb_inI (v6_48 + 1)) ∧ (X48 (v6_48 + 1) m76)))))))) → X48 v6_48 m48l) → X48 v6_48 m48l
def PL_X12_swap_34 (d : Nat) (E : zb_E) (x0 : Int) (x1 : Int) (Q : Int → zb_M → Prop) (K89_34 : zb_M → Prop) (v5_34 : Int) (m34l : zb_M) : Prop :=
  ∀ X34 : Int → zb_M → Prop, (∀ (v5_34 : Int) (m34l : zb_M), ((0 ≤ x1 ∧ x1 < 8) ∧ (((m34l (E.2 x0 0) x1) ≤ v5_34 → K89_34 m34l) ∧ (¬ (m34l (E.2 x0 0) x1) ≤ v5_34 → PL_X12_swap_48 d E x0 x1 v5_34 Q (PJ_X12_swap_83 d E v5_34 X34 Q) 0 m34l))) → X34 v5_34 m34l) → X34 v5_34 m34l
def PM_X12_swap (d : Nat) (E : zb_E) (x0 : Int) (x1 : Int) (x2 : Int) (x3 : Int) (m : zb_M) (Q : Int → zb_M → Prop) : Prop :=
  zb_Tp K_X12_isThing d [(2, x0), (0, x1), (0, x2)] E m (fun r3 => (r3 = 0 → Q (-1) m) ∧ (¬ r3 = 0 → zb_Tp K_X12_isThing d [(2, x0), (0, x1), (0, x3)] E m (fun r12 => (r12 = 0 → Q (-1) m) ∧ (¬ r12 = 0 → zb_T K_X12_note d [(2, x0), (0, x1)] E m (fun r22 m22 => (zb_inI (12 * x1)) ∧ (PL_X12_swap_34 d E x0 x1 Q (PJ_X12_swap_89 d E x0 x1 x2 x3 Q) 0 m22))))))
set_option maxRecDepth 100000 in
set_option maxHeartbeats 4000000 in
theorem w_X12_swap {d : Nat} {E : zb_E} {x0 x1 x2 x3 : Int} {m : zb_M} {Q : Int → zb_M → Prop} (h : PM_X12_swap d E x0 x1 x2 x3 m Q) : zb_T K_X12_swap (d + 1) [(2, x0), (0, x1), (0, x2), (0, x3)] E m Q := by
  unfold PM_X12_swap at h
  refine zb_T_in gd_X12_swap rfl rfl (fun hW hA G C hF => ?_)
  have i_0 : zb_is E.1 x0 12 := zb_aH hA (by decide)
  show zb_WP _ _ 0 [(0, (2, x0)), (1, (0, x1)), (2, (0, x2)), (3, (0, x3))] [] _ _ _ _
  refine zb_aload_n (j := 0) dX12_swap_0 rfl rfl ?_
  refine zb_iload_n (j := 1) dX12_swap_1 rfl rfl ?_
  refine zb_iload_n (j := 2) dX12_swap_2 rfl rfl ?_
  refine zb_cVp (As := [(0, x1), (0, x2)]) (As' := [(0, x2), (0, x1)]) (st := []) dX12_swap_3 lk_X12_152 gd_X12_isThing rfl rfl i_0 ⟨_, rfl, rfl⟩ h hW hF (zb_aR i_0 (zb_aI (zb_aI zb_a0))) (Nat.le_refl _) (Nat.le_of_ble_eq_true rfl) (fun r3 h => ?_)
  show zb_WP _ _ _ _ [(0, r3)] _ _ _ _
  refine zb_if_eq (tgt := 18) dX12_swap_6 (by decide) (fun c1 => ?_) (fun c1 => ?_)
  · have h := h.1 c1
    refine zb_iconst dX12_swap_18 (zb_inIc rfl) ?_
    exact zb_rI dX12_swap_19 rfl hF h
  · have h := h.2 c1
    refine zb_aload_n (j := 0) dX12_swap_9 rfl rfl ?_
    refine zb_iload_n (j := 1) dX12_swap_10 rfl rfl ?_
    refine zb_iload_n (j := 3) dX12_swap_11 rfl rfl ?_
    refine zb_cVp (As := [(0, x1), (0, x3)]) (As' := [(0, x3), (0, x1)]) (st := []) dX12_swap_12 lk_X12_152 gd_X12_isThing rfl rfl i_0 ⟨_, rfl, rfl⟩ h hW hF (zb_aR i_0 (zb_aI (zb_aI zb_a0))) (Nat.le_refl _) (Nat.le_of_ble_eq_true rfl) (fun r12 h => ?_)
    show zb_WP _ _ _ _ [(0, r12)] _ _ _ _
    refine zb_if_ne (tgt := 20) dX12_swap_15 (by decide) (fun c2 => ?_) (fun c2 => ?_)
    · have h := h.2 c2
      refine zb_aload_n (j := 0) dX12_swap_20 rfl rfl ?_
      refine zb_iload_n (j := 1) dX12_swap_21 rfl rfl ?_
      refine zb_cV (As := [(0, x1)]) (As' := [(0, x1)]) (st := []) dX12_swap_22 lk_X12_148 gd_X12_note rfl rfl i_0 ⟨_, rfl, rfl⟩ h hW hF (zb_aR i_0 (zb_aI zb_a0)) (Nat.le_refl _) (Nat.le_of_ble_eq_true rfl) (fun r22 m22 hF h => ?_)
      show zb_WP _ _ _ _ [] _ _ _ _
      refine zb_bipush dX12_swap_25 (by decide) (zb_inIc rfl) ?_
      refine zb_iload_n (j := 1) dX12_swap_27 rfl rfl ?_
      obtain ⟨o3, h⟩ := h
      refine zb_imul dX12_swap_28 o3 ?_
      refine zb_istore (L' := [(4, (0, (12 * x1))), (0, (2, x0)), (1, (0, x1)), (2, (0, x2)), (3, (0, x3))]) dX12_swap_29 (by decide) rfl ?_
      refine zb_iconst dX12_swap_31 (zb_inIc rfl) ?_
      refine zb_istore (L' := [(5, (0, 0)), (4, (0, (12 * x1))), (0, (2, x0)), (1, (0, x1)), (2, (0, x2)), (3, (0, x3))]) dX12_swap_32 (by decide) rfl ?_
      refine zb_sub (L' := [(0, (2, x0)), (1, (0, x1)), (2, (0, x2)), (3, (0, x3)), (4, (0, (12 * x1))), (5, (0, 0))]) [2, 3, 4, 5, 1, 0] rfl ?_
      have hJ89 : ∀ (m89j : zb_M), zb_FIN E m89j → PJ_X12_swap_89 d E x0 x1 x2 x3 Q m89j → zb_WP (G, C, d + 1, 0, 0, zb_q E Q) F_X12_swap 89 [(0, (2, x0)), (1, (0, x1)), (2, (0, x2)), (3, (0, x3)), (4, (0, (12 * x1)))] [] E.1 m89j 0 0 := by
        intro m89j hF h
        unfold PJ_X12_swap_89 at h
        refine zb_iconst dX12_swap_89 (zb_inIc rfl) ?_
        refine zb_istore (L' := [(5, (0, 0)), (0, (2, x0)), (1, (0, x1)), (2, (0, x2)), (3, (0, x3)), (4, (0, (12 * x1)))]) dX12_swap_90 (by decide) rfl ?_
        refine zb_sub (L' := [(0, (2, x0)), (1, (0, x1)), (2, (0, x2)), (3, (0, x3)), (4, (0, (12 * x1))), (5, (0, 0))]) [1, 2, 3, 4, 5, 0] rfl ?_
        have hJ205 : ∀ (m205j : zb_M), zb_FIN E m205j → PJ_X12_swap_205 d E x0 x1 x2 x3 Q m205j → zb_WP (G, C, d + 1, 0, 0, zb_q E Q) F_X12_swap 205 [(0, (2, x0)), (1, (0, x1)), (2, (0, x2)), (3, (0, x3)), (4, (0, (12 * x1)))] [] E.1 m205j 0 0 := by
          intro m205j hF h
          unfold PJ_X12_swap_205 at h
          refine zb_aload_n (j := 0) dX12_swap_205 rfl rfl ?_
          refine zb_gFa 1 dX12_swap_206 fl_X12_13 i_0 hW hF rfl rfl rfl (by decide) rfl 96 rfl (fun i4 l5 => ?_)
          refine zb_iload (j := 4) dX12_swap_209 rfl ?_
          refine zb_iload_n (j := 2) dX12_swap_211 rfl rfl ?_
          obtain ⟨o6, h⟩ := h
          refine zb_iadd dX12_swap_212 o6 ?_
          refine zb_iload (j := 4) dX12_swap_213 rfl ?_
          refine zb_iload_n (j := 3) dX12_swap_215 rfl rfl ?_
          obtain ⟨o7, h⟩ := h
          refine zb_iadd dX12_swap_216 o7 ?_
          refine zb_cS (As := [(2, (E.2 x0 1)), (0, ((12 * x1) + x2)), (0, ((12 * x1) + x3))]) (As' := [(0, ((12 * x1) + x3)), (0, ((12 * x1) + x2)), (2, (E.2 x0 1))]) (st := []) dX12_swap_217 lk_X12_160 gd_X12_exchange rfl rfl h hW hF (zb_aR i4 (zb_aI (zb_aI zb_a0))) (Nat.le_refl _) (Nat.le_of_ble_eq_true rfl) (fun r217 m217 hF h => ?_)
          show zb_WP _ _ _ _ [] _ _ _ _
          refine zb_aload_n (j := 0) dX12_swap_220 rfl rfl ?_
          refine zb_gFa 2 dX12_swap_221 fl_X12_16 i_0 hW hF rfl rfl rfl (by decide) rfl 96 rfl (fun i8 l9 => ?_)
          refine zb_iload (j := 4) dX12_swap_224 rfl ?_
          refine zb_iload_n (j := 2) dX12_swap_226 rfl rfl ?_
          refine zb_iadd dX12_swap_227 o6 ?_
          refine zb_iload (j := 4) dX12_swap_228 rfl ?_
          refine zb_iload_n (j := 3) dX12_swap_230 rfl rfl ?_
          refine zb_iadd dX12_swap_231 o7 ?_
          refine zb_cS (As := [(2, (E.2 x0 2)), (0, ((12 * x1) + x2)), (0, ((12 * x1) + x3))]) (As' := [(0, ((12 * x1) + x3)), (0, ((12 * x1) + x2)), (2, (E.2 x0 2))]) (st := []) dX12_swap_232 lk_X12_160 gd_X12_exchange rfl rfl h hW hF (zb_aR i8 (zb_aI (zb_aI zb_a0))) (Nat.le_refl _) (Nat.le_of_ble_eq_true rfl) (fun r232 m232 hF h => ?_)
          show zb_WP _ _ _ _ [] _ _ _ _
          refine zb_aload_n (j := 0) dX12_swap_235 rfl rfl ?_
          refine zb_gFa 3 dX12_swap_236 fl_X12_19 i_0 hW hF rfl rfl rfl (by decide) rfl 96 rfl (fun i10 l11 => ?_)
          refine zb_iload (j := 4) dX12_swap_239 rfl ?_
          refine zb_iload_n (j := 2) dX12_swap_241 rfl rfl ?_
          refine zb_iadd dX12_swap_242 o6 ?_
          refine zb_iload (j := 4) dX12_swap_243 rfl ?_
          refine zb_iload_n (j := 3) dX12_swap_245 rfl rfl ?_
          refine zb_iadd dX12_swap_246 o7 ?_
          refine zb_cS (As := [(2, (E.2 x0 3)), (0, ((12 * x1) + x2)), (0, ((12 * x1) + x3))]) (As' := [(0, ((12 * x1) + x3)), (0, ((12 * x1) + x2)), (2, (E.2 x0 3))]) (st := []) dX12_swap_247 lk_X12_160 gd_X12_exchange rfl rfl h hW hF (zb_aR i10 (zb_aI (zb_aI zb_a0))) (Nat.le_refl _) (Nat.le_of_ble_eq_true rfl) (fun r247 m247 hF h => ?_)
          show zb_WP _ _ _ _ [] _ _ _ _
          refine zb_aload_n (j := 0) dX12_swap_250 rfl rfl ?_
          refine zb_gFa 4 dX12_swap_251 fl_X12_22 i_0 hW hF rfl rfl rfl (by decide) rfl 96 rfl (fun i12 l13 => ?_)
          refine zb_iload (j := 4) dX12_swap_254 rfl ?_
          refine zb_iload_n (j := 2) dX12_swap_256 rfl rfl ?_
          refine zb_iadd dX12_swap_257 o6 ?_
          refine zb_iload (j := 4) dX12_swap_258 rfl ?_
          refine zb_iload_n (j := 3) dX12_swap_260 rfl rfl ?_
          refine zb_iadd dX12_swap_261 o7 ?_
          refine zb_cS (As := [(2, (E.2 x0 4)), (0, ((12 * x1) + x2)), (0, ((12 * x1) + x3))]) (As' := [(0, ((12 * x1) + x3)), (0, ((12 * x1) + x2)), (2, (E.2 x0 4))]) (st := []) dX12_swap_262 lk_X12_160 gd_X12_exchange rfl rfl h hW hF (zb_aR i12 (zb_aI (zb_aI zb_a0))) (Nat.le_refl _) (Nat.le_of_ble_eq_true rfl) (fun r262 m262 hF h => ?_)
          show zb_WP _ _ _ _ [] _ _ _ _
          refine zb_iconst dX12_swap_265 (zb_inIc rfl) ?_
          refine zb_istore (L' := [(5, (0, 0)), (0, (2, x0)), (1, (0, x1)), (2, (0, x2)), (3, (0, x3)), (4, (0, (12 * x1)))]) dX12_swap_266 (by decide) rfl ?_
          refine zb_sub (L' := [(0, (2, x0)), (1, (0, x1)), (4, (0, (12 * x1))), (5, (0, 0))]) [1, 2, 5, 0] rfl ?_
          unfold PL_X12_swap_268 at h
          obtain ⟨X268, hX268⟩ : ∃ X : Int → zb_M → Prop, ∀ (v5_268 : Int) (m268l : zb_M), (X v5_268 m268l ↔ (zb_FIN E m268l → zb_WP (G, C, d + 1, 0, 0, zb_q E Q) F_X12_swap 268 [(0, (2, x0)), (1, (0, x1)), (4, (0, (12 * x1))), (5, (0, v5_268))] [] E.1 m268l 0 0)) := ⟨fun v5_268 m268l => zb_FIN E m268l → zb_WP (G, C, d + 1, 0, 0, zb_q E Q) F_X12_swap 268 [(0, (2, x0)), (1, (0, x1)), (4, (0, (12 * x1))), (5, (0, v5_268))] [] E.1 m268l 0 0, fun _ _ => Iff.rfl⟩
          refine (hX268 _ _).mp (h X268 (fun v5_268 m268l h => (hX268 _ _).mpr (fun hF => ?_))) hF
          refine zb_iload (j := 3) dX12_swap_268 rfl ?_
          refine zb_aload_n (j := 0) dX12_swap_270 rfl rfl ?_
          refine zb_gFa 0 dX12_swap_271 fl_X12_7 i_0 hW hF rfl rfl rfl (by decide) rfl 8 rfl (fun i14 l15 => ?_)
          refine zb_iload_n (j := 1) dX12_swap_274 rfl rfl ?_
          obtain ⟨o16, h⟩ := h
          refine zb_lI dX12_swap_275 i14 l15 o16.1 o16.2 ?_
          refine zb_icmp_ge (tgt := 314) dX12_swap_276 (by decide) (fun c17 => ?_) (fun c17 => ?_)
          · have h := h.1 c17
            refine zb_iconst dX12_swap_314 (zb_inIc rfl) ?_
            exact zb_rI dX12_swap_315 rfl hF h
          · have h := h.2 c17
            refine zb_aload_n (j := 0) dX12_swap_279 rfl rfl ?_
            refine zb_gFa 4 dX12_swap_280 fl_X12_22 i_0 hW hF rfl rfl rfl (by decide) rfl 96 rfl (fun i18 l19 => ?_)
            refine zb_iload (j := 2) dX12_swap_283 rfl ?_
            refine zb_iload (j := 3) dX12_swap_285 rfl ?_
            obtain ⟨o20, h⟩ := h
            refine zb_iadd dX12_swap_287 o20 ?_
            refine zb_aload_n (j := 0) dX12_swap_288 rfl rfl ?_
            refine zb_gFa 4 dX12_swap_289 fl_X12_22 i_0 hW hF rfl rfl rfl (by decide) rfl 96 rfl (fun i21 l22 => ?_)
            refine zb_iload (j := 2) dX12_swap_292 rfl ?_
            refine zb_iload (j := 3) dX12_swap_294 rfl ?_
            refine zb_iadd dX12_swap_296 o20 ?_
            obtain ⟨o23, h⟩ := h
            refine zb_lI dX12_swap_297 i21 l22 o23.1 o23.2 ?_
            refine zb_if_ge (tgt := 305) dX12_swap_298 (by decide) (fun c24 => ?_) (fun c24 => ?_)
            · have h := h.1 c24
              refine zb_bipush dX12_swap_305 (by decide) (zb_inIc rfl) ?_
              refine zb_sI dX12_swap_307 i18 l19 o23.1 o23.2 hF (fun m307 e307 hF => ?_)
              have h := h m307 e307
              obtain ⟨o25, h⟩ := h
              refine zb_iinc (j := 3) (L' := [(5, (0, (v5_268 + 1))), (0, (2, x0)), (1, (0, x1)), (4, (0, (12 * x1)))]) dX12_swap_308 rfl o25 (by decide) rfl ?_
              refine zb_goto (tgt := 268) dX12_swap_311 (by decide) ?_
              refine zb_sub (L' := [(0, (2, x0)), (1, (0, x1)), (4, (0, (12 * x1))), (5, (0, (v5_268 + 1)))]) [1, 2, 3, 0] rfl ?_
              exact (hX268 _ _).mp h hF
            · have h := h.2 c24
              refine zb_iconst dX12_swap_301 (zb_inIc rfl) ?_
              refine zb_goto (tgt := 307) dX12_swap_302 (by decide) ?_
              refine zb_sI dX12_swap_307 i18 l19 o23.1 o23.2 hF (fun m307 e307 hF => ?_)
              have h := h m307 e307
              obtain ⟨o26, h⟩ := h
              refine zb_iinc (j := 3) (L' := [(5, (0, (v5_268 + 1))), (0, (2, x0)), (1, (0, x1)), (4, (0, (12 * x1)))]) dX12_swap_308 rfl o26 (by decide) rfl ?_
              refine zb_goto (tgt := 268) dX12_swap_311 (by decide) ?_
              refine zb_sub (L' := [(0, (2, x0)), (1, (0, x1)), (4, (0, (12 * x1))), (5, (0, (v5_268 + 1)))]) [1, 2, 3, 0] rfl ?_
              exact (hX268 _ _).mp h hF
        unfold PL_X12_swap_92 at h
        obtain ⟨X92, hX92⟩ : ∃ X : Int → zb_M → Prop, ∀ (v5_92 : Int) (m92l : zb_M), (X v5_92 m92l ↔ (zb_FIN E m92l → zb_WP (G, C, d + 1, 0, 0, zb_q E Q) F_X12_swap 92 [(0, (2, x0)), (1, (0, x1)), (2, (0, x2)), (3, (0, x3)), (4, (0, (12 * x1))), (5, (0, v5_92))] [] E.1 m92l 0 0)) := ⟨fun v5_92 m92l => zb_FIN E m92l → zb_WP (G, C, d + 1, 0, 0, zb_q E Q) F_X12_swap 92 [(0, (2, x0)), (1, (0, x1)), (2, (0, x2)), (3, (0, x3)), (4, (0, (12 * x1))), (5, (0, v5_92))] [] E.1 m92l 0 0, fun _ _ => Iff.rfl⟩
        refine (hX92 _ _).mp (h X92 (fun v5_92 m92l h => (hX92 _ _).mpr (fun hF => ?_))) hF
        refine zb_iload (j := 5) dX12_swap_92 rfl ?_
        refine zb_aload_n (j := 0) dX12_swap_94 rfl rfl ?_
        refine zb_gFa 0 dX12_swap_95 fl_X12_7 i_0 hW hF rfl rfl rfl (by decide) rfl 8 rfl (fun i27 l28 => ?_)
        refine zb_iload_n (j := 1) dX12_swap_98 rfl rfl ?_
        obtain ⟨o29, h⟩ := h
        refine zb_lI dX12_swap_99 i27 l28 o29.1 o29.2 ?_
        refine zb_icmp_ge (tgt := 205) dX12_swap_100 (by decide) (fun c30 => ?_) (fun c30 => ?_)
        · have h := h.1 c30
          refine zb_sub (L' := [(0, (2, x0)), (1, (0, x1)), (2, (0, x2)), (3, (0, x3)), (4, (0, (12 * x1)))]) [0, 1, 2, 3, 4] rfl ?_
          exact hJ205 _ hF h
        · have h := h.2 c30
          refine zb_iload (j := 5) dX12_swap_103 rfl ?_
          refine zb_iload_n (j := 2) dX12_swap_105 rfl rfl ?_
          have hJ125 : ∀ (s0_125 : Int), zb_FIN E m92l → PJ_X12_swap_125 d E x0 x1 x2 x3 v5_92 m92l X92 Q s0_125 → zb_WP (G, C, d + 1, 0, 0, zb_q E Q) F_X12_swap 125 [(0, (2, x0)), (1, (0, x1)), (2, (0, x2)), (3, (0, x3)), (4, (0, (12 * x1))), (5, (0, v5_92))] [(0, s0_125)] E.1 m92l 0 0 := by
            intro s0_125 hF h
            unfold PJ_X12_swap_125 at h
            refine zb_istore (L' := [(6, (0, s0_125)), (0, (2, x0)), (1, (0, x1)), (2, (0, x2)), (3, (0, x3)), (4, (0, (12 * x1))), (5, (0, v5_92))]) dX12_swap_125 (by decide) rfl ?_
            refine zb_iconst dX12_swap_127 (zb_inIc rfl) ?_
            refine zb_istore (L' := [(7, (0, 0)), (6, (0, s0_125)), (0, (2, x0)), (1, (0, x1)), (2, (0, x2)), (3, (0, x3)), (4, (0, (12 * x1))), (5, (0, v5_92))]) dX12_swap_128 (by decide) rfl ?_
            refine zb_sub (L' := [(0, (2, x0)), (1, (0, x1)), (2, (0, x2)), (3, (0, x3)), (4, (0, (12 * x1))), (5, (0, v5_92)), (6, (0, s0_125)), (7, (0, 0))]) [2, 3, 4, 5, 6, 7, 1, 0] rfl ?_
            have hJ199 : ∀ (m199j : zb_M), zb_FIN E m199j → PJ_X12_swap_199 d E v5_92 X92 Q m199j → zb_WP (G, C, d + 1, 0, 0, zb_q E Q) F_X12_swap 199 [(0, (2, x0)), (1, (0, x1)), (2, (0, x2)), (3, (0, x3)), (4, (0, (12 * x1))), (5, (0, v5_92))] [] E.1 m199j 0 0 := by
              intro m199j hF h
              unfold PJ_X12_swap_199 at h
              obtain ⟨o31, h⟩ := h
              refine zb_iinc (j := 5) (L' := [(5, (0, (v5_92 + 1))), (0, (2, x0)), (1, (0, x1)), (2, (0, x2)), (3, (0, x3)), (4, (0, (12 * x1)))]) dX12_swap_199 rfl o31 (by decide) rfl ?_
              refine zb_goto (tgt := 92) dX12_swap_202 (by decide) ?_
              refine zb_sub (L' := [(0, (2, x0)), (1, (0, x1)), (2, (0, x2)), (3, (0, x3)), (4, (0, (12 * x1))), (5, (0, (v5_92 + 1)))]) [1, 2, 3, 4, 5, 0] rfl ?_
              exact (hX92 _ _).mp h hF
            unfold PL_X12_swap_130 at h
            obtain ⟨X130, hX130⟩ : ∃ X : Int → zb_M → Prop, ∀ (v7_130 : Int) (m130l : zb_M), (X v7_130 m130l ↔ (zb_FIN E m130l → zb_WP (G, C, d + 1, 0, 0, zb_q E Q) F_X12_swap 130 [(0, (2, x0)), (1, (0, x1)), (2, (0, x2)), (3, (0, x3)), (4, (0, (12 * x1))), (5, (0, v5_92)), (6, (0, s0_125)), (7, (0, v7_130))] [] E.1 m130l 0 0)) := ⟨fun v7_130 m130l => zb_FIN E m130l → zb_WP (G, C, d + 1, 0, 0, zb_q E Q) F_X12_swap 130 [(0, (2, x0)), (1, (0, x1)), (2, (0, x2)), (3, (0, x3)), (4, (0, (12 * x1))), (5, (0, v5_92)), (6, (0, s0_125)), (7, (0, v7_130))] [] E.1 m130l 0 0, fun _ _ => Iff.rfl⟩
            refine (hX130 _ _).mp (h X130 (fun v7_130 m130l h => (hX130 _ _).mpr (fun hF => ?_))) hF
            refine zb_iload (j := 7) dX12_swap_130 rfl ?_
            refine zb_bipush dX12_swap_132 (by decide) (zb_inIc rfl) ?_
            refine zb_icmp_ge (tgt := 199) dX12_swap_134 (by decide) (fun c32 => ?_) (fun c32 => ?_)
            · have h := h.1 c32
              refine zb_sub (L' := [(0, (2, x0)), (1, (0, x1)), (2, (0, x2)), (3, (0, x3)), (4, (0, (12 * x1))), (5, (0, v5_92))]) [0, 1, 2, 3, 4, 5] rfl ?_
              exact hJ199 _ hF h
            · have h := h.2 c32
              refine zb_iload (j := 7) dX12_swap_137 rfl ?_
              refine zb_iload_n (j := 2) dX12_swap_139 rfl rfl ?_
              have hJ159 : ∀ (s0_159 : Int), zb_FIN E m130l → PJ_X12_swap_159 d E x0 x1 v5_92 s0_125 v7_130 m130l X130 Q s0_159 → zb_WP (G, C, d + 1, 0, 0, zb_q E Q) F_X12_swap 159 [(0, (2, x0)), (1, (0, x1)), (2, (0, x2)), (3, (0, x3)), (4, (0, (12 * x1))), (5, (0, v5_92)), (6, (0, s0_125)), (7, (0, v7_130))] [(0, s0_159)] E.1 m130l 0 0 := by
                intro s0_159 hF h
                unfold PJ_X12_swap_159 at h
                refine zb_istore (L' := [(8, (0, s0_159)), (0, (2, x0)), (1, (0, x1)), (2, (0, x2)), (3, (0, x3)), (4, (0, (12 * x1))), (5, (0, v5_92)), (6, (0, s0_125)), (7, (0, v7_130))]) dX12_swap_159 (by decide) rfl ?_
                refine zb_aload_n (j := 1) dX12_swap_161 rfl rfl ?_
                refine zb_gFa 5 dX12_swap_162 fl_X12_25 i_0 hW hF rfl rfl rfl (by decide) rfl 1152 rfl (fun i33 l34 => ?_)
                refine zb_sipush dX12_swap_165 (by decide) (zb_inIc rfl) ?_
                refine zb_iload_n (j := 2) dX12_swap_168 rfl rfl ?_
                obtain ⟨o35, h⟩ := h
                refine zb_imul dX12_swap_169 o35 ?_
                refine zb_bipush dX12_swap_170 (by decide) (zb_inIc rfl) ?_
                refine zb_iload (j := 6) dX12_swap_172 rfl ?_
                obtain ⟨o36, h⟩ := h
                refine zb_imul dX12_swap_174 o36 ?_
                obtain ⟨o37, h⟩ := h
                refine zb_iadd dX12_swap_175 o37 ?_
                refine zb_iload (j := 8) dX12_swap_176 rfl ?_
                obtain ⟨o38, h⟩ := h
                refine zb_iadd dX12_swap_178 o38 ?_
                refine zb_aload_n (j := 1) dX12_swap_179 rfl rfl ?_
                refine zb_gFa 14 dX12_swap_180 fl_X12_49 i_0 hW hF rfl rfl rfl (by decide) rfl 144 rfl (fun i39 l40 => ?_)
                refine zb_bipush dX12_swap_183 (by decide) (zb_inIc rfl) ?_
                refine zb_iload (j := 7) dX12_swap_185 rfl ?_
                obtain ⟨o41, h⟩ := h
                refine zb_imul dX12_swap_187 o41 ?_
                refine zb_iload (j := 0) dX12_swap_188 rfl ?_
                obtain ⟨o42, h⟩ := h
                refine zb_iadd dX12_swap_190 o42 ?_
                obtain ⟨o43, h⟩ := h
                refine zb_lI dX12_swap_191 i39 l40 o43.1 o43.2 ?_
                obtain ⟨o44, h⟩ := h
                refine zb_sI dX12_swap_192 i33 l34 o44.1 o44.2 hF (fun m192 e192 hF => ?_)
                have h := h m192 e192
                obtain ⟨o45, h⟩ := h
                refine zb_iinc (j := 8) (L' := [(7, (0, (v7_130 + 1))), (8, (0, s0_159)), (0, (2, x0)), (1, (0, x1)), (2, (0, x2)), (3, (0, x3)), (4, (0, (12 * x1))), (5, (0, v5_92)), (6, (0, s0_125))]) dX12_swap_193 rfl o45 (by decide) rfl ?_
                refine zb_goto (tgt := 130) dX12_swap_196 (by decide) ?_
                refine zb_sub (L' := [(0, (2, x0)), (1, (0, x1)), (2, (0, x2)), (3, (0, x3)), (4, (0, (12 * x1))), (5, (0, v5_92)), (6, (0, s0_125)), (7, (0, (v7_130 + 1)))]) [2, 3, 4, 5, 6, 7, 8, 0] rfl ?_
                exact (hX130 _ _).mp h hF
              refine zb_icmp_ne (tgt := 147) dX12_swap_140 (by decide) (fun c46 => ?_) (fun c46 => ?_)
              · have h := h.2 c46
                refine zb_iload (j := 7) dX12_swap_147 rfl ?_
                refine zb_iload_n (j := 3) dX12_swap_149 rfl rfl ?_
                refine zb_icmp_ne (tgt := 157) dX12_swap_150 (by decide) (fun c47 => ?_) (fun c47 => ?_)
                · have h := h.2 c47
                  refine zb_iload (j := 7) dX12_swap_157 rfl ?_
                  exact hJ159 _ hF h
                · have h := h.1 c47
                  refine zb_iload_n (j := 2) dX12_swap_153 rfl rfl ?_
                  refine zb_goto (tgt := 159) dX12_swap_154 (by decide) ?_
                  exact hJ159 _ hF h
              · have h := h.1 c46
                refine zb_iload_n (j := 3) dX12_swap_143 rfl rfl ?_
                refine zb_goto (tgt := 159) dX12_swap_144 (by decide) ?_
                exact hJ159 _ hF h
          refine zb_icmp_ne (tgt := 113) dX12_swap_106 (by decide) (fun c48 => ?_) (fun c48 => ?_)
          · have h := h.2 c48
            refine zb_iload (j := 5) dX12_swap_113 rfl ?_
            refine zb_iload_n (j := 3) dX12_swap_115 rfl rfl ?_
            refine zb_icmp_ne (tgt := 123) dX12_swap_116 (by decide) (fun c49 => ?_) (fun c49 => ?_)
            · have h := h.2 c49
              refine zb_iload (j := 5) dX12_swap_123 rfl ?_
              exact hJ125 _ hF h
            · have h := h.1 c49
              refine zb_iload_n (j := 2) dX12_swap_119 rfl rfl ?_
              refine zb_goto (tgt := 125) dX12_swap_120 (by decide) ?_
              exact hJ125 _ hF h
          · have h := h.1 c48
            refine zb_iload_n (j := 3) dX12_swap_109 rfl rfl ?_
            refine zb_goto (tgt := 125) dX12_swap_110 (by decide) ?_
            exact hJ125 _ hF h
      unfold PL_X12_swap_34 at h
      obtain ⟨X34, hX34⟩ : ∃ X : Int → zb_M → Prop, ∀ (v5_34 : Int) (m34l : zb_M), (X v5_34 m34l ↔ (zb_FIN E m34l → zb_WP (G, C, d + 1, 0, 0, zb_q E Q) F_X12_swap 34 [(0, (2, x0)), (1, (0, x1)), (2, (0, x2)), (3, (0, x3)), (4, (0, (12 * x1))), (5, (0, v5_34))] [] E.1 m34l 0 0)) := ⟨fun v5_34 m34l => zb_FIN E m34l → zb_WP (G, C, d + 1, 0, 0, zb_q E Q) F_X12_swap 34 [(0, (2, x0)), (1, (0, x1)), (2, (0, x2)), (3, (0, x3)), (4, (0, (12 * x1))), (5, (0, v5_34))] [] E.1 m34l 0 0, fun _ _ => Iff.rfl⟩
      refine (hX34 _ _).mp (h X34 (fun v5_34 m34l h => (hX34 _ _).mpr (fun hF => ?_))) hF
      refine zb_iload (j := 5) dX12_swap_34 rfl ?_
      refine zb_aload_n (j := 0) dX12_swap_36 rfl rfl ?_
      refine zb_gFa 0 dX12_swap_37 fl_X12_7 i_0 hW hF rfl rfl rfl (by decide) rfl 8 rfl (fun i50 l51 => ?_)
      refine zb_iload_n (j := 1) dX12_swap_40 rfl rfl ?_
      obtain ⟨o52, h⟩ := h
      refine zb_lI dX12_swap_41 i50 l51 o52.1 o52.2 ?_
      refine zb_icmp_ge (tgt := 89) dX12_swap_42 (by decide) (fun c53 => ?_) (fun c53 => ?_)
      · have h := h.1 c53
        refine zb_sub (L' := [(0, (2, x0)), (1, (0, x1)), (2, (0, x2)), (3, (0, x3)), (4, (0, (12 * x1)))]) [0, 1, 2, 3, 4] rfl ?_
        exact hJ89 _ hF h
      · have h := h.2 c53
        refine zb_iconst dX12_swap_45 (zb_inIc rfl) ?_
        refine zb_istore (L' := [(6, (0, 0)), (0, (2, x0)), (1, (0, x1)), (2, (0, x2)), (3, (0, x3)), (4, (0, (12 * x1))), (5, (0, v5_34))]) dX12_swap_46 (by decide) rfl ?_
        refine zb_sub (L' := [(0, (2, x0)), (1, (0, x1)), (2, (0, x2)), (3, (0, x3)), (4, (0, (12 * x1))), (5, (0, v5_34)), (6, (0, 0))]) [1, 2, 3, 4, 5, 6, 0] rfl ?_
        have hJ83 : ∀ (m83j : zb_M), zb_FIN E m83j → PJ_X12_swap_83 d E v5_34 X34 Q m83j → zb_WP (G, C, d + 1, 0, 0, zb_q E Q) F_X12_swap 83 [(0, (2, x0)), (1, (0, x1)), (2, (0, x2)), (3, (0, x3)), (4, (0, (12 * x1))), (5, (0, v5_34))] [] E.1 m83j 0 0 := by
          intro m83j hF h
          unfold PJ_X12_swap_83 at h
          obtain ⟨o54, h⟩ := h
          refine zb_iinc (j := 5) (L' := [(5, (0, (v5_34 + 1))), (0, (2, x0)), (1, (0, x1)), (2, (0, x2)), (3, (0, x3)), (4, (0, (12 * x1)))]) dX12_swap_83 rfl o54 (by decide) rfl ?_
          refine zb_goto (tgt := 34) dX12_swap_86 (by decide) ?_
          refine zb_sub (L' := [(0, (2, x0)), (1, (0, x1)), (2, (0, x2)), (3, (0, x3)), (4, (0, (12 * x1))), (5, (0, (v5_34 + 1)))]) [1, 2, 3, 4, 5, 0] rfl ?_
          exact (hX34 _ _).mp h hF
        unfold PL_X12_swap_48 at h
        obtain ⟨X48, hX48⟩ : ∃ X : Int → zb_M → Prop, ∀ (v6_48 : Int) (m48l : zb_M), (X v6_48 m48l ↔ (zb_FIN E m48l → zb_WP (G, C, d + 1, 0, 0, zb_q E Q) F_X12_swap 48 [(0, (2, x0)), (1, (0, x1)), (2, (0, x2)), (3, (0, x3)), (4, (0, (12 * x1))), (5, (0, v5_34)), (6, (0, v6_48))] [] E.1 m48l 0 0)) := ⟨fun v6_48 m48l => zb_FIN E m48l → zb_WP (G, C, d + 1, 0, 0, zb_q E Q) F_X12_swap 48 [(0, (2, x0)), (1, (0, x1)), (2, (0, x2)), (3, (0, x3)), (4, (0, (12 * x1))), (5, (0, v5_34)), (6, (0, v6_48))] [] E.1 m48l 0 0, fun _ _ => Iff.rfl⟩
        refine (hX48 _ _).mp (h X48 (fun v6_48 m48l h => (hX48 _ _).mpr (fun hF => ?_))) hF
        refine zb_iload (j := 6) dX12_swap_48 rfl ?_
        refine zb_bipush dX12_swap_50 (by decide) (zb_inIc rfl) ?_
        refine zb_icmp_ge (tgt := 83) dX12_swap_52 (by decide) (fun c55 => ?_) (fun c55 => ?_)
        · have h := h.1 c55
          refine zb_sub (L' := [(0, (2, x0)), (1, (0, x1)), (2, (0, x2)), (3, (0, x3)), (4, (0, (12 * x1))), (5, (0, v5_34))]) [0, 1, 2, 3, 4, 5] rfl ?_
          exact hJ83 _ hF h
        · have h := h.2 c55
          refine zb_aload_n (j := 0) dX12_swap_55 rfl rfl ?_
          refine zb_gFa 14 dX12_swap_56 fl_X12_49 i_0 hW hF rfl rfl rfl (by decide) rfl 144 rfl (fun i56 l57 => ?_)
          refine zb_bipush dX12_swap_59 (by decide) (zb_inIc rfl) ?_
          refine zb_iload (j := 5) dX12_swap_61 rfl ?_
          obtain ⟨o58, h⟩ := h
          refine zb_imul dX12_swap_63 o58 ?_
          refine zb_iload (j := 6) dX12_swap_64 rfl ?_
          obtain ⟨o59, h⟩ := h
          refine zb_iadd dX12_swap_66 o59 ?_
          refine zb_aload_n (j := 0) dX12_swap_67 rfl rfl ?_
          refine zb_iload_n (j := 1) dX12_swap_68 rfl rfl ?_
          refine zb_iload (j := 5) dX12_swap_69 rfl ?_
          refine zb_iload (j := 6) dX12_swap_71 rfl ?_
          refine zb_cVp (As := [(0, x1), (0, v5_34), (0, v6_48)]) (As' := [(0, v6_48), (0, v5_34), (0, x1)]) (st := [(0, ((12 * v5_34) + v6_48)), (2, (E.2 x0 14))]) dX12_swap_73 lk_X12_156 gd_X12_lineOf rfl rfl i_0 ⟨_, rfl, rfl⟩ h hW hF (zb_aR i_0 (zb_aI (zb_aI (zb_aI zb_a0)))) (Nat.le_refl _) (Nat.le_of_ble_eq_true rfl) (fun r73 h => ?_)
          show zb_WP _ _ _ _ [(0, r73), (0, ((12 * v5_34) + v6_48)), (2, (E.2 x0 14))] _ _ _ _
          obtain ⟨o60, h⟩ := h
          refine zb_sI dX12_swap_76 i56 l57 o60.1 o60.2 hF (fun m76 e76 hF => ?_)
          have h := h m76 e76
          obtain ⟨o61, h⟩ := h
          refine zb_iinc (j := 6) (L' := [(6, (0, (v6_48 + 1))), (0, (2, x0)), (1, (0, x1)), (2, (0, x2)), (3, (0, x3)), (4, (0, (12 * x1))), (5, (0, v5_34))]) dX12_swap_77 rfl o61 (by decide) rfl ?_
          refine zb_goto (tgt := 48) dX12_swap_80 (by decide) ?_
          refine zb_sub (L' := [(0, (2, x0)), (1, (0, x1)), (2, (0, x2)), (3, (0, x3)), (4, (0, (12 * x1))), (5, (0, v5_34)), (6, (0, (v6_48 + 1)))]) [1, 2, 3, 4, 5, 6, 0] rfl ?_
          exact (hX48 _ _).mp h hF
    · have h := h.1 c2
      refine zb_iconst dX12_swap_18 (zb_inIc rfl) ?_
      exact zb_rI dX12_swap_19 rfl hF h
theorem dX12_exchange_0 : decode cX12_exchange 0 = .ok (.aload_n 0, 1) := by decide +kernel
theorem dX12_exchange_1 : decode cX12_exchange 1 = .ok (.iload_n 1, 1) := by decide +kernel
theorem dX12_exchange_2 : decode cX12_exchange 2 = .ok (.iaload, 1) := by decide +kernel
theorem dX12_exchange_3 : decode cX12_exchange 3 = .ok (.istore_n 3, 1) := by decide +kernel
theorem dX12_exchange_4 : decode cX12_exchange 4 = .ok (.aload_n 0, 1) := by decide +kernel
theorem dX12_exchange_5 : decode cX12_exchange 5 = .ok (.iload_n 1, 1) := by decide +kernel
theorem dX12_exchange_6 : decode cX12_exchange 6 = .ok (.aload_n 0, 1) := by decide +kernel
theorem dX12_exchange_7 : decode cX12_exchange 7 = .ok (.iload_n 2, 1) := by decide +kernel
theorem dX12_exchange_8 : decode cX12_exchange 8 = .ok (.iaload, 1) := by decide +kernel
theorem dX12_exchange_9 : decode cX12_exchange 9 = .ok (.iastore, 1) := by decide +kernel
theorem dX12_exchange_10 : decode cX12_exchange 10 = .ok (.aload_n 0, 1) := by decide +kernel
theorem dX12_exchange_11 : decode cX12_exchange 11 = .ok (.iload_n 2, 1) := by decide +kernel
theorem dX12_exchange_12 : decode cX12_exchange 12 = .ok (.iload_n 3, 1) := by decide +kernel
theorem dX12_exchange_13 : decode cX12_exchange 13 = .ok (.iastore, 1) := by decide +kernel
theorem dX12_exchange_14 : decode cX12_exchange 14 = .ok (.return_, 1) := by decide +kernel
def PM_X12_exchange (d : Nat) (E : zb_E) (x0 : Int) (x1 : Int) (x2 : Int) (m : zb_M) (Q : Int → zb_M → Prop) : Prop :=
  (0 ≤ x1 ∧ x1 < (zb_len E.1 x0)) ∧ ((0 ≤ x2 ∧ x2 < (zb_len E.1 x0)) ∧ (∀ m9, m9 = zb_up m x0 x1 (m x0 x2) → (∀ m13, m13 = zb_up m9 x0 x2 (m x0 x1) → (Q 0 m13))))
set_option maxRecDepth 100000 in
set_option maxHeartbeats 4000000 in
theorem w_X12_exchange {d : Nat} {E : zb_E} {x0 x1 x2 : Int} {m : zb_M} {Q : Int → zb_M → Prop} (h : PM_X12_exchange d E x0 x1 x2 m Q) : zb_T K_X12_exchange (d + 1) [(2, x0), (0, x1), (0, x2)] E m Q := by
  unfold PM_X12_exchange at h
  refine zb_T_in gd_X12_exchange rfl rfl (fun hW hA G C hF => ?_)
  have i_0 : zb_is E.1 x0 13 := zb_aH hA (by decide)
  show zb_WP _ _ 0 [(0, (2, x0)), (1, (0, x1)), (2, (0, x2))] [] _ _ _ _
  refine zb_aload_n (j := 0) dX12_exchange_0 rfl rfl ?_
  refine zb_iload_n (j := 1) dX12_exchange_1 rfl rfl ?_
  obtain ⟨o1, h⟩ := h
  refine zb_lI dX12_exchange_2 i_0 rfl o1.1 o1.2 ?_
  refine zb_istore_n (L' := [(3, (0, (m x0 x1))), (0, (2, x0)), (1, (0, x1)), (2, (0, x2))]) dX12_exchange_3 rfl (by decide) rfl ?_
  refine zb_aload_n (j := 1) dX12_exchange_4 rfl rfl ?_
  refine zb_iload_n (j := 2) dX12_exchange_5 rfl rfl ?_
  refine zb_aload_n (j := 1) dX12_exchange_6 rfl rfl ?_
  refine zb_iload_n (j := 3) dX12_exchange_7 rfl rfl ?_
  obtain ⟨o2, h⟩ := h
  refine zb_lI dX12_exchange_8 i_0 rfl o2.1 o2.2 ?_
  refine zb_sI dX12_exchange_9 i_0 rfl o1.1 o1.2 hF (fun m9 e9 hF => ?_)
  have h := h m9 e9
  refine zb_aload_n (j := 1) dX12_exchange_10 rfl rfl ?_
  refine zb_iload_n (j := 3) dX12_exchange_11 rfl rfl ?_
  refine zb_iload_n (j := 0) dX12_exchange_12 rfl rfl ?_
  refine zb_sI dX12_exchange_13 i_0 rfl o2.1 o2.2 hF (fun m13 e13 hF => ?_)
  have h := h m13 e13
  exact zb_rV dX12_exchange_14 rfl hF h
theorem dX12_twin_0 : decode cX12_twin 0 = .ok (.aload_n 0, 1) := by decide +kernel
theorem dX12_twin_1 : decode cX12_twin 1 = .ok (.iload_n 1, 1) := by decide +kernel
theorem dX12_twin_2 : decode cX12_twin 2 = .ok (.invokevirtual 137, 3) := by decide +kernel
theorem dX12_twin_5 : decode cX12_twin 5 = .ok (.ifCond .eq 11, 3) := by decide +kernel
theorem dX12_twin_8 : decode cX12_twin 8 = .ok (.aload_n 0, 1) := by decide +kernel
theorem dX12_twin_9 : decode cX12_twin 9 = .ok (.iload_n 2, 1) := by decide +kernel
theorem dX12_twin_10 : decode cX12_twin 10 = .ok (.invokevirtual 137, 3) := by decide +kernel
theorem dX12_twin_13 : decode cX12_twin 13 = .ok (.ifCond .ne 5, 3) := by decide +kernel
theorem dX12_twin_16 : decode cX12_twin 16 = .ok (.iconst (-1), 1) := by decide +kernel
theorem dX12_twin_17 : decode cX12_twin 17 = .ok (.ireturn, 1) := by decide +kernel
theorem dX12_twin_18 : decode cX12_twin 18 = .ok (.aload_n 0, 1) := by decide +kernel
theorem dX12_twin_19 : decode cX12_twin 19 = .ok (.iload_n 2, 1) := by decide +kernel
theorem dX12_twin_20 : decode cX12_twin 20 = .ok (.invokevirtual 148, 3) := by decide +kernel
theorem dX12_twin_23 : decode cX12_twin 23 = .ok (.aload_n 0, 1) := by decide +kernel
theorem dX12_twin_24 : decode cX12_twin 24 = .ok (.getfield 7, 3) := by decide +kernel
theorem dX12_twin_27 : decode cX12_twin 27 = .ok (.iload_n 2, 1) := by decide +kernel
theorem dX12_twin_28 : decode cX12_twin 28 = .ok (.aload_n 0, 1) := by decide +kernel
theorem dX12_twin_29 : decode cX12_twin 29 = .ok (.getfield 7, 3) := by decide +kernel
theorem dX12_twin_32 : decode cX12_twin 32 = .ok (.iload_n 1, 1) := by decide +kernel
theorem dX12_twin_33 : decode cX12_twin 33 = .ok (.iaload, 1) := by decide +kernel
theorem dX12_twin_34 : decode cX12_twin 34 = .ok (.iastore, 1) := by decide +kernel
theorem dX12_twin_35 : decode cX12_twin 35 = .ok (.iconst 0, 1) := by decide +kernel
theorem dX12_twin_36 : decode cX12_twin 36 = .ok (.istore_n 3, 1) := by decide +kernel
theorem dX12_twin_37 : decode cX12_twin 37 = .ok (.iload_n 3, 1) := by decide +kernel
theorem dX12_twin_38 : decode cX12_twin 38 = .ok (.bipush 12, 2) := by decide +kernel
theorem dX12_twin_40 : decode cX12_twin 40 = .ok (.if_icmp .ge 97, 3) := by decide +kernel
theorem dX12_twin_43 : decode cX12_twin 43 = .ok (.aload_n 0, 1) := by decide +kernel
theorem dX12_twin_44 : decode cX12_twin 44 = .ok (.getfield 13, 3) := by decide +kernel
theorem dX12_twin_47 : decode cX12_twin 47 = .ok (.bipush 12, 2) := by decide +kernel
theorem dX12_twin_49 : decode cX12_twin 49 = .ok (.iload_n 2, 1) := by decide +kernel
theorem dX12_twin_50 : decode cX12_twin 50 = .ok (.imul, 1) := by decide +kernel
theorem dX12_twin_51 : decode cX12_twin 51 = .ok (.iload_n 3, 1) := by decide +kernel
theorem dX12_twin_52 : decode cX12_twin 52 = .ok (.iadd, 1) := by decide +kernel
theorem dX12_twin_53 : decode cX12_twin 53 = .ok (.aload_n 0, 1) := by decide +kernel
theorem dX12_twin_54 : decode cX12_twin 54 = .ok (.getfield 13, 3) := by decide +kernel
theorem dX12_twin_57 : decode cX12_twin 57 = .ok (.bipush 12, 2) := by decide +kernel
theorem dX12_twin_59 : decode cX12_twin 59 = .ok (.iload_n 1, 1) := by decide +kernel
theorem dX12_twin_60 : decode cX12_twin 60 = .ok (.imul, 1) := by decide +kernel
theorem dX12_twin_61 : decode cX12_twin 61 = .ok (.iload_n 3, 1) := by decide +kernel
theorem dX12_twin_62 : decode cX12_twin 62 = .ok (.iadd, 1) := by decide +kernel
theorem dX12_twin_63 : decode cX12_twin 63 = .ok (.iaload, 1) := by decide +kernel
theorem dX12_twin_64 : decode cX12_twin 64 = .ok (.iastore, 1) := by decide +kernel
theorem dX12_twin_65 : decode cX12_twin 65 = .ok (.aload_n 0, 1) := by decide +kernel
theorem dX12_twin_66 : decode cX12_twin 66 = .ok (.getfield 16, 3) := by decide +kernel
theorem dX12_twin_69 : decode cX12_twin 69 = .ok (.bipush 12, 2) := by decide +kernel
theorem dX12_twin_71 : decode cX12_twin 71 = .ok (.iload_n 2, 1) := by decide +kernel
theorem dX12_twin_72 : decode cX12_twin 72 = .ok (.imul, 1) := by decide +kernel
theorem dX12_twin_73 : decode cX12_twin 73 = .ok (.iload_n 3, 1) := by decide +kernel
theorem dX12_twin_74 : decode cX12_twin 74 = .ok (.iadd, 1) := by decide +kernel
theorem dX12_twin_75 : decode cX12_twin 75 = .ok (.aload_n 0, 1) := by decide +kernel
theorem dX12_twin_76 : decode cX12_twin 76 = .ok (.getfield 16, 3) := by decide +kernel
theorem dX12_twin_79 : decode cX12_twin 79 = .ok (.bipush 12, 2) := by decide +kernel
theorem dX12_twin_81 : decode cX12_twin 81 = .ok (.iload_n 1, 1) := by decide +kernel
theorem dX12_twin_82 : decode cX12_twin 82 = .ok (.imul, 1) := by decide +kernel
theorem dX12_twin_83 : decode cX12_twin 83 = .ok (.iload_n 3, 1) := by decide +kernel
theorem dX12_twin_84 : decode cX12_twin 84 = .ok (.iadd, 1) := by decide +kernel
theorem dX12_twin_85 : decode cX12_twin 85 = .ok (.iaload, 1) := by decide +kernel
theorem dX12_twin_86 : decode cX12_twin 86 = .ok (.iastore, 1) := by decide +kernel
theorem dX12_twin_87 : decode cX12_twin 87 = .ok (.aload_n 0, 1) := by decide +kernel
theorem dX12_twin_88 : decode cX12_twin 88 = .ok (.getfield 19, 3) := by decide +kernel
theorem dX12_twin_91 : decode cX12_twin 91 = .ok (.bipush 12, 2) := by decide +kernel
theorem dX12_twin_93 : decode cX12_twin 93 = .ok (.iload_n 2, 1) := by decide +kernel
theorem dX12_twin_94 : decode cX12_twin 94 = .ok (.imul, 1) := by decide +kernel
theorem dX12_twin_95 : decode cX12_twin 95 = .ok (.iload_n 3, 1) := by decide +kernel
theorem dX12_twin_96 : decode cX12_twin 96 = .ok (.iadd, 1) := by decide +kernel
theorem dX12_twin_97 : decode cX12_twin 97 = .ok (.aload_n 0, 1) := by decide +kernel
theorem dX12_twin_98 : decode cX12_twin 98 = .ok (.getfield 19, 3) := by decide +kernel
theorem dX12_twin_101 : decode cX12_twin 101 = .ok (.bipush 12, 2) := by decide +kernel
theorem dX12_twin_103 : decode cX12_twin 103 = .ok (.iload_n 1, 1) := by decide +kernel
theorem dX12_twin_104 : decode cX12_twin 104 = .ok (.imul, 1) := by decide +kernel
theorem dX12_twin_105 : decode cX12_twin 105 = .ok (.iload_n 3, 1) := by decide +kernel
theorem dX12_twin_106 : decode cX12_twin 106 = .ok (.iadd, 1) := by decide +kernel
theorem dX12_twin_107 : decode cX12_twin 107 = .ok (.iaload, 1) := by decide +kernel
theorem dX12_twin_108 : decode cX12_twin 108 = .ok (.iastore, 1) := by decide +kernel
theorem dX12_twin_109 : decode cX12_twin 109 = .ok (.aload_n 0, 1) := by decide +kernel
theorem dX12_twin_110 : decode cX12_twin 110 = .ok (.getfield 22, 3) := by decide +kernel
theorem dX12_twin_113 : decode cX12_twin 113 = .ok (.bipush 12, 2) := by decide +kernel
theorem dX12_twin_115 : decode cX12_twin 115 = .ok (.iload_n 2, 1) := by decide +kernel
theorem dX12_twin_116 : decode cX12_twin 116 = .ok (.imul, 1) := by decide +kernel
theorem dX12_twin_117 : decode cX12_twin 117 = .ok (.iload_n 3, 1) := by decide +kernel
theorem dX12_twin_118 : decode cX12_twin 118 = .ok (.iadd, 1) := by decide +kernel
theorem dX12_twin_119 : decode cX12_twin 119 = .ok (.aload_n 0, 1) := by decide +kernel
theorem dX12_twin_120 : decode cX12_twin 120 = .ok (.getfield 22, 3) := by decide +kernel
theorem dX12_twin_123 : decode cX12_twin 123 = .ok (.bipush 12, 2) := by decide +kernel
theorem dX12_twin_125 : decode cX12_twin 125 = .ok (.iload_n 1, 1) := by decide +kernel
theorem dX12_twin_126 : decode cX12_twin 126 = .ok (.imul, 1) := by decide +kernel
theorem dX12_twin_127 : decode cX12_twin 127 = .ok (.iload_n 3, 1) := by decide +kernel
theorem dX12_twin_128 : decode cX12_twin 128 = .ok (.iadd, 1) := by decide +kernel
theorem dX12_twin_129 : decode cX12_twin 129 = .ok (.iaload, 1) := by decide +kernel
theorem dX12_twin_130 : decode cX12_twin 130 = .ok (.iastore, 1) := by decide +kernel
theorem dX12_twin_131 : decode cX12_twin 131 = .ok (.iinc 3 1, 3) := by decide +kernel
theorem dX12_twin_134 : decode cX12_twin 134 = .ok (.goto (-97), 3) := by decide +kernel
theorem dX12_twin_137 : decode cX12_twin 137 = .ok (.iconst 0, 1) := by decide +kernel
theorem dX12_twin_138 : decode cX12_twin 138 = .ok (.istore_n 3, 1) := by decide +kernel
theorem dX12_twin_139 : decode cX12_twin 139 = .ok (.iload_n 3, 1) := by decide +kernel
theorem dX12_twin_140 : decode cX12_twin 140 = .ok (.sipush 144, 3) := by decide +kernel
theorem dX12_twin_143 : decode cX12_twin 143 = .ok (.if_icmp .ge 33, 3) := by decide +kernel
theorem dX12_twin_146 : decode cX12_twin 146 = .ok (.aload_n 0, 1) := by decide +kernel
theorem dX12_twin_147 : decode cX12_twin 147 = .ok (.getfield 25, 3) := by decide +kernel
theorem dX12_twin_150 : decode cX12_twin 150 = .ok (.sipush 144, 3) := by decide +kernel
theorem dX12_twin_153 : decode cX12_twin 153 = .ok (.iload_n 2, 1) := by decide +kernel
theorem dX12_twin_154 : decode cX12_twin 154 = .ok (.imul, 1) := by decide +kernel
theorem dX12_twin_155 : decode cX12_twin 155 = .ok (.iload_n 3, 1) := by decide +kernel
theorem dX12_twin_156 : decode cX12_twin 156 = .ok (.iadd, 1) := by decide +kernel
theorem dX12_twin_157 : decode cX12_twin 157 = .ok (.aload_n 0, 1) := by decide +kernel
theorem dX12_twin_158 : decode cX12_twin 158 = .ok (.getfield 25, 3) := by decide +kernel
theorem dX12_twin_161 : decode cX12_twin 161 = .ok (.sipush 144, 3) := by decide +kernel
theorem dX12_twin_164 : decode cX12_twin 164 = .ok (.iload_n 1, 1) := by decide +kernel
theorem dX12_twin_165 : decode cX12_twin 165 = .ok (.imul, 1) := by decide +kernel
theorem dX12_twin_166 : decode cX12_twin 166 = .ok (.iload_n 3, 1) := by decide +kernel
theorem dX12_twin_167 : decode cX12_twin 167 = .ok (.iadd, 1) := by decide +kernel
theorem dX12_twin_168 : decode cX12_twin 168 = .ok (.iaload, 1) := by decide +kernel
theorem dX12_twin_169 : decode cX12_twin 169 = .ok (.iastore, 1) := by decide +kernel
theorem dX12_twin_170 : decode cX12_twin 170 = .ok (.iinc 3 1, 3) := by decide +kernel
theorem dX12_twin_173 : decode cX12_twin 173 = .ok (.goto (-34), 3) := by decide +kernel
theorem dX12_twin_176 : decode cX12_twin 176 = .ok (.aload_n 0, 1) := by decide +kernel
theorem dX12_twin_177 : decode cX12_twin 177 = .ok (.getfield 7, 3) := by decide +kernel
theorem dX12_twin_180 : decode cX12_twin 180 = .ok (.iload_n 2, 1) := by decide +kernel
theorem dX12_twin_181 : decode cX12_twin 181 = .ok (.iaload, 1) := by decide +kernel
theorem dX12_twin_182 : decode cX12_twin 182 = .ok (.ireturn, 1) := by decide +kernel
def PJ_X12_twin_176 (d : Nat) (E : zb_E) (x0 : Int) (x2 : Int) (Q : Int → zb_M → Prop) (m176j : zb_M) : Prop :=
  Q (m176j (E.2 x0 0) x2) m176j
def PL_X12_twin_139 (d : Nat) (E : zb_E) (x0 : Int) (x1 : Int) (x2 : Int) (Q : Int → zb_M → Prop) (K176_139 : zb_M → Prop) (v3_139 : Int) (m139l : zb_M) : Prop :=
  ∀ X139 : Int → zb_M → Prop, (∀ (v3_139 : Int) (m139l : zb_M), ((144 ≤ v3_139 → K176_139 m139l) ∧ (¬ 144 ≤ v3_139 → (zb_inI (144 * x2)) ∧ ((zb_inI ((144 * x2) + v3_139)) ∧ ((zb_inI (144 * x1)) ∧ ((zb_inI ((144 * x1) + v3_139)) ∧ ((0 ≤ ((144 * x1) + v3_139) ∧ ((144 * x1) + v3_139) < 1152) ∧ ((0 ≤ ((144 * x2) + v3_139) ∧ ((144 * x2) + v3_139) < 1152) ∧ (∀ m169, m169 = zb_up m139l (E.2 x0 5) ((144 * x2) + v3_139) (m139l (E.2 x0 5) ((144 * x1) + v3_139)) → ((zb_inI (v3_139 + 1)) ∧ (X139 (v3_139 + 1) m169)))))))))) → X139 v3_139 m139l) → X139 v3_139 m139l
def PJ_X12_twin_137 (d : Nat) (E : zb_E) (x0 : Int) (x1 : Int) (x2 : Int) (Q : Int → zb_M → Prop) (m137j : zb_M) : Prop :=
  PL_X12_twin_139 d E x0 x1 x2 Q (PJ_X12_twin_176 d E x0 x2 Q) 0 m137j
def PL_X12_twin_37 (d : Nat) (E : zb_E) (x0 : Int) (x1 : Int) (x2 : Int) (Q : Int → zb_M → Prop) (K137_37 : zb_M → Prop) (v3_37 : Int) (m37l : zb_M) : Prop :=
  ∀ X37 : Int → zb_M → Prop, (∀ (v3_37 : Int) (m37l : zb_M), ((12 ≤ v3_37 → K137_37 m37l) ∧ (¬ 12 ≤ v3_37 → (zb_inI (12 * x2)) ∧ ((zb_inI ((12 * x2) + v3_37)) ∧ ((zb_inI (12 * x1)) ∧ ((zb_inI ((12 * x1) + v3_37)) ∧ ((0 ≤ ((12 * x1) + v3_37) ∧ ((12 * x1) + v3_37) < 96) ∧ ((0 ≤ ((12 * x2) + v3_37) ∧ ((12 * x2) + v3_37) < 96) ∧ (∀ m64, m64 = zb_up m37l (E.2 x0 1) ((12 * x2) + v3_37) (m37l (E.2 x0 1) ((12 * x1) + v3_37)) → (∀ m86, m86 = zb_up m64 (E.2 x0 2) ((12 * x2) + v3_37) (m64 (E.2 x0 2) ((12 * x1) + v3_37)) → (∀ m108, m108 = zb_up m86 (E.2 x0 3) ((12 * x2) + v3_37) (m86 (E.2 x0 3) ((12 * x1) + v3_37)) → (∀ m130, m130 = zb_up m108 (E.2 x0 4) ((12 * x2) + v3_37) (m108 (E.2 x0 4) ((12 * x1) + v3_37)) → ((zb_inI (v3_37 + 1)) ∧ (X37 (v3_37 + 1) m130))))))))))))) → X37 v3_37 m37l) → X37 v3_37 m37l
def PM_X12_twin (d : Nat) (E : zb_E) (x0 : Int) (x1 : Int) (x2 : Int) (m : zb_M) (Q : Int → zb_M → Prop) : Prop :=
  zb_Tp K_X12_isGraph d [(2, x0), (0, x1)] E m (fun r2 => (r2 = 0 → Q (-1) m) ∧ (¬ r2 = 0 → zb_Tp K_X12_isGraph d [(2, x0), (0, x2)] E m (fun r10 => (r10 = 0 → Q (-1) m) ∧ (¬ r10 = 0 → zb_T K_X12_note d [(2, x0), (0, x2)] E m (fun r20 m20 => (0 ≤ x1 ∧ x1 < 8) ∧ ((0 ≤ x2 ∧ x2 < 8) ∧ (∀ m34, m34 = zb_up m20 (E.2 x0 0) x2 (m20 (E.2 x0 0) x1) → (PL_X12_twin_37 d E x0 x1 x2 Q (PJ_X12_twin_137 d E x0 x1 x2 Q) 0 m34))))))))
set_option maxRecDepth 100000 in
set_option maxHeartbeats 4000000 in
theorem w_X12_twin {d : Nat} {E : zb_E} {x0 x1 x2 : Int} {m : zb_M} {Q : Int → zb_M → Prop} (h : PM_X12_twin d E x0 x1 x2 m Q) : zb_T K_X12_twin (d + 1) [(2, x0), (0, x1), (0, x2)] E m Q := by
  unfold PM_X12_twin at h
  refine zb_T_in gd_X12_twin rfl rfl (fun hW hA G C hF => ?_)
  have i_0 : zb_is E.1 x0 12 := zb_aH hA (by decide)
  show zb_WP _ _ 0 [(0, (2, x0)), (1, (0, x1)), (2, (0, x2))] [] _ _ _ _
  refine zb_aload_n (j := 0) dX12_twin_0 rfl rfl ?_
  refine zb_iload_n (j := 1) dX12_twin_1 rfl rfl ?_
  refine zb_cVp (As := [(0, x1)]) (As' := [(0, x1)]) (st := []) dX12_twin_2 lk_X12_137 gd_X12_isGraph rfl rfl i_0 ⟨_, rfl, rfl⟩ h hW hF (zb_aR i_0 (zb_aI zb_a0)) (Nat.le_refl _) (Nat.le_of_ble_eq_true rfl) (fun r2 h => ?_)
  show zb_WP _ _ _ _ [(0, r2)] _ _ _ _
  refine zb_if_eq (tgt := 16) dX12_twin_5 (by decide) (fun c1 => ?_) (fun c1 => ?_)
  · have h := h.1 c1
    refine zb_iconst dX12_twin_16 (zb_inIc rfl) ?_
    exact zb_rI dX12_twin_17 rfl hF h
  · have h := h.2 c1
    refine zb_aload_n (j := 0) dX12_twin_8 rfl rfl ?_
    refine zb_iload_n (j := 2) dX12_twin_9 rfl rfl ?_
    refine zb_cVp (As := [(0, x2)]) (As' := [(0, x2)]) (st := []) dX12_twin_10 lk_X12_137 gd_X12_isGraph rfl rfl i_0 ⟨_, rfl, rfl⟩ h hW hF (zb_aR i_0 (zb_aI zb_a0)) (Nat.le_refl _) (Nat.le_of_ble_eq_true rfl) (fun r10 h => ?_)
    show zb_WP _ _ _ _ [(0, r10)] _ _ _ _
    refine zb_if_ne (tgt := 18) dX12_twin_13 (by decide) (fun c2 => ?_) (fun c2 => ?_)
    · have h := h.2 c2
      refine zb_aload_n (j := 0) dX12_twin_18 rfl rfl ?_
      refine zb_iload_n (j := 2) dX12_twin_19 rfl rfl ?_
      refine zb_cV (As := [(0, x2)]) (As' := [(0, x2)]) (st := []) dX12_twin_20 lk_X12_148 gd_X12_note rfl rfl i_0 ⟨_, rfl, rfl⟩ h hW hF (zb_aR i_0 (zb_aI zb_a0)) (Nat.le_refl _) (Nat.le_of_ble_eq_true rfl) (fun r20 m20 hF h => ?_)
      show zb_WP _ _ _ _ [] _ _ _ _
      refine zb_aload_n (j := 0) dX12_twin_23 rfl rfl ?_
      refine zb_gFa 0 dX12_twin_24 fl_X12_7 i_0 hW hF rfl rfl rfl (by decide) rfl 8 rfl (fun i3 l4 => ?_)
      refine zb_iload_n (j := 2) dX12_twin_27 rfl rfl ?_
      refine zb_aload_n (j := 0) dX12_twin_28 rfl rfl ?_
      refine zb_gFa 0 dX12_twin_29 fl_X12_7 i_0 hW hF rfl rfl rfl (by decide) rfl 8 rfl (fun i5 l6 => ?_)
      refine zb_iload_n (j := 1) dX12_twin_32 rfl rfl ?_
      obtain ⟨o7, h⟩ := h
      refine zb_lI dX12_twin_33 i5 l6 o7.1 o7.2 ?_
      obtain ⟨o8, h⟩ := h
      refine zb_sI dX12_twin_34 i3 l4 o8.1 o8.2 hF (fun m34 e34 hF => ?_)
      have h := h m34 e34
      refine zb_iconst dX12_twin_35 (zb_inIc rfl) ?_
      refine zb_istore_n (L' := [(3, (0, 0)), (0, (2, x0)), (1, (0, x1)), (2, (0, x2))]) dX12_twin_36 rfl (by decide) rfl ?_
      refine zb_sub (L' := [(0, (2, x0)), (1, (0, x1)), (2, (0, x2)), (3, (0, 0))]) [1, 2, 3, 0] rfl ?_
      have hJ137 : ∀ (m137j : zb_M), zb_FIN E m137j → PJ_X12_twin_137 d E x0 x1 x2 Q m137j → zb_WP (G, C, d + 1, 0, 0, zb_q E Q) F_X12_twin 137 [(0, (2, x0)), (1, (0, x1)), (2, (0, x2))] [] E.1 m137j 0 0 := by
        intro m137j hF h
        unfold PJ_X12_twin_137 at h
        refine zb_iconst dX12_twin_137 (zb_inIc rfl) ?_
        refine zb_istore_n (L' := [(3, (0, 0)), (0, (2, x0)), (1, (0, x1)), (2, (0, x2))]) dX12_twin_138 rfl (by decide) rfl ?_
        refine zb_sub (L' := [(0, (2, x0)), (1, (0, x1)), (2, (0, x2)), (3, (0, 0))]) [1, 2, 3, 0] rfl ?_
        have hJ176 : ∀ (m176j : zb_M), zb_FIN E m176j → PJ_X12_twin_176 d E x0 x2 Q m176j → zb_WP (G, C, d + 1, 0, 0, zb_q E Q) F_X12_twin 176 [(0, (2, x0)), (2, (0, x2))] [] E.1 m176j 0 0 := by
          intro m176j hF h
          unfold PJ_X12_twin_176 at h
          refine zb_aload_n (j := 0) dX12_twin_176 rfl rfl ?_
          refine zb_gFa 0 dX12_twin_177 fl_X12_7 i_0 hW hF rfl rfl rfl (by decide) rfl 8 rfl (fun i9 l10 => ?_)
          refine zb_iload_n (j := 1) dX12_twin_180 rfl rfl ?_
          refine zb_lI dX12_twin_181 i9 l10 o8.1 o8.2 ?_
          exact zb_rI dX12_twin_182 rfl hF h
        unfold PL_X12_twin_139 at h
        obtain ⟨X139, hX139⟩ : ∃ X : Int → zb_M → Prop, ∀ (v3_139 : Int) (m139l : zb_M), (X v3_139 m139l ↔ (zb_FIN E m139l → zb_WP (G, C, d + 1, 0, 0, zb_q E Q) F_X12_twin 139 [(0, (2, x0)), (1, (0, x1)), (2, (0, x2)), (3, (0, v3_139))] [] E.1 m139l 0 0)) := ⟨fun v3_139 m139l => zb_FIN E m139l → zb_WP (G, C, d + 1, 0, 0, zb_q E Q) F_X12_twin 139 [(0, (2, x0)), (1, (0, x1)), (2, (0, x2)), (3, (0, v3_139))] [] E.1 m139l 0 0, fun _ _ => Iff.rfl⟩
        refine (hX139 _ _).mp (h X139 (fun v3_139 m139l h => (hX139 _ _).mpr (fun hF => ?_))) hF
        refine zb_iload_n (j := 3) dX12_twin_139 rfl rfl ?_
        refine zb_sipush dX12_twin_140 (by decide) (zb_inIc rfl) ?_
        refine zb_icmp_ge (tgt := 176) dX12_twin_143 (by decide) (fun c11 => ?_) (fun c11 => ?_)
        · have h := h.1 c11
          refine zb_sub (L' := [(0, (2, x0)), (2, (0, x2))]) [0, 2] rfl ?_
          exact hJ176 _ hF h
        · have h := h.2 c11
          refine zb_aload_n (j := 0) dX12_twin_146 rfl rfl ?_
          refine zb_gFa 5 dX12_twin_147 fl_X12_25 i_0 hW hF rfl rfl rfl (by decide) rfl 1152 rfl (fun i12 l13 => ?_)
          refine zb_sipush dX12_twin_150 (by decide) (zb_inIc rfl) ?_
          refine zb_iload_n (j := 2) dX12_twin_153 rfl rfl ?_
          obtain ⟨o14, h⟩ := h
          refine zb_imul dX12_twin_154 o14 ?_
          refine zb_iload_n (j := 3) dX12_twin_155 rfl rfl ?_
          obtain ⟨o15, h⟩ := h
          refine zb_iadd dX12_twin_156 o15 ?_
          refine zb_aload_n (j := 0) dX12_twin_157 rfl rfl ?_
          refine zb_gFa 5 dX12_twin_158 fl_X12_25 i_0 hW hF rfl rfl rfl (by decide) rfl 1152 rfl (fun i16 l17 => ?_)
          refine zb_sipush dX12_twin_161 (by decide) (zb_inIc rfl) ?_
          refine zb_iload_n (j := 1) dX12_twin_164 rfl rfl ?_
          obtain ⟨o18, h⟩ := h
          refine zb_imul dX12_twin_165 o18 ?_
          refine zb_iload_n (j := 3) dX12_twin_166 rfl rfl ?_
          obtain ⟨o19, h⟩ := h
          refine zb_iadd dX12_twin_167 o19 ?_
          obtain ⟨o20, h⟩ := h
          refine zb_lI dX12_twin_168 i16 l17 o20.1 o20.2 ?_
          obtain ⟨o21, h⟩ := h
          refine zb_sI dX12_twin_169 i12 l13 o21.1 o21.2 hF (fun m169 e169 hF => ?_)
          have h := h m169 e169
          obtain ⟨o22, h⟩ := h
          refine zb_iinc (j := 3) (L' := [(3, (0, (v3_139 + 1))), (0, (2, x0)), (1, (0, x1)), (2, (0, x2))]) dX12_twin_170 rfl o22 (by decide) rfl ?_
          refine zb_goto (tgt := 139) dX12_twin_173 (by decide) ?_
          refine zb_sub (L' := [(0, (2, x0)), (1, (0, x1)), (2, (0, x2)), (3, (0, (v3_139 + 1)))]) [1, 2, 3, 0] rfl ?_
          exact (hX139 _ _).mp h hF
      unfold PL_X12_twin_37 at h
      obtain ⟨X37, hX37⟩ : ∃ X : Int → zb_M → Prop, ∀ (v3_37 : Int) (m37l : zb_M), (X v3_37 m37l ↔ (zb_FIN E m37l → zb_WP (G, C, d + 1, 0, 0, zb_q E Q) F_X12_twin 37 [(0, (2, x0)), (1, (0, x1)), (2, (0, x2)), (3, (0, v3_37))] [] E.1 m37l 0 0)) := ⟨fun v3_37 m37l => zb_FIN E m37l → zb_WP (G, C, d + 1, 0, 0, zb_q E Q) F_X12_twin 37 [(0, (2, x0)), (1, (0, x1)), (2, (0, x2)), (3, (0, v3_37))] [] E.1 m37l 0 0, fun _ _ => Iff.rfl⟩
      refine (hX37 _ _).mp (h X37 (fun v3_37 m37l h => (hX37 _ _).mpr (fun hF => ?_))) hF
      refine zb_iload_n (j := 3) dX12_twin_37 rfl rfl ?_
      refine zb_bipush dX12_twin_38 (by decide) (zb_inIc rfl) ?_
      refine zb_icmp_ge (tgt := 137) dX12_twin_40 (by decide) (fun c23 => ?_) (fun c23 => ?_)
      · have h := h.1 c23
        refine zb_sub (L' := [(0, (2, x0)), (1, (0, x1)), (2, (0, x2))]) [0, 1, 2] rfl ?_
        exact hJ137 _ hF h
      · have h := h.2 c23
        refine zb_aload_n (j := 0) dX12_twin_43 rfl rfl ?_
        refine zb_gFa 1 dX12_twin_44 fl_X12_13 i_0 hW hF rfl rfl rfl (by decide) rfl 96 rfl (fun i24 l25 => ?_)
        refine zb_bipush dX12_twin_47 (by decide) (zb_inIc rfl) ?_
        refine zb_iload_n (j := 2) dX12_twin_49 rfl rfl ?_
        obtain ⟨o26, h⟩ := h
        refine zb_imul dX12_twin_50 o26 ?_
        refine zb_iload_n (j := 3) dX12_twin_51 rfl rfl ?_
        obtain ⟨o27, h⟩ := h
        refine zb_iadd dX12_twin_52 o27 ?_
        refine zb_aload_n (j := 0) dX12_twin_53 rfl rfl ?_
        refine zb_gFa 1 dX12_twin_54 fl_X12_13 i_0 hW hF rfl rfl rfl (by decide) rfl 96 rfl (fun i28 l29 => ?_)
        refine zb_bipush dX12_twin_57 (by decide) (zb_inIc rfl) ?_
        refine zb_iload_n (j := 1) dX12_twin_59 rfl rfl ?_
        obtain ⟨o30, h⟩ := h
        refine zb_imul dX12_twin_60 o30 ?_
        refine zb_iload_n (j := 3) dX12_twin_61 rfl rfl ?_
        obtain ⟨o31, h⟩ := h
        refine zb_iadd dX12_twin_62 o31 ?_
        obtain ⟨o32, h⟩ := h
        refine zb_lI dX12_twin_63 i28 l29 o32.1 o32.2 ?_
        obtain ⟨o33, h⟩ := h
        refine zb_sI dX12_twin_64 i24 l25 o33.1 o33.2 hF (fun m64 e64 hF => ?_)
        have h := h m64 e64
        refine zb_aload_n (j := 0) dX12_twin_65 rfl rfl ?_
        refine zb_gFa 2 dX12_twin_66 fl_X12_16 i_0 hW hF rfl rfl rfl (by decide) rfl 96 rfl (fun i34 l35 => ?_)
        refine zb_bipush dX12_twin_69 (by decide) (zb_inIc rfl) ?_
        refine zb_iload_n (j := 2) dX12_twin_71 rfl rfl ?_
        refine zb_imul dX12_twin_72 o26 ?_
        refine zb_iload_n (j := 3) dX12_twin_73 rfl rfl ?_
        refine zb_iadd dX12_twin_74 o27 ?_
        refine zb_aload_n (j := 0) dX12_twin_75 rfl rfl ?_
        refine zb_gFa 2 dX12_twin_76 fl_X12_16 i_0 hW hF rfl rfl rfl (by decide) rfl 96 rfl (fun i36 l37 => ?_)
        refine zb_bipush dX12_twin_79 (by decide) (zb_inIc rfl) ?_
        refine zb_iload_n (j := 1) dX12_twin_81 rfl rfl ?_
        refine zb_imul dX12_twin_82 o30 ?_
        refine zb_iload_n (j := 3) dX12_twin_83 rfl rfl ?_
        refine zb_iadd dX12_twin_84 o31 ?_
        refine zb_lI dX12_twin_85 i36 l37 o32.1 o32.2 ?_
        refine zb_sI dX12_twin_86 i34 l35 o33.1 o33.2 hF (fun m86 e86 hF => ?_)
        have h := h m86 e86
        refine zb_aload_n (j := 0) dX12_twin_87 rfl rfl ?_
        refine zb_gFa 3 dX12_twin_88 fl_X12_19 i_0 hW hF rfl rfl rfl (by decide) rfl 96 rfl (fun i38 l39 => ?_)
        refine zb_bipush dX12_twin_91 (by decide) (zb_inIc rfl) ?_
        refine zb_iload_n (j := 2) dX12_twin_93 rfl rfl ?_
        refine zb_imul dX12_twin_94 o26 ?_
        refine zb_iload_n (j := 3) dX12_twin_95 rfl rfl ?_
        refine zb_iadd dX12_twin_96 o27 ?_
        refine zb_aload_n (j := 0) dX12_twin_97 rfl rfl ?_
        refine zb_gFa 3 dX12_twin_98 fl_X12_19 i_0 hW hF rfl rfl rfl (by decide) rfl 96 rfl (fun i40 l41 => ?_)
        refine zb_bipush dX12_twin_101 (by decide) (zb_inIc rfl) ?_
        refine zb_iload_n (j := 1) dX12_twin_103 rfl rfl ?_
        refine zb_imul dX12_twin_104 o30 ?_
        refine zb_iload_n (j := 3) dX12_twin_105 rfl rfl ?_
        refine zb_iadd dX12_twin_106 o31 ?_
        refine zb_lI dX12_twin_107 i40 l41 o32.1 o32.2 ?_
        refine zb_sI dX12_twin_108 i38 l39 o33.1 o33.2 hF (fun m108 e108 hF => ?_)
        have h := h m108 e108
        refine zb_aload_n (j := 0) dX12_twin_109 rfl rfl ?_
        refine zb_gFa 4 dX12_twin_110 fl_X12_22 i_0 hW hF rfl rfl rfl (by decide) rfl 96 rfl (fun i42 l43 => ?_)
        refine zb_bipush dX12_twin_113 (by decide) (zb_inIc rfl) ?_
        refine zb_iload_n (j := 2) dX12_twin_115 rfl rfl ?_
        refine zb_imul dX12_twin_116 o26 ?_
        refine zb_iload_n (j := 3) dX12_twin_117 rfl rfl ?_
        refine zb_iadd dX12_twin_118 o27 ?_
        refine zb_aload_n (j := 0) dX12_twin_119 rfl rfl ?_
        refine zb_gFa 4 dX12_twin_120 fl_X12_22 i_0 hW hF rfl rfl rfl (by decide) rfl 96 rfl (fun i44 l45 => ?_)
        refine zb_bipush dX12_twin_123 (by decide) (zb_inIc rfl) ?_
        refine zb_iload_n (j := 1) dX12_twin_125 rfl rfl ?_
        refine zb_imul dX12_twin_126 o30 ?_
        refine zb_iload_n (j := 3) dX12_twin_127 rfl rfl ?_
        refine zb_iadd dX12_twin_128 o31 ?_
        refine zb_lI dX12_twin_129 i44 l45 o32.1 o32.2 ?_
        refine zb_sI dX12_twin_130 i42 l43 o33.1 o33.2 hF (fun m130 e130 hF => ?_)
        have h := h m130 e130
        obtain ⟨o46, h⟩ := h
        refine zb_iinc (j := 3) (L' := [(3, (0, (v3_37 + 1))), (0, (2, x0)), (1, (0, x1)), (2, (0, x2))]) dX12_twin_131 rfl o46 (by decide) rfl ?_
        refine zb_goto (tgt := 37) dX12_twin_134 (by decide) ?_
        refine zb_sub (L' := [(0, (2, x0)), (1, (0, x1)), (2, (0, x2)), (3, (0, (v3_37 + 1)))]) [1, 2, 3, 0] rfl ?_
        exact (hX37 _ _).mp h hF
    · have h := h.1 c2
      refine zb_iconst dX12_twin_16 (zb_inIc rfl) ?_
      exact zb_rI dX12_twin_17 rfl hF h
theorem dX12_drop_0 : decode cX12_drop 0 = .ok (.aload_n 0, 1) := by decide +kernel
theorem dX12_drop_1 : decode cX12_drop 1 = .ok (.iload_n 1, 1) := by decide +kernel
theorem dX12_drop_2 : decode cX12_drop 2 = .ok (.invokevirtual 137, 3) := by decide +kernel
theorem dX12_drop_5 : decode cX12_drop 5 = .ok (.ifCond .ne 5, 3) := by decide +kernel
theorem dX12_drop_8 : decode cX12_drop 8 = .ok (.iconst (-1), 1) := by decide +kernel
theorem dX12_drop_9 : decode cX12_drop 9 = .ok (.ireturn, 1) := by decide +kernel
theorem dX12_drop_10 : decode cX12_drop 10 = .ok (.aload_n 0, 1) := by decide +kernel
theorem dX12_drop_11 : decode cX12_drop 11 = .ok (.iload_n 1, 1) := by decide +kernel
theorem dX12_drop_12 : decode cX12_drop 12 = .ok (.invokevirtual 148, 3) := by decide +kernel
theorem dX12_drop_15 : decode cX12_drop 15 = .ok (.aload_n 0, 1) := by decide +kernel
theorem dX12_drop_16 : decode cX12_drop 16 = .ok (.getfield 7, 3) := by decide +kernel
theorem dX12_drop_19 : decode cX12_drop 19 = .ok (.iload_n 1, 1) := by decide +kernel
theorem dX12_drop_20 : decode cX12_drop 20 = .ok (.iaload, 1) := by decide +kernel
theorem dX12_drop_21 : decode cX12_drop 21 = .ok (.istore_n 2, 1) := by decide +kernel
theorem dX12_drop_22 : decode cX12_drop 22 = .ok (.aload_n 0, 1) := by decide +kernel
theorem dX12_drop_23 : decode cX12_drop 23 = .ok (.getfield 7, 3) := by decide +kernel
theorem dX12_drop_26 : decode cX12_drop 26 = .ok (.iload_n 1, 1) := by decide +kernel
theorem dX12_drop_27 : decode cX12_drop 27 = .ok (.iconst 0, 1) := by decide +kernel
theorem dX12_drop_28 : decode cX12_drop 28 = .ok (.iastore, 1) := by decide +kernel
theorem dX12_drop_29 : decode cX12_drop 29 = .ok (.iload_n 2, 1) := by decide +kernel
theorem dX12_drop_30 : decode cX12_drop 30 = .ok (.ireturn, 1) := by decide +kernel
def PM_X12_drop (d : Nat) (E : zb_E) (x0 : Int) (x1 : Int) (m : zb_M) (Q : Int → zb_M → Prop) : Prop :=
  zb_Tp K_X12_isGraph d [(2, x0), (0, x1)] E m (fun r2 => (r2 = 0 → Q (-1) m) ∧ (¬ r2 = 0 → zb_T K_X12_note d [(2, x0), (0, x1)] E m (fun r12 m12 => (0 ≤ x1 ∧ x1 < 8) ∧ (∀ m28, m28 = zb_up m12 (E.2 x0 0) x1 0 → (Q (m12 (E.2 x0 0) x1) m28)))))
set_option maxRecDepth 100000 in
set_option maxHeartbeats 4000000 in
theorem w_X12_drop {d : Nat} {E : zb_E} {x0 x1 : Int} {m : zb_M} {Q : Int → zb_M → Prop} (h : PM_X12_drop d E x0 x1 m Q) : zb_T K_X12_drop (d + 1) [(2, x0), (0, x1)] E m Q := by
  unfold PM_X12_drop at h
  refine zb_T_in gd_X12_drop rfl rfl (fun hW hA G C hF => ?_)
  have i_0 : zb_is E.1 x0 12 := zb_aH hA (by decide)
  show zb_WP _ _ 0 [(0, (2, x0)), (1, (0, x1))] [] _ _ _ _
  refine zb_aload_n (j := 0) dX12_drop_0 rfl rfl ?_
  refine zb_iload_n (j := 1) dX12_drop_1 rfl rfl ?_
  refine zb_cVp (As := [(0, x1)]) (As' := [(0, x1)]) (st := []) dX12_drop_2 lk_X12_137 gd_X12_isGraph rfl rfl i_0 ⟨_, rfl, rfl⟩ h hW hF (zb_aR i_0 (zb_aI zb_a0)) (Nat.le_refl _) (Nat.le_of_ble_eq_true rfl) (fun r2 h => ?_)
  show zb_WP _ _ _ _ [(0, r2)] _ _ _ _
  refine zb_if_ne (tgt := 10) dX12_drop_5 (by decide) (fun c1 => ?_) (fun c1 => ?_)
  · have h := h.2 c1
    refine zb_aload_n (j := 0) dX12_drop_10 rfl rfl ?_
    refine zb_iload_n (j := 1) dX12_drop_11 rfl rfl ?_
    refine zb_cV (As := [(0, x1)]) (As' := [(0, x1)]) (st := []) dX12_drop_12 lk_X12_148 gd_X12_note rfl rfl i_0 ⟨_, rfl, rfl⟩ h hW hF (zb_aR i_0 (zb_aI zb_a0)) (Nat.le_refl _) (Nat.le_of_ble_eq_true rfl) (fun r12 m12 hF h => ?_)
    show zb_WP _ _ _ _ [] _ _ _ _
    refine zb_aload_n (j := 0) dX12_drop_15 rfl rfl ?_
    refine zb_gFa 0 dX12_drop_16 fl_X12_7 i_0 hW hF rfl rfl rfl (by decide) rfl 8 rfl (fun i2 l3 => ?_)
    refine zb_iload_n (j := 1) dX12_drop_19 rfl rfl ?_
    obtain ⟨o4, h⟩ := h
    refine zb_lI dX12_drop_20 i2 l3 o4.1 o4.2 ?_
    refine zb_istore_n (L' := [(2, (0, (m12 (E.2 x0 0) x1))), (0, (2, x0)), (1, (0, x1))]) dX12_drop_21 rfl (by decide) rfl ?_
    refine zb_aload_n (j := 1) dX12_drop_22 rfl rfl ?_
    refine zb_gFa 0 dX12_drop_23 fl_X12_7 i_0 hW hF rfl rfl rfl (by decide) rfl 8 rfl (fun i5 l6 => ?_)
    refine zb_iload_n (j := 2) dX12_drop_26 rfl rfl ?_
    refine zb_iconst dX12_drop_27 (zb_inIc rfl) ?_
    refine zb_sI dX12_drop_28 i5 l6 o4.1 o4.2 hF (fun m28 e28 hF => ?_)
    have h := h m28 e28
    refine zb_iload_n (j := 0) dX12_drop_29 rfl rfl ?_
    exact zb_rI dX12_drop_30 rfl hF h
  · have h := h.1 c1
    refine zb_iconst dX12_drop_8 (zb_inIc rfl) ?_
    exact zb_rI dX12_drop_9 rfl hF h
theorem dX12_keyOf_0 : decode cX12_keyOf 0 = .ok (.bipush 12, 2) := by decide +kernel
theorem dX12_keyOf_2 : decode cX12_keyOf 2 = .ok (.iload_n 1, 1) := by decide +kernel
theorem dX12_keyOf_3 : decode cX12_keyOf 3 = .ok (.imul, 1) := by decide +kernel
theorem dX12_keyOf_4 : decode cX12_keyOf 4 = .ok (.iload_n 2, 1) := by decide +kernel
theorem dX12_keyOf_5 : decode cX12_keyOf 5 = .ok (.iadd, 1) := by decide +kernel
theorem dX12_keyOf_6 : decode cX12_keyOf 6 = .ok (.istore_n 3, 1) := by decide +kernel
theorem dX12_keyOf_7 : decode cX12_keyOf 7 = .ok (.aload_n 0, 1) := by decide +kernel
theorem dX12_keyOf_8 : decode cX12_keyOf 8 = .ok (.getfield 16, 3) := by decide +kernel
theorem dX12_keyOf_11 : decode cX12_keyOf 11 = .ok (.iload_n 3, 1) := by decide +kernel
theorem dX12_keyOf_12 : decode cX12_keyOf 12 = .ok (.iaload, 1) := by decide +kernel
theorem dX12_keyOf_13 : decode cX12_keyOf 13 = .ok (.istore 4, 2) := by decide +kernel
theorem dX12_keyOf_15 : decode cX12_keyOf 15 = .ok (.iload 4, 2) := by decide +kernel
theorem dX12_keyOf_17 : decode cX12_keyOf 17 = .ok (.aload_n 0, 1) := by decide +kernel
theorem dX12_keyOf_18 : decode cX12_keyOf 18 = .ok (.getfield 13, 3) := by decide +kernel
theorem dX12_keyOf_21 : decode cX12_keyOf 21 = .ok (.iload_n 3, 1) := by decide +kernel
theorem dX12_keyOf_22 : decode cX12_keyOf 22 = .ok (.iaload, 1) := by decide +kernel
theorem dX12_keyOf_23 : decode cX12_keyOf 23 = .ok (.invokestatic 145, 3) := by decide +kernel
theorem dX12_keyOf_26 : decode cX12_keyOf 26 = .ok (.ifCond .eq 17, 3) := by decide +kernel
theorem dX12_keyOf_29 : decode cX12_keyOf 29 = .ok (.bipush 10, 2) := by decide +kernel
theorem dX12_keyOf_31 : decode cX12_keyOf 31 = .ok (.aload_n 0, 1) := by decide +kernel
theorem dX12_keyOf_32 : decode cX12_keyOf 32 = .ok (.getfield 19, 3) := by decide +kernel
theorem dX12_keyOf_35 : decode cX12_keyOf 35 = .ok (.iload_n 3, 1) := by decide +kernel
theorem dX12_keyOf_36 : decode cX12_keyOf 36 = .ok (.iaload, 1) := by decide +kernel
theorem dX12_keyOf_37 : decode cX12_keyOf 37 = .ok (.iconst 1, 1) := by decide +kernel
theorem dX12_keyOf_38 : decode cX12_keyOf 38 = .ok (.iadd, 1) := by decide +kernel
theorem dX12_keyOf_39 : decode cX12_keyOf 39 = .ok (.imul, 1) := by decide +kernel
theorem dX12_keyOf_40 : decode cX12_keyOf 40 = .ok (.goto 4, 3) := by decide +kernel
theorem dX12_keyOf_43 : decode cX12_keyOf 43 = .ok (.iconst 0, 1) := by decide +kernel
theorem dX12_keyOf_44 : decode cX12_keyOf 44 = .ok (.iadd, 1) := by decide +kernel
theorem dX12_keyOf_45 : decode cX12_keyOf 45 = .ok (.istore 4, 2) := by decide +kernel
theorem dX12_keyOf_47 : decode cX12_keyOf 47 = .ok (.aload_n 0, 1) := by decide +kernel
theorem dX12_keyOf_48 : decode cX12_keyOf 48 = .ok (.getfield 13, 3) := by decide +kernel
theorem dX12_keyOf_51 : decode cX12_keyOf 51 = .ok (.iload_n 3, 1) := by decide +kernel
theorem dX12_keyOf_52 : decode cX12_keyOf 52 = .ok (.iaload, 1) := by decide +kernel
theorem dX12_keyOf_53 : decode cX12_keyOf 53 = .ok (.iconst 2, 1) := by decide +kernel
theorem dX12_keyOf_54 : decode cX12_keyOf 54 = .ok (.if_icmp .ne 12, 3) := by decide +kernel
theorem dX12_keyOf_57 : decode cX12_keyOf 57 = .ok (.iload 4, 2) := by decide +kernel
theorem dX12_keyOf_59 : decode cX12_keyOf 59 = .ok (.sipush 2000, 3) := by decide +kernel
theorem dX12_keyOf_62 : decode cX12_keyOf 62 = .ok (.iadd, 1) := by decide +kernel
theorem dX12_keyOf_63 : decode cX12_keyOf 63 = .ok (.goto 24, 3) := by decide +kernel
theorem dX12_keyOf_66 : decode cX12_keyOf 66 = .ok (.aload_n 0, 1) := by decide +kernel
theorem dX12_keyOf_67 : decode cX12_keyOf 67 = .ok (.getfield 13, 3) := by decide +kernel
theorem dX12_keyOf_70 : decode cX12_keyOf 70 = .ok (.iload_n 3, 1) := by decide +kernel
theorem dX12_keyOf_71 : decode cX12_keyOf 71 = .ok (.iaload, 1) := by decide +kernel
theorem dX12_keyOf_72 : decode cX12_keyOf 72 = .ok (.iconst 3, 1) := by decide +kernel
theorem dX12_keyOf_73 : decode cX12_keyOf 73 = .ok (.if_icmp .ne 12, 3) := by decide +kernel
theorem dX12_keyOf_76 : decode cX12_keyOf 76 = .ok (.iload 4, 2) := by decide +kernel
theorem dX12_keyOf_78 : decode cX12_keyOf 78 = .ok (.sipush 4000, 3) := by decide +kernel
theorem dX12_keyOf_81 : decode cX12_keyOf 81 = .ok (.iadd, 1) := by decide +kernel
theorem dX12_keyOf_82 : decode cX12_keyOf 82 = .ok (.goto 5, 3) := by decide +kernel
theorem dX12_keyOf_85 : decode cX12_keyOf 85 = .ok (.iload 4, 2) := by decide +kernel
theorem dX12_keyOf_87 : decode cX12_keyOf 87 = .ok (.ireturn, 1) := by decide +kernel
def PJ_X12_keyOf_44 (d : Nat) (E : zb_E) (x0 : Int) (x1 : Int) (x2 : Int) (m : zb_M) (Q : Int → Prop) (s1_44 : Int) : Prop :=
  (zb_inI ((m (E.2 x0 2) ((12 * x1) + x2)) + s1_44)) ∧ (((m (E.2 x0 1) ((12 * x1) + x2)) = 2 → (zb_inI (((m (E.2 x0 2) ((12 * x1) + x2)) + s1_44) + 2000)) ∧ (Q (((m (E.2 x0 2) ((12 * x1) + x2)) + s1_44) + 2000))) ∧ (¬ (m (E.2 x0 1) ((12 * x1) + x2)) = 2 → ((m (E.2 x0 1) ((12 * x1) + x2)) = 3 → (zb_inI (((m (E.2 x0 2) ((12 * x1) + x2)) + s1_44) + 4000)) ∧ (Q (((m (E.2 x0 2) ((12 * x1) + x2)) + s1_44) + 4000))) ∧ (¬ (m (E.2 x0 1) ((12 * x1) + x2)) = 3 → Q ((m (E.2 x0 2) ((12 * x1) + x2)) + s1_44))))
def PM_X12_keyOf (d : Nat) (E : zb_E) (x0 : Int) (x1 : Int) (x2 : Int) (m : zb_M) (Q : Int → Prop) : Prop :=
  (zb_inI (12 * x1)) ∧ ((zb_inI ((12 * x1) + x2)) ∧ ((0 ≤ ((12 * x1) + x2) ∧ ((12 * x1) + x2) < 96) ∧ (zb_Tp K_X12_isNamed d [(0, (m (E.2 x0 1) ((12 * x1) + x2)))] E m (fun r23 => (r23 = 0 → PJ_X12_keyOf_44 d E x0 x1 x2 m Q 0) ∧ (¬ r23 = 0 → (zb_inI ((m (E.2 x0 3) ((12 * x1) + x2)) + 1)) ∧ ((zb_inI (10 * ((m (E.2 x0 3) ((12 * x1) + x2)) + 1))) ∧ (PJ_X12_keyOf_44 d E x0 x1 x2 m Q (10 * ((m (E.2 x0 3) ((12 * x1) + x2)) + 1)))))))))
set_option maxRecDepth 100000 in
set_option maxHeartbeats 4000000 in
theorem w_X12_keyOf {d : Nat} {E : zb_E} {x0 x1 x2 : Int} {m : zb_M} {Q : Int → Prop} (h : PM_X12_keyOf d E x0 x1 x2 m Q) : zb_Tp K_X12_keyOf (d + 1) [(2, x0), (0, x1), (0, x2)] E m Q := by
  unfold PM_X12_keyOf at h
  refine zb_T_in gd_X12_keyOf rfl rfl (fun hW hA G C hF => ?_)
  have i_0 : zb_is E.1 x0 12 := zb_aH hA (by decide)
  show zb_WP _ _ 0 [(0, (2, x0)), (1, (0, x1)), (2, (0, x2))] [] _ _ _ _
  refine zb_bipush dX12_keyOf_0 (by decide) (zb_inIc rfl) ?_
  refine zb_iload_n (j := 1) dX12_keyOf_2 rfl rfl ?_
  obtain ⟨o1, h⟩ := h
  refine zb_imul dX12_keyOf_3 o1 ?_
  refine zb_iload_n (j := 2) dX12_keyOf_4 rfl rfl ?_
  obtain ⟨o2, h⟩ := h
  refine zb_iadd dX12_keyOf_5 o2 ?_
  refine zb_istore_n (L' := [(3, (0, ((12 * x1) + x2))), (0, (2, x0)), (1, (0, x1)), (2, (0, x2))]) dX12_keyOf_6 rfl (by decide) rfl ?_
  refine zb_aload_n (j := 1) dX12_keyOf_7 rfl rfl ?_
  refine zb_gFa 2 dX12_keyOf_8 fl_X12_16 i_0 hW hF rfl rfl rfl (by decide) rfl 96 rfl (fun i3 l4 => ?_)
  refine zb_iload_n (j := 0) dX12_keyOf_11 rfl rfl ?_
  obtain ⟨o5, h⟩ := h
  refine zb_lI dX12_keyOf_12 i3 l4 o5.1 o5.2 ?_
  refine zb_istore (L' := [(4, (0, (m (E.2 x0 2) ((12 * x1) + x2)))), (3, (0, ((12 * x1) + x2))), (0, (2, x0)), (1, (0, x1)), (2, (0, x2))]) dX12_keyOf_13 (by decide) rfl ?_
  refine zb_iload (j := 0) dX12_keyOf_15 rfl ?_
  refine zb_aload_n (j := 2) dX12_keyOf_17 rfl rfl ?_
  refine zb_gFa 1 dX12_keyOf_18 fl_X12_13 i_0 hW hF rfl rfl rfl (by decide) rfl 96 rfl (fun i6 l7 => ?_)
  refine zb_iload_n (j := 1) dX12_keyOf_21 rfl rfl ?_
  refine zb_lI dX12_keyOf_22 i6 l7 o5.1 o5.2 ?_
  refine zb_cSp (As := [(0, (m (E.2 x0 1) ((12 * x1) + x2)))]) (As' := [(0, (m (E.2 x0 1) ((12 * x1) + x2)))]) (st := [(0, (m (E.2 x0 2) ((12 * x1) + x2)))]) dX12_keyOf_23 lk_X12_145 gd_X12_isNamed rfl rfl h hW hF (zb_aI zb_a0) (Nat.le_refl _) (Nat.le_of_ble_eq_true rfl) (fun r23 h => ?_)
  show zb_WP _ _ _ _ [(0, r23), (0, (m (E.2 x0 2) ((12 * x1) + x2)))] _ _ _ _
  have hJ44 : ∀ (s1_44 : Int), zb_FIN E m → PJ_X12_keyOf_44 d E x0 x1 x2 m Q s1_44 → zb_WP (G, C, d + 1, 0, 0, zb_q E (fun r m' => m' = m ∧ Q r)) F_X12_keyOf 44 [(0, (2, x0)), (3, (0, ((12 * x1) + x2)))] [(0, s1_44), (0, (m (E.2 x0 2) ((12 * x1) + x2)))] E.1 m 0 0 := by
    intro s1_44 hF h
    unfold PJ_X12_keyOf_44 at h
    obtain ⟨o8, h⟩ := h
    refine zb_iadd dX12_keyOf_44 o8 ?_
    refine zb_istore (L' := [(4, (0, ((m (E.2 x0 2) ((12 * x1) + x2)) + s1_44))), (0, (2, x0)), (3, (0, ((12 * x1) + x2)))]) dX12_keyOf_45 (by decide) rfl ?_
    refine zb_aload_n (j := 1) dX12_keyOf_47 rfl rfl ?_
    refine zb_gFa 1 dX12_keyOf_48 fl_X12_13 i_0 hW hF rfl rfl rfl (by decide) rfl 96 rfl (fun i9 l10 => ?_)
    refine zb_iload_n (j := 2) dX12_keyOf_51 rfl rfl ?_
    refine zb_lI dX12_keyOf_52 i9 l10 o5.1 o5.2 ?_
    refine zb_iconst dX12_keyOf_53 (zb_inIc rfl) ?_
    refine zb_icmp_ne (tgt := 66) dX12_keyOf_54 (by decide) (fun c11 => ?_) (fun c11 => ?_)
    · have h := h.2 c11
      refine zb_aload_n (j := 1) dX12_keyOf_66 rfl rfl ?_
      refine zb_gFa 1 dX12_keyOf_67 fl_X12_13 i_0 hW hF rfl rfl rfl (by decide) rfl 96 rfl (fun i12 l13 => ?_)
      refine zb_iload_n (j := 2) dX12_keyOf_70 rfl rfl ?_
      refine zb_lI dX12_keyOf_71 i12 l13 o5.1 o5.2 ?_
      refine zb_iconst dX12_keyOf_72 (zb_inIc rfl) ?_
      refine zb_icmp_ne (tgt := 85) dX12_keyOf_73 (by decide) (fun c14 => ?_) (fun c14 => ?_)
      · have h := h.2 c14
        refine zb_iload (j := 0) dX12_keyOf_85 rfl ?_
        exact zb_rI dX12_keyOf_87 rfl hF ⟨rfl, h⟩
      · have h := h.1 c14
        refine zb_iload (j := 0) dX12_keyOf_76 rfl ?_
        refine zb_sipush dX12_keyOf_78 (by decide) (zb_inIc rfl) ?_
        obtain ⟨o15, h⟩ := h
        refine zb_iadd dX12_keyOf_81 o15 ?_
        refine zb_goto (tgt := 87) dX12_keyOf_82 (by decide) ?_
        exact zb_rI dX12_keyOf_87 rfl hF ⟨rfl, h⟩
    · have h := h.1 c11
      refine zb_iload (j := 0) dX12_keyOf_57 rfl ?_
      refine zb_sipush dX12_keyOf_59 (by decide) (zb_inIc rfl) ?_
      obtain ⟨o16, h⟩ := h
      refine zb_iadd dX12_keyOf_62 o16 ?_
      refine zb_goto (tgt := 87) dX12_keyOf_63 (by decide) ?_
      exact zb_rI dX12_keyOf_87 rfl hF ⟨rfl, h⟩
  refine zb_if_eq (tgt := 43) dX12_keyOf_26 (by decide) (fun c17 => ?_) (fun c17 => ?_)
  · have h := h.1 c17
    refine zb_iconst dX12_keyOf_43 (zb_inIc rfl) ?_
    refine zb_sub (L' := [(0, (2, x0)), (3, (0, ((12 * x1) + x2)))]) [2, 1] rfl ?_
    exact hJ44 _ hF h
  · have h := h.2 c17
    refine zb_bipush dX12_keyOf_29 (by decide) (zb_inIc rfl) ?_
    refine zb_aload_n (j := 2) dX12_keyOf_31 rfl rfl ?_
    refine zb_gFa 3 dX12_keyOf_32 fl_X12_19 i_0 hW hF rfl rfl rfl (by decide) rfl 96 rfl (fun i18 l19 => ?_)
    refine zb_iload_n (j := 1) dX12_keyOf_35 rfl rfl ?_
    refine zb_lI dX12_keyOf_36 i18 l19 o5.1 o5.2 ?_
    refine zb_iconst dX12_keyOf_37 (zb_inIc rfl) ?_
    obtain ⟨o20, h⟩ := h
    refine zb_iadd dX12_keyOf_38 o20 ?_
    obtain ⟨o21, h⟩ := h
    refine zb_imul dX12_keyOf_39 o21 ?_
    refine zb_goto (tgt := 44) dX12_keyOf_40 (by decide) ?_
    refine zb_sub (L' := [(0, (2, x0)), (3, (0, ((12 * x1) + x2)))]) [2, 1] rfl ?_
    exact hJ44 _ hF h
theorem dX12_told_0 : decode cX12_told 0 = .ok (.aload_n 0, 1) := by decide +kernel
theorem dX12_told_1 : decode cX12_told 1 = .ok (.iload_n 1, 1) := by decide +kernel
theorem dX12_told_2 : decode cX12_told 2 = .ok (.iload_n 2, 1) := by decide +kernel
theorem dX12_told_3 : decode cX12_told 3 = .ok (.invokevirtual 152, 3) := by decide +kernel
theorem dX12_told_6 : decode cX12_told 6 = .ok (.ifCond .eq 12, 3) := by decide +kernel
theorem dX12_told_9 : decode cX12_told 9 = .ok (.iload_n 3, 1) := by decide +kernel
theorem dX12_told_10 : decode cX12_told 10 = .ok (.iconst 0, 1) := by decide +kernel
theorem dX12_told_11 : decode cX12_told 11 = .ok (.iconst 4, 1) := by decide +kernel
theorem dX12_told_12 : decode cX12_told 12 = .ok (.invokestatic 133, 3) := by decide +kernel
theorem dX12_told_15 : decode cX12_told 15 = .ok (.ifCond .ne 5, 3) := by decide +kernel
theorem dX12_told_18 : decode cX12_told 18 = .ok (.iconst (-1), 1) := by decide +kernel
theorem dX12_told_19 : decode cX12_told 19 = .ok (.ireturn, 1) := by decide +kernel
theorem dX12_told_20 : decode cX12_told 20 = .ok (.bipush 12, 2) := by decide +kernel
theorem dX12_told_22 : decode cX12_told 22 = .ok (.iload_n 1, 1) := by decide +kernel
theorem dX12_told_23 : decode cX12_told 23 = .ok (.imul, 1) := by decide +kernel
theorem dX12_told_24 : decode cX12_told 24 = .ok (.iload_n 2, 1) := by decide +kernel
theorem dX12_told_25 : decode cX12_told 25 = .ok (.iadd, 1) := by decide +kernel
theorem dX12_told_26 : decode cX12_told 26 = .ok (.istore 4, 2) := by decide +kernel
theorem dX12_told_28 : decode cX12_told 28 = .ok (.iload_n 3, 1) := by decide +kernel
theorem dX12_told_29 : decode cX12_told 29 = .ok (.tableswitch 77 0 3 #[31, 39, 47, 54], 31) := by decide +kernel
theorem dX12_told_60 : decode cX12_told 60 = .ok (.aload_n 0, 1) := by decide +kernel
theorem dX12_told_61 : decode cX12_told 61 = .ok (.getfield 13, 3) := by decide +kernel
theorem dX12_told_64 : decode cX12_told 64 = .ok (.iload 4, 2) := by decide +kernel
theorem dX12_told_66 : decode cX12_told 66 = .ok (.iaload, 1) := by decide +kernel
theorem dX12_told_67 : decode cX12_told 67 = .ok (.ireturn, 1) := by decide +kernel
theorem dX12_told_68 : decode cX12_told 68 = .ok (.aload_n 0, 1) := by decide +kernel
theorem dX12_told_69 : decode cX12_told 69 = .ok (.getfield 16, 3) := by decide +kernel
theorem dX12_told_72 : decode cX12_told 72 = .ok (.iload 4, 2) := by decide +kernel
theorem dX12_told_74 : decode cX12_told 74 = .ok (.iaload, 1) := by decide +kernel
theorem dX12_told_75 : decode cX12_told 75 = .ok (.ireturn, 1) := by decide +kernel
theorem dX12_told_76 : decode cX12_told 76 = .ok (.aload_n 0, 1) := by decide +kernel
theorem dX12_told_77 : decode cX12_told 77 = .ok (.iload_n 1, 1) := by decide +kernel
theorem dX12_told_78 : decode cX12_told 78 = .ok (.iload_n 2, 1) := by decide +kernel
theorem dX12_told_79 : decode cX12_told 79 = .ok (.invokevirtual 164, 3) := by decide +kernel
theorem dX12_told_82 : decode cX12_told 82 = .ok (.ireturn, 1) := by decide +kernel
theorem dX12_told_83 : decode cX12_told 83 = .ok (.aload_n 0, 1) := by decide +kernel
theorem dX12_told_84 : decode cX12_told 84 = .ok (.getfield 22, 3) := by decide +kernel
theorem dX12_told_87 : decode cX12_told 87 = .ok (.iload 4, 2) := by decide +kernel
theorem dX12_told_89 : decode cX12_told 89 = .ok (.iaload, 1) := by decide +kernel
theorem dX12_told_90 : decode cX12_told 90 = .ok (.ifCond .ge 8, 3) := by decide +kernel
theorem dX12_told_93 : decode cX12_told 93 = .ok (.bipush (-11), 2) := by decide +kernel
theorem dX12_told_95 : decode cX12_told 95 = .ok (.goto 10, 3) := by decide +kernel
theorem dX12_told_98 : decode cX12_told 98 = .ok (.aload_n 0, 1) := by decide +kernel
theorem dX12_told_99 : decode cX12_told 99 = .ok (.getfield 22, 3) := by decide +kernel
theorem dX12_told_102 : decode cX12_told 102 = .ok (.iload 4, 2) := by decide +kernel
theorem dX12_told_104 : decode cX12_told 104 = .ok (.iaload, 1) := by decide +kernel
theorem dX12_told_105 : decode cX12_told 105 = .ok (.ireturn, 1) := by decide +kernel
theorem dX12_told_106 : decode cX12_told 106 = .ok (.aload_n 0, 1) := by decide +kernel
theorem dX12_told_107 : decode cX12_told 107 = .ok (.getfield 13, 3) := by decide +kernel
theorem dX12_told_110 : decode cX12_told 110 = .ok (.iload 4, 2) := by decide +kernel
theorem dX12_told_112 : decode cX12_told 112 = .ok (.iaload, 1) := by decide +kernel
theorem dX12_told_113 : decode cX12_told 113 = .ok (.invokestatic 145, 3) := by decide +kernel
theorem dX12_told_116 : decode cX12_told 116 = .ok (.ifCond .eq 7, 3) := by decide +kernel
theorem dX12_told_119 : decode cX12_told 119 = .ok (.iconst 1, 1) := by decide +kernel
theorem dX12_told_120 : decode cX12_told 120 = .ok (.goto 4, 3) := by decide +kernel
theorem dX12_told_123 : decode cX12_told 123 = .ok (.iconst 0, 1) := by decide +kernel
theorem dX12_told_124 : decode cX12_told 124 = .ok (.ireturn, 1) := by decide +kernel
def PM_X12_told (d : Nat) (E : zb_E) (x0 : Int) (x1 : Int) (x2 : Int) (x3 : Int) (m : zb_M) (Q : Int → Prop) : Prop :=
  zb_Tp K_X12_isThing d [(2, x0), (0, x1), (0, x2)] E m (fun r3 => (r3 = 0 → Q (-1)) ∧ (¬ r3 = 0 → zb_Tp K_X12_in d [(0, x3), (0, 0), (0, 4)] E m (fun r12 => (r12 = 0 → Q (-1)) ∧ (¬ r12 = 0 → (zb_inI (12 * x1)) ∧ ((zb_inI ((12 * x1) + x2)) ∧ ((x3 = 0 → (0 ≤ ((12 * x1) + x2) ∧ ((12 * x1) + x2) < 96) ∧ (Q (m (E.2 x0 1) ((12 * x1) + x2)))) ∧ (x3 = 1 → (0 ≤ ((12 * x1) + x2) ∧ ((12 * x1) + x2) < 96) ∧ (Q (m (E.2 x0 2) ((12 * x1) + x2)))) ∧ (x3 = 2 → zb_Tp K_X12_keyOf d [(2, x0), (0, x1), (0, x2)] E m (fun r79 => Q r79)) ∧ (x3 = 3 → (0 ≤ ((12 * x1) + x2) ∧ ((12 * x1) + x2) < 96) ∧ ((0 ≤ (m (E.2 x0 4) ((12 * x1) + x2)) → Q (m (E.2 x0 4) ((12 * x1) + x2))) ∧ (¬ 0 ≤ (m (E.2 x0 4) ((12 * x1) + x2)) → Q (-11)))) ∧ ((x3 < 0 ∨ 3 < x3) → (0 ≤ ((12 * x1) + x2) ∧ ((12 * x1) + x2) < 96) ∧ (zb_Tp K_X12_isNamed d [(0, (m (E.2 x0 1) ((12 * x1) + x2)))] E m (fun r113 => (r113 = 0 → Q 0) ∧ (¬ r113 = 0 → Q 1))))))))))
set_option maxRecDepth 100000 in
set_option maxHeartbeats 4000000 in
theorem w_X12_told {d : Nat} {E : zb_E} {x0 x1 x2 x3 : Int} {m : zb_M} {Q : Int → Prop} (h : PM_X12_told d E x0 x1 x2 x3 m Q) : zb_Tp K_X12_told (d + 1) [(2, x0), (0, x1), (0, x2), (0, x3)] E m Q := by
  unfold PM_X12_told at h
  refine zb_T_in gd_X12_told rfl rfl (fun hW hA G C hF => ?_)
  have i_0 : zb_is E.1 x0 12 := zb_aH hA (by decide)
  show zb_WP _ _ 0 [(0, (2, x0)), (1, (0, x1)), (2, (0, x2)), (3, (0, x3))] [] _ _ _ _
  refine zb_aload_n (j := 0) dX12_told_0 rfl rfl ?_
  refine zb_iload_n (j := 1) dX12_told_1 rfl rfl ?_
  refine zb_iload_n (j := 2) dX12_told_2 rfl rfl ?_
  refine zb_cVp (As := [(0, x1), (0, x2)]) (As' := [(0, x2), (0, x1)]) (st := []) dX12_told_3 lk_X12_152 gd_X12_isThing rfl rfl i_0 ⟨_, rfl, rfl⟩ h hW hF (zb_aR i_0 (zb_aI (zb_aI zb_a0))) (Nat.le_refl _) (Nat.le_of_ble_eq_true rfl) (fun r3 h => ?_)
  show zb_WP _ _ _ _ [(0, r3)] _ _ _ _
  refine zb_if_eq (tgt := 18) dX12_told_6 (by decide) (fun c1 => ?_) (fun c1 => ?_)
  · have h := h.1 c1
    refine zb_iconst dX12_told_18 (zb_inIc rfl) ?_
    exact zb_rI dX12_told_19 rfl hF ⟨rfl, h⟩
  · have h := h.2 c1
    refine zb_iload_n (j := 3) dX12_told_9 rfl rfl ?_
    refine zb_iconst dX12_told_10 (zb_inIc rfl) ?_
    refine zb_iconst dX12_told_11 (zb_inIc rfl) ?_
    refine zb_cSp (As := [(0, x3), (0, 0), (0, 4)]) (As' := [(0, 4), (0, 0), (0, x3)]) (st := []) dX12_told_12 lk_X12_133 gd_X12_in rfl rfl h hW hF (zb_aI (zb_aI (zb_aI zb_a0))) (Nat.le_refl _) (Nat.le_of_ble_eq_true rfl) (fun r12 h => ?_)
    show zb_WP _ _ _ _ [(0, r12)] _ _ _ _
    refine zb_if_ne (tgt := 20) dX12_told_15 (by decide) (fun c2 => ?_) (fun c2 => ?_)
    · have h := h.2 c2
      refine zb_bipush dX12_told_20 (by decide) (zb_inIc rfl) ?_
      refine zb_iload_n (j := 1) dX12_told_22 rfl rfl ?_
      obtain ⟨o3, h⟩ := h
      refine zb_imul dX12_told_23 o3 ?_
      refine zb_iload_n (j := 2) dX12_told_24 rfl rfl ?_
      obtain ⟨o4, h⟩ := h
      refine zb_iadd dX12_told_25 o4 ?_
      refine zb_istore (L' := [(4, (0, ((12 * x1) + x2))), (0, (2, x0)), (1, (0, x1)), (2, (0, x2)), (3, (0, x3))]) dX12_told_26 (by decide) rfl ?_
      refine zb_iload_n (j := 4) dX12_told_28 rfl rfl ?_
      by_cases c8 : x3 = 0
      · refine zb_tableIn (off := 31) (tgt := 60) dX12_told_29 (by omega) (by omega) (by rw [c8]; decide) (by decide) ?_
        have h := h.1 c8
        refine zb_aload_n (j := 1) dX12_told_60 rfl rfl ?_
        refine zb_gFa 1 dX12_told_61 fl_X12_13 i_0 hW hF rfl rfl rfl (by decide) rfl 96 rfl (fun i5 l6 => ?_)
        refine zb_iload (j := 0) dX12_told_64 rfl ?_
        obtain ⟨o7, h⟩ := h
        refine zb_lI dX12_told_66 i5 l6 o7.1 o7.2 ?_
        exact zb_rI dX12_told_67 rfl hF ⟨rfl, h⟩
      ·
        by_cases c12 : x3 = 1
        · refine zb_tableIn (off := 39) (tgt := 68) dX12_told_29 (by omega) (by omega) (by rw [c12]; decide) (by decide) ?_
          have h := h.2.1 c12
          refine zb_aload_n (j := 1) dX12_told_68 rfl rfl ?_
          refine zb_gFa 2 dX12_told_69 fl_X12_16 i_0 hW hF rfl rfl rfl (by decide) rfl 96 rfl (fun i9 l10 => ?_)
          refine zb_iload (j := 0) dX12_told_72 rfl ?_
          obtain ⟨o11, h⟩ := h
          refine zb_lI dX12_told_74 i9 l10 o11.1 o11.2 ?_
          exact zb_rI dX12_told_75 rfl hF ⟨rfl, h⟩
        ·
          by_cases c13 : x3 = 2
          · refine zb_tableIn (off := 47) (tgt := 76) dX12_told_29 (by omega) (by omega) (by rw [c13]; decide) (by decide) ?_
            have h := h.2.2.1 c13
            refine zb_aload_n (j := 1) dX12_told_76 rfl rfl ?_
            refine zb_iload_n (j := 2) dX12_told_77 rfl rfl ?_
            refine zb_iload_n (j := 3) dX12_told_78 rfl rfl ?_
            refine zb_cVp (As := [(0, x1), (0, x2)]) (As' := [(0, x2), (0, x1)]) (st := []) dX12_told_79 lk_X12_164 gd_X12_keyOf rfl rfl i_0 ⟨_, rfl, rfl⟩ h hW hF (zb_aR i_0 (zb_aI (zb_aI zb_a0))) (Nat.le_refl _) (Nat.le_of_ble_eq_true rfl) (fun r79 h => ?_)
            show zb_WP _ _ _ _ [(0, r79)] _ _ _ _
            exact zb_rI dX12_told_82 rfl hF ⟨rfl, h⟩
          ·
            by_cases c20 : x3 = 3
            · refine zb_tableIn (off := 54) (tgt := 83) dX12_told_29 (by omega) (by omega) (by rw [c20]; decide) (by decide) ?_
              have h := h.2.2.2.1 c20
              refine zb_aload_n (j := 1) dX12_told_83 rfl rfl ?_
              refine zb_gFa 4 dX12_told_84 fl_X12_22 i_0 hW hF rfl rfl rfl (by decide) rfl 96 rfl (fun i14 l15 => ?_)
              refine zb_iload (j := 0) dX12_told_87 rfl ?_
              obtain ⟨o16, h⟩ := h
              refine zb_lI dX12_told_89 i14 l15 o16.1 o16.2 ?_
              refine zb_if_ge (tgt := 98) dX12_told_90 (by decide) (fun c17 => ?_) (fun c17 => ?_)
              · have h := h.1 c17
                refine zb_aload_n (j := 1) dX12_told_98 rfl rfl ?_
                refine zb_gFa 4 dX12_told_99 fl_X12_22 i_0 hW hF rfl rfl rfl (by decide) rfl 96 rfl (fun i18 l19 => ?_)
                refine zb_iload (j := 0) dX12_told_102 rfl ?_
                refine zb_lI dX12_told_104 i18 l19 o16.1 o16.2 ?_
                exact zb_rI dX12_told_105 rfl hF ⟨rfl, h⟩
              · have h := h.2 c17
                refine zb_bipush dX12_told_93 (by decide) (zb_inIc rfl) ?_
                refine zb_goto (tgt := 105) dX12_told_95 (by decide) ?_
                exact zb_rI dX12_told_105 rfl hF ⟨rfl, h⟩
            ·
              have cc : x3 < 0 ∨ 3 < x3 := by omega
              refine zb_tableOut (tgt := 106) dX12_told_29 cc (by decide) ?_
              have h := h.2.2.2.2 cc
              refine zb_aload_n (j := 1) dX12_told_106 rfl rfl ?_
              refine zb_gFa 1 dX12_told_107 fl_X12_13 i_0 hW hF rfl rfl rfl (by decide) rfl 96 rfl (fun i21 l22 => ?_)
              refine zb_iload (j := 0) dX12_told_110 rfl ?_
              obtain ⟨o23, h⟩ := h
              refine zb_lI dX12_told_112 i21 l22 o23.1 o23.2 ?_
              refine zb_cSp (As := [(0, (m (E.2 x0 1) ((12 * x1) + x2)))]) (As' := [(0, (m (E.2 x0 1) ((12 * x1) + x2)))]) (st := []) dX12_told_113 lk_X12_145 gd_X12_isNamed rfl rfl h hW hF (zb_aI zb_a0) (Nat.le_refl _) (Nat.le_of_ble_eq_true rfl) (fun r113 h => ?_)
              show zb_WP _ _ _ _ [(0, r113)] _ _ _ _
              refine zb_if_eq (tgt := 123) dX12_told_116 (by decide) (fun c24 => ?_) (fun c24 => ?_)
              · have h := h.1 c24
                refine zb_iconst dX12_told_123 (zb_inIc rfl) ?_
                exact zb_rI dX12_told_124 rfl hF ⟨rfl, h⟩
              · have h := h.2 c24
                refine zb_iconst dX12_told_119 (zb_inIc rfl) ?_
                refine zb_goto (tgt := 124) dX12_told_120 (by decide) ?_
                exact zb_rI dX12_told_124 rfl hF ⟨rfl, h⟩
    · have h := h.1 c2
      refine zb_iconst dX12_told_18 (zb_inIc rfl) ?_
      exact zb_rI dX12_told_19 rfl hF ⟨rfl, h⟩
theorem dX12_isRight_0 : decode cX12_isRight 0 = .ok (.iconst 1, 1) := by decide +kernel
theorem dX12_isRight_1 : decode cX12_isRight 1 = .ok (.istore_n 2, 1) := by decide +kernel
theorem dX12_isRight_2 : decode cX12_isRight 2 = .ok (.bipush 12, 2) := by decide +kernel
theorem dX12_isRight_4 : decode cX12_isRight 4 = .ok (.iload_n 1, 1) := by decide +kernel
theorem dX12_isRight_5 : decode cX12_isRight 5 = .ok (.imul, 1) := by decide +kernel
theorem dX12_isRight_6 : decode cX12_isRight 6 = .ok (.istore_n 3, 1) := by decide +kernel
theorem dX12_isRight_7 : decode cX12_isRight 7 = .ok (.iload_n 3, 1) := by decide +kernel
theorem dX12_isRight_8 : decode cX12_isRight 8 = .ok (.bipush 12, 2) := by decide +kernel
theorem dX12_isRight_10 : decode cX12_isRight 10 = .ok (.iload_n 1, 1) := by decide +kernel
theorem dX12_isRight_11 : decode cX12_isRight 11 = .ok (.imul, 1) := by decide +kernel
theorem dX12_isRight_12 : decode cX12_isRight 12 = .ok (.aload_n 0, 1) := by decide +kernel
theorem dX12_isRight_13 : decode cX12_isRight 13 = .ok (.getfield 7, 3) := by decide +kernel
theorem dX12_isRight_16 : decode cX12_isRight 16 = .ok (.iload_n 1, 1) := by decide +kernel
theorem dX12_isRight_17 : decode cX12_isRight 17 = .ok (.iaload, 1) := by decide +kernel
theorem dX12_isRight_18 : decode cX12_isRight 18 = .ok (.iadd, 1) := by decide +kernel
theorem dX12_isRight_19 : decode cX12_isRight 19 = .ok (.if_icmp .ge 126, 3) := by decide +kernel
theorem dX12_isRight_22 : decode cX12_isRight 22 = .ok (.iconst 0, 1) := by decide +kernel
theorem dX12_isRight_23 : decode cX12_isRight 23 = .ok (.istore 4, 2) := by decide +kernel
theorem dX12_isRight_25 : decode cX12_isRight 25 = .ok (.bipush 12, 2) := by decide +kernel
theorem dX12_isRight_27 : decode cX12_isRight 27 = .ok (.iload_n 1, 1) := by decide +kernel
theorem dX12_isRight_28 : decode cX12_isRight 28 = .ok (.imul, 1) := by decide +kernel
theorem dX12_isRight_29 : decode cX12_isRight 29 = .ok (.istore 5, 2) := by decide +kernel
theorem dX12_isRight_31 : decode cX12_isRight 31 = .ok (.iload 5, 2) := by decide +kernel
theorem dX12_isRight_33 : decode cX12_isRight 33 = .ok (.bipush 12, 2) := by decide +kernel
theorem dX12_isRight_35 : decode cX12_isRight 35 = .ok (.iload_n 1, 1) := by decide +kernel
theorem dX12_isRight_36 : decode cX12_isRight 36 = .ok (.imul, 1) := by decide +kernel
theorem dX12_isRight_37 : decode cX12_isRight 37 = .ok (.aload_n 0, 1) := by decide +kernel
theorem dX12_isRight_38 : decode cX12_isRight 38 = .ok (.getfield 7, 3) := by decide +kernel
theorem dX12_isRight_41 : decode cX12_isRight 41 = .ok (.iload_n 1, 1) := by decide +kernel
theorem dX12_isRight_42 : decode cX12_isRight 42 = .ok (.iaload, 1) := by decide +kernel
theorem dX12_isRight_43 : decode cX12_isRight 43 = .ok (.iadd, 1) := by decide +kernel
theorem dX12_isRight_44 : decode cX12_isRight 44 = .ok (.if_icmp .ge 54, 3) := by decide +kernel
theorem dX12_isRight_47 : decode cX12_isRight 47 = .ok (.iload 4, 2) := by decide +kernel
theorem dX12_isRight_49 : decode cX12_isRight 49 = .ok (.iload 5, 2) := by decide +kernel
theorem dX12_isRight_51 : decode cX12_isRight 51 = .ok (.iload_n 3, 1) := by decide +kernel
theorem dX12_isRight_52 : decode cX12_isRight 52 = .ok (.if_icmp .eq 36, 3) := by decide +kernel
theorem dX12_isRight_55 : decode cX12_isRight 55 = .ok (.aload_n 0, 1) := by decide +kernel
theorem dX12_isRight_56 : decode cX12_isRight 56 = .ok (.getfield 13, 3) := by decide +kernel
theorem dX12_isRight_59 : decode cX12_isRight 59 = .ok (.iload 5, 2) := by decide +kernel
theorem dX12_isRight_61 : decode cX12_isRight 61 = .ok (.iaload, 1) := by decide +kernel
theorem dX12_isRight_62 : decode cX12_isRight 62 = .ok (.invokestatic 145, 3) := by decide +kernel
theorem dX12_isRight_65 : decode cX12_isRight 65 = .ok (.ifCond .eq 23, 3) := by decide +kernel
theorem dX12_isRight_68 : decode cX12_isRight 68 = .ok (.aload_n 0, 1) := by decide +kernel
theorem dX12_isRight_69 : decode cX12_isRight 69 = .ok (.getfield 19, 3) := by decide +kernel
theorem dX12_isRight_72 : decode cX12_isRight 72 = .ok (.iload 5, 2) := by decide +kernel
theorem dX12_isRight_74 : decode cX12_isRight 74 = .ok (.iaload, 1) := by decide +kernel
theorem dX12_isRight_75 : decode cX12_isRight 75 = .ok (.aload_n 0, 1) := by decide +kernel
theorem dX12_isRight_76 : decode cX12_isRight 76 = .ok (.getfield 19, 3) := by decide +kernel
theorem dX12_isRight_79 : decode cX12_isRight 79 = .ok (.iload_n 3, 1) := by decide +kernel
theorem dX12_isRight_80 : decode cX12_isRight 80 = .ok (.iaload, 1) := by decide +kernel
theorem dX12_isRight_81 : decode cX12_isRight 81 = .ok (.if_icmp .ne 7, 3) := by decide +kernel
theorem dX12_isRight_84 : decode cX12_isRight 84 = .ok (.iconst 1, 1) := by decide +kernel
theorem dX12_isRight_85 : decode cX12_isRight 85 = .ok (.goto 4, 3) := by decide +kernel
theorem dX12_isRight_88 : decode cX12_isRight 88 = .ok (.iconst 0, 1) := by decide +kernel
theorem dX12_isRight_89 : decode cX12_isRight 89 = .ok (.iadd, 1) := by decide +kernel
theorem dX12_isRight_90 : decode cX12_isRight 90 = .ok (.istore 4, 2) := by decide +kernel
theorem dX12_isRight_92 : decode cX12_isRight 92 = .ok (.iinc 5 1, 3) := by decide +kernel
theorem dX12_isRight_95 : decode cX12_isRight 95 = .ok (.goto (-64), 3) := by decide +kernel
theorem dX12_isRight_98 : decode cX12_isRight 98 = .ok (.iload_n 2, 1) := by decide +kernel
theorem dX12_isRight_99 : decode cX12_isRight 99 = .ok (.ifCond .eq 38, 3) := by decide +kernel
theorem dX12_isRight_102 : decode cX12_isRight 102 = .ok (.aload_n 0, 1) := by decide +kernel
theorem dX12_isRight_103 : decode cX12_isRight 103 = .ok (.getfield 13, 3) := by decide +kernel
theorem dX12_isRight_106 : decode cX12_isRight 106 = .ok (.iload_n 3, 1) := by decide +kernel
theorem dX12_isRight_107 : decode cX12_isRight 107 = .ok (.iaload, 1) := by decide +kernel
theorem dX12_isRight_108 : decode cX12_isRight 108 = .ok (.iconst 2, 1) := by decide +kernel
theorem dX12_isRight_109 : decode cX12_isRight 109 = .ok (.if_icmp .ne 8, 3) := by decide +kernel
theorem dX12_isRight_112 : decode cX12_isRight 112 = .ok (.iload 4, 2) := by decide +kernel
theorem dX12_isRight_114 : decode cX12_isRight 114 = .ok (.ifCond .ne 23, 3) := by decide +kernel
theorem dX12_isRight_117 : decode cX12_isRight 117 = .ok (.aload_n 0, 1) := by decide +kernel
theorem dX12_isRight_118 : decode cX12_isRight 118 = .ok (.getfield 13, 3) := by decide +kernel
theorem dX12_isRight_121 : decode cX12_isRight 121 = .ok (.iload_n 3, 1) := by decide +kernel
theorem dX12_isRight_122 : decode cX12_isRight 122 = .ok (.iaload, 1) := by decide +kernel
theorem dX12_isRight_123 : decode cX12_isRight 123 = .ok (.iconst 3, 1) := by decide +kernel
theorem dX12_isRight_124 : decode cX12_isRight 124 = .ok (.if_icmp .ne 9, 3) := by decide +kernel
theorem dX12_isRight_127 : decode cX12_isRight 127 = .ok (.iload 4, 2) := by decide +kernel
theorem dX12_isRight_129 : decode cX12_isRight 129 = .ok (.iconst 1, 1) := by decide +kernel
theorem dX12_isRight_130 : decode cX12_isRight 130 = .ok (.if_icmp .ne 7, 3) := by decide +kernel
theorem dX12_isRight_133 : decode cX12_isRight 133 = .ok (.iconst 1, 1) := by decide +kernel
theorem dX12_isRight_134 : decode cX12_isRight 134 = .ok (.goto 4, 3) := by decide +kernel
theorem dX12_isRight_137 : decode cX12_isRight 137 = .ok (.iconst 0, 1) := by decide +kernel
theorem dX12_isRight_138 : decode cX12_isRight 138 = .ok (.istore_n 2, 1) := by decide +kernel
theorem dX12_isRight_139 : decode cX12_isRight 139 = .ok (.iinc 3 1, 3) := by decide +kernel
theorem dX12_isRight_142 : decode cX12_isRight 142 = .ok (.goto (-135), 3) := by decide +kernel
theorem dX12_isRight_145 : decode cX12_isRight 145 = .ok (.iload_n 2, 1) := by decide +kernel
theorem dX12_isRight_146 : decode cX12_isRight 146 = .ok (.ireturn, 1) := by decide +kernel
def PJ_X12_isRight_117 (d : Nat) (E : zb_E) (x0 : Int) (m : zb_M) (v3_7 : Int) (v4_98 : Int) (X7 : Int → Int → Prop) (Q : Int → Prop)  : Prop :=
  ((m (E.2 x0 1) v3_7) = 3 → (v4_98 = 1 → (zb_inI (v3_7 + 1)) ∧ (X7 1 (v3_7 + 1))) ∧ (¬ v4_98 = 1 → (zb_inI (v3_7 + 1)) ∧ (X7 0 (v3_7 + 1)))) ∧ (¬ (m (E.2 x0 1) v3_7) = 3 → (zb_inI (v3_7 + 1)) ∧ (X7 1 (v3_7 + 1)))
def PJ_X12_isRight_98 (d : Nat) (E : zb_E) (x0 : Int) (m : zb_M) (v2_7 : Int) (v3_7 : Int) (X7 : Int → Int → Prop) (Q : Int → Prop) (v4_98 : Int) : Prop :=
  (v2_7 = 0 → (zb_inI (v3_7 + 1)) ∧ (X7 0 (v3_7 + 1))) ∧ (¬ v2_7 = 0 → (0 ≤ v3_7 ∧ v3_7 < 96) ∧ (((m (E.2 x0 1) v3_7) = 2 → (v4_98 = 0 → PJ_X12_isRight_117 d E x0 m v3_7 v4_98 X7 Q) ∧ (¬ v4_98 = 0 → (zb_inI (v3_7 + 1)) ∧ (X7 0 (v3_7 + 1)))) ∧ (¬ (m (E.2 x0 1) v3_7) = 2 → PJ_X12_isRight_117 d E x0 m v3_7 v4_98 X7 Q)))
def PL_X12_isRight_31 (d : Nat) (E : zb_E) (x0 : Int) (x1 : Int) (m : zb_M) (v3_7 : Int) (Q : Int → Prop) (K98_31 : Int → Prop) (v4_31 : Int) (v5_31 : Int) : Prop :=
  ∀ X31 : Int → Int → Prop, (∀ (v4_31 : Int) (v5_31 : Int), ((((12 * x1) + (m (E.2 x0 0) x1)) ≤ v5_31 → K98_31 v4_31) ∧ (¬ ((12 * x1) + (m (E.2 x0 0) x1)) ≤ v5_31 → (v5_31 = v3_7 → (zb_inI (v4_31 + 0)) ∧ ((zb_inI (v5_31 + 1)) ∧ (X31 (v4_31 + 0) (v5_31 + 1)))) ∧ (¬ v5_31 = v3_7 → (0 ≤ v5_31 ∧ v5_31 < 96) ∧ (zb_Tp K_X12_isNamed d [(0, (m (E.2 x0 1) v5_31))] E m (fun r62 => (r62 = 0 → (zb_inI (v4_31 + 0)) ∧ ((zb_inI (v5_31 + 1)) ∧ (X31 (v4_31 + 0) (v5_31 + 1)))) ∧ (¬ r62 = 0 → (0 ≤ v3_7 ∧ v3_7 < 96) ∧ (((m (E.2 x0 3) v5_31) = (m (E.2 x0 3) v3_7) → (zb_inI (v4_31 + 1)) ∧ ((zb_inI (v5_31 + 1)) ∧ (X31 (v4_31 + 1) (v5_31 + 1)))) ∧ (¬ (m (E.2 x0 3) v5_31) = (m (E.2 x0 3) v3_7) → (zb_inI (v4_31 + 0)) ∧ ((zb_inI (v5_31 + 1)) ∧ (X31 (v4_31 + 0) (v5_31 + 1))))))))))) → X31 v4_31 v5_31) → X31 v4_31 v5_31
def PL_X12_isRight_7 (d : Nat) (E : zb_E) (x0 : Int) (x1 : Int) (m : zb_M) (Q : Int → Prop)  (v2_7 : Int) (v3_7 : Int) : Prop :=
  ∀ X7 : Int → Int → Prop, (∀ (v2_7 : Int) (v3_7 : Int), ((0 ≤ x1 ∧ x1 < 8) ∧ ((zb_inI ((12 * x1) + (m (E.2 x0 0) x1))) ∧ ((((12 * x1) + (m (E.2 x0 0) x1)) ≤ v3_7 → (v2_7 = 0 ∨ v2_7 = 1) ∧ (Q v2_7)) ∧ (¬ ((12 * x1) + (m (E.2 x0 0) x1)) ≤ v3_7 → PL_X12_isRight_31 d E x0 x1 m v3_7 Q (PJ_X12_isRight_98 d E x0 m v2_7 v3_7 X7 Q) 0 (12 * x1))))) → X7 v2_7 v3_7) → X7 v2_7 v3_7
def PM_X12_isRight (d : Nat) (E : zb_E) (x0 : Int) (x1 : Int) (m : zb_M) (Q : Int → Prop) : Prop :=
  (zb_inI (12 * x1)) ∧ (PL_X12_isRight_7 d E x0 x1 m Q 1 (12 * x1))
set_option maxRecDepth 100000 in
set_option maxHeartbeats 4000000 in
theorem w_X12_isRight {d : Nat} {E : zb_E} {x0 x1 : Int} {m : zb_M} {Q : Int → Prop} (h : PM_X12_isRight d E x0 x1 m Q) : zb_Tp K_X12_isRight (d + 1) [(2, x0), (0, x1)] E m Q := by
  unfold PM_X12_isRight at h
  refine zb_T_in gd_X12_isRight rfl rfl (fun hW hA G C hF => ?_)
  have i_0 : zb_is E.1 x0 12 := zb_aH hA (by decide)
  show zb_WP _ _ 0 [(0, (2, x0)), (1, (0, x1))] [] _ _ _ _
  refine zb_iconst dX12_isRight_0 (zb_inIc rfl) ?_
  refine zb_istore_n (L' := [(2, (0, 1)), (0, (2, x0)), (1, (0, x1))]) dX12_isRight_1 rfl (by decide) rfl ?_
  refine zb_bipush dX12_isRight_2 (by decide) (zb_inIc rfl) ?_
  refine zb_iload_n (j := 2) dX12_isRight_4 rfl rfl ?_
  obtain ⟨o1, h⟩ := h
  refine zb_imul dX12_isRight_5 o1 ?_
  refine zb_istore_n (L' := [(3, (0, (12 * x1))), (2, (0, 1)), (0, (2, x0)), (1, (0, x1))]) dX12_isRight_6 rfl (by decide) rfl ?_
  refine zb_sub (L' := [(0, (2, x0)), (1, (0, x1)), (2, (0, 1)), (3, (0, (12 * x1)))]) [2, 3, 1, 0] rfl ?_
  unfold PL_X12_isRight_7 at h
  obtain ⟨X7, hX7⟩ : ∃ X : Int → Int → Prop, ∀ (v2_7 : Int) (v3_7 : Int), (X v2_7 v3_7 ↔ (zb_FIN E m → zb_WP (G, C, d + 1, 0, 0, zb_q E (fun r m' => m' = m ∧ Q r)) F_X12_isRight 7 [(0, (2, x0)), (1, (0, x1)), (2, (0, v2_7)), (3, (0, v3_7))] [] E.1 m 0 0)) := ⟨fun v2_7 v3_7 => zb_FIN E m → zb_WP (G, C, d + 1, 0, 0, zb_q E (fun r m' => m' = m ∧ Q r)) F_X12_isRight 7 [(0, (2, x0)), (1, (0, x1)), (2, (0, v2_7)), (3, (0, v3_7))] [] E.1 m 0 0, fun _ _ => Iff.rfl⟩
  refine (hX7 _ _).mp (h X7 (fun v2_7 v3_7 h => (hX7 _ _).mpr (fun hF => ?_))) hF
  refine zb_iload_n (j := 3) dX12_isRight_7 rfl rfl ?_
  refine zb_bipush dX12_isRight_8 (by decide) (zb_inIc rfl) ?_
  refine zb_iload_n (j := 1) dX12_isRight_10 rfl rfl ?_
  refine zb_imul dX12_isRight_11 o1 ?_
  refine zb_aload_n (j := 0) dX12_isRight_12 rfl rfl ?_
  refine zb_gFa 0 dX12_isRight_13 fl_X12_7 i_0 hW hF rfl rfl rfl (by decide) rfl 8 rfl (fun i2 l3 => ?_)
  refine zb_iload_n (j := 1) dX12_isRight_16 rfl rfl ?_
  obtain ⟨o4, h⟩ := h
  refine zb_lI dX12_isRight_17 i2 l3 o4.1 o4.2 ?_
  obtain ⟨o5, h⟩ := h
  refine zb_iadd dX12_isRight_18 o5 ?_
  refine zb_icmp_ge (tgt := 145) dX12_isRight_19 (by decide) (fun c6 => ?_) (fun c6 => ?_)
  · have h := h.1 c6
    refine zb_iload_n (j := 2) dX12_isRight_145 rfl rfl ?_
    obtain ⟨o7, h⟩ := h
    exact zb_rZ dX12_isRight_146 rfl hF o7 ⟨rfl, h⟩
  · have h := h.2 c6
    refine zb_iconst dX12_isRight_22 (zb_inIc rfl) ?_
    refine zb_istore (L' := [(4, (0, 0)), (0, (2, x0)), (1, (0, x1)), (2, (0, v2_7)), (3, (0, v3_7))]) dX12_isRight_23 (by decide) rfl ?_
    refine zb_bipush dX12_isRight_25 (by decide) (zb_inIc rfl) ?_
    refine zb_iload_n (j := 2) dX12_isRight_27 rfl rfl ?_
    refine zb_imul dX12_isRight_28 o1 ?_
    refine zb_istore (L' := [(5, (0, (12 * x1))), (4, (0, 0)), (0, (2, x0)), (1, (0, x1)), (2, (0, v2_7)), (3, (0, v3_7))]) dX12_isRight_29 (by decide) rfl ?_
    refine zb_sub (L' := [(0, (2, x0)), (1, (0, x1)), (2, (0, v2_7)), (3, (0, v3_7)), (4, (0, 0)), (5, (0, (12 * x1)))]) [2, 3, 4, 5, 1, 0] rfl ?_
    have hJ98 : ∀ (v4_98 : Int), zb_FIN E m → PJ_X12_isRight_98 d E x0 m v2_7 v3_7 X7 Q v4_98 → zb_WP (G, C, d + 1, 0, 0, zb_q E (fun r m' => m' = m ∧ Q r)) F_X12_isRight 98 [(0, (2, x0)), (1, (0, x1)), (2, (0, v2_7)), (3, (0, v3_7)), (4, (0, v4_98))] [] E.1 m 0 0 := by
      intro v4_98 hF h
      unfold PJ_X12_isRight_98 at h
      refine zb_iload_n (j := 2) dX12_isRight_98 rfl rfl ?_
      refine zb_if_eq (tgt := 137) dX12_isRight_99 (by decide) (fun c8 => ?_) (fun c8 => ?_)
      · have h := h.1 c8
        refine zb_iconst dX12_isRight_137 (zb_inIc rfl) ?_
        refine zb_istore_n (L' := [(2, (0, 0)), (0, (2, x0)), (1, (0, x1)), (3, (0, v3_7)), (4, (0, v4_98))]) dX12_isRight_138 rfl (by decide) rfl ?_
        obtain ⟨o9, h⟩ := h
        refine zb_iinc (j := 3) (L' := [(3, (0, (v3_7 + 1))), (2, (0, 0)), (0, (2, x0)), (1, (0, x1)), (4, (0, v4_98))]) dX12_isRight_139 rfl o9 (by decide) rfl ?_
        refine zb_goto (tgt := 7) dX12_isRight_142 (by decide) ?_
        refine zb_sub (L' := [(0, (2, x0)), (1, (0, x1)), (2, (0, 0)), (3, (0, (v3_7 + 1)))]) [2, 3, 1, 0] rfl ?_
        exact (hX7 _ _).mp h hF
      · have h := h.2 c8
        refine zb_aload_n (j := 0) dX12_isRight_102 rfl rfl ?_
        refine zb_gFa 1 dX12_isRight_103 fl_X12_13 i_0 hW hF rfl rfl rfl (by decide) rfl 96 rfl (fun i10 l11 => ?_)
        refine zb_iload_n (j := 3) dX12_isRight_106 rfl rfl ?_
        obtain ⟨o12, h⟩ := h
        refine zb_lI dX12_isRight_107 i10 l11 o12.1 o12.2 ?_
        refine zb_iconst dX12_isRight_108 (zb_inIc rfl) ?_
        have hJ117 : zb_FIN E m → PJ_X12_isRight_117 d E x0 m v3_7 v4_98 X7 Q  → zb_WP (G, C, d + 1, 0, 0, zb_q E (fun r m' => m' = m ∧ Q r)) F_X12_isRight 117 [(0, (2, x0)), (1, (0, x1)), (3, (0, v3_7)), (4, (0, v4_98))] [] E.1 m 0 0 := by
          intro  hF h
          unfold PJ_X12_isRight_117 at h
          refine zb_aload_n (j := 0) dX12_isRight_117 rfl rfl ?_
          refine zb_gFa 1 dX12_isRight_118 fl_X12_13 i_0 hW hF rfl rfl rfl (by decide) rfl 96 rfl (fun i13 l14 => ?_)
          refine zb_iload_n (j := 2) dX12_isRight_121 rfl rfl ?_
          refine zb_lI dX12_isRight_122 i13 l14 o12.1 o12.2 ?_
          refine zb_iconst dX12_isRight_123 (zb_inIc rfl) ?_
          refine zb_icmp_ne (tgt := 133) dX12_isRight_124 (by decide) (fun c15 => ?_) (fun c15 => ?_)
          · have h := h.2 c15
            refine zb_iconst dX12_isRight_133 (zb_inIc rfl) ?_
            refine zb_goto (tgt := 138) dX12_isRight_134 (by decide) ?_
            refine zb_istore_n (L' := [(2, (0, 1)), (0, (2, x0)), (1, (0, x1)), (3, (0, v3_7)), (4, (0, v4_98))]) dX12_isRight_138 rfl (by decide) rfl ?_
            obtain ⟨o16, h⟩ := h
            refine zb_iinc (j := 3) (L' := [(3, (0, (v3_7 + 1))), (2, (0, 1)), (0, (2, x0)), (1, (0, x1)), (4, (0, v4_98))]) dX12_isRight_139 rfl o16 (by decide) rfl ?_
            refine zb_goto (tgt := 7) dX12_isRight_142 (by decide) ?_
            refine zb_sub (L' := [(0, (2, x0)), (1, (0, x1)), (2, (0, 1)), (3, (0, (v3_7 + 1)))]) [2, 3, 1, 0] rfl ?_
            exact (hX7 _ _).mp h hF
          · have h := h.1 c15
            refine zb_iload (j := 3) dX12_isRight_127 rfl ?_
            refine zb_iconst dX12_isRight_129 (zb_inIc rfl) ?_
            refine zb_icmp_ne (tgt := 137) dX12_isRight_130 (by decide) (fun c17 => ?_) (fun c17 => ?_)
            · have h := h.2 c17
              refine zb_iconst dX12_isRight_137 (zb_inIc rfl) ?_
              refine zb_istore_n (L' := [(2, (0, 0)), (0, (2, x0)), (1, (0, x1)), (3, (0, v3_7)), (4, (0, v4_98))]) dX12_isRight_138 rfl (by decide) rfl ?_
              obtain ⟨o18, h⟩ := h
              refine zb_iinc (j := 3) (L' := [(3, (0, (v3_7 + 1))), (2, (0, 0)), (0, (2, x0)), (1, (0, x1)), (4, (0, v4_98))]) dX12_isRight_139 rfl o18 (by decide) rfl ?_
              refine zb_goto (tgt := 7) dX12_isRight_142 (by decide) ?_
              refine zb_sub (L' := [(0, (2, x0)), (1, (0, x1)), (2, (0, 0)), (3, (0, (v3_7 + 1)))]) [2, 3, 1, 0] rfl ?_
              exact (hX7 _ _).mp h hF
            · have h := h.1 c17
              refine zb_iconst dX12_isRight_133 (zb_inIc rfl) ?_
              refine zb_goto (tgt := 138) dX12_isRight_134 (by decide) ?_
              refine zb_istore_n (L' := [(2, (0, 1)), (0, (2, x0)), (1, (0, x1)), (3, (0, v3_7)), (4, (0, v4_98))]) dX12_isRight_138 rfl (by decide) rfl ?_
              obtain ⟨o19, h⟩ := h
              refine zb_iinc (j := 3) (L' := [(3, (0, (v3_7 + 1))), (2, (0, 1)), (0, (2, x0)), (1, (0, x1)), (4, (0, v4_98))]) dX12_isRight_139 rfl o19 (by decide) rfl ?_
              refine zb_goto (tgt := 7) dX12_isRight_142 (by decide) ?_
              refine zb_sub (L' := [(0, (2, x0)), (1, (0, x1)), (2, (0, 1)), (3, (0, (v3_7 + 1)))]) [2, 3, 1, 0] rfl ?_
              exact (hX7 _ _).mp h hF
        refine zb_icmp_ne (tgt := 117) dX12_isRight_109 (by decide) (fun c20 => ?_) (fun c20 => ?_)
        · have h := h.2 c20
          refine zb_sub (L' := [(0, (2, x0)), (1, (0, x1)), (3, (0, v3_7)), (4, (0, v4_98))]) [0, 1, 3, 4] rfl ?_
          exact hJ117 hF h
        · have h := h.1 c20
          refine zb_iload (j := 4) dX12_isRight_112 rfl ?_
          refine zb_if_ne (tgt := 137) dX12_isRight_114 (by decide) (fun c21 => ?_) (fun c21 => ?_)
          · have h := h.2 c21
            refine zb_iconst dX12_isRight_137 (zb_inIc rfl) ?_
            refine zb_istore_n (L' := [(2, (0, 0)), (0, (2, x0)), (1, (0, x1)), (3, (0, v3_7)), (4, (0, v4_98))]) dX12_isRight_138 rfl (by decide) rfl ?_
            obtain ⟨o22, h⟩ := h
            refine zb_iinc (j := 3) (L' := [(3, (0, (v3_7 + 1))), (2, (0, 0)), (0, (2, x0)), (1, (0, x1)), (4, (0, v4_98))]) dX12_isRight_139 rfl o22 (by decide) rfl ?_
            refine zb_goto (tgt := 7) dX12_isRight_142 (by decide) ?_
            refine zb_sub (L' := [(0, (2, x0)), (1, (0, x1)), (2, (0, 0)), (3, (0, (v3_7 + 1)))]) [2, 3, 1, 0] rfl ?_
            exact (hX7 _ _).mp h hF
          · have h := h.1 c21
            refine zb_sub (L' := [(0, (2, x0)), (1, (0, x1)), (3, (0, v3_7)), (4, (0, v4_98))]) [0, 1, 3, 4] rfl ?_
            exact hJ117 hF h
    unfold PL_X12_isRight_31 at h
    obtain ⟨X31, hX31⟩ : ∃ X : Int → Int → Prop, ∀ (v4_31 : Int) (v5_31 : Int), (X v4_31 v5_31 ↔ (zb_FIN E m → zb_WP (G, C, d + 1, 0, 0, zb_q E (fun r m' => m' = m ∧ Q r)) F_X12_isRight 31 [(0, (2, x0)), (1, (0, x1)), (2, (0, v2_7)), (3, (0, v3_7)), (4, (0, v4_31)), (5, (0, v5_31))] [] E.1 m 0 0)) := ⟨fun v4_31 v5_31 => zb_FIN E m → zb_WP (G, C, d + 1, 0, 0, zb_q E (fun r m' => m' = m ∧ Q r)) F_X12_isRight 31 [(0, (2, x0)), (1, (0, x1)), (2, (0, v2_7)), (3, (0, v3_7)), (4, (0, v4_31)), (5, (0, v5_31))] [] E.1 m 0 0, fun _ _ => Iff.rfl⟩
    refine (hX31 _ _).mp (h X31 (fun v4_31 v5_31 h => (hX31 _ _).mpr (fun hF => ?_))) hF
    refine zb_iload (j := 5) dX12_isRight_31 rfl ?_
    refine zb_bipush dX12_isRight_33 (by decide) (zb_inIc rfl) ?_
    refine zb_iload_n (j := 1) dX12_isRight_35 rfl rfl ?_
    refine zb_imul dX12_isRight_36 o1 ?_
    refine zb_aload_n (j := 0) dX12_isRight_37 rfl rfl ?_
    refine zb_gFa 0 dX12_isRight_38 fl_X12_7 i_0 hW hF rfl rfl rfl (by decide) rfl 8 rfl (fun i23 l24 => ?_)
    refine zb_iload_n (j := 1) dX12_isRight_41 rfl rfl ?_
    refine zb_lI dX12_isRight_42 i23 l24 o4.1 o4.2 ?_
    refine zb_iadd dX12_isRight_43 o5 ?_
    refine zb_icmp_ge (tgt := 98) dX12_isRight_44 (by decide) (fun c25 => ?_) (fun c25 => ?_)
    · have h := h.1 c25
      refine zb_sub (L' := [(0, (2, x0)), (1, (0, x1)), (2, (0, v2_7)), (3, (0, v3_7)), (4, (0, v4_31))]) [0, 1, 2, 3, 4] rfl ?_
      exact hJ98 _ hF h
    · have h := h.2 c25
      refine zb_iload (j := 4) dX12_isRight_47 rfl ?_
      refine zb_iload (j := 5) dX12_isRight_49 rfl ?_
      refine zb_iload_n (j := 3) dX12_isRight_51 rfl rfl ?_
      refine zb_icmp_eq (tgt := 88) dX12_isRight_52 (by decide) (fun c26 => ?_) (fun c26 => ?_)
      · have h := h.1 c26
        refine zb_iconst dX12_isRight_88 (zb_inIc rfl) ?_
        obtain ⟨o27, h⟩ := h
        refine zb_iadd dX12_isRight_89 o27 ?_
        refine zb_istore (L' := [(4, (0, (v4_31 + 0))), (0, (2, x0)), (1, (0, x1)), (2, (0, v2_7)), (3, (0, v3_7)), (5, (0, v5_31))]) dX12_isRight_90 (by decide) rfl ?_
        obtain ⟨o28, h⟩ := h
        refine zb_iinc (j := 5) (L' := [(5, (0, (v5_31 + 1))), (4, (0, (v4_31 + 0))), (0, (2, x0)), (1, (0, x1)), (2, (0, v2_7)), (3, (0, v3_7))]) dX12_isRight_92 rfl o28 (by decide) rfl ?_
        refine zb_goto (tgt := 31) dX12_isRight_95 (by decide) ?_
        refine zb_sub (L' := [(0, (2, x0)), (1, (0, x1)), (2, (0, v2_7)), (3, (0, v3_7)), (4, (0, (v4_31 + 0))), (5, (0, (v5_31 + 1)))]) [2, 3, 4, 5, 1, 0] rfl ?_
        exact (hX31 _ _).mp h hF
      · have h := h.2 c26
        refine zb_aload_n (j := 0) dX12_isRight_55 rfl rfl ?_
        refine zb_gFa 1 dX12_isRight_56 fl_X12_13 i_0 hW hF rfl rfl rfl (by decide) rfl 96 rfl (fun i29 l30 => ?_)
        refine zb_iload (j := 5) dX12_isRight_59 rfl ?_
        obtain ⟨o31, h⟩ := h
        refine zb_lI dX12_isRight_61 i29 l30 o31.1 o31.2 ?_
        refine zb_cSp (As := [(0, (m (E.2 x0 1) v5_31))]) (As' := [(0, (m (E.2 x0 1) v5_31))]) (st := [(0, v4_31)]) dX12_isRight_62 lk_X12_145 gd_X12_isNamed rfl rfl h hW hF (zb_aI zb_a0) (Nat.le_refl _) (Nat.le_of_ble_eq_true rfl) (fun r62 h => ?_)
        show zb_WP _ _ _ _ [(0, r62), (0, v4_31)] _ _ _ _
        refine zb_if_eq (tgt := 88) dX12_isRight_65 (by decide) (fun c32 => ?_) (fun c32 => ?_)
        · have h := h.1 c32
          refine zb_iconst dX12_isRight_88 (zb_inIc rfl) ?_
          obtain ⟨o33, h⟩ := h
          refine zb_iadd dX12_isRight_89 o33 ?_
          refine zb_istore (L' := [(4, (0, (v4_31 + 0))), (0, (2, x0)), (1, (0, x1)), (2, (0, v2_7)), (3, (0, v3_7)), (5, (0, v5_31))]) dX12_isRight_90 (by decide) rfl ?_
          obtain ⟨o34, h⟩ := h
          refine zb_iinc (j := 5) (L' := [(5, (0, (v5_31 + 1))), (4, (0, (v4_31 + 0))), (0, (2, x0)), (1, (0, x1)), (2, (0, v2_7)), (3, (0, v3_7))]) dX12_isRight_92 rfl o34 (by decide) rfl ?_
          refine zb_goto (tgt := 31) dX12_isRight_95 (by decide) ?_
          refine zb_sub (L' := [(0, (2, x0)), (1, (0, x1)), (2, (0, v2_7)), (3, (0, v3_7)), (4, (0, (v4_31 + 0))), (5, (0, (v5_31 + 1)))]) [2, 3, 4, 5, 1, 0] rfl ?_
          exact (hX31 _ _).mp h hF
        · have h := h.2 c32
          refine zb_aload_n (j := 0) dX12_isRight_68 rfl rfl ?_
          refine zb_gFa 3 dX12_isRight_69 fl_X12_19 i_0 hW hF rfl rfl rfl (by decide) rfl 96 rfl (fun i35 l36 => ?_)
          refine zb_iload (j := 5) dX12_isRight_72 rfl ?_
          refine zb_lI dX12_isRight_74 i35 l36 o31.1 o31.2 ?_
          refine zb_aload_n (j := 0) dX12_isRight_75 rfl rfl ?_
          refine zb_gFa 3 dX12_isRight_76 fl_X12_19 i_0 hW hF rfl rfl rfl (by decide) rfl 96 rfl (fun i37 l38 => ?_)
          refine zb_iload_n (j := 3) dX12_isRight_79 rfl rfl ?_
          obtain ⟨o39, h⟩ := h
          refine zb_lI dX12_isRight_80 i37 l38 o39.1 o39.2 ?_
          refine zb_icmp_ne (tgt := 88) dX12_isRight_81 (by decide) (fun c40 => ?_) (fun c40 => ?_)
          · have h := h.2 c40
            refine zb_iconst dX12_isRight_88 (zb_inIc rfl) ?_
            obtain ⟨o41, h⟩ := h
            refine zb_iadd dX12_isRight_89 o41 ?_
            refine zb_istore (L' := [(4, (0, (v4_31 + 0))), (0, (2, x0)), (1, (0, x1)), (2, (0, v2_7)), (3, (0, v3_7)), (5, (0, v5_31))]) dX12_isRight_90 (by decide) rfl ?_
            obtain ⟨o42, h⟩ := h
            refine zb_iinc (j := 5) (L' := [(5, (0, (v5_31 + 1))), (4, (0, (v4_31 + 0))), (0, (2, x0)), (1, (0, x1)), (2, (0, v2_7)), (3, (0, v3_7))]) dX12_isRight_92 rfl o42 (by decide) rfl ?_
            refine zb_goto (tgt := 31) dX12_isRight_95 (by decide) ?_
            refine zb_sub (L' := [(0, (2, x0)), (1, (0, x1)), (2, (0, v2_7)), (3, (0, v3_7)), (4, (0, (v4_31 + 0))), (5, (0, (v5_31 + 1)))]) [2, 3, 4, 5, 1, 0] rfl ?_
            exact (hX31 _ _).mp h hF
          · have h := h.1 c40
            refine zb_iconst dX12_isRight_84 (zb_inIc rfl) ?_
            refine zb_goto (tgt := 89) dX12_isRight_85 (by decide) ?_
            obtain ⟨o43, h⟩ := h
            refine zb_iadd dX12_isRight_89 o43 ?_
            refine zb_istore (L' := [(4, (0, (v4_31 + 1))), (0, (2, x0)), (1, (0, x1)), (2, (0, v2_7)), (3, (0, v3_7)), (5, (0, v5_31))]) dX12_isRight_90 (by decide) rfl ?_
            obtain ⟨o44, h⟩ := h
            refine zb_iinc (j := 5) (L' := [(5, (0, (v5_31 + 1))), (4, (0, (v4_31 + 1))), (0, (2, x0)), (1, (0, x1)), (2, (0, v2_7)), (3, (0, v3_7))]) dX12_isRight_92 rfl o44 (by decide) rfl ?_
            refine zb_goto (tgt := 31) dX12_isRight_95 (by decide) ?_
            refine zb_sub (L' := [(0, (2, x0)), (1, (0, x1)), (2, (0, v2_7)), (3, (0, v3_7)), (4, (0, (v4_31 + 1))), (5, (0, (v5_31 + 1)))]) [2, 3, 4, 5, 1, 0] rfl ?_
            exact (hX31 _ _).mp h hF
