/-! ===== SameBenchModel: instructions and walks (laid by gen/layout.py) ===== -/
theorem dX12_in_0 : decode cX12_in 0 = .ok (.iload_n 0, 1) := by decide +kernel
theorem dX12_in_1 : decode cX12_in 1 = .ok (.iload_n 1, 1) := by decide +kernel
theorem dX12_in_2 : decode cX12_in 2 = .ok (.if_icmp .lt 12, 3) := by decide +kernel
theorem dX12_in_5 : decode cX12_in 5 = .ok (.iload_n 0, 1) := by decide +kernel
theorem dX12_in_6 : decode cX12_in 6 = .ok (.iload_n 2, 1) := by decide +kernel
theorem dX12_in_7 : decode cX12_in 7 = .ok (.if_icmp .gt 7, 3) := by decide +kernel
theorem dX12_in_10 : decode cX12_in 10 = .ok (.iconst 1, 1) := by decide +kernel
theorem dX12_in_11 : decode cX12_in 11 = .ok (.goto 4, 3) := by decide +kernel
theorem dX12_in_14 : decode cX12_in 14 = .ok (.iconst 0, 1) := by decide +kernel
theorem dX12_in_15 : decode cX12_in 15 = .ok (.ireturn, 1) := by decide +kernel
def PM_X12_in (d : Nat) (E : zb_E) (x0 : Int) (x1 : Int) (x2 : Int) (m : zb_M) (Q : Int → Prop) : Prop :=
  (x0 < x1 → Q 0) ∧ (¬ x0 < x1 → (x2 < x0 → Q 0) ∧ (¬ x2 < x0 → Q 1))
set_option maxRecDepth 100000 in
set_option maxHeartbeats 4000000 in
theorem w_X12_in {d : Nat} {E : zb_E} {x0 x1 x2 : Int} {m : zb_M} {Q : Int → Prop} (h : PM_X12_in d E x0 x1 x2 m Q) : zb_Tp K_X12_in (d + 1) [(0, x0), (0, x1), (0, x2)] E m Q := by
  unfold PM_X12_in at h
  refine zb_T_in gd_X12_in rfl rfl (fun hW hA G C hF => ?_)
  show zb_WP _ _ 0 [(0, (0, x0)), (1, (0, x1)), (2, (0, x2))] [] _ _ _ _
  refine zb_iload_n (j := 0) dX12_in_0 rfl rfl ?_
  refine zb_iload_n (j := 1) dX12_in_1 rfl rfl ?_
  refine zb_icmp_lt (tgt := 14) dX12_in_2 (by decide) (fun c1 => ?_) (fun c1 => ?_)
  · have h := h.1 c1
    refine zb_iconst dX12_in_14 (zb_inIc rfl) ?_
    exact zb_rZ dX12_in_15 rfl hF (by decide) ⟨rfl, h⟩
  · have h := h.2 c1
    refine zb_iload_n (j := 0) dX12_in_5 rfl rfl ?_
    refine zb_iload_n (j := 2) dX12_in_6 rfl rfl ?_
    refine zb_icmp_gt (tgt := 14) dX12_in_7 (by decide) (fun c2 => ?_) (fun c2 => ?_)
    · have h := h.1 c2
      refine zb_iconst dX12_in_14 (zb_inIc rfl) ?_
      exact zb_rZ dX12_in_15 rfl hF (by decide) ⟨rfl, h⟩
    · have h := h.2 c2
      refine zb_iconst dX12_in_10 (zb_inIc rfl) ?_
      refine zb_goto (tgt := 15) dX12_in_11 (by decide) ?_
      exact zb_rZ dX12_in_15 rfl hF (by decide) ⟨rfl, h⟩
theorem dX12_isGraph_0 : decode cX12_isGraph 0 = .ok (.iload_n 1, 1) := by decide +kernel
theorem dX12_isGraph_1 : decode cX12_isGraph 1 = .ok (.iconst 0, 1) := by decide +kernel
theorem dX12_isGraph_2 : decode cX12_isGraph 2 = .ok (.bipush 7, 2) := by decide +kernel
theorem dX12_isGraph_4 : decode cX12_isGraph 4 = .ok (.invokestatic 133, 3) := by decide +kernel
theorem dX12_isGraph_7 : decode cX12_isGraph 7 = .ok (.ireturn, 1) := by decide +kernel
def PM_X12_isGraph (d : Nat) (E : zb_E) (x0 : Int) (x1 : Int) (m : zb_M) (Q : Int → Prop) : Prop :=
  zb_Tp K_X12_in d [(0, x1), (0, 0), (0, 7)] E m (fun r4 => (r4 = 0 ∨ r4 = 1) ∧ (Q r4))
set_option maxRecDepth 100000 in
set_option maxHeartbeats 4000000 in
theorem w_X12_isGraph {d : Nat} {E : zb_E} {x0 x1 : Int} {m : zb_M} {Q : Int → Prop} (h : PM_X12_isGraph d E x0 x1 m Q) : zb_Tp K_X12_isGraph (d + 1) [(2, x0), (0, x1)] E m Q := by
  unfold PM_X12_isGraph at h
  refine zb_T_in gd_X12_isGraph rfl rfl (fun hW hA G C hF => ?_)
  have i_0 : zb_is E.1 x0 12 := zb_aH hA (by decide)
  show zb_WP _ _ 0 [(0, (2, x0)), (1, (0, x1))] [] _ _ _ _
  refine zb_iload_n (j := 1) dX12_isGraph_0 rfl rfl ?_
  refine zb_iconst dX12_isGraph_1 (zb_inIc rfl) ?_
  refine zb_bipush dX12_isGraph_2 (by decide) (zb_inIc rfl) ?_
  refine zb_cSp (As := [(0, x1), (0, 0), (0, 7)]) (As' := [(0, 7), (0, 0), (0, x1)]) (st := []) dX12_isGraph_4 lk_X12_133 gd_X12_in rfl rfl h hW hF (zb_aI (zb_aI (zb_aI zb_a0))) (Nat.le_refl _) (Nat.le_of_ble_eq_true rfl) (fun r4 h => ?_)
  show zb_WP _ _ _ _ [(0, r4)] _ _ _ _
  obtain ⟨o1, h⟩ := h
  exact zb_rZ dX12_isGraph_7 rfl hF o1 ⟨rfl, h⟩
theorem dX12_isThing_0 : decode cX12_isThing 0 = .ok (.aload_n 0, 1) := by decide +kernel
theorem dX12_isThing_1 : decode cX12_isThing 1 = .ok (.iload_n 1, 1) := by decide +kernel
theorem dX12_isThing_2 : decode cX12_isThing 2 = .ok (.invokevirtual 137, 3) := by decide +kernel
theorem dX12_isThing_5 : decode cX12_isThing 5 = .ok (.ifCond .eq 23, 3) := by decide +kernel
theorem dX12_isThing_8 : decode cX12_isThing 8 = .ok (.iload_n 2, 1) := by decide +kernel
theorem dX12_isThing_9 : decode cX12_isThing 9 = .ok (.iconst 0, 1) := by decide +kernel
theorem dX12_isThing_10 : decode cX12_isThing 10 = .ok (.aload_n 0, 1) := by decide +kernel
theorem dX12_isThing_11 : decode cX12_isThing 11 = .ok (.getfield 7, 3) := by decide +kernel
theorem dX12_isThing_14 : decode cX12_isThing 14 = .ok (.iload_n 1, 1) := by decide +kernel
theorem dX12_isThing_15 : decode cX12_isThing 15 = .ok (.iaload, 1) := by decide +kernel
theorem dX12_isThing_16 : decode cX12_isThing 16 = .ok (.iconst 1, 1) := by decide +kernel
theorem dX12_isThing_17 : decode cX12_isThing 17 = .ok (.isub, 1) := by decide +kernel
theorem dX12_isThing_18 : decode cX12_isThing 18 = .ok (.invokestatic 133, 3) := by decide +kernel
theorem dX12_isThing_21 : decode cX12_isThing 21 = .ok (.ifCond .eq 7, 3) := by decide +kernel
theorem dX12_isThing_24 : decode cX12_isThing 24 = .ok (.iconst 1, 1) := by decide +kernel
theorem dX12_isThing_25 : decode cX12_isThing 25 = .ok (.goto 4, 3) := by decide +kernel
theorem dX12_isThing_28 : decode cX12_isThing 28 = .ok (.iconst 0, 1) := by decide +kernel
theorem dX12_isThing_29 : decode cX12_isThing 29 = .ok (.ireturn, 1) := by decide +kernel
def PM_X12_isThing (d : Nat) (E : zb_E) (x0 : Int) (x1 : Int) (x2 : Int) (m : zb_M) (Q : Int → Prop) : Prop :=
  zb_Tp K_X12_isGraph d [(2, x0), (0, x1)] E m (fun r2 => (r2 = 0 → Q 0) ∧ (¬ r2 = 0 → (0 ≤ x1 ∧ x1 < 8) ∧ ((zb_inI ((m (E.2 x0 0) x1) - 1)) ∧ (zb_Tp K_X12_in d [(0, x2), (0, 0), (0, ((m (E.2 x0 0) x1) - 1))] E m (fun r18 => (r18 = 0 → Q 0) ∧ (¬ r18 = 0 → Q 1))))))
set_option maxRecDepth 100000 in
set_option maxHeartbeats 4000000 in
theorem w_X12_isThing {d : Nat} {E : zb_E} {x0 x1 x2 : Int} {m : zb_M} {Q : Int → Prop} (h : PM_X12_isThing d E x0 x1 x2 m Q) : zb_Tp K_X12_isThing (d + 1) [(2, x0), (0, x1), (0, x2)] E m Q := by
  unfold PM_X12_isThing at h
  refine zb_T_in gd_X12_isThing rfl rfl (fun hW hA G C hF => ?_)
  have i_0 : zb_is E.1 x0 12 := zb_aH hA (by decide)
  show zb_WP _ _ 0 [(0, (2, x0)), (1, (0, x1)), (2, (0, x2))] [] _ _ _ _
  refine zb_aload_n (j := 0) dX12_isThing_0 rfl rfl ?_
  refine zb_iload_n (j := 1) dX12_isThing_1 rfl rfl ?_
  refine zb_cVp (As := [(0, x1)]) (As' := [(0, x1)]) (st := []) dX12_isThing_2 lk_X12_137 gd_X12_isGraph rfl rfl i_0 ⟨_, rfl, rfl⟩ h hW hF (zb_aR i_0 (zb_aI zb_a0)) (Nat.le_refl _) (Nat.le_of_ble_eq_true rfl) (fun r2 h => ?_)
  show zb_WP _ _ _ _ [(0, r2)] _ _ _ _
  refine zb_if_eq (tgt := 28) dX12_isThing_5 (by decide) (fun c1 => ?_) (fun c1 => ?_)
  · have h := h.1 c1
    refine zb_iconst dX12_isThing_28 (zb_inIc rfl) ?_
    exact zb_rZ dX12_isThing_29 rfl hF (by decide) ⟨rfl, h⟩
  · have h := h.2 c1
    refine zb_iload_n (j := 2) dX12_isThing_8 rfl rfl ?_
    refine zb_iconst dX12_isThing_9 (zb_inIc rfl) ?_
    refine zb_aload_n (j := 0) dX12_isThing_10 rfl rfl ?_
    refine zb_gFa 0 dX12_isThing_11 fl_X12_7 i_0 hW hF rfl rfl rfl (by decide) rfl 8 rfl (fun i2 l3 => ?_)
    refine zb_iload_n (j := 1) dX12_isThing_14 rfl rfl ?_
    obtain ⟨o4, h⟩ := h
    refine zb_lI dX12_isThing_15 i2 l3 o4.1 o4.2 ?_
    refine zb_iconst dX12_isThing_16 (zb_inIc rfl) ?_
    obtain ⟨o5, h⟩ := h
    refine zb_isub dX12_isThing_17 o5 ?_
    refine zb_cSp (As := [(0, x2), (0, 0), (0, ((m (E.2 x0 0) x1) - 1))]) (As' := [(0, ((m (E.2 x0 0) x1) - 1)), (0, 0), (0, x2)]) (st := []) dX12_isThing_18 lk_X12_133 gd_X12_in rfl rfl h hW hF (zb_aI (zb_aI (zb_aI zb_a0))) (Nat.le_refl _) (Nat.le_of_ble_eq_true rfl) (fun r18 h => ?_)
    show zb_WP _ _ _ _ [(0, r18)] _ _ _ _
    refine zb_if_eq (tgt := 28) dX12_isThing_21 (by decide) (fun c6 => ?_) (fun c6 => ?_)
    · have h := h.1 c6
      refine zb_iconst dX12_isThing_28 (zb_inIc rfl) ?_
      exact zb_rZ dX12_isThing_29 rfl hF (by decide) ⟨rfl, h⟩
    · have h := h.2 c6
      refine zb_iconst dX12_isThing_24 (zb_inIc rfl) ?_
      refine zb_goto (tgt := 29) dX12_isThing_25 (by decide) ?_
      exact zb_rZ dX12_isThing_29 rfl hF (by decide) ⟨rfl, h⟩
theorem dX12_note_0 : decode cX12_note 0 = .ok (.aload_n 0, 1) := by decide +kernel
theorem dX12_note_1 : decode cX12_note 1 = .ok (.getfield 141, 3) := by decide +kernel
theorem dX12_note_4 : decode cX12_note 4 = .ok (.bipush 20, 2) := by decide +kernel
theorem dX12_note_6 : decode cX12_note 6 = .ok (.if_icmp .ne 164, 3) := by decide +kernel
theorem dX12_note_9 : decode cX12_note 9 = .ok (.iconst 1, 1) := by decide +kernel
theorem dX12_note_10 : decode cX12_note 10 = .ok (.istore_n 2, 1) := by decide +kernel
theorem dX12_note_11 : decode cX12_note 11 = .ok (.iload_n 2, 1) := by decide +kernel
theorem dX12_note_12 : decode cX12_note 12 = .ok (.bipush 20, 2) := by decide +kernel
theorem dX12_note_14 : decode cX12_note 14 = .ok (.if_icmp .ge 37, 3) := by decide +kernel
theorem dX12_note_17 : decode cX12_note 17 = .ok (.aload_n 0, 1) := by decide +kernel
theorem dX12_note_18 : decode cX12_note 18 = .ok (.getfield 28, 3) := by decide +kernel
theorem dX12_note_21 : decode cX12_note 21 = .ok (.iload_n 2, 1) := by decide +kernel
theorem dX12_note_22 : decode cX12_note 22 = .ok (.iconst 1, 1) := by decide +kernel
theorem dX12_note_23 : decode cX12_note 23 = .ok (.isub, 1) := by decide +kernel
theorem dX12_note_24 : decode cX12_note 24 = .ok (.aload_n 0, 1) := by decide +kernel
theorem dX12_note_25 : decode cX12_note 25 = .ok (.getfield 28, 3) := by decide +kernel
theorem dX12_note_28 : decode cX12_note 28 = .ok (.iload_n 2, 1) := by decide +kernel
theorem dX12_note_29 : decode cX12_note 29 = .ok (.iaload, 1) := by decide +kernel
theorem dX12_note_30 : decode cX12_note 30 = .ok (.iastore, 1) := by decide +kernel
theorem dX12_note_31 : decode cX12_note 31 = .ok (.aload_n 0, 1) := by decide +kernel
theorem dX12_note_32 : decode cX12_note 32 = .ok (.getfield 31, 3) := by decide +kernel
theorem dX12_note_35 : decode cX12_note 35 = .ok (.iload_n 2, 1) := by decide +kernel
theorem dX12_note_36 : decode cX12_note 36 = .ok (.iconst 1, 1) := by decide +kernel
theorem dX12_note_37 : decode cX12_note 37 = .ok (.isub, 1) := by decide +kernel
theorem dX12_note_38 : decode cX12_note 38 = .ok (.aload_n 0, 1) := by decide +kernel
theorem dX12_note_39 : decode cX12_note 39 = .ok (.getfield 31, 3) := by decide +kernel
theorem dX12_note_42 : decode cX12_note 42 = .ok (.iload_n 2, 1) := by decide +kernel
theorem dX12_note_43 : decode cX12_note 43 = .ok (.iaload, 1) := by decide +kernel
theorem dX12_note_44 : decode cX12_note 44 = .ok (.iastore, 1) := by decide +kernel
theorem dX12_note_45 : decode cX12_note 45 = .ok (.iinc 2 1, 3) := by decide +kernel
theorem dX12_note_48 : decode cX12_note 48 = .ok (.goto (-37), 3) := by decide +kernel
theorem dX12_note_51 : decode cX12_note 51 = .ok (.bipush 12, 2) := by decide +kernel
theorem dX12_note_53 : decode cX12_note 53 = .ok (.istore_n 2, 1) := by decide +kernel
theorem dX12_note_54 : decode cX12_note 54 = .ok (.iload_n 2, 1) := by decide +kernel
theorem dX12_note_55 : decode cX12_note 55 = .ok (.sipush 240, 3) := by decide +kernel
theorem dX12_note_58 : decode cX12_note 58 = .ok (.if_icmp .ge 69, 3) := by decide +kernel
theorem dX12_note_61 : decode cX12_note 61 = .ok (.aload_n 0, 1) := by decide +kernel
theorem dX12_note_62 : decode cX12_note 62 = .ok (.getfield 34, 3) := by decide +kernel
theorem dX12_note_65 : decode cX12_note 65 = .ok (.iload_n 2, 1) := by decide +kernel
theorem dX12_note_66 : decode cX12_note 66 = .ok (.bipush 12, 2) := by decide +kernel
theorem dX12_note_68 : decode cX12_note 68 = .ok (.isub, 1) := by decide +kernel
theorem dX12_note_69 : decode cX12_note 69 = .ok (.aload_n 0, 1) := by decide +kernel
theorem dX12_note_70 : decode cX12_note 70 = .ok (.getfield 34, 3) := by decide +kernel
theorem dX12_note_73 : decode cX12_note 73 = .ok (.iload_n 2, 1) := by decide +kernel
theorem dX12_note_74 : decode cX12_note 74 = .ok (.iaload, 1) := by decide +kernel
theorem dX12_note_75 : decode cX12_note 75 = .ok (.iastore, 1) := by decide +kernel
theorem dX12_note_76 : decode cX12_note 76 = .ok (.aload_n 0, 1) := by decide +kernel
theorem dX12_note_77 : decode cX12_note 77 = .ok (.getfield 37, 3) := by decide +kernel
theorem dX12_note_80 : decode cX12_note 80 = .ok (.iload_n 2, 1) := by decide +kernel
theorem dX12_note_81 : decode cX12_note 81 = .ok (.bipush 12, 2) := by decide +kernel
theorem dX12_note_83 : decode cX12_note 83 = .ok (.isub, 1) := by decide +kernel
theorem dX12_note_84 : decode cX12_note 84 = .ok (.aload_n 0, 1) := by decide +kernel
theorem dX12_note_85 : decode cX12_note 85 = .ok (.getfield 37, 3) := by decide +kernel
theorem dX12_note_88 : decode cX12_note 88 = .ok (.iload_n 2, 1) := by decide +kernel
theorem dX12_note_89 : decode cX12_note 89 = .ok (.iaload, 1) := by decide +kernel
theorem dX12_note_90 : decode cX12_note 90 = .ok (.iastore, 1) := by decide +kernel
theorem dX12_note_91 : decode cX12_note 91 = .ok (.aload_n 0, 1) := by decide +kernel
theorem dX12_note_92 : decode cX12_note 92 = .ok (.getfield 40, 3) := by decide +kernel
theorem dX12_note_95 : decode cX12_note 95 = .ok (.iload_n 2, 1) := by decide +kernel
theorem dX12_note_96 : decode cX12_note 96 = .ok (.bipush 12, 2) := by decide +kernel
theorem dX12_note_98 : decode cX12_note 98 = .ok (.isub, 1) := by decide +kernel
theorem dX12_note_99 : decode cX12_note 99 = .ok (.aload_n 0, 1) := by decide +kernel
theorem dX12_note_100 : decode cX12_note 100 = .ok (.getfield 40, 3) := by decide +kernel
theorem dX12_note_103 : decode cX12_note 103 = .ok (.iload_n 2, 1) := by decide +kernel
theorem dX12_note_104 : decode cX12_note 104 = .ok (.iaload, 1) := by decide +kernel
theorem dX12_note_105 : decode cX12_note 105 = .ok (.iastore, 1) := by decide +kernel
theorem dX12_note_106 : decode cX12_note 106 = .ok (.aload_n 0, 1) := by decide +kernel
theorem dX12_note_107 : decode cX12_note 107 = .ok (.getfield 43, 3) := by decide +kernel
theorem dX12_note_110 : decode cX12_note 110 = .ok (.iload_n 2, 1) := by decide +kernel
theorem dX12_note_111 : decode cX12_note 111 = .ok (.bipush 12, 2) := by decide +kernel
theorem dX12_note_113 : decode cX12_note 113 = .ok (.isub, 1) := by decide +kernel
theorem dX12_note_114 : decode cX12_note 114 = .ok (.aload_n 0, 1) := by decide +kernel
theorem dX12_note_115 : decode cX12_note 115 = .ok (.getfield 43, 3) := by decide +kernel
theorem dX12_note_118 : decode cX12_note 118 = .ok (.iload_n 2, 1) := by decide +kernel
theorem dX12_note_119 : decode cX12_note 119 = .ok (.iaload, 1) := by decide +kernel
theorem dX12_note_120 : decode cX12_note 120 = .ok (.iastore, 1) := by decide +kernel
theorem dX12_note_121 : decode cX12_note 121 = .ok (.iinc 2 1, 3) := by decide +kernel
theorem dX12_note_124 : decode cX12_note 124 = .ok (.goto (-70), 3) := by decide +kernel
theorem dX12_note_127 : decode cX12_note 127 = .ok (.sipush 144, 3) := by decide +kernel
theorem dX12_note_130 : decode cX12_note 130 = .ok (.istore_n 2, 1) := by decide +kernel
theorem dX12_note_131 : decode cX12_note 131 = .ok (.iload_n 2, 1) := by decide +kernel
theorem dX12_note_132 : decode cX12_note 132 = .ok (.sipush 2880, 3) := by decide +kernel
theorem dX12_note_135 : decode cX12_note 135 = .ok (.if_icmp .ge 25, 3) := by decide +kernel
theorem dX12_note_138 : decode cX12_note 138 = .ok (.aload_n 0, 1) := by decide +kernel
theorem dX12_note_139 : decode cX12_note 139 = .ok (.getfield 46, 3) := by decide +kernel
theorem dX12_note_142 : decode cX12_note 142 = .ok (.iload_n 2, 1) := by decide +kernel
theorem dX12_note_143 : decode cX12_note 143 = .ok (.sipush 144, 3) := by decide +kernel
theorem dX12_note_146 : decode cX12_note 146 = .ok (.isub, 1) := by decide +kernel
theorem dX12_note_147 : decode cX12_note 147 = .ok (.aload_n 0, 1) := by decide +kernel
theorem dX12_note_148 : decode cX12_note 148 = .ok (.getfield 46, 3) := by decide +kernel
theorem dX12_note_151 : decode cX12_note 151 = .ok (.iload_n 2, 1) := by decide +kernel
theorem dX12_note_152 : decode cX12_note 152 = .ok (.iaload, 1) := by decide +kernel
theorem dX12_note_153 : decode cX12_note 153 = .ok (.iastore, 1) := by decide +kernel
theorem dX12_note_154 : decode cX12_note 154 = .ok (.iinc 2 1, 3) := by decide +kernel
theorem dX12_note_157 : decode cX12_note 157 = .ok (.goto (-26), 3) := by decide +kernel
theorem dX12_note_160 : decode cX12_note 160 = .ok (.aload_n 0, 1) := by decide +kernel
theorem dX12_note_161 : decode cX12_note 161 = .ok (.dup, 1) := by decide +kernel
theorem dX12_note_162 : decode cX12_note 162 = .ok (.getfield 141, 3) := by decide +kernel
theorem dX12_note_165 : decode cX12_note 165 = .ok (.iconst 1, 1) := by decide +kernel
theorem dX12_note_166 : decode cX12_note 166 = .ok (.isub, 1) := by decide +kernel
theorem dX12_note_167 : decode cX12_note 167 = .ok (.putfield 141, 3) := by decide +kernel
theorem dX12_note_170 : decode cX12_note 170 = .ok (.aload_n 0, 1) := by decide +kernel
theorem dX12_note_171 : decode cX12_note 171 = .ok (.getfield 28, 3) := by decide +kernel
theorem dX12_note_174 : decode cX12_note 174 = .ok (.aload_n 0, 1) := by decide +kernel
theorem dX12_note_175 : decode cX12_note 175 = .ok (.getfield 141, 3) := by decide +kernel
theorem dX12_note_178 : decode cX12_note 178 = .ok (.iload_n 1, 1) := by decide +kernel
theorem dX12_note_179 : decode cX12_note 179 = .ok (.iastore, 1) := by decide +kernel
theorem dX12_note_180 : decode cX12_note 180 = .ok (.aload_n 0, 1) := by decide +kernel
theorem dX12_note_181 : decode cX12_note 181 = .ok (.getfield 31, 3) := by decide +kernel
theorem dX12_note_184 : decode cX12_note 184 = .ok (.aload_n 0, 1) := by decide +kernel
theorem dX12_note_185 : decode cX12_note 185 = .ok (.getfield 141, 3) := by decide +kernel
theorem dX12_note_188 : decode cX12_note 188 = .ok (.aload_n 0, 1) := by decide +kernel
theorem dX12_note_189 : decode cX12_note 189 = .ok (.getfield 7, 3) := by decide +kernel
theorem dX12_note_192 : decode cX12_note 192 = .ok (.iload_n 1, 1) := by decide +kernel
theorem dX12_note_193 : decode cX12_note 193 = .ok (.iaload, 1) := by decide +kernel
theorem dX12_note_194 : decode cX12_note 194 = .ok (.iastore, 1) := by decide +kernel
theorem dX12_note_195 : decode cX12_note 195 = .ok (.iconst 0, 1) := by decide +kernel
theorem dX12_note_196 : decode cX12_note 196 = .ok (.istore_n 2, 1) := by decide +kernel
theorem dX12_note_197 : decode cX12_note 197 = .ok (.iload_n 2, 1) := by decide +kernel
theorem dX12_note_198 : decode cX12_note 198 = .ok (.bipush 12, 2) := by decide +kernel
theorem dX12_note_200 : decode cX12_note 200 = .ok (.if_icmp .ge 109, 3) := by decide +kernel
theorem dX12_note_203 : decode cX12_note 203 = .ok (.aload_n 0, 1) := by decide +kernel
theorem dX12_note_204 : decode cX12_note 204 = .ok (.getfield 34, 3) := by decide +kernel
theorem dX12_note_207 : decode cX12_note 207 = .ok (.bipush 12, 2) := by decide +kernel
theorem dX12_note_209 : decode cX12_note 209 = .ok (.aload_n 0, 1) := by decide +kernel
theorem dX12_note_210 : decode cX12_note 210 = .ok (.getfield 141, 3) := by decide +kernel
theorem dX12_note_213 : decode cX12_note 213 = .ok (.imul, 1) := by decide +kernel
theorem dX12_note_214 : decode cX12_note 214 = .ok (.iload_n 2, 1) := by decide +kernel
theorem dX12_note_215 : decode cX12_note 215 = .ok (.iadd, 1) := by decide +kernel
theorem dX12_note_216 : decode cX12_note 216 = .ok (.aload_n 0, 1) := by decide +kernel
theorem dX12_note_217 : decode cX12_note 217 = .ok (.getfield 13, 3) := by decide +kernel
theorem dX12_note_220 : decode cX12_note 220 = .ok (.bipush 12, 2) := by decide +kernel
theorem dX12_note_222 : decode cX12_note 222 = .ok (.iload_n 1, 1) := by decide +kernel
theorem dX12_note_223 : decode cX12_note 223 = .ok (.imul, 1) := by decide +kernel
theorem dX12_note_224 : decode cX12_note 224 = .ok (.iload_n 2, 1) := by decide +kernel
theorem dX12_note_225 : decode cX12_note 225 = .ok (.iadd, 1) := by decide +kernel
theorem dX12_note_226 : decode cX12_note 226 = .ok (.iaload, 1) := by decide +kernel
theorem dX12_note_227 : decode cX12_note 227 = .ok (.iastore, 1) := by decide +kernel
theorem dX12_note_228 : decode cX12_note 228 = .ok (.aload_n 0, 1) := by decide +kernel
theorem dX12_note_229 : decode cX12_note 229 = .ok (.getfield 37, 3) := by decide +kernel
theorem dX12_note_232 : decode cX12_note 232 = .ok (.bipush 12, 2) := by decide +kernel
theorem dX12_note_234 : decode cX12_note 234 = .ok (.aload_n 0, 1) := by decide +kernel
theorem dX12_note_235 : decode cX12_note 235 = .ok (.getfield 141, 3) := by decide +kernel
theorem dX12_note_238 : decode cX12_note 238 = .ok (.imul, 1) := by decide +kernel
theorem dX12_note_239 : decode cX12_note 239 = .ok (.iload_n 2, 1) := by decide +kernel
theorem dX12_note_240 : decode cX12_note 240 = .ok (.iadd, 1) := by decide +kernel
theorem dX12_note_241 : decode cX12_note 241 = .ok (.aload_n 0, 1) := by decide +kernel
theorem dX12_note_242 : decode cX12_note 242 = .ok (.getfield 16, 3) := by decide +kernel
theorem dX12_note_245 : decode cX12_note 245 = .ok (.bipush 12, 2) := by decide +kernel
theorem dX12_note_247 : decode cX12_note 247 = .ok (.iload_n 1, 1) := by decide +kernel
theorem dX12_note_248 : decode cX12_note 248 = .ok (.imul, 1) := by decide +kernel
theorem dX12_note_249 : decode cX12_note 249 = .ok (.iload_n 2, 1) := by decide +kernel
theorem dX12_note_250 : decode cX12_note 250 = .ok (.iadd, 1) := by decide +kernel
theorem dX12_note_251 : decode cX12_note 251 = .ok (.iaload, 1) := by decide +kernel
theorem dX12_note_252 : decode cX12_note 252 = .ok (.iastore, 1) := by decide +kernel
theorem dX12_note_253 : decode cX12_note 253 = .ok (.aload_n 0, 1) := by decide +kernel
theorem dX12_note_254 : decode cX12_note 254 = .ok (.getfield 40, 3) := by decide +kernel
theorem dX12_note_257 : decode cX12_note 257 = .ok (.bipush 12, 2) := by decide +kernel
theorem dX12_note_259 : decode cX12_note 259 = .ok (.aload_n 0, 1) := by decide +kernel
theorem dX12_note_260 : decode cX12_note 260 = .ok (.getfield 141, 3) := by decide +kernel
theorem dX12_note_263 : decode cX12_note 263 = .ok (.imul, 1) := by decide +kernel
theorem dX12_note_264 : decode cX12_note 264 = .ok (.iload_n 2, 1) := by decide +kernel
theorem dX12_note_265 : decode cX12_note 265 = .ok (.iadd, 1) := by decide +kernel
theorem dX12_note_266 : decode cX12_note 266 = .ok (.aload_n 0, 1) := by decide +kernel
theorem dX12_note_267 : decode cX12_note 267 = .ok (.getfield 19, 3) := by decide +kernel
theorem dX12_note_270 : decode cX12_note 270 = .ok (.bipush 12, 2) := by decide +kernel
theorem dX12_note_272 : decode cX12_note 272 = .ok (.iload_n 1, 1) := by decide +kernel
theorem dX12_note_273 : decode cX12_note 273 = .ok (.imul, 1) := by decide +kernel
theorem dX12_note_274 : decode cX12_note 274 = .ok (.iload_n 2, 1) := by decide +kernel
theorem dX12_note_275 : decode cX12_note 275 = .ok (.iadd, 1) := by decide +kernel
theorem dX12_note_276 : decode cX12_note 276 = .ok (.iaload, 1) := by decide +kernel
theorem dX12_note_277 : decode cX12_note 277 = .ok (.iastore, 1) := by decide +kernel
theorem dX12_note_278 : decode cX12_note 278 = .ok (.aload_n 0, 1) := by decide +kernel
theorem dX12_note_279 : decode cX12_note 279 = .ok (.getfield 43, 3) := by decide +kernel
theorem dX12_note_282 : decode cX12_note 282 = .ok (.bipush 12, 2) := by decide +kernel
theorem dX12_note_284 : decode cX12_note 284 = .ok (.aload_n 0, 1) := by decide +kernel
theorem dX12_note_285 : decode cX12_note 285 = .ok (.getfield 141, 3) := by decide +kernel
theorem dX12_note_288 : decode cX12_note 288 = .ok (.imul, 1) := by decide +kernel
theorem dX12_note_289 : decode cX12_note 289 = .ok (.iload_n 2, 1) := by decide +kernel
theorem dX12_note_290 : decode cX12_note 290 = .ok (.iadd, 1) := by decide +kernel
theorem dX12_note_291 : decode cX12_note 291 = .ok (.aload_n 0, 1) := by decide +kernel
theorem dX12_note_292 : decode cX12_note 292 = .ok (.getfield 22, 3) := by decide +kernel
theorem dX12_note_295 : decode cX12_note 295 = .ok (.bipush 12, 2) := by decide +kernel
theorem dX12_note_297 : decode cX12_note 297 = .ok (.iload_n 1, 1) := by decide +kernel
theorem dX12_note_298 : decode cX12_note 298 = .ok (.imul, 1) := by decide +kernel
theorem dX12_note_299 : decode cX12_note 299 = .ok (.iload_n 2, 1) := by decide +kernel
theorem dX12_note_300 : decode cX12_note 300 = .ok (.iadd, 1) := by decide +kernel
theorem dX12_note_301 : decode cX12_note 301 = .ok (.iaload, 1) := by decide +kernel
theorem dX12_note_302 : decode cX12_note 302 = .ok (.iastore, 1) := by decide +kernel
theorem dX12_note_303 : decode cX12_note 303 = .ok (.iinc 2 1, 3) := by decide +kernel
theorem dX12_note_306 : decode cX12_note 306 = .ok (.goto (-109), 3) := by decide +kernel
theorem dX12_note_309 : decode cX12_note 309 = .ok (.iconst 0, 1) := by decide +kernel
theorem dX12_note_310 : decode cX12_note 310 = .ok (.istore_n 2, 1) := by decide +kernel
theorem dX12_note_311 : decode cX12_note 311 = .ok (.iload_n 2, 1) := by decide +kernel
theorem dX12_note_312 : decode cX12_note 312 = .ok (.sipush 144, 3) := by decide +kernel
theorem dX12_note_315 : decode cX12_note 315 = .ok (.if_icmp .ge 36, 3) := by decide +kernel
theorem dX12_note_318 : decode cX12_note 318 = .ok (.aload_n 0, 1) := by decide +kernel
theorem dX12_note_319 : decode cX12_note 319 = .ok (.getfield 46, 3) := by decide +kernel
theorem dX12_note_322 : decode cX12_note 322 = .ok (.sipush 144, 3) := by decide +kernel
theorem dX12_note_325 : decode cX12_note 325 = .ok (.aload_n 0, 1) := by decide +kernel
theorem dX12_note_326 : decode cX12_note 326 = .ok (.getfield 141, 3) := by decide +kernel
theorem dX12_note_329 : decode cX12_note 329 = .ok (.imul, 1) := by decide +kernel
theorem dX12_note_330 : decode cX12_note 330 = .ok (.iload_n 2, 1) := by decide +kernel
theorem dX12_note_331 : decode cX12_note 331 = .ok (.iadd, 1) := by decide +kernel
theorem dX12_note_332 : decode cX12_note 332 = .ok (.aload_n 0, 1) := by decide +kernel
theorem dX12_note_333 : decode cX12_note 333 = .ok (.getfield 25, 3) := by decide +kernel
theorem dX12_note_336 : decode cX12_note 336 = .ok (.sipush 144, 3) := by decide +kernel
theorem dX12_note_339 : decode cX12_note 339 = .ok (.iload_n 1, 1) := by decide +kernel
theorem dX12_note_340 : decode cX12_note 340 = .ok (.imul, 1) := by decide +kernel
theorem dX12_note_341 : decode cX12_note 341 = .ok (.iload_n 2, 1) := by decide +kernel
theorem dX12_note_342 : decode cX12_note 342 = .ok (.iadd, 1) := by decide +kernel
theorem dX12_note_343 : decode cX12_note 343 = .ok (.iaload, 1) := by decide +kernel
theorem dX12_note_344 : decode cX12_note 344 = .ok (.iastore, 1) := by decide +kernel
theorem dX12_note_345 : decode cX12_note 345 = .ok (.iinc 2 1, 3) := by decide +kernel
theorem dX12_note_348 : decode cX12_note 348 = .ok (.goto (-37), 3) := by decide +kernel
theorem dX12_note_351 : decode cX12_note 351 = .ok (.aload_n 0, 1) := by decide +kernel
theorem dX12_note_352 : decode cX12_note 352 = .ok (.dup, 1) := by decide +kernel
theorem dX12_note_353 : decode cX12_note 353 = .ok (.getfield 141, 3) := by decide +kernel
theorem dX12_note_356 : decode cX12_note 356 = .ok (.iconst 1, 1) := by decide +kernel
theorem dX12_note_357 : decode cX12_note 357 = .ok (.iadd, 1) := by decide +kernel
theorem dX12_note_358 : decode cX12_note 358 = .ok (.putfield 141, 3) := by decide +kernel
theorem dX12_note_361 : decode cX12_note 361 = .ok (.return_, 1) := by decide +kernel
def PJ_X12_note_351 (d : Nat) (E : zb_E) (x0 : Int) (Q : Int → zb_M → Prop) (m351j : zb_M) : Prop :=
  (zb_inI ((m351j x0 13) + 1)) ∧ (∀ m358, m358 = zb_up m351j x0 13 ((m351j x0 13) + 1) → (Q 0 m358))
def PL_X12_note_311 (d : Nat) (E : zb_E) (x0 : Int) (x1 : Int) (Q : Int → zb_M → Prop) (K351_311 : zb_M → Prop) (v2_311 : Int) (m311l : zb_M) : Prop :=
  ∀ X311 : Int → zb_M → Prop, (∀ (v2_311 : Int) (m311l : zb_M), ((144 ≤ v2_311 → K351_311 m311l) ∧ (¬ 144 ≤ v2_311 → (zb_inI (144 * (m311l x0 13))) ∧ ((zb_inI ((144 * (m311l x0 13)) + v2_311)) ∧ ((zb_inI (144 * x1)) ∧ ((zb_inI ((144 * x1) + v2_311)) ∧ ((0 ≤ ((144 * x1) + v2_311) ∧ ((144 * x1) + v2_311) < 1152) ∧ ((0 ≤ ((144 * (m311l x0 13)) + v2_311) ∧ ((144 * (m311l x0 13)) + v2_311) < 2880) ∧ (∀ m344, m344 = zb_up m311l (E.2 x0 12) ((144 * (m311l x0 13)) + v2_311) (m311l (E.2 x0 5) ((144 * x1) + v2_311)) → ((zb_inI (v2_311 + 1)) ∧ (X311 (v2_311 + 1) m344)))))))))) → X311 v2_311 m311l) → X311 v2_311 m311l
def PJ_X12_note_309 (d : Nat) (E : zb_E) (x0 : Int) (x1 : Int) (Q : Int → zb_M → Prop) (m309j : zb_M) : Prop :=
  PL_X12_note_311 d E x0 x1 Q (PJ_X12_note_351 d E x0 Q) 0 m309j
def PL_X12_note_197 (d : Nat) (E : zb_E) (x0 : Int) (x1 : Int) (Q : Int → zb_M → Prop) (K309_197 : zb_M → Prop) (v2_197 : Int) (m197l : zb_M) : Prop :=
  ∀ X197 : Int → zb_M → Prop, (∀ (v2_197 : Int) (m197l : zb_M), ((12 ≤ v2_197 → K309_197 m197l) ∧ (¬ 12 ≤ v2_197 → (zb_inI (12 * (m197l x0 13))) ∧ ((zb_inI ((12 * (m197l x0 13)) + v2_197)) ∧ ((zb_inI (12 * x1)) ∧ ((zb_inI ((12 * x1) + v2_197)) ∧ ((0 ≤ ((12 * x1) + v2_197) ∧ ((12 * x1) + v2_197) < 96) ∧ ((0 ≤ ((12 * (m197l x0 13)) + v2_197) ∧ ((12 * (m197l x0 13)) + v2_197) < 240) ∧ (∀ m227, m227 = zb_up m197l (E.2 x0 8) ((12 * (m197l x0 13)) + v2_197) (m197l (E.2 x0 1) ((12 * x1) + v2_197)) → ((zb_inI (12 * (m227 x0 13))) ∧ ((zb_inI ((12 * (m227 x0 13)) + v2_197)) ∧ ((0 ≤ ((12 * (m227 x0 13)) + v2_197) ∧ ((12 * (m227 x0 13)) + v2_197) < 240) ∧ (∀ m252, m252 = zb_up m227 (E.2 x0 9) ((12 * (m227 x0 13)) + v2_197) (m227 (E.2 x0 2) ((12 * x1) + v2_197)) → ((zb_inI (12 * (m252 x0 13))) ∧ ((zb_inI ((12 * (m252 x0 13)) + v2_197)) ∧ ((0 ≤ ((12 * (m252 x0 13)) + v2_197) ∧ ((12 * (m252 x0 13)) + v2_197) < 240) ∧ (∀ m277, m277 = zb_up m252 (E.2 x0 10) ((12 * (m252 x0 13)) + v2_197) (m252 (E.2 x0 3) ((12 * x1) + v2_197)) → ((zb_inI (12 * (m277 x0 13))) ∧ ((zb_inI ((12 * (m277 x0 13)) + v2_197)) ∧ ((0 ≤ ((12 * (m277 x0 13)) + v2_197) ∧ ((12 * (m277 x0 13)) + v2_197) < 240) ∧ (∀ m302, m302 = zb_up m277 (E.2 x0 11) ((12 * (m277 x0 13)) + v2_197) (m277 (E.2 x0 4) ((12 * x1) + v2_197)) → ((zb_inI (v2_197 + 1)) ∧ (X197 (v2_197 + 1) m302)))))))))))))))))))))) → X197 v2_197 m197l) → X197 v2_197 m197l
def PJ_X12_note_170 (d : Nat) (E : zb_E) (x0 : Int) (x1 : Int) (Q : Int → zb_M → Prop) (m170j : zb_M) : Prop :=
  (0 ≤ (m170j x0 13) ∧ (m170j x0 13) < 20) ∧ (∀ m179, m179 = zb_up m170j (E.2 x0 6) (m170j x0 13) x1 → ((0 ≤ x1 ∧ x1 < 8) ∧ ((0 ≤ (m179 x0 13) ∧ (m179 x0 13) < 20) ∧ (∀ m194, m194 = zb_up m179 (E.2 x0 7) (m179 x0 13) (m179 (E.2 x0 0) x1) → (PL_X12_note_197 d E x0 x1 Q (PJ_X12_note_309 d E x0 x1 Q) 0 m194)))))
def PJ_X12_note_160 (d : Nat) (E : zb_E) (x0 : Int) (x1 : Int) (Q : Int → zb_M → Prop) (m160j : zb_M) : Prop :=
  (zb_inI ((m160j x0 13) - 1)) ∧ (∀ m167, m167 = zb_up m160j x0 13 ((m160j x0 13) - 1) → (PJ_X12_note_170 d E x0 x1 Q m167))
def PL_X12_note_131 (d : Nat) (E : zb_E) (x0 : Int) (Q : Int → zb_M → Prop) (K160_131 : zb_M → Prop) (v2_131 : Int) (m131l : zb_M) : Prop :=
  ∀ X131 : Int → zb_M → Prop, (∀ (v2_131 : Int) (m131l : zb_M), ((2880 ≤ v2_131 → K160_131 m131l) ∧ (¬ 2880 ≤ v2_131 → (zb_inI (v2_131 - 144)) ∧ ((0 ≤ v2_131 ∧ v2_131 < 2880) ∧ ((0 ≤ (v2_131 - 144) ∧ (v2_131 - 144) < 2880) ∧ (∀ m153, m153 = zb_up m131l (E.2 x0 12) (v2_131 - 144) (m131l (E.2 x0 12) v2_131) → ((zb_inI (v2_131 + 1)) ∧ (X131 (v2_131 + 1) m153))))))) → X131 v2_131 m131l) → X131 v2_131 m131l
def PJ_X12_note_127 (d : Nat) (E : zb_E) (x0 : Int) (x1 : Int) (Q : Int → zb_M → Prop) (m127j : zb_M) : Prop :=
  PL_X12_note_131 d E x0 Q (PJ_X12_note_160 d E x0 x1 Q) 144 m127j
def PL_X12_note_54 (d : Nat) (E : zb_E) (x0 : Int) (Q : Int → zb_M → Prop) (K127_54 : zb_M → Prop) (v2_54 : Int) (m54l : zb_M) : Prop :=
  ∀ X54 : Int → zb_M → Prop, (∀ (v2_54 : Int) (m54l : zb_M), ((240 ≤ v2_54 → K127_54 m54l) ∧ (¬ 240 ≤ v2_54 → (zb_inI (v2_54 - 12)) ∧ ((0 ≤ v2_54 ∧ v2_54 < 240) ∧ ((0 ≤ (v2_54 - 12) ∧ (v2_54 - 12) < 240) ∧ (∀ m75, m75 = zb_up m54l (E.2 x0 8) (v2_54 - 12) (m54l (E.2 x0 8) v2_54) → (∀ m90, m90 = zb_up m75 (E.2 x0 9) (v2_54 - 12) (m75 (E.2 x0 9) v2_54) → (∀ m105, m105 = zb_up m90 (E.2 x0 10) (v2_54 - 12) (m90 (E.2 x0 10) v2_54) → (∀ m120, m120 = zb_up m105 (E.2 x0 11) (v2_54 - 12) (m105 (E.2 x0 11) v2_54) → ((zb_inI (v2_54 + 1)) ∧ (X54 (v2_54 + 1) m120)))))))))) → X54 v2_54 m54l) → X54 v2_54 m54l
def PJ_X12_note_51 (d : Nat) (E : zb_E) (x0 : Int) (x1 : Int) (Q : Int → zb_M → Prop) (m51j : zb_M) : Prop :=
  PL_X12_note_54 d E x0 Q (PJ_X12_note_127 d E x0 x1 Q) 12 m51j
def PL_X12_note_11 (d : Nat) (E : zb_E) (x0 : Int) (Q : Int → zb_M → Prop) (K51_11 : zb_M → Prop) (v2_11 : Int) (m11l : zb_M) : Prop :=
  ∀ X11 : Int → zb_M → Prop, (∀ (v2_11 : Int) (m11l : zb_M), ((20 ≤ v2_11 → K51_11 m11l) ∧ (¬ 20 ≤ v2_11 → (zb_inI (v2_11 - 1)) ∧ ((0 ≤ v2_11 ∧ v2_11 < 20) ∧ ((0 ≤ (v2_11 - 1) ∧ (v2_11 - 1) < 20) ∧ (∀ m30, m30 = zb_up m11l (E.2 x0 6) (v2_11 - 1) (m11l (E.2 x0 6) v2_11) → (∀ m44, m44 = zb_up m30 (E.2 x0 7) (v2_11 - 1) (m30 (E.2 x0 7) v2_11) → ((zb_inI (v2_11 + 1)) ∧ (X11 (v2_11 + 1) m44)))))))) → X11 v2_11 m11l) → X11 v2_11 m11l
def PM_X12_note (d : Nat) (E : zb_E) (x0 : Int) (x1 : Int) (m : zb_M) (Q : Int → zb_M → Prop) : Prop :=
  ((m x0 13) = 20 → PL_X12_note_11 d E x0 Q (PJ_X12_note_51 d E x0 x1 Q) 1 m) ∧ (¬ (m x0 13) = 20 → PJ_X12_note_170 d E x0 x1 Q m)
set_option maxRecDepth 100000 in
set_option maxHeartbeats 4000000 in
theorem w_X12_note {d : Nat} {E : zb_E} {x0 x1 : Int} {m : zb_M} {Q : Int → zb_M → Prop} (h : PM_X12_note d E x0 x1 m Q) : zb_T K_X12_note (d + 1) [(2, x0), (0, x1)] E m Q := by
  unfold PM_X12_note at h
  refine zb_T_in gd_X12_note rfl rfl (fun hW hA G C hF => ?_)
  have i_0 : zb_is E.1 x0 12 := zb_aH hA (by decide)
  show zb_WP _ _ 0 [(0, (2, x0)), (1, (0, x1))] [] _ _ _ _
  refine zb_aload_n (j := 0) dX12_note_0 rfl rfl ?_
  refine zb_gI 13 dX12_note_1 fl_X12_141 i_0 rfl rfl ?_
  refine zb_bipush dX12_note_4 (by decide) (zb_inIc rfl) ?_
  have hJ170 : ∀ (m170j : zb_M), zb_FIN E m170j → PJ_X12_note_170 d E x0 x1 Q m170j → zb_WP (G, C, d + 1, 0, 0, zb_q E Q) F_X12_note 170 [(0, (2, x0)), (1, (0, x1))] [] E.1 m170j 0 0 := by
    intro m170j hF h
    unfold PJ_X12_note_170 at h
    refine zb_aload_n (j := 0) dX12_note_170 rfl rfl ?_
    refine zb_gFa 6 dX12_note_171 fl_X12_28 i_0 hW hF rfl rfl rfl (by decide) rfl 20 rfl (fun i1 l2 => ?_)
    refine zb_aload_n (j := 0) dX12_note_174 rfl rfl ?_
    refine zb_gI 13 dX12_note_175 fl_X12_141 i_0 rfl rfl ?_
    refine zb_iload_n (j := 1) dX12_note_178 rfl rfl ?_
    obtain ⟨o3, h⟩ := h
    refine zb_sI dX12_note_179 i1 l2 o3.1 o3.2 hF (fun m179 e179 hF => ?_)
    have h := h m179 e179
    refine zb_aload_n (j := 0) dX12_note_180 rfl rfl ?_
    refine zb_gFa 7 dX12_note_181 fl_X12_31 i_0 hW hF rfl rfl rfl (by decide) rfl 20 rfl (fun i4 l5 => ?_)
    refine zb_aload_n (j := 0) dX12_note_184 rfl rfl ?_
    refine zb_gI 13 dX12_note_185 fl_X12_141 i_0 rfl rfl ?_
    refine zb_aload_n (j := 0) dX12_note_188 rfl rfl ?_
    refine zb_gFa 0 dX12_note_189 fl_X12_7 i_0 hW hF rfl rfl rfl (by decide) rfl 8 rfl (fun i6 l7 => ?_)
    refine zb_iload_n (j := 1) dX12_note_192 rfl rfl ?_
    obtain ⟨o8, h⟩ := h
    refine zb_lI dX12_note_193 i6 l7 o8.1 o8.2 ?_
    obtain ⟨o9, h⟩ := h
    refine zb_sI dX12_note_194 i4 l5 o9.1 o9.2 hF (fun m194 e194 hF => ?_)
    have h := h m194 e194
    refine zb_iconst dX12_note_195 (zb_inIc rfl) ?_
    refine zb_istore_n (L' := [(2, (0, 0)), (0, (2, x0)), (1, (0, x1))]) dX12_note_196 rfl (by decide) rfl ?_
    refine zb_sub (L' := [(0, (2, x0)), (1, (0, x1)), (2, (0, 0))]) [1, 2, 0] rfl ?_
    have hJ309 : ∀ (m309j : zb_M), zb_FIN E m309j → PJ_X12_note_309 d E x0 x1 Q m309j → zb_WP (G, C, d + 1, 0, 0, zb_q E Q) F_X12_note 309 [(0, (2, x0)), (1, (0, x1))] [] E.1 m309j 0 0 := by
      intro m309j hF h
      unfold PJ_X12_note_309 at h
      refine zb_iconst dX12_note_309 (zb_inIc rfl) ?_
      refine zb_istore_n (L' := [(2, (0, 0)), (0, (2, x0)), (1, (0, x1))]) dX12_note_310 rfl (by decide) rfl ?_
      refine zb_sub (L' := [(0, (2, x0)), (1, (0, x1)), (2, (0, 0))]) [1, 2, 0] rfl ?_
      have hJ351 : ∀ (m351j : zb_M), zb_FIN E m351j → PJ_X12_note_351 d E x0 Q m351j → zb_WP (G, C, d + 1, 0, 0, zb_q E Q) F_X12_note 351 [(0, (2, x0))] [] E.1 m351j 0 0 := by
        intro m351j hF h
        unfold PJ_X12_note_351 at h
        refine zb_aload_n (j := 0) dX12_note_351 rfl rfl ?_
        refine zb_dup dX12_note_352 rfl ?_
        refine zb_gI 13 dX12_note_353 fl_X12_141 i_0 rfl rfl ?_
        refine zb_iconst dX12_note_356 (zb_inIc rfl) ?_
        obtain ⟨o10, h⟩ := h
        refine zb_iadd dX12_note_357 o10 ?_
        refine zb_pF 13 dX12_note_358 fl_X12_141 rfl rfl i_0 (Or.inl rfl) hF rfl rfl (fun m358 e358 hF => ?_)
        have h := h m358 e358
        exact zb_rV dX12_note_361 rfl hF h
      unfold PL_X12_note_311 at h
      obtain ⟨X311, hX311⟩ : ∃ X : Int → zb_M → Prop, ∀ (v2_311 : Int) (m311l : zb_M), (X v2_311 m311l ↔ (zb_FIN E m311l → zb_WP (G, C, d + 1, 0, 0, zb_q E Q) F_X12_note 311 [(0, (2, x0)), (1, (0, x1)), (2, (0, v2_311))] [] E.1 m311l 0 0)) := ⟨fun v2_311 m311l => zb_FIN E m311l → zb_WP (G, C, d + 1, 0, 0, zb_q E Q) F_X12_note 311 [(0, (2, x0)), (1, (0, x1)), (2, (0, v2_311))] [] E.1 m311l 0 0, fun _ _ => Iff.rfl⟩
      refine (hX311 _ _).mp (h X311 (fun v2_311 m311l h => (hX311 _ _).mpr (fun hF => ?_))) hF
      refine zb_iload_n (j := 2) dX12_note_311 rfl rfl ?_
      refine zb_sipush dX12_note_312 (by decide) (zb_inIc rfl) ?_
      refine zb_icmp_ge (tgt := 351) dX12_note_315 (by decide) (fun c11 => ?_) (fun c11 => ?_)
      · have h := h.1 c11
        refine zb_sub (L' := [(0, (2, x0))]) [0] rfl ?_
        exact hJ351 _ hF h
      · have h := h.2 c11
        refine zb_aload_n (j := 0) dX12_note_318 rfl rfl ?_
        refine zb_gFa 12 dX12_note_319 fl_X12_46 i_0 hW hF rfl rfl rfl (by decide) rfl 2880 rfl (fun i12 l13 => ?_)
        refine zb_sipush dX12_note_322 (by decide) (zb_inIc rfl) ?_
        refine zb_aload_n (j := 0) dX12_note_325 rfl rfl ?_
        refine zb_gI 13 dX12_note_326 fl_X12_141 i_0 rfl rfl ?_
        obtain ⟨o14, h⟩ := h
        refine zb_imul dX12_note_329 o14 ?_
        refine zb_iload_n (j := 2) dX12_note_330 rfl rfl ?_
        obtain ⟨o15, h⟩ := h
        refine zb_iadd dX12_note_331 o15 ?_
        refine zb_aload_n (j := 0) dX12_note_332 rfl rfl ?_
        refine zb_gFa 5 dX12_note_333 fl_X12_25 i_0 hW hF rfl rfl rfl (by decide) rfl 1152 rfl (fun i16 l17 => ?_)
        refine zb_sipush dX12_note_336 (by decide) (zb_inIc rfl) ?_
        refine zb_iload_n (j := 1) dX12_note_339 rfl rfl ?_
        obtain ⟨o18, h⟩ := h
        refine zb_imul dX12_note_340 o18 ?_
        refine zb_iload_n (j := 2) dX12_note_341 rfl rfl ?_
        obtain ⟨o19, h⟩ := h
        refine zb_iadd dX12_note_342 o19 ?_
        obtain ⟨o20, h⟩ := h
        refine zb_lI dX12_note_343 i16 l17 o20.1 o20.2 ?_
        obtain ⟨o21, h⟩ := h
        refine zb_sI dX12_note_344 i12 l13 o21.1 o21.2 hF (fun m344 e344 hF => ?_)
        have h := h m344 e344
        obtain ⟨o22, h⟩ := h
        refine zb_iinc (j := 2) (L' := [(2, (0, (v2_311 + 1))), (0, (2, x0)), (1, (0, x1))]) dX12_note_345 rfl o22 (by decide) rfl ?_
        refine zb_goto (tgt := 311) dX12_note_348 (by decide) ?_
        refine zb_sub (L' := [(0, (2, x0)), (1, (0, x1)), (2, (0, (v2_311 + 1)))]) [1, 2, 0] rfl ?_
        exact (hX311 _ _).mp h hF
    unfold PL_X12_note_197 at h
    obtain ⟨X197, hX197⟩ : ∃ X : Int → zb_M → Prop, ∀ (v2_197 : Int) (m197l : zb_M), (X v2_197 m197l ↔ (zb_FIN E m197l → zb_WP (G, C, d + 1, 0, 0, zb_q E Q) F_X12_note 197 [(0, (2, x0)), (1, (0, x1)), (2, (0, v2_197))] [] E.1 m197l 0 0)) := ⟨fun v2_197 m197l => zb_FIN E m197l → zb_WP (G, C, d + 1, 0, 0, zb_q E Q) F_X12_note 197 [(0, (2, x0)), (1, (0, x1)), (2, (0, v2_197))] [] E.1 m197l 0 0, fun _ _ => Iff.rfl⟩
    refine (hX197 _ _).mp (h X197 (fun v2_197 m197l h => (hX197 _ _).mpr (fun hF => ?_))) hF
    refine zb_iload_n (j := 2) dX12_note_197 rfl rfl ?_
    refine zb_bipush dX12_note_198 (by decide) (zb_inIc rfl) ?_
    refine zb_icmp_ge (tgt := 309) dX12_note_200 (by decide) (fun c23 => ?_) (fun c23 => ?_)
    · have h := h.1 c23
      refine zb_sub (L' := [(0, (2, x0)), (1, (0, x1))]) [0, 1] rfl ?_
      exact hJ309 _ hF h
    · have h := h.2 c23
      refine zb_aload_n (j := 0) dX12_note_203 rfl rfl ?_
      refine zb_gFa 8 dX12_note_204 fl_X12_34 i_0 hW hF rfl rfl rfl (by decide) rfl 240 rfl (fun i24 l25 => ?_)
      refine zb_bipush dX12_note_207 (by decide) (zb_inIc rfl) ?_
      refine zb_aload_n (j := 0) dX12_note_209 rfl rfl ?_
      refine zb_gI 13 dX12_note_210 fl_X12_141 i_0 rfl rfl ?_
      obtain ⟨o26, h⟩ := h
      refine zb_imul dX12_note_213 o26 ?_
      refine zb_iload_n (j := 2) dX12_note_214 rfl rfl ?_
      obtain ⟨o27, h⟩ := h
      refine zb_iadd dX12_note_215 o27 ?_
      refine zb_aload_n (j := 0) dX12_note_216 rfl rfl ?_
      refine zb_gFa 1 dX12_note_217 fl_X12_13 i_0 hW hF rfl rfl rfl (by decide) rfl 96 rfl (fun i28 l29 => ?_)
      refine zb_bipush dX12_note_220 (by decide) (zb_inIc rfl) ?_
      refine zb_iload_n (j := 1) dX12_note_222 rfl rfl ?_
      obtain ⟨o30, h⟩ := h
      refine zb_imul dX12_note_223 o30 ?_
      refine zb_iload_n (j := 2) dX12_note_224 rfl rfl ?_
      obtain ⟨o31, h⟩ := h
      refine zb_iadd dX12_note_225 o31 ?_
      obtain ⟨o32, h⟩ := h
      refine zb_lI dX12_note_226 i28 l29 o32.1 o32.2 ?_
      obtain ⟨o33, h⟩ := h
      refine zb_sI dX12_note_227 i24 l25 o33.1 o33.2 hF (fun m227 e227 hF => ?_)
      have h := h m227 e227
      refine zb_aload_n (j := 0) dX12_note_228 rfl rfl ?_
      refine zb_gFa 9 dX12_note_229 fl_X12_37 i_0 hW hF rfl rfl rfl (by decide) rfl 240 rfl (fun i34 l35 => ?_)
      refine zb_bipush dX12_note_232 (by decide) (zb_inIc rfl) ?_
      refine zb_aload_n (j := 0) dX12_note_234 rfl rfl ?_
      refine zb_gI 13 dX12_note_235 fl_X12_141 i_0 rfl rfl ?_
      obtain ⟨o36, h⟩ := h
      refine zb_imul dX12_note_238 o36 ?_
      refine zb_iload_n (j := 2) dX12_note_239 rfl rfl ?_
      obtain ⟨o37, h⟩ := h
      refine zb_iadd dX12_note_240 o37 ?_
      refine zb_aload_n (j := 0) dX12_note_241 rfl rfl ?_
      refine zb_gFa 2 dX12_note_242 fl_X12_16 i_0 hW hF rfl rfl rfl (by decide) rfl 96 rfl (fun i38 l39 => ?_)
      refine zb_bipush dX12_note_245 (by decide) (zb_inIc rfl) ?_
      refine zb_iload_n (j := 1) dX12_note_247 rfl rfl ?_
      refine zb_imul dX12_note_248 o30 ?_
      refine zb_iload_n (j := 2) dX12_note_249 rfl rfl ?_
      refine zb_iadd dX12_note_250 o31 ?_
      refine zb_lI dX12_note_251 i38 l39 o32.1 o32.2 ?_
      obtain ⟨o40, h⟩ := h
      refine zb_sI dX12_note_252 i34 l35 o40.1 o40.2 hF (fun m252 e252 hF => ?_)
      have h := h m252 e252
      refine zb_aload_n (j := 0) dX12_note_253 rfl rfl ?_
      refine zb_gFa 10 dX12_note_254 fl_X12_40 i_0 hW hF rfl rfl rfl (by decide) rfl 240 rfl (fun i41 l42 => ?_)
      refine zb_bipush dX12_note_257 (by decide) (zb_inIc rfl) ?_
      refine zb_aload_n (j := 0) dX12_note_259 rfl rfl ?_
      refine zb_gI 13 dX12_note_260 fl_X12_141 i_0 rfl rfl ?_
      obtain ⟨o43, h⟩ := h
      refine zb_imul dX12_note_263 o43 ?_
      refine zb_iload_n (j := 2) dX12_note_264 rfl rfl ?_
      obtain ⟨o44, h⟩ := h
      refine zb_iadd dX12_note_265 o44 ?_
      refine zb_aload_n (j := 0) dX12_note_266 rfl rfl ?_
      refine zb_gFa 3 dX12_note_267 fl_X12_19 i_0 hW hF rfl rfl rfl (by decide) rfl 96 rfl (fun i45 l46 => ?_)
      refine zb_bipush dX12_note_270 (by decide) (zb_inIc rfl) ?_
      refine zb_iload_n (j := 1) dX12_note_272 rfl rfl ?_
      refine zb_imul dX12_note_273 o30 ?_
      refine zb_iload_n (j := 2) dX12_note_274 rfl rfl ?_
      refine zb_iadd dX12_note_275 o31 ?_
      refine zb_lI dX12_note_276 i45 l46 o32.1 o32.2 ?_
      obtain ⟨o47, h⟩ := h
      refine zb_sI dX12_note_277 i41 l42 o47.1 o47.2 hF (fun m277 e277 hF => ?_)
      have h := h m277 e277
      refine zb_aload_n (j := 0) dX12_note_278 rfl rfl ?_
      refine zb_gFa 11 dX12_note_279 fl_X12_43 i_0 hW hF rfl rfl rfl (by decide) rfl 240 rfl (fun i48 l49 => ?_)
      refine zb_bipush dX12_note_282 (by decide) (zb_inIc rfl) ?_
      refine zb_aload_n (j := 0) dX12_note_284 rfl rfl ?_
      refine zb_gI 13 dX12_note_285 fl_X12_141 i_0 rfl rfl ?_
      obtain ⟨o50, h⟩ := h
      refine zb_imul dX12_note_288 o50 ?_
      refine zb_iload_n (j := 2) dX12_note_289 rfl rfl ?_
      obtain ⟨o51, h⟩ := h
      refine zb_iadd dX12_note_290 o51 ?_
      refine zb_aload_n (j := 0) dX12_note_291 rfl rfl ?_
      refine zb_gFa 4 dX12_note_292 fl_X12_22 i_0 hW hF rfl rfl rfl (by decide) rfl 96 rfl (fun i52 l53 => ?_)
      refine zb_bipush dX12_note_295 (by decide) (zb_inIc rfl) ?_
      refine zb_iload_n (j := 1) dX12_note_297 rfl rfl ?_
      refine zb_imul dX12_note_298 o30 ?_
      refine zb_iload_n (j := 2) dX12_note_299 rfl rfl ?_
      refine zb_iadd dX12_note_300 o31 ?_
      refine zb_lI dX12_note_301 i52 l53 o32.1 o32.2 ?_
      obtain ⟨o54, h⟩ := h
      refine zb_sI dX12_note_302 i48 l49 o54.1 o54.2 hF (fun m302 e302 hF => ?_)
      have h := h m302 e302
      obtain ⟨o55, h⟩ := h
      refine zb_iinc (j := 2) (L' := [(2, (0, (v2_197 + 1))), (0, (2, x0)), (1, (0, x1))]) dX12_note_303 rfl o55 (by decide) rfl ?_
      refine zb_goto (tgt := 197) dX12_note_306 (by decide) ?_
      refine zb_sub (L' := [(0, (2, x0)), (1, (0, x1)), (2, (0, (v2_197 + 1)))]) [1, 2, 0] rfl ?_
      exact (hX197 _ _).mp h hF
  refine zb_icmp_ne (tgt := 170) dX12_note_6 (by decide) (fun c56 => ?_) (fun c56 => ?_)
  · have h := h.2 c56
    exact hJ170 _ hF h
  · have h := h.1 c56
    refine zb_iconst dX12_note_9 (zb_inIc rfl) ?_
    refine zb_istore_n (L' := [(2, (0, 1)), (0, (2, x0)), (1, (0, x1))]) dX12_note_10 rfl (by decide) rfl ?_
    refine zb_sub (L' := [(0, (2, x0)), (1, (0, x1)), (2, (0, 1))]) [1, 2, 0] rfl ?_
    have hJ51 : ∀ (m51j : zb_M), zb_FIN E m51j → PJ_X12_note_51 d E x0 x1 Q m51j → zb_WP (G, C, d + 1, 0, 0, zb_q E Q) F_X12_note 51 [(0, (2, x0)), (1, (0, x1))] [] E.1 m51j 0 0 := by
      intro m51j hF h
      unfold PJ_X12_note_51 at h
      refine zb_bipush dX12_note_51 (by decide) (zb_inIc rfl) ?_
      refine zb_istore_n (L' := [(2, (0, 12)), (0, (2, x0)), (1, (0, x1))]) dX12_note_53 rfl (by decide) rfl ?_
      refine zb_sub (L' := [(0, (2, x0)), (1, (0, x1)), (2, (0, 12))]) [1, 2, 0] rfl ?_
      have hJ127 : ∀ (m127j : zb_M), zb_FIN E m127j → PJ_X12_note_127 d E x0 x1 Q m127j → zb_WP (G, C, d + 1, 0, 0, zb_q E Q) F_X12_note 127 [(0, (2, x0)), (1, (0, x1))] [] E.1 m127j 0 0 := by
        intro m127j hF h
        unfold PJ_X12_note_127 at h
        refine zb_sipush dX12_note_127 (by decide) (zb_inIc rfl) ?_
        refine zb_istore_n (L' := [(2, (0, 144)), (0, (2, x0)), (1, (0, x1))]) dX12_note_130 rfl (by decide) rfl ?_
        refine zb_sub (L' := [(0, (2, x0)), (1, (0, x1)), (2, (0, 144))]) [1, 2, 0] rfl ?_
        have hJ160 : ∀ (m160j : zb_M), zb_FIN E m160j → PJ_X12_note_160 d E x0 x1 Q m160j → zb_WP (G, C, d + 1, 0, 0, zb_q E Q) F_X12_note 160 [(0, (2, x0)), (1, (0, x1))] [] E.1 m160j 0 0 := by
          intro m160j hF h
          unfold PJ_X12_note_160 at h
          refine zb_aload_n (j := 0) dX12_note_160 rfl rfl ?_
          refine zb_dup dX12_note_161 rfl ?_
          refine zb_gI 13 dX12_note_162 fl_X12_141 i_0 rfl rfl ?_
          refine zb_iconst dX12_note_165 (zb_inIc rfl) ?_
          obtain ⟨o57, h⟩ := h
          refine zb_isub dX12_note_166 o57 ?_
          refine zb_pF 13 dX12_note_167 fl_X12_141 rfl rfl i_0 (Or.inl rfl) hF rfl rfl (fun m167 e167 hF => ?_)
          have h := h m167 e167
          exact hJ170 _ hF h
        unfold PL_X12_note_131 at h
        obtain ⟨X131, hX131⟩ : ∃ X : Int → zb_M → Prop, ∀ (v2_131 : Int) (m131l : zb_M), (X v2_131 m131l ↔ (zb_FIN E m131l → zb_WP (G, C, d + 1, 0, 0, zb_q E Q) F_X12_note 131 [(0, (2, x0)), (1, (0, x1)), (2, (0, v2_131))] [] E.1 m131l 0 0)) := ⟨fun v2_131 m131l => zb_FIN E m131l → zb_WP (G, C, d + 1, 0, 0, zb_q E Q) F_X12_note 131 [(0, (2, x0)), (1, (0, x1)), (2, (0, v2_131))] [] E.1 m131l 0 0, fun _ _ => Iff.rfl⟩
        refine (hX131 _ _).mp (h X131 (fun v2_131 m131l h => (hX131 _ _).mpr (fun hF => ?_))) hF
        refine zb_iload_n (j := 2) dX12_note_131 rfl rfl ?_
        refine zb_sipush dX12_note_132 (by decide) (zb_inIc rfl) ?_
        refine zb_icmp_ge (tgt := 160) dX12_note_135 (by decide) (fun c58 => ?_) (fun c58 => ?_)
        · have h := h.1 c58
          refine zb_sub (L' := [(0, (2, x0)), (1, (0, x1))]) [0, 1] rfl ?_
          exact hJ160 _ hF h
        · have h := h.2 c58
          refine zb_aload_n (j := 0) dX12_note_138 rfl rfl ?_
          refine zb_gFa 12 dX12_note_139 fl_X12_46 i_0 hW hF rfl rfl rfl (by decide) rfl 2880 rfl (fun i59 l60 => ?_)
          refine zb_iload_n (j := 2) dX12_note_142 rfl rfl ?_
          refine zb_sipush dX12_note_143 (by decide) (zb_inIc rfl) ?_
          obtain ⟨o61, h⟩ := h
          refine zb_isub dX12_note_146 o61 ?_
          refine zb_aload_n (j := 0) dX12_note_147 rfl rfl ?_
          refine zb_gFa 12 dX12_note_148 fl_X12_46 i_0 hW hF rfl rfl rfl (by decide) rfl 2880 rfl (fun i62 l63 => ?_)
          refine zb_iload_n (j := 2) dX12_note_151 rfl rfl ?_
          obtain ⟨o64, h⟩ := h
          refine zb_lI dX12_note_152 i62 l63 o64.1 o64.2 ?_
          obtain ⟨o65, h⟩ := h
          refine zb_sI dX12_note_153 i59 l60 o65.1 o65.2 hF (fun m153 e153 hF => ?_)
          have h := h m153 e153
          obtain ⟨o66, h⟩ := h
          refine zb_iinc (j := 2) (L' := [(2, (0, (v2_131 + 1))), (0, (2, x0)), (1, (0, x1))]) dX12_note_154 rfl o66 (by decide) rfl ?_
          refine zb_goto (tgt := 131) dX12_note_157 (by decide) ?_
          refine zb_sub (L' := [(0, (2, x0)), (1, (0, x1)), (2, (0, (v2_131 + 1)))]) [1, 2, 0] rfl ?_
          exact (hX131 _ _).mp h hF
      unfold PL_X12_note_54 at h
      obtain ⟨X54, hX54⟩ : ∃ X : Int → zb_M → Prop, ∀ (v2_54 : Int) (m54l : zb_M), (X v2_54 m54l ↔ (zb_FIN E m54l → zb_WP (G, C, d + 1, 0, 0, zb_q E Q) F_X12_note 54 [(0, (2, x0)), (1, (0, x1)), (2, (0, v2_54))] [] E.1 m54l 0 0)) := ⟨fun v2_54 m54l => zb_FIN E m54l → zb_WP (G, C, d + 1, 0, 0, zb_q E Q) F_X12_note 54 [(0, (2, x0)), (1, (0, x1)), (2, (0, v2_54))] [] E.1 m54l 0 0, fun _ _ => Iff.rfl⟩
      refine (hX54 _ _).mp (h X54 (fun v2_54 m54l h => (hX54 _ _).mpr (fun hF => ?_))) hF
      refine zb_iload_n (j := 2) dX12_note_54 rfl rfl ?_
      refine zb_sipush dX12_note_55 (by decide) (zb_inIc rfl) ?_
      refine zb_icmp_ge (tgt := 127) dX12_note_58 (by decide) (fun c67 => ?_) (fun c67 => ?_)
      · have h := h.1 c67
        refine zb_sub (L' := [(0, (2, x0)), (1, (0, x1))]) [0, 1] rfl ?_
        exact hJ127 _ hF h
      · have h := h.2 c67
        refine zb_aload_n (j := 0) dX12_note_61 rfl rfl ?_
        refine zb_gFa 8 dX12_note_62 fl_X12_34 i_0 hW hF rfl rfl rfl (by decide) rfl 240 rfl (fun i68 l69 => ?_)
        refine zb_iload_n (j := 2) dX12_note_65 rfl rfl ?_
        refine zb_bipush dX12_note_66 (by decide) (zb_inIc rfl) ?_
        obtain ⟨o70, h⟩ := h
        refine zb_isub dX12_note_68 o70 ?_
        refine zb_aload_n (j := 0) dX12_note_69 rfl rfl ?_
        refine zb_gFa 8 dX12_note_70 fl_X12_34 i_0 hW hF rfl rfl rfl (by decide) rfl 240 rfl (fun i71 l72 => ?_)
        refine zb_iload_n (j := 2) dX12_note_73 rfl rfl ?_
        obtain ⟨o73, h⟩ := h
        refine zb_lI dX12_note_74 i71 l72 o73.1 o73.2 ?_
        obtain ⟨o74, h⟩ := h
        refine zb_sI dX12_note_75 i68 l69 o74.1 o74.2 hF (fun m75 e75 hF => ?_)
        have h := h m75 e75
        refine zb_aload_n (j := 0) dX12_note_76 rfl rfl ?_
        refine zb_gFa 9 dX12_note_77 fl_X12_37 i_0 hW hF rfl rfl rfl (by decide) rfl 240 rfl (fun i75 l76 => ?_)
        refine zb_iload_n (j := 2) dX12_note_80 rfl rfl ?_
        refine zb_bipush dX12_note_81 (by decide) (zb_inIc rfl) ?_
        refine zb_isub dX12_note_83 o70 ?_
        refine zb_aload_n (j := 0) dX12_note_84 rfl rfl ?_
        refine zb_gFa 9 dX12_note_85 fl_X12_37 i_0 hW hF rfl rfl rfl (by decide) rfl 240 rfl (fun i77 l78 => ?_)
        refine zb_iload_n (j := 2) dX12_note_88 rfl rfl ?_
        refine zb_lI dX12_note_89 i77 l78 o73.1 o73.2 ?_
        refine zb_sI dX12_note_90 i75 l76 o74.1 o74.2 hF (fun m90 e90 hF => ?_)
        have h := h m90 e90
        refine zb_aload_n (j := 0) dX12_note_91 rfl rfl ?_
        refine zb_gFa 10 dX12_note_92 fl_X12_40 i_0 hW hF rfl rfl rfl (by decide) rfl 240 rfl (fun i79 l80 => ?_)
        refine zb_iload_n (j := 2) dX12_note_95 rfl rfl ?_
        refine zb_bipush dX12_note_96 (by decide) (zb_inIc rfl) ?_
        refine zb_isub dX12_note_98 o70 ?_
        refine zb_aload_n (j := 0) dX12_note_99 rfl rfl ?_
        refine zb_gFa 10 dX12_note_100 fl_X12_40 i_0 hW hF rfl rfl rfl (by decide) rfl 240 rfl (fun i81 l82 => ?_)
        refine zb_iload_n (j := 2) dX12_note_103 rfl rfl ?_
        refine zb_lI dX12_note_104 i81 l82 o73.1 o73.2 ?_
        refine zb_sI dX12_note_105 i79 l80 o74.1 o74.2 hF (fun m105 e105 hF => ?_)
        have h := h m105 e105
        refine zb_aload_n (j := 0) dX12_note_106 rfl rfl ?_
        refine zb_gFa 11 dX12_note_107 fl_X12_43 i_0 hW hF rfl rfl rfl (by decide) rfl 240 rfl (fun i83 l84 => ?_)
        refine zb_iload_n (j := 2) dX12_note_110 rfl rfl ?_
        refine zb_bipush dX12_note_111 (by decide) (zb_inIc rfl) ?_
        refine zb_isub dX12_note_113 o70 ?_
        refine zb_aload_n (j := 0) dX12_note_114 rfl rfl ?_
        refine zb_gFa 11 dX12_note_115 fl_X12_43 i_0 hW hF rfl rfl rfl (by decide) rfl 240 rfl (fun i85 l86 => ?_)
        refine zb_iload_n (j := 2) dX12_note_118 rfl rfl ?_
        refine zb_lI dX12_note_119 i85 l86 o73.1 o73.2 ?_
        refine zb_sI dX12_note_120 i83 l84 o74.1 o74.2 hF (fun m120 e120 hF => ?_)
        have h := h m120 e120
        obtain ⟨o87, h⟩ := h
        refine zb_iinc (j := 2) (L' := [(2, (0, (v2_54 + 1))), (0, (2, x0)), (1, (0, x1))]) dX12_note_121 rfl o87 (by decide) rfl ?_
        refine zb_goto (tgt := 54) dX12_note_124 (by decide) ?_
        refine zb_sub (L' := [(0, (2, x0)), (1, (0, x1)), (2, (0, (v2_54 + 1)))]) [1, 2, 0] rfl ?_
        exact (hX54 _ _).mp h hF
    unfold PL_X12_note_11 at h
    obtain ⟨X11, hX11⟩ : ∃ X : Int → zb_M → Prop, ∀ (v2_11 : Int) (m11l : zb_M), (X v2_11 m11l ↔ (zb_FIN E m11l → zb_WP (G, C, d + 1, 0, 0, zb_q E Q) F_X12_note 11 [(0, (2, x0)), (1, (0, x1)), (2, (0, v2_11))] [] E.1 m11l 0 0)) := ⟨fun v2_11 m11l => zb_FIN E m11l → zb_WP (G, C, d + 1, 0, 0, zb_q E Q) F_X12_note 11 [(0, (2, x0)), (1, (0, x1)), (2, (0, v2_11))] [] E.1 m11l 0 0, fun _ _ => Iff.rfl⟩
    refine (hX11 _ _).mp (h X11 (fun v2_11 m11l h => (hX11 _ _).mpr (fun hF => ?_))) hF
    refine zb_iload_n (j := 2) dX12_note_11 rfl rfl ?_
    refine zb_bipush dX12_note_12 (by decide) (zb_inIc rfl) ?_
    refine zb_icmp_ge (tgt := 51) dX12_note_14 (by decide) (fun c88 => ?_) (fun c88 => ?_)
    · have h := h.1 c88
      refine zb_sub (L' := [(0, (2, x0)), (1, (0, x1))]) [0, 1] rfl ?_
      exact hJ51 _ hF h
    · have h := h.2 c88
      refine zb_aload_n (j := 0) dX12_note_17 rfl rfl ?_
      refine zb_gFa 6 dX12_note_18 fl_X12_28 i_0 hW hF rfl rfl rfl (by decide) rfl 20 rfl (fun i89 l90 => ?_)
      refine zb_iload_n (j := 2) dX12_note_21 rfl rfl ?_
      refine zb_iconst dX12_note_22 (zb_inIc rfl) ?_
      obtain ⟨o91, h⟩ := h
      refine zb_isub dX12_note_23 o91 ?_
      refine zb_aload_n (j := 0) dX12_note_24 rfl rfl ?_
      refine zb_gFa 6 dX12_note_25 fl_X12_28 i_0 hW hF rfl rfl rfl (by decide) rfl 20 rfl (fun i92 l93 => ?_)
      refine zb_iload_n (j := 2) dX12_note_28 rfl rfl ?_
      obtain ⟨o94, h⟩ := h
      refine zb_lI dX12_note_29 i92 l93 o94.1 o94.2 ?_
      obtain ⟨o95, h⟩ := h
      refine zb_sI dX12_note_30 i89 l90 o95.1 o95.2 hF (fun m30 e30 hF => ?_)
      have h := h m30 e30
      refine zb_aload_n (j := 0) dX12_note_31 rfl rfl ?_
      refine zb_gFa 7 dX12_note_32 fl_X12_31 i_0 hW hF rfl rfl rfl (by decide) rfl 20 rfl (fun i96 l97 => ?_)
      refine zb_iload_n (j := 2) dX12_note_35 rfl rfl ?_
      refine zb_iconst dX12_note_36 (zb_inIc rfl) ?_
      refine zb_isub dX12_note_37 o91 ?_
      refine zb_aload_n (j := 0) dX12_note_38 rfl rfl ?_
      refine zb_gFa 7 dX12_note_39 fl_X12_31 i_0 hW hF rfl rfl rfl (by decide) rfl 20 rfl (fun i98 l99 => ?_)
      refine zb_iload_n (j := 2) dX12_note_42 rfl rfl ?_
      refine zb_lI dX12_note_43 i98 l99 o94.1 o94.2 ?_
      refine zb_sI dX12_note_44 i96 l97 o95.1 o95.2 hF (fun m44 e44 hF => ?_)
      have h := h m44 e44
      obtain ⟨o100, h⟩ := h
      refine zb_iinc (j := 2) (L' := [(2, (0, (v2_11 + 1))), (0, (2, x0)), (1, (0, x1))]) dX12_note_45 rfl o100 (by decide) rfl ?_
      refine zb_goto (tgt := 11) dX12_note_48 (by decide) ?_
      refine zb_sub (L' := [(0, (2, x0)), (1, (0, x1)), (2, (0, (v2_11 + 1)))]) [1, 2, 0] rfl ?_
      exact (hX11 _ _).mp h hF
theorem dX12_undo_0 : decode cX12_undo 0 = .ok (.aload_n 0, 1) := by decide +kernel
theorem dX12_undo_1 : decode cX12_undo 1 = .ok (.getfield 141, 3) := by decide +kernel
theorem dX12_undo_4 : decode cX12_undo 4 = .ok (.ifCond .ne 6, 3) := by decide +kernel
theorem dX12_undo_7 : decode cX12_undo 7 = .ok (.bipush (-2), 2) := by decide +kernel
theorem dX12_undo_9 : decode cX12_undo 9 = .ok (.ireturn, 1) := by decide +kernel
theorem dX12_undo_10 : decode cX12_undo 10 = .ok (.aload_n 0, 1) := by decide +kernel
theorem dX12_undo_11 : decode cX12_undo 11 = .ok (.dup, 1) := by decide +kernel
theorem dX12_undo_12 : decode cX12_undo 12 = .ok (.getfield 141, 3) := by decide +kernel
theorem dX12_undo_15 : decode cX12_undo 15 = .ok (.iconst 1, 1) := by decide +kernel
theorem dX12_undo_16 : decode cX12_undo 16 = .ok (.isub, 1) := by decide +kernel
theorem dX12_undo_17 : decode cX12_undo 17 = .ok (.putfield 141, 3) := by decide +kernel
theorem dX12_undo_20 : decode cX12_undo 20 = .ok (.aload_n 0, 1) := by decide +kernel
theorem dX12_undo_21 : decode cX12_undo 21 = .ok (.getfield 28, 3) := by decide +kernel
theorem dX12_undo_24 : decode cX12_undo 24 = .ok (.aload_n 0, 1) := by decide +kernel
theorem dX12_undo_25 : decode cX12_undo 25 = .ok (.getfield 141, 3) := by decide +kernel
theorem dX12_undo_28 : decode cX12_undo 28 = .ok (.iaload, 1) := by decide +kernel
theorem dX12_undo_29 : decode cX12_undo 29 = .ok (.istore_n 1, 1) := by decide +kernel
theorem dX12_undo_30 : decode cX12_undo 30 = .ok (.aload_n 0, 1) := by decide +kernel
theorem dX12_undo_31 : decode cX12_undo 31 = .ok (.getfield 7, 3) := by decide +kernel
theorem dX12_undo_34 : decode cX12_undo 34 = .ok (.iload_n 1, 1) := by decide +kernel
theorem dX12_undo_35 : decode cX12_undo 35 = .ok (.aload_n 0, 1) := by decide +kernel
theorem dX12_undo_36 : decode cX12_undo 36 = .ok (.getfield 31, 3) := by decide +kernel
theorem dX12_undo_39 : decode cX12_undo 39 = .ok (.aload_n 0, 1) := by decide +kernel
theorem dX12_undo_40 : decode cX12_undo 40 = .ok (.getfield 141, 3) := by decide +kernel
theorem dX12_undo_43 : decode cX12_undo 43 = .ok (.iaload, 1) := by decide +kernel
theorem dX12_undo_44 : decode cX12_undo 44 = .ok (.iastore, 1) := by decide +kernel
theorem dX12_undo_45 : decode cX12_undo 45 = .ok (.iconst 0, 1) := by decide +kernel
theorem dX12_undo_46 : decode cX12_undo 46 = .ok (.istore_n 2, 1) := by decide +kernel
theorem dX12_undo_47 : decode cX12_undo 47 = .ok (.iload_n 2, 1) := by decide +kernel
theorem dX12_undo_48 : decode cX12_undo 48 = .ok (.bipush 12, 2) := by decide +kernel
theorem dX12_undo_50 : decode cX12_undo 50 = .ok (.if_icmp .ge 109, 3) := by decide +kernel
theorem dX12_undo_53 : decode cX12_undo 53 = .ok (.aload_n 0, 1) := by decide +kernel
theorem dX12_undo_54 : decode cX12_undo 54 = .ok (.getfield 13, 3) := by decide +kernel
theorem dX12_undo_57 : decode cX12_undo 57 = .ok (.bipush 12, 2) := by decide +kernel
theorem dX12_undo_59 : decode cX12_undo 59 = .ok (.iload_n 1, 1) := by decide +kernel
theorem dX12_undo_60 : decode cX12_undo 60 = .ok (.imul, 1) := by decide +kernel
theorem dX12_undo_61 : decode cX12_undo 61 = .ok (.iload_n 2, 1) := by decide +kernel
theorem dX12_undo_62 : decode cX12_undo 62 = .ok (.iadd, 1) := by decide +kernel
theorem dX12_undo_63 : decode cX12_undo 63 = .ok (.aload_n 0, 1) := by decide +kernel
theorem dX12_undo_64 : decode cX12_undo 64 = .ok (.getfield 34, 3) := by decide +kernel
theorem dX12_undo_67 : decode cX12_undo 67 = .ok (.bipush 12, 2) := by decide +kernel
theorem dX12_undo_69 : decode cX12_undo 69 = .ok (.aload_n 0, 1) := by decide +kernel
theorem dX12_undo_70 : decode cX12_undo 70 = .ok (.getfield 141, 3) := by decide +kernel
theorem dX12_undo_73 : decode cX12_undo 73 = .ok (.imul, 1) := by decide +kernel
theorem dX12_undo_74 : decode cX12_undo 74 = .ok (.iload_n 2, 1) := by decide +kernel
theorem dX12_undo_75 : decode cX12_undo 75 = .ok (.iadd, 1) := by decide +kernel
theorem dX12_undo_76 : decode cX12_undo 76 = .ok (.iaload, 1) := by decide +kernel
theorem dX12_undo_77 : decode cX12_undo 77 = .ok (.iastore, 1) := by decide +kernel
theorem dX12_undo_78 : decode cX12_undo 78 = .ok (.aload_n 0, 1) := by decide +kernel
theorem dX12_undo_79 : decode cX12_undo 79 = .ok (.getfield 16, 3) := by decide +kernel
theorem dX12_undo_82 : decode cX12_undo 82 = .ok (.bipush 12, 2) := by decide +kernel
theorem dX12_undo_84 : decode cX12_undo 84 = .ok (.iload_n 1, 1) := by decide +kernel
theorem dX12_undo_85 : decode cX12_undo 85 = .ok (.imul, 1) := by decide +kernel
theorem dX12_undo_86 : decode cX12_undo 86 = .ok (.iload_n 2, 1) := by decide +kernel
theorem dX12_undo_87 : decode cX12_undo 87 = .ok (.iadd, 1) := by decide +kernel
theorem dX12_undo_88 : decode cX12_undo 88 = .ok (.aload_n 0, 1) := by decide +kernel
theorem dX12_undo_89 : decode cX12_undo 89 = .ok (.getfield 37, 3) := by decide +kernel
theorem dX12_undo_92 : decode cX12_undo 92 = .ok (.bipush 12, 2) := by decide +kernel
theorem dX12_undo_94 : decode cX12_undo 94 = .ok (.aload_n 0, 1) := by decide +kernel
theorem dX12_undo_95 : decode cX12_undo 95 = .ok (.getfield 141, 3) := by decide +kernel
theorem dX12_undo_98 : decode cX12_undo 98 = .ok (.imul, 1) := by decide +kernel
theorem dX12_undo_99 : decode cX12_undo 99 = .ok (.iload_n 2, 1) := by decide +kernel
theorem dX12_undo_100 : decode cX12_undo 100 = .ok (.iadd, 1) := by decide +kernel
theorem dX12_undo_101 : decode cX12_undo 101 = .ok (.iaload, 1) := by decide +kernel
theorem dX12_undo_102 : decode cX12_undo 102 = .ok (.iastore, 1) := by decide +kernel
theorem dX12_undo_103 : decode cX12_undo 103 = .ok (.aload_n 0, 1) := by decide +kernel
theorem dX12_undo_104 : decode cX12_undo 104 = .ok (.getfield 19, 3) := by decide +kernel
theorem dX12_undo_107 : decode cX12_undo 107 = .ok (.bipush 12, 2) := by decide +kernel
theorem dX12_undo_109 : decode cX12_undo 109 = .ok (.iload_n 1, 1) := by decide +kernel
theorem dX12_undo_110 : decode cX12_undo 110 = .ok (.imul, 1) := by decide +kernel
theorem dX12_undo_111 : decode cX12_undo 111 = .ok (.iload_n 2, 1) := by decide +kernel
theorem dX12_undo_112 : decode cX12_undo 112 = .ok (.iadd, 1) := by decide +kernel
theorem dX12_undo_113 : decode cX12_undo 113 = .ok (.aload_n 0, 1) := by decide +kernel
theorem dX12_undo_114 : decode cX12_undo 114 = .ok (.getfield 40, 3) := by decide +kernel
theorem dX12_undo_117 : decode cX12_undo 117 = .ok (.bipush 12, 2) := by decide +kernel
theorem dX12_undo_119 : decode cX12_undo 119 = .ok (.aload_n 0, 1) := by decide +kernel
theorem dX12_undo_120 : decode cX12_undo 120 = .ok (.getfield 141, 3) := by decide +kernel
theorem dX12_undo_123 : decode cX12_undo 123 = .ok (.imul, 1) := by decide +kernel
theorem dX12_undo_124 : decode cX12_undo 124 = .ok (.iload_n 2, 1) := by decide +kernel
theorem dX12_undo_125 : decode cX12_undo 125 = .ok (.iadd, 1) := by decide +kernel
theorem dX12_undo_126 : decode cX12_undo 126 = .ok (.iaload, 1) := by decide +kernel
theorem dX12_undo_127 : decode cX12_undo 127 = .ok (.iastore, 1) := by decide +kernel
theorem dX12_undo_128 : decode cX12_undo 128 = .ok (.aload_n 0, 1) := by decide +kernel
theorem dX12_undo_129 : decode cX12_undo 129 = .ok (.getfield 22, 3) := by decide +kernel
theorem dX12_undo_132 : decode cX12_undo 132 = .ok (.bipush 12, 2) := by decide +kernel
theorem dX12_undo_134 : decode cX12_undo 134 = .ok (.iload_n 1, 1) := by decide +kernel
theorem dX12_undo_135 : decode cX12_undo 135 = .ok (.imul, 1) := by decide +kernel
theorem dX12_undo_136 : decode cX12_undo 136 = .ok (.iload_n 2, 1) := by decide +kernel
theorem dX12_undo_137 : decode cX12_undo 137 = .ok (.iadd, 1) := by decide +kernel
theorem dX12_undo_138 : decode cX12_undo 138 = .ok (.aload_n 0, 1) := by decide +kernel
theorem dX12_undo_139 : decode cX12_undo 139 = .ok (.getfield 43, 3) := by decide +kernel
theorem dX12_undo_142 : decode cX12_undo 142 = .ok (.bipush 12, 2) := by decide +kernel
theorem dX12_undo_144 : decode cX12_undo 144 = .ok (.aload_n 0, 1) := by decide +kernel
theorem dX12_undo_145 : decode cX12_undo 145 = .ok (.getfield 141, 3) := by decide +kernel
theorem dX12_undo_148 : decode cX12_undo 148 = .ok (.imul, 1) := by decide +kernel
theorem dX12_undo_149 : decode cX12_undo 149 = .ok (.iload_n 2, 1) := by decide +kernel
theorem dX12_undo_150 : decode cX12_undo 150 = .ok (.iadd, 1) := by decide +kernel
theorem dX12_undo_151 : decode cX12_undo 151 = .ok (.iaload, 1) := by decide +kernel
theorem dX12_undo_152 : decode cX12_undo 152 = .ok (.iastore, 1) := by decide +kernel
theorem dX12_undo_153 : decode cX12_undo 153 = .ok (.iinc 2 1, 3) := by decide +kernel
theorem dX12_undo_156 : decode cX12_undo 156 = .ok (.goto (-109), 3) := by decide +kernel
theorem dX12_undo_159 : decode cX12_undo 159 = .ok (.iconst 0, 1) := by decide +kernel
theorem dX12_undo_160 : decode cX12_undo 160 = .ok (.istore_n 2, 1) := by decide +kernel
theorem dX12_undo_161 : decode cX12_undo 161 = .ok (.iload_n 2, 1) := by decide +kernel
theorem dX12_undo_162 : decode cX12_undo 162 = .ok (.sipush 144, 3) := by decide +kernel
theorem dX12_undo_165 : decode cX12_undo 165 = .ok (.if_icmp .ge 36, 3) := by decide +kernel
theorem dX12_undo_168 : decode cX12_undo 168 = .ok (.aload_n 0, 1) := by decide +kernel
theorem dX12_undo_169 : decode cX12_undo 169 = .ok (.getfield 25, 3) := by decide +kernel
theorem dX12_undo_172 : decode cX12_undo 172 = .ok (.sipush 144, 3) := by decide +kernel
theorem dX12_undo_175 : decode cX12_undo 175 = .ok (.iload_n 1, 1) := by decide +kernel
theorem dX12_undo_176 : decode cX12_undo 176 = .ok (.imul, 1) := by decide +kernel
theorem dX12_undo_177 : decode cX12_undo 177 = .ok (.iload_n 2, 1) := by decide +kernel
theorem dX12_undo_178 : decode cX12_undo 178 = .ok (.iadd, 1) := by decide +kernel
theorem dX12_undo_179 : decode cX12_undo 179 = .ok (.aload_n 0, 1) := by decide +kernel
theorem dX12_undo_180 : decode cX12_undo 180 = .ok (.getfield 46, 3) := by decide +kernel
theorem dX12_undo_183 : decode cX12_undo 183 = .ok (.sipush 144, 3) := by decide +kernel
theorem dX12_undo_186 : decode cX12_undo 186 = .ok (.aload_n 0, 1) := by decide +kernel
theorem dX12_undo_187 : decode cX12_undo 187 = .ok (.getfield 141, 3) := by decide +kernel
theorem dX12_undo_190 : decode cX12_undo 190 = .ok (.imul, 1) := by decide +kernel
theorem dX12_undo_191 : decode cX12_undo 191 = .ok (.iload_n 2, 1) := by decide +kernel
theorem dX12_undo_192 : decode cX12_undo 192 = .ok (.iadd, 1) := by decide +kernel
theorem dX12_undo_193 : decode cX12_undo 193 = .ok (.iaload, 1) := by decide +kernel
theorem dX12_undo_194 : decode cX12_undo 194 = .ok (.iastore, 1) := by decide +kernel
theorem dX12_undo_195 : decode cX12_undo 195 = .ok (.iinc 2 1, 3) := by decide +kernel
theorem dX12_undo_198 : decode cX12_undo 198 = .ok (.goto (-37), 3) := by decide +kernel
theorem dX12_undo_201 : decode cX12_undo 201 = .ok (.iload_n 1, 1) := by decide +kernel
theorem dX12_undo_202 : decode cX12_undo 202 = .ok (.ireturn, 1) := by decide +kernel
def PL_X12_undo_161 (d : Nat) (E : zb_E) (x0 : Int) (m17 : zb_M) (Q : Int → zb_M → Prop)  (v2_161 : Int) (m161l : zb_M) : Prop :=
  ∀ X161 : Int → zb_M → Prop, (∀ (v2_161 : Int) (m161l : zb_M), ((144 ≤ v2_161 → Q (m17 (E.2 x0 6) (m17 x0 13)) m161l) ∧ (¬ 144 ≤ v2_161 → (zb_inI (144 * (m17 (E.2 x0 6) (m17 x0 13)))) ∧ ((zb_inI ((144 * (m17 (E.2 x0 6) (m17 x0 13))) + v2_161)) ∧ ((zb_inI (144 * (m161l x0 13))) ∧ ((zb_inI ((144 * (m161l x0 13)) + v2_161)) ∧ ((0 ≤ ((144 * (m161l x0 13)) + v2_161) ∧ ((144 * (m161l x0 13)) + v2_161) < 2880) ∧ ((0 ≤ ((144 * (m17 (E.2 x0 6) (m17 x0 13))) + v2_161) ∧ ((144 * (m17 (E.2 x0 6) (m17 x0 13))) + v2_161) < 1152) ∧ (∀ m194, m194 = zb_up m161l (E.2 x0 5) ((144 * (m17 (E.2 x0 6) (m17 x0 13))) + v2_161) (m161l (E.2 x0 12) ((144 * (m161l x0 13)) + v2_161)) → ((zb_inI (v2_161 + 1)) ∧ (X161 (v2_161 + 1) m194)))))))))) → X161 v2_161 m161l) → X161 v2_161 m161l
def PJ_X12_undo_159 (d : Nat) (E : zb_E) (x0 : Int) (m17 : zb_M) (Q : Int → zb_M → Prop) (m159j : zb_M) : Prop :=
  PL_X12_undo_161 d E x0 m17 Q 0 m159j
def PL_X12_undo_47 (d : Nat) (E : zb_E) (x0 : Int) (m17 : zb_M) (Q : Int → zb_M → Prop) (K159_47 : zb_M → Prop) (v2_47 : Int) (m47l : zb_M) : Prop :=
  ∀ X47 : Int → zb_M → Prop, (∀ (v2_47 : Int) (m47l : zb_M), ((12 ≤ v2_47 → K159_47 m47l) ∧ (¬ 12 ≤ v2_47 → (zb_inI (12 * (m17 (E.2 x0 6) (m17 x0 13)))) ∧ ((zb_inI ((12 * (m17 (E.2 x0 6) (m17 x0 13))) + v2_47)) ∧ ((zb_inI (12 * (m47l x0 13))) ∧ ((zb_inI ((12 * (m47l x0 13)) + v2_47)) ∧ ((0 ≤ ((12 * (m47l x0 13)) + v2_47) ∧ ((12 * (m47l x0 13)) + v2_47) < 240) ∧ ((0 ≤ ((12 * (m17 (E.2 x0 6) (m17 x0 13))) + v2_47) ∧ ((12 * (m17 (E.2 x0 6) (m17 x0 13))) + v2_47) < 96) ∧ (∀ m77, m77 = zb_up m47l (E.2 x0 1) ((12 * (m17 (E.2 x0 6) (m17 x0 13))) + v2_47) (m47l (E.2 x0 8) ((12 * (m47l x0 13)) + v2_47)) → ((zb_inI (12 * (m77 x0 13))) ∧ ((zb_inI ((12 * (m77 x0 13)) + v2_47)) ∧ ((0 ≤ ((12 * (m77 x0 13)) + v2_47) ∧ ((12 * (m77 x0 13)) + v2_47) < 240) ∧ (∀ m102, m102 = zb_up m77 (E.2 x0 2) ((12 * (m17 (E.2 x0 6) (m17 x0 13))) + v2_47) (m77 (E.2 x0 9) ((12 * (m77 x0 13)) + v2_47)) → ((zb_inI (12 * (m102 x0 13))) ∧ ((zb_inI ((12 * (m102 x0 13)) + v2_47)) ∧ ((0 ≤ ((12 * (m102 x0 13)) + v2_47) ∧ ((12 * (m102 x0 13)) + v2_47) < 240) ∧ (∀ m127, m127 = zb_up m102 (E.2 x0 3) ((12 * (m17 (E.2 x0 6) (m17 x0 13))) + v2_47) (m102 (E.2 x0 10) ((12 * (m102 x0 13)) + v2_47)) → ((zb_inI (12 * (m127 x0 13))) ∧ ((zb_inI ((12 * (m127 x0 13)) + v2_47)) ∧ ((0 ≤ ((12 * (m127 x0 13)) + v2_47) ∧ ((12 * (m127 x0 13)) + v2_47) < 240) ∧ (∀ m152, m152 = zb_up m127 (E.2 x0 4) ((12 * (m17 (E.2 x0 6) (m17 x0 13))) + v2_47) (m127 (E.2 x0 11) ((12 * (m127 x0 13)) + v2_47)) → ((zb_inI (v2_47 + 1)) ∧ (X47 (v2_47 + 1) m152)))))))))))))))))))))) → X47 v2_47 m47l) → X47 v2_47 m47l
def PM_X12_undo (d : Nat) (E : zb_E) (x0 : Int) (m : zb_M) (Q : Int → zb_M → Prop) : Prop :=
  ((m x0 13) = 0 → Q (-2) m) ∧ (¬ (m x0 13) = 0 → (zb_inI ((m x0 13) - 1)) ∧ (∀ m17, m17 = zb_up m x0 13 ((m x0 13) - 1) → ((0 ≤ (m17 x0 13) ∧ (m17 x0 13) < 20) ∧ ((0 ≤ (m17 (E.2 x0 6) (m17 x0 13)) ∧ (m17 (E.2 x0 6) (m17 x0 13)) < 8) ∧ (∀ m44, m44 = zb_up m17 (E.2 x0 0) (m17 (E.2 x0 6) (m17 x0 13)) (m17 (E.2 x0 7) (m17 x0 13)) → (PL_X12_undo_47 d E x0 m17 Q (PJ_X12_undo_159 d E x0 m17 Q) 0 m44))))))
set_option maxRecDepth 100000 in
set_option maxHeartbeats 4000000 in
theorem w_X12_undo {d : Nat} {E : zb_E} {x0 : Int} {m : zb_M} {Q : Int → zb_M → Prop} (h : PM_X12_undo d E x0 m Q) : zb_T K_X12_undo (d + 1) [(2, x0)] E m Q := by
  unfold PM_X12_undo at h
  refine zb_T_in gd_X12_undo rfl rfl (fun hW hA G C hF => ?_)
  have i_0 : zb_is E.1 x0 12 := zb_aH hA (by decide)
  show zb_WP _ _ 0 [(0, (2, x0))] [] _ _ _ _
  refine zb_aload_n (j := 0) dX12_undo_0 rfl rfl ?_
  refine zb_gI 13 dX12_undo_1 fl_X12_141 i_0 rfl rfl ?_
  refine zb_if_ne (tgt := 10) dX12_undo_4 (by decide) (fun c1 => ?_) (fun c1 => ?_)
  · have h := h.2 c1
    refine zb_aload_n (j := 0) dX12_undo_10 rfl rfl ?_
    refine zb_dup dX12_undo_11 rfl ?_
    refine zb_gI 13 dX12_undo_12 fl_X12_141 i_0 rfl rfl ?_
    refine zb_iconst dX12_undo_15 (zb_inIc rfl) ?_
    obtain ⟨o2, h⟩ := h
    refine zb_isub dX12_undo_16 o2 ?_
    refine zb_pF 13 dX12_undo_17 fl_X12_141 rfl rfl i_0 (Or.inl rfl) hF rfl rfl (fun m17 e17 hF => ?_)
    have h := h m17 e17
    refine zb_aload_n (j := 0) dX12_undo_20 rfl rfl ?_
    refine zb_gFa 6 dX12_undo_21 fl_X12_28 i_0 hW hF rfl rfl rfl (by decide) rfl 20 rfl (fun i3 l4 => ?_)
    refine zb_aload_n (j := 0) dX12_undo_24 rfl rfl ?_
    refine zb_gI 13 dX12_undo_25 fl_X12_141 i_0 rfl rfl ?_
    obtain ⟨o5, h⟩ := h
    refine zb_lI dX12_undo_28 i3 l4 o5.1 o5.2 ?_
    refine zb_istore_n (L' := [(1, (0, (m17 (E.2 x0 6) (m17 x0 13)))), (0, (2, x0))]) dX12_undo_29 rfl (by decide) rfl ?_
    refine zb_aload_n (j := 1) dX12_undo_30 rfl rfl ?_
    refine zb_gFa 0 dX12_undo_31 fl_X12_7 i_0 hW hF rfl rfl rfl (by decide) rfl 8 rfl (fun i6 l7 => ?_)
    refine zb_iload_n (j := 0) dX12_undo_34 rfl rfl ?_
    refine zb_aload_n (j := 1) dX12_undo_35 rfl rfl ?_
    refine zb_gFa 7 dX12_undo_36 fl_X12_31 i_0 hW hF rfl rfl rfl (by decide) rfl 20 rfl (fun i8 l9 => ?_)
    refine zb_aload_n (j := 1) dX12_undo_39 rfl rfl ?_
    refine zb_gI 13 dX12_undo_40 fl_X12_141 i_0 rfl rfl ?_
    refine zb_lI dX12_undo_43 i8 l9 o5.1 o5.2 ?_
    obtain ⟨o10, h⟩ := h
    refine zb_sI dX12_undo_44 i6 l7 o10.1 o10.2 hF (fun m44 e44 hF => ?_)
    have h := h m44 e44
    refine zb_iconst dX12_undo_45 (zb_inIc rfl) ?_
    refine zb_istore_n (L' := [(2, (0, 0)), (1, (0, (m17 (E.2 x0 6) (m17 x0 13)))), (0, (2, x0))]) dX12_undo_46 rfl (by decide) rfl ?_
    refine zb_sub (L' := [(0, (2, x0)), (1, (0, (m17 (E.2 x0 6) (m17 x0 13)))), (2, (0, 0))]) [2, 1, 0] rfl ?_
    have hJ159 : ∀ (m159j : zb_M), zb_FIN E m159j → PJ_X12_undo_159 d E x0 m17 Q m159j → zb_WP (G, C, d + 1, 0, 0, zb_q E Q) F_X12_undo 159 [(0, (2, x0)), (1, (0, (m17 (E.2 x0 6) (m17 x0 13))))] [] E.1 m159j 0 0 := by
      intro m159j hF h
      unfold PJ_X12_undo_159 at h
      refine zb_iconst dX12_undo_159 (zb_inIc rfl) ?_
      refine zb_istore_n (L' := [(2, (0, 0)), (0, (2, x0)), (1, (0, (m17 (E.2 x0 6) (m17 x0 13))))]) dX12_undo_160 rfl (by decide) rfl ?_
      refine zb_sub (L' := [(0, (2, x0)), (1, (0, (m17 (E.2 x0 6) (m17 x0 13)))), (2, (0, 0))]) [1, 2, 0] rfl ?_
      unfold PL_X12_undo_161 at h
      obtain ⟨X161, hX161⟩ : ∃ X : Int → zb_M → Prop, ∀ (v2_161 : Int) (m161l : zb_M), (X v2_161 m161l ↔ (zb_FIN E m161l → zb_WP (G, C, d + 1, 0, 0, zb_q E Q) F_X12_undo 161 [(0, (2, x0)), (1, (0, (m17 (E.2 x0 6) (m17 x0 13)))), (2, (0, v2_161))] [] E.1 m161l 0 0)) := ⟨fun v2_161 m161l => zb_FIN E m161l → zb_WP (G, C, d + 1, 0, 0, zb_q E Q) F_X12_undo 161 [(0, (2, x0)), (1, (0, (m17 (E.2 x0 6) (m17 x0 13)))), (2, (0, v2_161))] [] E.1 m161l 0 0, fun _ _ => Iff.rfl⟩
      refine (hX161 _ _).mp (h X161 (fun v2_161 m161l h => (hX161 _ _).mpr (fun hF => ?_))) hF
      refine zb_iload_n (j := 2) dX12_undo_161 rfl rfl ?_
      refine zb_sipush dX12_undo_162 (by decide) (zb_inIc rfl) ?_
      refine zb_icmp_ge (tgt := 201) dX12_undo_165 (by decide) (fun c11 => ?_) (fun c11 => ?_)
      · have h := h.1 c11
        refine zb_iload_n (j := 1) dX12_undo_201 rfl rfl ?_
        exact zb_rI dX12_undo_202 rfl hF h
      · have h := h.2 c11
        refine zb_aload_n (j := 0) dX12_undo_168 rfl rfl ?_
        refine zb_gFa 5 dX12_undo_169 fl_X12_25 i_0 hW hF rfl rfl rfl (by decide) rfl 1152 rfl (fun i12 l13 => ?_)
        refine zb_sipush dX12_undo_172 (by decide) (zb_inIc rfl) ?_
        refine zb_iload_n (j := 1) dX12_undo_175 rfl rfl ?_
        obtain ⟨o14, h⟩ := h
        refine zb_imul dX12_undo_176 o14 ?_
        refine zb_iload_n (j := 2) dX12_undo_177 rfl rfl ?_
        obtain ⟨o15, h⟩ := h
        refine zb_iadd dX12_undo_178 o15 ?_
        refine zb_aload_n (j := 0) dX12_undo_179 rfl rfl ?_
        refine zb_gFa 12 dX12_undo_180 fl_X12_46 i_0 hW hF rfl rfl rfl (by decide) rfl 2880 rfl (fun i16 l17 => ?_)
        refine zb_sipush dX12_undo_183 (by decide) (zb_inIc rfl) ?_
        refine zb_aload_n (j := 0) dX12_undo_186 rfl rfl ?_
        refine zb_gI 13 dX12_undo_187 fl_X12_141 i_0 rfl rfl ?_
        obtain ⟨o18, h⟩ := h
        refine zb_imul dX12_undo_190 o18 ?_
        refine zb_iload_n (j := 2) dX12_undo_191 rfl rfl ?_
        obtain ⟨o19, h⟩ := h
        refine zb_iadd dX12_undo_192 o19 ?_
        obtain ⟨o20, h⟩ := h
        refine zb_lI dX12_undo_193 i16 l17 o20.1 o20.2 ?_
        obtain ⟨o21, h⟩ := h
        refine zb_sI dX12_undo_194 i12 l13 o21.1 o21.2 hF (fun m194 e194 hF => ?_)
        have h := h m194 e194
        obtain ⟨o22, h⟩ := h
        refine zb_iinc (j := 2) (L' := [(2, (0, (v2_161 + 1))), (0, (2, x0)), (1, (0, (m17 (E.2 x0 6) (m17 x0 13))))]) dX12_undo_195 rfl o22 (by decide) rfl ?_
        refine zb_goto (tgt := 161) dX12_undo_198 (by decide) ?_
        refine zb_sub (L' := [(0, (2, x0)), (1, (0, (m17 (E.2 x0 6) (m17 x0 13)))), (2, (0, (v2_161 + 1)))]) [1, 2, 0] rfl ?_
        exact (hX161 _ _).mp h hF
    unfold PL_X12_undo_47 at h
    obtain ⟨X47, hX47⟩ : ∃ X : Int → zb_M → Prop, ∀ (v2_47 : Int) (m47l : zb_M), (X v2_47 m47l ↔ (zb_FIN E m47l → zb_WP (G, C, d + 1, 0, 0, zb_q E Q) F_X12_undo 47 [(0, (2, x0)), (1, (0, (m17 (E.2 x0 6) (m17 x0 13)))), (2, (0, v2_47))] [] E.1 m47l 0 0)) := ⟨fun v2_47 m47l => zb_FIN E m47l → zb_WP (G, C, d + 1, 0, 0, zb_q E Q) F_X12_undo 47 [(0, (2, x0)), (1, (0, (m17 (E.2 x0 6) (m17 x0 13)))), (2, (0, v2_47))] [] E.1 m47l 0 0, fun _ _ => Iff.rfl⟩
    refine (hX47 _ _).mp (h X47 (fun v2_47 m47l h => (hX47 _ _).mpr (fun hF => ?_))) hF
    refine zb_iload_n (j := 2) dX12_undo_47 rfl rfl ?_
    refine zb_bipush dX12_undo_48 (by decide) (zb_inIc rfl) ?_
    refine zb_icmp_ge (tgt := 159) dX12_undo_50 (by decide) (fun c23 => ?_) (fun c23 => ?_)
    · have h := h.1 c23
      refine zb_sub (L' := [(0, (2, x0)), (1, (0, (m17 (E.2 x0 6) (m17 x0 13))))]) [0, 1] rfl ?_
      exact hJ159 _ hF h
    · have h := h.2 c23
      refine zb_aload_n (j := 0) dX12_undo_53 rfl rfl ?_
      refine zb_gFa 1 dX12_undo_54 fl_X12_13 i_0 hW hF rfl rfl rfl (by decide) rfl 96 rfl (fun i24 l25 => ?_)
      refine zb_bipush dX12_undo_57 (by decide) (zb_inIc rfl) ?_
      refine zb_iload_n (j := 1) dX12_undo_59 rfl rfl ?_
      obtain ⟨o26, h⟩ := h
      refine zb_imul dX12_undo_60 o26 ?_
      refine zb_iload_n (j := 2) dX12_undo_61 rfl rfl ?_
      obtain ⟨o27, h⟩ := h
      refine zb_iadd dX12_undo_62 o27 ?_
      refine zb_aload_n (j := 0) dX12_undo_63 rfl rfl ?_
      refine zb_gFa 8 dX12_undo_64 fl_X12_34 i_0 hW hF rfl rfl rfl (by decide) rfl 240 rfl (fun i28 l29 => ?_)
      refine zb_bipush dX12_undo_67 (by decide) (zb_inIc rfl) ?_
      refine zb_aload_n (j := 0) dX12_undo_69 rfl rfl ?_
      refine zb_gI 13 dX12_undo_70 fl_X12_141 i_0 rfl rfl ?_
      obtain ⟨o30, h⟩ := h
      refine zb_imul dX12_undo_73 o30 ?_
      refine zb_iload_n (j := 2) dX12_undo_74 rfl rfl ?_
      obtain ⟨o31, h⟩ := h
      refine zb_iadd dX12_undo_75 o31 ?_
      obtain ⟨o32, h⟩ := h
      refine zb_lI dX12_undo_76 i28 l29 o32.1 o32.2 ?_
      obtain ⟨o33, h⟩ := h
      refine zb_sI dX12_undo_77 i24 l25 o33.1 o33.2 hF (fun m77 e77 hF => ?_)
      have h := h m77 e77
      refine zb_aload_n (j := 0) dX12_undo_78 rfl rfl ?_
      refine zb_gFa 2 dX12_undo_79 fl_X12_16 i_0 hW hF rfl rfl rfl (by decide) rfl 96 rfl (fun i34 l35 => ?_)
      refine zb_bipush dX12_undo_82 (by decide) (zb_inIc rfl) ?_
      refine zb_iload_n (j := 1) dX12_undo_84 rfl rfl ?_
      refine zb_imul dX12_undo_85 o26 ?_
      refine zb_iload_n (j := 2) dX12_undo_86 rfl rfl ?_
      refine zb_iadd dX12_undo_87 o27 ?_
      refine zb_aload_n (j := 0) dX12_undo_88 rfl rfl ?_
      refine zb_gFa 9 dX12_undo_89 fl_X12_37 i_0 hW hF rfl rfl rfl (by decide) rfl 240 rfl (fun i36 l37 => ?_)
      refine zb_bipush dX12_undo_92 (by decide) (zb_inIc rfl) ?_
      refine zb_aload_n (j := 0) dX12_undo_94 rfl rfl ?_
      refine zb_gI 13 dX12_undo_95 fl_X12_141 i_0 rfl rfl ?_
      obtain ⟨o38, h⟩ := h
      refine zb_imul dX12_undo_98 o38 ?_
      refine zb_iload_n (j := 2) dX12_undo_99 rfl rfl ?_
      obtain ⟨o39, h⟩ := h
      refine zb_iadd dX12_undo_100 o39 ?_
      obtain ⟨o40, h⟩ := h
      refine zb_lI dX12_undo_101 i36 l37 o40.1 o40.2 ?_
      refine zb_sI dX12_undo_102 i34 l35 o33.1 o33.2 hF (fun m102 e102 hF => ?_)
      have h := h m102 e102
      refine zb_aload_n (j := 0) dX12_undo_103 rfl rfl ?_
      refine zb_gFa 3 dX12_undo_104 fl_X12_19 i_0 hW hF rfl rfl rfl (by decide) rfl 96 rfl (fun i41 l42 => ?_)
      refine zb_bipush dX12_undo_107 (by decide) (zb_inIc rfl) ?_
      refine zb_iload_n (j := 1) dX12_undo_109 rfl rfl ?_
      refine zb_imul dX12_undo_110 o26 ?_
      refine zb_iload_n (j := 2) dX12_undo_111 rfl rfl ?_
      refine zb_iadd dX12_undo_112 o27 ?_
      refine zb_aload_n (j := 0) dX12_undo_113 rfl rfl ?_
      refine zb_gFa 10 dX12_undo_114 fl_X12_40 i_0 hW hF rfl rfl rfl (by decide) rfl 240 rfl (fun i43 l44 => ?_)
      refine zb_bipush dX12_undo_117 (by decide) (zb_inIc rfl) ?_
      refine zb_aload_n (j := 0) dX12_undo_119 rfl rfl ?_
      refine zb_gI 13 dX12_undo_120 fl_X12_141 i_0 rfl rfl ?_
      obtain ⟨o45, h⟩ := h
      refine zb_imul dX12_undo_123 o45 ?_
      refine zb_iload_n (j := 2) dX12_undo_124 rfl rfl ?_
      obtain ⟨o46, h⟩ := h
      refine zb_iadd dX12_undo_125 o46 ?_
      obtain ⟨o47, h⟩ := h
      refine zb_lI dX12_undo_126 i43 l44 o47.1 o47.2 ?_
      refine zb_sI dX12_undo_127 i41 l42 o33.1 o33.2 hF (fun m127 e127 hF => ?_)
      have h := h m127 e127
      refine zb_aload_n (j := 0) dX12_undo_128 rfl rfl ?_
      refine zb_gFa 4 dX12_undo_129 fl_X12_22 i_0 hW hF rfl rfl rfl (by decide) rfl 96 rfl (fun i48 l49 => ?_)
      refine zb_bipush dX12_undo_132 (by decide) (zb_inIc rfl) ?_
      refine zb_iload_n (j := 1) dX12_undo_134 rfl rfl ?_
      refine zb_imul dX12_undo_135 o26 ?_
      refine zb_iload_n (j := 2) dX12_undo_136 rfl rfl ?_
      refine zb_iadd dX12_undo_137 o27 ?_
      refine zb_aload_n (j := 0) dX12_undo_138 rfl rfl ?_
      refine zb_gFa 11 dX12_undo_139 fl_X12_43 i_0 hW hF rfl rfl rfl (by decide) rfl 240 rfl (fun i50 l51 => ?_)
      refine zb_bipush dX12_undo_142 (by decide) (zb_inIc rfl) ?_
      refine zb_aload_n (j := 0) dX12_undo_144 rfl rfl ?_
      refine zb_gI 13 dX12_undo_145 fl_X12_141 i_0 rfl rfl ?_
      obtain ⟨o52, h⟩ := h
      refine zb_imul dX12_undo_148 o52 ?_
      refine zb_iload_n (j := 2) dX12_undo_149 rfl rfl ?_
      obtain ⟨o53, h⟩ := h
      refine zb_iadd dX12_undo_150 o53 ?_
      obtain ⟨o54, h⟩ := h
      refine zb_lI dX12_undo_151 i50 l51 o54.1 o54.2 ?_
      refine zb_sI dX12_undo_152 i48 l49 o33.1 o33.2 hF (fun m152 e152 hF => ?_)
      have h := h m152 e152
      obtain ⟨o55, h⟩ := h
      refine zb_iinc (j := 2) (L' := [(2, (0, (v2_47 + 1))), (0, (2, x0)), (1, (0, (m17 (E.2 x0 6) (m17 x0 13))))]) dX12_undo_153 rfl o55 (by decide) rfl ?_
      refine zb_goto (tgt := 47) dX12_undo_156 (by decide) ?_
      refine zb_sub (L' := [(0, (2, x0)), (1, (0, (m17 (E.2 x0 6) (m17 x0 13)))), (2, (0, (v2_47 + 1)))]) [1, 2, 0] rfl ?_
      exact (hX47 _ _).mp h hF
  · have h := h.1 c1
    refine zb_bipush dX12_undo_7 (by decide) (zb_inIc rfl) ?_
    exact zb_rI dX12_undo_9 rfl hF h
theorem dX12_isNamed_0 : decode cX12_isNamed 0 = .ok (.iload_n 0, 1) := by decide +kernel
theorem dX12_isNamed_1 : decode cX12_isNamed 1 = .ok (.iconst 1, 1) := by decide +kernel
theorem dX12_isNamed_2 : decode cX12_isNamed 2 = .ok (.iconst 3, 1) := by decide +kernel
theorem dX12_isNamed_3 : decode cX12_isNamed 3 = .ok (.invokestatic 133, 3) := by decide +kernel
theorem dX12_isNamed_6 : decode cX12_isNamed 6 = .ok (.ireturn, 1) := by decide +kernel
def PM_X12_isNamed (d : Nat) (E : zb_E) (x0 : Int) (m : zb_M) (Q : Int → Prop) : Prop :=
  zb_Tp K_X12_in d [(0, x0), (0, 1), (0, 3)] E m (fun r3 => (r3 = 0 ∨ r3 = 1) ∧ (Q r3))
set_option maxRecDepth 100000 in
set_option maxHeartbeats 4000000 in
theorem w_X12_isNamed {d : Nat} {E : zb_E} {x0 : Int} {m : zb_M} {Q : Int → Prop} (h : PM_X12_isNamed d E x0 m Q) : zb_Tp K_X12_isNamed (d + 1) [(0, x0)] E m Q := by
  unfold PM_X12_isNamed at h
  refine zb_T_in gd_X12_isNamed rfl rfl (fun hW hA G C hF => ?_)
  show zb_WP _ _ 0 [(0, (0, x0))] [] _ _ _ _
  refine zb_iload_n (j := 0) dX12_isNamed_0 rfl rfl ?_
  refine zb_iconst dX12_isNamed_1 (zb_inIc rfl) ?_
  refine zb_iconst dX12_isNamed_2 (zb_inIc rfl) ?_
  refine zb_cSp (As := [(0, x0), (0, 1), (0, 3)]) (As' := [(0, 3), (0, 1), (0, x0)]) (st := []) dX12_isNamed_3 lk_X12_133 gd_X12_in rfl rfl h hW hF (zb_aI (zb_aI (zb_aI zb_a0))) (Nat.le_refl _) (Nat.le_of_ble_eq_true rfl) (fun r3 h => ?_)
  show zb_WP _ _ _ _ [(0, r3)] _ _ _ _
  obtain ⟨o1, h⟩ := h
  exact zb_rZ dX12_isNamed_6 rfl hF o1 ⟨rfl, h⟩
theorem dX12_thing_0 : decode cX12_thing 0 = .ok (.aload_n 0, 1) := by decide +kernel
theorem dX12_thing_1 : decode cX12_thing 1 = .ok (.iload_n 1, 1) := by decide +kernel
theorem dX12_thing_2 : decode cX12_thing 2 = .ok (.invokevirtual 137, 3) := by decide +kernel
theorem dX12_thing_5 : decode cX12_thing 5 = .ok (.ifCond .eq 40, 3) := by decide +kernel
theorem dX12_thing_8 : decode cX12_thing 8 = .ok (.iload_n 2, 1) := by decide +kernel
theorem dX12_thing_9 : decode cX12_thing 9 = .ok (.iconst 0, 1) := by decide +kernel
theorem dX12_thing_10 : decode cX12_thing 10 = .ok (.iconst 4, 1) := by decide +kernel
theorem dX12_thing_11 : decode cX12_thing 11 = .ok (.invokestatic 133, 3) := by decide +kernel
theorem dX12_thing_14 : decode cX12_thing 14 = .ok (.ifCond .eq 31, 3) := by decide +kernel
theorem dX12_thing_17 : decode cX12_thing 17 = .ok (.iload_n 3, 1) := by decide +kernel
theorem dX12_thing_18 : decode cX12_thing 18 = .ok (.iconst 0, 1) := by decide +kernel
theorem dX12_thing_19 : decode cX12_thing 19 = .ok (.bipush 9, 2) := by decide +kernel
theorem dX12_thing_21 : decode cX12_thing 21 = .ok (.invokestatic 133, 3) := by decide +kernel
theorem dX12_thing_24 : decode cX12_thing 24 = .ok (.ifCond .eq 21, 3) := by decide +kernel
theorem dX12_thing_27 : decode cX12_thing 27 = .ok (.iload_n 2, 1) := by decide +kernel
theorem dX12_thing_28 : decode cX12_thing 28 = .ok (.invokestatic 145, 3) := by decide +kernel
theorem dX12_thing_31 : decode cX12_thing 31 = .ok (.ifCond .eq 16, 3) := by decide +kernel
theorem dX12_thing_34 : decode cX12_thing 34 = .ok (.iload 4, 2) := by decide +kernel
theorem dX12_thing_36 : decode cX12_thing 36 = .ok (.iconst 0, 1) := by decide +kernel
theorem dX12_thing_37 : decode cX12_thing 37 = .ok (.bipush 99, 2) := by decide +kernel
theorem dX12_thing_39 : decode cX12_thing 39 = .ok (.invokestatic 133, 3) := by decide +kernel
theorem dX12_thing_42 : decode cX12_thing 42 = .ok (.ifCond .ne 5, 3) := by decide +kernel
theorem dX12_thing_45 : decode cX12_thing 45 = .ok (.iconst (-1), 1) := by decide +kernel
theorem dX12_thing_46 : decode cX12_thing 46 = .ok (.ireturn, 1) := by decide +kernel
theorem dX12_thing_47 : decode cX12_thing 47 = .ok (.aload_n 0, 1) := by decide +kernel
theorem dX12_thing_48 : decode cX12_thing 48 = .ok (.getfield 7, 3) := by decide +kernel
theorem dX12_thing_51 : decode cX12_thing 51 = .ok (.iload_n 1, 1) := by decide +kernel
theorem dX12_thing_52 : decode cX12_thing 52 = .ok (.iaload, 1) := by decide +kernel
theorem dX12_thing_53 : decode cX12_thing 53 = .ok (.bipush 12, 2) := by decide +kernel
theorem dX12_thing_55 : decode cX12_thing 55 = .ok (.if_icmp .ne 6, 3) := by decide +kernel
theorem dX12_thing_58 : decode cX12_thing 58 = .ok (.bipush (-3), 2) := by decide +kernel
theorem dX12_thing_60 : decode cX12_thing 60 = .ok (.ireturn, 1) := by decide +kernel
theorem dX12_thing_61 : decode cX12_thing 61 = .ok (.aload_n 0, 1) := by decide +kernel
theorem dX12_thing_62 : decode cX12_thing 62 = .ok (.iload_n 1, 1) := by decide +kernel
theorem dX12_thing_63 : decode cX12_thing 63 = .ok (.invokevirtual 148, 3) := by decide +kernel
theorem dX12_thing_66 : decode cX12_thing 66 = .ok (.bipush 12, 2) := by decide +kernel
theorem dX12_thing_68 : decode cX12_thing 68 = .ok (.iload_n 1, 1) := by decide +kernel
theorem dX12_thing_69 : decode cX12_thing 69 = .ok (.imul, 1) := by decide +kernel
theorem dX12_thing_70 : decode cX12_thing 70 = .ok (.aload_n 0, 1) := by decide +kernel
theorem dX12_thing_71 : decode cX12_thing 71 = .ok (.getfield 7, 3) := by decide +kernel
theorem dX12_thing_74 : decode cX12_thing 74 = .ok (.iload_n 1, 1) := by decide +kernel
theorem dX12_thing_75 : decode cX12_thing 75 = .ok (.iaload, 1) := by decide +kernel
theorem dX12_thing_76 : decode cX12_thing 76 = .ok (.iadd, 1) := by decide +kernel
theorem dX12_thing_77 : decode cX12_thing 77 = .ok (.istore 5, 2) := by decide +kernel
theorem dX12_thing_79 : decode cX12_thing 79 = .ok (.aload_n 0, 1) := by decide +kernel
theorem dX12_thing_80 : decode cX12_thing 80 = .ok (.getfield 13, 3) := by decide +kernel
theorem dX12_thing_83 : decode cX12_thing 83 = .ok (.iload 5, 2) := by decide +kernel
theorem dX12_thing_85 : decode cX12_thing 85 = .ok (.iload_n 2, 1) := by decide +kernel
theorem dX12_thing_86 : decode cX12_thing 86 = .ok (.iastore, 1) := by decide +kernel
theorem dX12_thing_87 : decode cX12_thing 87 = .ok (.aload_n 0, 1) := by decide +kernel
theorem dX12_thing_88 : decode cX12_thing 88 = .ok (.getfield 16, 3) := by decide +kernel
theorem dX12_thing_91 : decode cX12_thing 91 = .ok (.iload 5, 2) := by decide +kernel
theorem dX12_thing_93 : decode cX12_thing 93 = .ok (.iload_n 3, 1) := by decide +kernel
theorem dX12_thing_94 : decode cX12_thing 94 = .ok (.iastore, 1) := by decide +kernel
theorem dX12_thing_95 : decode cX12_thing 95 = .ok (.aload_n 0, 1) := by decide +kernel
theorem dX12_thing_96 : decode cX12_thing 96 = .ok (.getfield 19, 3) := by decide +kernel
theorem dX12_thing_99 : decode cX12_thing 99 = .ok (.iload 5, 2) := by decide +kernel
theorem dX12_thing_101 : decode cX12_thing 101 = .ok (.iload_n 2, 1) := by decide +kernel
theorem dX12_thing_102 : decode cX12_thing 102 = .ok (.invokestatic 145, 3) := by decide +kernel
theorem dX12_thing_105 : decode cX12_thing 105 = .ok (.ifCond .eq 8, 3) := by decide +kernel
theorem dX12_thing_108 : decode cX12_thing 108 = .ok (.iload 4, 2) := by decide +kernel
theorem dX12_thing_110 : decode cX12_thing 110 = .ok (.goto 4, 3) := by decide +kernel
theorem dX12_thing_113 : decode cX12_thing 113 = .ok (.iconst 0, 1) := by decide +kernel
theorem dX12_thing_114 : decode cX12_thing 114 = .ok (.iastore, 1) := by decide +kernel
theorem dX12_thing_115 : decode cX12_thing 115 = .ok (.aload_n 0, 1) := by decide +kernel
theorem dX12_thing_116 : decode cX12_thing 116 = .ok (.getfield 22, 3) := by decide +kernel
theorem dX12_thing_119 : decode cX12_thing 119 = .ok (.iload 5, 2) := by decide +kernel
theorem dX12_thing_121 : decode cX12_thing 121 = .ok (.iconst (-1), 1) := by decide +kernel
theorem dX12_thing_122 : decode cX12_thing 122 = .ok (.iastore, 1) := by decide +kernel
theorem dX12_thing_123 : decode cX12_thing 123 = .ok (.aload_n 0, 1) := by decide +kernel
theorem dX12_thing_124 : decode cX12_thing 124 = .ok (.getfield 7, 3) := by decide +kernel
theorem dX12_thing_127 : decode cX12_thing 127 = .ok (.iload_n 1, 1) := by decide +kernel
theorem dX12_thing_128 : decode cX12_thing 128 = .ok (.dup2, 1) := by decide +kernel
theorem dX12_thing_129 : decode cX12_thing 129 = .ok (.iaload, 1) := by decide +kernel
theorem dX12_thing_130 : decode cX12_thing 130 = .ok (.iconst 1, 1) := by decide +kernel
theorem dX12_thing_131 : decode cX12_thing 131 = .ok (.iadd, 1) := by decide +kernel
theorem dX12_thing_132 : decode cX12_thing 132 = .ok (.iastore, 1) := by decide +kernel
theorem dX12_thing_133 : decode cX12_thing 133 = .ok (.aload_n 0, 1) := by decide +kernel
theorem dX12_thing_134 : decode cX12_thing 134 = .ok (.getfield 7, 3) := by decide +kernel
theorem dX12_thing_137 : decode cX12_thing 137 = .ok (.iload_n 1, 1) := by decide +kernel
theorem dX12_thing_138 : decode cX12_thing 138 = .ok (.iaload, 1) := by decide +kernel
theorem dX12_thing_139 : decode cX12_thing 139 = .ok (.iconst 1, 1) := by decide +kernel
theorem dX12_thing_140 : decode cX12_thing 140 = .ok (.isub, 1) := by decide +kernel
theorem dX12_thing_141 : decode cX12_thing 141 = .ok (.ireturn, 1) := by decide +kernel
def PJ_X12_thing_114 (d : Nat) (E : zb_E) (x0 : Int) (x1 : Int) (m63 : zb_M) (m94 : zb_M) (Q : Int → zb_M → Prop) (s2_114 : Int) : Prop :=
  ∀ m114, m114 = zb_up m94 (E.2 x0 3) ((12 * x1) + (m63 (E.2 x0 0) x1)) s2_114 → (∀ m122, m122 = zb_up m114 (E.2 x0 4) ((12 * x1) + (m63 (E.2 x0 0) x1)) (-1) → ((zb_inI ((m122 (E.2 x0 0) x1) + 1)) ∧ (∀ m132, m132 = zb_up m122 (E.2 x0 0) x1 ((m122 (E.2 x0 0) x1) + 1) → ((zb_inI ((m132 (E.2 x0 0) x1) - 1)) ∧ (Q ((m132 (E.2 x0 0) x1) - 1) m132)))))
def PJ_X12_thing_47 (d : Nat) (E : zb_E) (x0 : Int) (x1 : Int) (x2 : Int) (x3 : Int) (x4 : Int) (m : zb_M) (Q : Int → zb_M → Prop)  : Prop :=
  (0 ≤ x1 ∧ x1 < 8) ∧ (((m (E.2 x0 0) x1) = 12 → Q (-3) m) ∧ (¬ (m (E.2 x0 0) x1) = 12 → zb_T K_X12_note d [(2, x0), (0, x1)] E m (fun r63 m63 => (zb_inI (12 * x1)) ∧ ((zb_inI ((12 * x1) + (m63 (E.2 x0 0) x1))) ∧ ((0 ≤ ((12 * x1) + (m63 (E.2 x0 0) x1)) ∧ ((12 * x1) + (m63 (E.2 x0 0) x1)) < 96) ∧ (∀ m86, m86 = zb_up m63 (E.2 x0 1) ((12 * x1) + (m63 (E.2 x0 0) x1)) x2 → (∀ m94, m94 = zb_up m86 (E.2 x0 2) ((12 * x1) + (m63 (E.2 x0 0) x1)) x3 → (zb_Tp K_X12_isNamed d [(0, x2)] E m94 (fun r102 => (r102 = 0 → PJ_X12_thing_114 d E x0 x1 m63 m94 Q 0) ∧ (¬ r102 = 0 → PJ_X12_thing_114 d E x0 x1 m63 m94 Q x4))))))))))
def PM_X12_thing (d : Nat) (E : zb_E) (x0 : Int) (x1 : Int) (x2 : Int) (x3 : Int) (x4 : Int) (m : zb_M) (Q : Int → zb_M → Prop) : Prop :=
  zb_Tp K_X12_isGraph d [(2, x0), (0, x1)] E m (fun r2 => (r2 = 0 → Q (-1) m) ∧ (¬ r2 = 0 → zb_Tp K_X12_in d [(0, x2), (0, 0), (0, 4)] E m (fun r11 => (r11 = 0 → Q (-1) m) ∧ (¬ r11 = 0 → zb_Tp K_X12_in d [(0, x3), (0, 0), (0, 9)] E m (fun r21 => (r21 = 0 → Q (-1) m) ∧ (¬ r21 = 0 → zb_Tp K_X12_isNamed d [(0, x2)] E m (fun r28 => (r28 = 0 → PJ_X12_thing_47 d E x0 x1 x2 x3 x4 m Q) ∧ (¬ r28 = 0 → zb_Tp K_X12_in d [(0, x4), (0, 0), (0, 99)] E m (fun r39 => (r39 = 0 → Q (-1) m) ∧ (¬ r39 = 0 → PJ_X12_thing_47 d E x0 x1 x2 x3 x4 m Q))))))))))
set_option maxRecDepth 100000 in
set_option maxHeartbeats 4000000 in
theorem w_X12_thing {d : Nat} {E : zb_E} {x0 x1 x2 x3 x4 : Int} {m : zb_M} {Q : Int → zb_M → Prop} (h : PM_X12_thing d E x0 x1 x2 x3 x4 m Q) : zb_T K_X12_thing (d + 1) [(2, x0), (0, x1), (0, x2), (0, x3), (0, x4)] E m Q := by
  unfold PM_X12_thing at h
  refine zb_T_in gd_X12_thing rfl rfl (fun hW hA G C hF => ?_)
  have i_0 : zb_is E.1 x0 12 := zb_aH hA (by decide)
  show zb_WP _ _ 0 [(0, (2, x0)), (1, (0, x1)), (2, (0, x2)), (3, (0, x3)), (4, (0, x4))] [] _ _ _ _
  refine zb_aload_n (j := 0) dX12_thing_0 rfl rfl ?_
  refine zb_iload_n (j := 1) dX12_thing_1 rfl rfl ?_
  refine zb_cVp (As := [(0, x1)]) (As' := [(0, x1)]) (st := []) dX12_thing_2 lk_X12_137 gd_X12_isGraph rfl rfl i_0 ⟨_, rfl, rfl⟩ h hW hF (zb_aR i_0 (zb_aI zb_a0)) (Nat.le_refl _) (Nat.le_of_ble_eq_true rfl) (fun r2 h => ?_)
  show zb_WP _ _ _ _ [(0, r2)] _ _ _ _
  refine zb_if_eq (tgt := 45) dX12_thing_5 (by decide) (fun c1 => ?_) (fun c1 => ?_)
  · have h := h.1 c1
    refine zb_iconst dX12_thing_45 (zb_inIc rfl) ?_
    exact zb_rI dX12_thing_46 rfl hF h
  · have h := h.2 c1
    refine zb_iload_n (j := 2) dX12_thing_8 rfl rfl ?_
    refine zb_iconst dX12_thing_9 (zb_inIc rfl) ?_
    refine zb_iconst dX12_thing_10 (zb_inIc rfl) ?_
    refine zb_cSp (As := [(0, x2), (0, 0), (0, 4)]) (As' := [(0, 4), (0, 0), (0, x2)]) (st := []) dX12_thing_11 lk_X12_133 gd_X12_in rfl rfl h hW hF (zb_aI (zb_aI (zb_aI zb_a0))) (Nat.le_refl _) (Nat.le_of_ble_eq_true rfl) (fun r11 h => ?_)
    show zb_WP _ _ _ _ [(0, r11)] _ _ _ _
    refine zb_if_eq (tgt := 45) dX12_thing_14 (by decide) (fun c2 => ?_) (fun c2 => ?_)
    · have h := h.1 c2
      refine zb_iconst dX12_thing_45 (zb_inIc rfl) ?_
      exact zb_rI dX12_thing_46 rfl hF h
    · have h := h.2 c2
      refine zb_iload_n (j := 3) dX12_thing_17 rfl rfl ?_
      refine zb_iconst dX12_thing_18 (zb_inIc rfl) ?_
      refine zb_bipush dX12_thing_19 (by decide) (zb_inIc rfl) ?_
      refine zb_cSp (As := [(0, x3), (0, 0), (0, 9)]) (As' := [(0, 9), (0, 0), (0, x3)]) (st := []) dX12_thing_21 lk_X12_133 gd_X12_in rfl rfl h hW hF (zb_aI (zb_aI (zb_aI zb_a0))) (Nat.le_refl _) (Nat.le_of_ble_eq_true rfl) (fun r21 h => ?_)
      show zb_WP _ _ _ _ [(0, r21)] _ _ _ _
      refine zb_if_eq (tgt := 45) dX12_thing_24 (by decide) (fun c3 => ?_) (fun c3 => ?_)
      · have h := h.1 c3
        refine zb_iconst dX12_thing_45 (zb_inIc rfl) ?_
        exact zb_rI dX12_thing_46 rfl hF h
      · have h := h.2 c3
        refine zb_iload_n (j := 2) dX12_thing_27 rfl rfl ?_
        refine zb_cSp (As := [(0, x2)]) (As' := [(0, x2)]) (st := []) dX12_thing_28 lk_X12_145 gd_X12_isNamed rfl rfl h hW hF (zb_aI zb_a0) (Nat.le_refl _) (Nat.le_of_ble_eq_true rfl) (fun r28 h => ?_)
        show zb_WP _ _ _ _ [(0, r28)] _ _ _ _
        have hJ47 : zb_FIN E m → PJ_X12_thing_47 d E x0 x1 x2 x3 x4 m Q  → zb_WP (G, C, d + 1, 0, 0, zb_q E Q) F_X12_thing 47 [(0, (2, x0)), (1, (0, x1)), (2, (0, x2)), (3, (0, x3)), (4, (0, x4))] [] E.1 m 0 0 := by
          intro  hF h
          unfold PJ_X12_thing_47 at h
          refine zb_aload_n (j := 0) dX12_thing_47 rfl rfl ?_
          refine zb_gFa 0 dX12_thing_48 fl_X12_7 i_0 hW hF rfl rfl rfl (by decide) rfl 8 rfl (fun i4 l5 => ?_)
          refine zb_iload_n (j := 1) dX12_thing_51 rfl rfl ?_
          obtain ⟨o6, h⟩ := h
          refine zb_lI dX12_thing_52 i4 l5 o6.1 o6.2 ?_
          refine zb_bipush dX12_thing_53 (by decide) (zb_inIc rfl) ?_
          refine zb_icmp_ne (tgt := 61) dX12_thing_55 (by decide) (fun c7 => ?_) (fun c7 => ?_)
          · have h := h.2 c7
            refine zb_aload_n (j := 0) dX12_thing_61 rfl rfl ?_
            refine zb_iload_n (j := 1) dX12_thing_62 rfl rfl ?_
            refine zb_cV (As := [(0, x1)]) (As' := [(0, x1)]) (st := []) dX12_thing_63 lk_X12_148 gd_X12_note rfl rfl i_0 ⟨_, rfl, rfl⟩ h hW hF (zb_aR i_0 (zb_aI zb_a0)) (Nat.le_refl _) (Nat.le_of_ble_eq_true rfl) (fun r63 m63 hF h => ?_)
            show zb_WP _ _ _ _ [] _ _ _ _
            refine zb_bipush dX12_thing_66 (by decide) (zb_inIc rfl) ?_
            refine zb_iload_n (j := 1) dX12_thing_68 rfl rfl ?_
            obtain ⟨o8, h⟩ := h
            refine zb_imul dX12_thing_69 o8 ?_
            refine zb_aload_n (j := 0) dX12_thing_70 rfl rfl ?_
            refine zb_gFa 0 dX12_thing_71 fl_X12_7 i_0 hW hF rfl rfl rfl (by decide) rfl 8 rfl (fun i9 l10 => ?_)
            refine zb_iload_n (j := 1) dX12_thing_74 rfl rfl ?_
            refine zb_lI dX12_thing_75 i9 l10 o6.1 o6.2 ?_
            obtain ⟨o11, h⟩ := h
            refine zb_iadd dX12_thing_76 o11 ?_
            refine zb_istore (L' := [(5, (0, ((12 * x1) + (m63 (E.2 x0 0) x1)))), (0, (2, x0)), (1, (0, x1)), (2, (0, x2)), (3, (0, x3)), (4, (0, x4))]) dX12_thing_77 (by decide) rfl ?_
            refine zb_aload_n (j := 1) dX12_thing_79 rfl rfl ?_
            refine zb_gFa 1 dX12_thing_80 fl_X12_13 i_0 hW hF rfl rfl rfl (by decide) rfl 96 rfl (fun i12 l13 => ?_)
            refine zb_iload (j := 0) dX12_thing_83 rfl ?_
            refine zb_iload_n (j := 3) dX12_thing_85 rfl rfl ?_
            obtain ⟨o14, h⟩ := h
            refine zb_sI dX12_thing_86 i12 l13 o14.1 o14.2 hF (fun m86 e86 hF => ?_)
            have h := h m86 e86
            refine zb_aload_n (j := 1) dX12_thing_87 rfl rfl ?_
            refine zb_gFa 2 dX12_thing_88 fl_X12_16 i_0 hW hF rfl rfl rfl (by decide) rfl 96 rfl (fun i15 l16 => ?_)
            refine zb_iload (j := 0) dX12_thing_91 rfl ?_
            refine zb_iload_n (j := 4) dX12_thing_93 rfl rfl ?_
            refine zb_sI dX12_thing_94 i15 l16 o14.1 o14.2 hF (fun m94 e94 hF => ?_)
            have h := h m94 e94
            refine zb_aload_n (j := 1) dX12_thing_95 rfl rfl ?_
            refine zb_gFa 3 dX12_thing_96 fl_X12_19 i_0 hW hF rfl rfl rfl (by decide) rfl 96 rfl (fun i17 l18 => ?_)
            refine zb_iload (j := 0) dX12_thing_99 rfl ?_
            refine zb_iload_n (j := 3) dX12_thing_101 rfl rfl ?_
            refine zb_cSp (As := [(0, x2)]) (As' := [(0, x2)]) (st := [(0, ((12 * x1) + (m63 (E.2 x0 0) x1))), (2, (E.2 x0 3))]) dX12_thing_102 lk_X12_145 gd_X12_isNamed rfl rfl h hW hF (zb_aI zb_a0) (Nat.le_refl _) (Nat.le_of_ble_eq_true rfl) (fun r102 h => ?_)
            show zb_WP _ _ _ _ [(0, r102), (0, ((12 * x1) + (m63 (E.2 x0 0) x1))), (2, (E.2 x0 3))] _ _ _ _
            have hJ114 : ∀ (s2_114 : Int), zb_FIN E m94 → PJ_X12_thing_114 d E x0 x1 m63 m94 Q s2_114 → zb_WP (G, C, d + 1, 0, 0, zb_q E Q) F_X12_thing 114 [(0, (2, x0)), (1, (0, x1)), (5, (0, ((12 * x1) + (m63 (E.2 x0 0) x1))))] [(0, s2_114), (0, ((12 * x1) + (m63 (E.2 x0 0) x1))), (2, (E.2 x0 3))] E.1 m94 0 0 := by
              intro s2_114 hF h
              unfold PJ_X12_thing_114 at h
              refine zb_sI dX12_thing_114 i17 l18 o14.1 o14.2 hF (fun m114 e114 hF => ?_)
              have h := h m114 e114
              refine zb_aload_n (j := 0) dX12_thing_115 rfl rfl ?_
              refine zb_gFa 4 dX12_thing_116 fl_X12_22 i_0 hW hF rfl rfl rfl (by decide) rfl 96 rfl (fun i19 l20 => ?_)
              refine zb_iload (j := 2) dX12_thing_119 rfl ?_
              refine zb_iconst dX12_thing_121 (zb_inIc rfl) ?_
              refine zb_sI dX12_thing_122 i19 l20 o14.1 o14.2 hF (fun m122 e122 hF => ?_)
              have h := h m122 e122
              refine zb_aload_n (j := 0) dX12_thing_123 rfl rfl ?_
              refine zb_gFa 0 dX12_thing_124 fl_X12_7 i_0 hW hF rfl rfl rfl (by decide) rfl 8 rfl (fun i21 l22 => ?_)
              refine zb_iload_n (j := 1) dX12_thing_127 rfl rfl ?_
              refine zb_dup2 dX12_thing_128 ?_
              refine zb_lI dX12_thing_129 i21 l22 o6.1 o6.2 ?_
              refine zb_iconst dX12_thing_130 (zb_inIc rfl) ?_
              obtain ⟨o23, h⟩ := h
              refine zb_iadd dX12_thing_131 o23 ?_
              refine zb_sI dX12_thing_132 i21 l22 o6.1 o6.2 hF (fun m132 e132 hF => ?_)
              have h := h m132 e132
              refine zb_aload_n (j := 0) dX12_thing_133 rfl rfl ?_
              refine zb_gFa 0 dX12_thing_134 fl_X12_7 i_0 hW hF rfl rfl rfl (by decide) rfl 8 rfl (fun i24 l25 => ?_)
              refine zb_iload_n (j := 1) dX12_thing_137 rfl rfl ?_
              refine zb_lI dX12_thing_138 i24 l25 o6.1 o6.2 ?_
              refine zb_iconst dX12_thing_139 (zb_inIc rfl) ?_
              obtain ⟨o26, h⟩ := h
              refine zb_isub dX12_thing_140 o26 ?_
              exact zb_rI dX12_thing_141 rfl hF h
            refine zb_if_eq (tgt := 113) dX12_thing_105 (by decide) (fun c27 => ?_) (fun c27 => ?_)
            · have h := h.1 c27
              refine zb_iconst dX12_thing_113 (zb_inIc rfl) ?_
              refine zb_sub (L' := [(0, (2, x0)), (1, (0, x1)), (5, (0, ((12 * x1) + (m63 (E.2 x0 0) x1))))]) [1, 2, 0] rfl ?_
              exact hJ114 _ hF h
            · have h := h.2 c27
              refine zb_iload (j := 5) dX12_thing_108 rfl ?_
              refine zb_goto (tgt := 114) dX12_thing_110 (by decide) ?_
              refine zb_sub (L' := [(0, (2, x0)), (1, (0, x1)), (5, (0, ((12 * x1) + (m63 (E.2 x0 0) x1))))]) [1, 2, 0] rfl ?_
              exact hJ114 _ hF h
          · have h := h.1 c7
            refine zb_bipush dX12_thing_58 (by decide) (zb_inIc rfl) ?_
            exact zb_rI dX12_thing_60 rfl hF h
        refine zb_if_eq (tgt := 47) dX12_thing_31 (by decide) (fun c28 => ?_) (fun c28 => ?_)
        · have h := h.1 c28
          exact hJ47 hF h
        · have h := h.2 c28
          refine zb_iload (j := 4) dX12_thing_34 rfl ?_
          refine zb_iconst dX12_thing_36 (zb_inIc rfl) ?_
          refine zb_bipush dX12_thing_37 (by decide) (zb_inIc rfl) ?_
          refine zb_cSp (As := [(0, x4), (0, 0), (0, 99)]) (As' := [(0, 99), (0, 0), (0, x4)]) (st := []) dX12_thing_39 lk_X12_133 gd_X12_in rfl rfl h hW hF (zb_aI (zb_aI (zb_aI zb_a0))) (Nat.le_refl _) (Nat.le_of_ble_eq_true rfl) (fun r39 h => ?_)
          show zb_WP _ _ _ _ [(0, r39)] _ _ _ _
          refine zb_if_ne (tgt := 47) dX12_thing_42 (by decide) (fun c29 => ?_) (fun c29 => ?_)
          · have h := h.2 c29
            exact hJ47 hF h
          · have h := h.1 c29
            refine zb_iconst dX12_thing_45 (zb_inIc rfl) ?_
            exact zb_rI dX12_thing_46 rfl hF h
theorem dX12_colour_0 : decode cX12_colour 0 = .ok (.aload_n 0, 1) := by decide +kernel
theorem dX12_colour_1 : decode cX12_colour 1 = .ok (.iload_n 1, 1) := by decide +kernel
theorem dX12_colour_2 : decode cX12_colour 2 = .ok (.iload_n 2, 1) := by decide +kernel
theorem dX12_colour_3 : decode cX12_colour 3 = .ok (.invokevirtual 152, 3) := by decide +kernel
theorem dX12_colour_6 : decode cX12_colour 6 = .ok (.ifCond .eq 13, 3) := by decide +kernel
theorem dX12_colour_9 : decode cX12_colour 9 = .ok (.iload_n 3, 1) := by decide +kernel
theorem dX12_colour_10 : decode cX12_colour 10 = .ok (.iconst 0, 1) := by decide +kernel
theorem dX12_colour_11 : decode cX12_colour 11 = .ok (.bipush 9, 2) := by decide +kernel
theorem dX12_colour_13 : decode cX12_colour 13 = .ok (.invokestatic 133, 3) := by decide +kernel
theorem dX12_colour_16 : decode cX12_colour 16 = .ok (.ifCond .ne 5, 3) := by decide +kernel
theorem dX12_colour_19 : decode cX12_colour 19 = .ok (.iconst (-1), 1) := by decide +kernel
theorem dX12_colour_20 : decode cX12_colour 20 = .ok (.ireturn, 1) := by decide +kernel
theorem dX12_colour_21 : decode cX12_colour 21 = .ok (.aload_n 0, 1) := by decide +kernel
theorem dX12_colour_22 : decode cX12_colour 22 = .ok (.iload_n 1, 1) := by decide +kernel
theorem dX12_colour_23 : decode cX12_colour 23 = .ok (.invokevirtual 148, 3) := by decide +kernel
theorem dX12_colour_26 : decode cX12_colour 26 = .ok (.aload_n 0, 1) := by decide +kernel
theorem dX12_colour_27 : decode cX12_colour 27 = .ok (.getfield 16, 3) := by decide +kernel
theorem dX12_colour_30 : decode cX12_colour 30 = .ok (.bipush 12, 2) := by decide +kernel
theorem dX12_colour_32 : decode cX12_colour 32 = .ok (.iload_n 1, 1) := by decide +kernel
theorem dX12_colour_33 : decode cX12_colour 33 = .ok (.imul, 1) := by decide +kernel
theorem dX12_colour_34 : decode cX12_colour 34 = .ok (.iload_n 2, 1) := by decide +kernel
theorem dX12_colour_35 : decode cX12_colour 35 = .ok (.iadd, 1) := by decide +kernel
theorem dX12_colour_36 : decode cX12_colour 36 = .ok (.iaload, 1) := by decide +kernel
theorem dX12_colour_37 : decode cX12_colour 37 = .ok (.istore 4, 2) := by decide +kernel
theorem dX12_colour_39 : decode cX12_colour 39 = .ok (.aload_n 0, 1) := by decide +kernel
theorem dX12_colour_40 : decode cX12_colour 40 = .ok (.getfield 16, 3) := by decide +kernel
theorem dX12_colour_43 : decode cX12_colour 43 = .ok (.bipush 12, 2) := by decide +kernel
theorem dX12_colour_45 : decode cX12_colour 45 = .ok (.iload_n 1, 1) := by decide +kernel
theorem dX12_colour_46 : decode cX12_colour 46 = .ok (.imul, 1) := by decide +kernel
theorem dX12_colour_47 : decode cX12_colour 47 = .ok (.iload_n 2, 1) := by decide +kernel
theorem dX12_colour_48 : decode cX12_colour 48 = .ok (.iadd, 1) := by decide +kernel
theorem dX12_colour_49 : decode cX12_colour 49 = .ok (.iload_n 3, 1) := by decide +kernel
theorem dX12_colour_50 : decode cX12_colour 50 = .ok (.iastore, 1) := by decide +kernel
theorem dX12_colour_51 : decode cX12_colour 51 = .ok (.iload 4, 2) := by decide +kernel
theorem dX12_colour_53 : decode cX12_colour 53 = .ok (.ireturn, 1) := by decide +kernel
def PM_X12_colour (d : Nat) (E : zb_E) (x0 : Int) (x1 : Int) (x2 : Int) (x3 : Int) (m : zb_M) (Q : Int → zb_M → Prop) : Prop :=
  zb_Tp K_X12_isThing d [(2, x0), (0, x1), (0, x2)] E m (fun r3 => (r3 = 0 → Q (-1) m) ∧ (¬ r3 = 0 → zb_Tp K_X12_in d [(0, x3), (0, 0), (0, 9)] E m (fun r13 => (r13 = 0 → Q (-1) m) ∧ (¬ r13 = 0 → zb_T K_X12_note d [(2, x0), (0, x1)] E m (fun r23 m23 => (zb_inI (12 * x1)) ∧ ((zb_inI ((12 * x1) + x2)) ∧ ((0 ≤ ((12 * x1) + x2) ∧ ((12 * x1) + x2) < 96) ∧ (∀ m50, m50 = zb_up m23 (E.2 x0 2) ((12 * x1) + x2) x3 → (Q (m23 (E.2 x0 2) ((12 * x1) + x2)) m50)))))))))
set_option maxRecDepth 100000 in
set_option maxHeartbeats 4000000 in
theorem w_X12_colour {d : Nat} {E : zb_E} {x0 x1 x2 x3 : Int} {m : zb_M} {Q : Int → zb_M → Prop} (h : PM_X12_colour d E x0 x1 x2 x3 m Q) : zb_T K_X12_colour (d + 1) [(2, x0), (0, x1), (0, x2), (0, x3)] E m Q := by
  unfold PM_X12_colour at h
  refine zb_T_in gd_X12_colour rfl rfl (fun hW hA G C hF => ?_)
  have i_0 : zb_is E.1 x0 12 := zb_aH hA (by decide)
  show zb_WP _ _ 0 [(0, (2, x0)), (1, (0, x1)), (2, (0, x2)), (3, (0, x3))] [] _ _ _ _
  refine zb_aload_n (j := 0) dX12_colour_0 rfl rfl ?_
  refine zb_iload_n (j := 1) dX12_colour_1 rfl rfl ?_
  refine zb_iload_n (j := 2) dX12_colour_2 rfl rfl ?_
  refine zb_cVp (As := [(0, x1), (0, x2)]) (As' := [(0, x2), (0, x1)]) (st := []) dX12_colour_3 lk_X12_152 gd_X12_isThing rfl rfl i_0 ⟨_, rfl, rfl⟩ h hW hF (zb_aR i_0 (zb_aI (zb_aI zb_a0))) (Nat.le_refl _) (Nat.le_of_ble_eq_true rfl) (fun r3 h => ?_)
  show zb_WP _ _ _ _ [(0, r3)] _ _ _ _
  refine zb_if_eq (tgt := 19) dX12_colour_6 (by decide) (fun c1 => ?_) (fun c1 => ?_)
  · have h := h.1 c1
    refine zb_iconst dX12_colour_19 (zb_inIc rfl) ?_
    exact zb_rI dX12_colour_20 rfl hF h
  · have h := h.2 c1
    refine zb_iload_n (j := 3) dX12_colour_9 rfl rfl ?_
    refine zb_iconst dX12_colour_10 (zb_inIc rfl) ?_
    refine zb_bipush dX12_colour_11 (by decide) (zb_inIc rfl) ?_
    refine zb_cSp (As := [(0, x3), (0, 0), (0, 9)]) (As' := [(0, 9), (0, 0), (0, x3)]) (st := []) dX12_colour_13 lk_X12_133 gd_X12_in rfl rfl h hW hF (zb_aI (zb_aI (zb_aI zb_a0))) (Nat.le_refl _) (Nat.le_of_ble_eq_true rfl) (fun r13 h => ?_)
    show zb_WP _ _ _ _ [(0, r13)] _ _ _ _
    refine zb_if_ne (tgt := 21) dX12_colour_16 (by decide) (fun c2 => ?_) (fun c2 => ?_)
    · have h := h.2 c2
      refine zb_aload_n (j := 0) dX12_colour_21 rfl rfl ?_
      refine zb_iload_n (j := 1) dX12_colour_22 rfl rfl ?_
      refine zb_cV (As := [(0, x1)]) (As' := [(0, x1)]) (st := []) dX12_colour_23 lk_X12_148 gd_X12_note rfl rfl i_0 ⟨_, rfl, rfl⟩ h hW hF (zb_aR i_0 (zb_aI zb_a0)) (Nat.le_refl _) (Nat.le_of_ble_eq_true rfl) (fun r23 m23 hF h => ?_)
      show zb_WP _ _ _ _ [] _ _ _ _
      refine zb_aload_n (j := 0) dX12_colour_26 rfl rfl ?_
      refine zb_gFa 2 dX12_colour_27 fl_X12_16 i_0 hW hF rfl rfl rfl (by decide) rfl 96 rfl (fun i3 l4 => ?_)
      refine zb_bipush dX12_colour_30 (by decide) (zb_inIc rfl) ?_
      refine zb_iload_n (j := 1) dX12_colour_32 rfl rfl ?_
      obtain ⟨o5, h⟩ := h
      refine zb_imul dX12_colour_33 o5 ?_
      refine zb_iload_n (j := 2) dX12_colour_34 rfl rfl ?_
      obtain ⟨o6, h⟩ := h
      refine zb_iadd dX12_colour_35 o6 ?_
      obtain ⟨o7, h⟩ := h
      refine zb_lI dX12_colour_36 i3 l4 o7.1 o7.2 ?_
      refine zb_istore (L' := [(4, (0, (m23 (E.2 x0 2) ((12 * x1) + x2)))), (0, (2, x0)), (1, (0, x1)), (2, (0, x2)), (3, (0, x3))]) dX12_colour_37 (by decide) rfl ?_
      refine zb_aload_n (j := 1) dX12_colour_39 rfl rfl ?_
      refine zb_gFa 2 dX12_colour_40 fl_X12_16 i_0 hW hF rfl rfl rfl (by decide) rfl 96 rfl (fun i8 l9 => ?_)
      refine zb_bipush dX12_colour_43 (by decide) (zb_inIc rfl) ?_
      refine zb_iload_n (j := 2) dX12_colour_45 rfl rfl ?_
      refine zb_imul dX12_colour_46 o5 ?_
      refine zb_iload_n (j := 3) dX12_colour_47 rfl rfl ?_
      refine zb_iadd dX12_colour_48 o6 ?_
      refine zb_iload_n (j := 4) dX12_colour_49 rfl rfl ?_
      refine zb_sI dX12_colour_50 i8 l9 o7.1 o7.2 hF (fun m50 e50 hF => ?_)
      have h := h m50 e50
      refine zb_iload (j := 0) dX12_colour_51 rfl ?_
      exact zb_rI dX12_colour_53 rfl hF h
    · have h := h.1 c2
      refine zb_iconst dX12_colour_19 (zb_inIc rfl) ?_
      exact zb_rI dX12_colour_20 rfl hF h
theorem dX12_word_0 : decode cX12_word 0 = .ok (.aload_n 0, 1) := by decide +kernel
theorem dX12_word_1 : decode cX12_word 1 = .ok (.iload_n 1, 1) := by decide +kernel
theorem dX12_word_2 : decode cX12_word 2 = .ok (.iload_n 2, 1) := by decide +kernel
theorem dX12_word_3 : decode cX12_word 3 = .ok (.invokevirtual 152, 3) := by decide +kernel
theorem dX12_word_6 : decode cX12_word 6 = .ok (.ifCond .eq 13, 3) := by decide +kernel
theorem dX12_word_9 : decode cX12_word 9 = .ok (.iload_n 3, 1) := by decide +kernel
theorem dX12_word_10 : decode cX12_word 10 = .ok (.iconst 0, 1) := by decide +kernel
theorem dX12_word_11 : decode cX12_word 11 = .ok (.bipush 99, 2) := by decide +kernel
theorem dX12_word_13 : decode cX12_word 13 = .ok (.invokestatic 133, 3) := by decide +kernel
theorem dX12_word_16 : decode cX12_word 16 = .ok (.ifCond .ne 5, 3) := by decide +kernel
theorem dX12_word_19 : decode cX12_word 19 = .ok (.iconst (-1), 1) := by decide +kernel
theorem dX12_word_20 : decode cX12_word 20 = .ok (.ireturn, 1) := by decide +kernel
theorem dX12_word_21 : decode cX12_word 21 = .ok (.aload_n 0, 1) := by decide +kernel
theorem dX12_word_22 : decode cX12_word 22 = .ok (.getfield 13, 3) := by decide +kernel
theorem dX12_word_25 : decode cX12_word 25 = .ok (.bipush 12, 2) := by decide +kernel
theorem dX12_word_27 : decode cX12_word 27 = .ok (.iload_n 1, 1) := by decide +kernel
theorem dX12_word_28 : decode cX12_word 28 = .ok (.imul, 1) := by decide +kernel
theorem dX12_word_29 : decode cX12_word 29 = .ok (.iload_n 2, 1) := by decide +kernel
theorem dX12_word_30 : decode cX12_word 30 = .ok (.iadd, 1) := by decide +kernel
theorem dX12_word_31 : decode cX12_word 31 = .ok (.iaload, 1) := by decide +kernel
theorem dX12_word_32 : decode cX12_word 32 = .ok (.invokestatic 145, 3) := by decide +kernel
theorem dX12_word_35 : decode cX12_word 35 = .ok (.ifCond .ne 6, 3) := by decide +kernel
theorem dX12_word_38 : decode cX12_word 38 = .ok (.bipush (-13), 2) := by decide +kernel
theorem dX12_word_40 : decode cX12_word 40 = .ok (.ireturn, 1) := by decide +kernel
theorem dX12_word_41 : decode cX12_word 41 = .ok (.aload_n 0, 1) := by decide +kernel
theorem dX12_word_42 : decode cX12_word 42 = .ok (.iload_n 1, 1) := by decide +kernel
theorem dX12_word_43 : decode cX12_word 43 = .ok (.invokevirtual 148, 3) := by decide +kernel
theorem dX12_word_46 : decode cX12_word 46 = .ok (.aload_n 0, 1) := by decide +kernel
theorem dX12_word_47 : decode cX12_word 47 = .ok (.getfield 19, 3) := by decide +kernel
theorem dX12_word_50 : decode cX12_word 50 = .ok (.bipush 12, 2) := by decide +kernel
theorem dX12_word_52 : decode cX12_word 52 = .ok (.iload_n 1, 1) := by decide +kernel
theorem dX12_word_53 : decode cX12_word 53 = .ok (.imul, 1) := by decide +kernel
theorem dX12_word_54 : decode cX12_word 54 = .ok (.iload_n 2, 1) := by decide +kernel
theorem dX12_word_55 : decode cX12_word 55 = .ok (.iadd, 1) := by decide +kernel
theorem dX12_word_56 : decode cX12_word 56 = .ok (.iaload, 1) := by decide +kernel
theorem dX12_word_57 : decode cX12_word 57 = .ok (.istore 4, 2) := by decide +kernel
theorem dX12_word_59 : decode cX12_word 59 = .ok (.aload_n 0, 1) := by decide +kernel
theorem dX12_word_60 : decode cX12_word 60 = .ok (.getfield 19, 3) := by decide +kernel
theorem dX12_word_63 : decode cX12_word 63 = .ok (.bipush 12, 2) := by decide +kernel
theorem dX12_word_65 : decode cX12_word 65 = .ok (.iload_n 1, 1) := by decide +kernel
theorem dX12_word_66 : decode cX12_word 66 = .ok (.imul, 1) := by decide +kernel
theorem dX12_word_67 : decode cX12_word 67 = .ok (.iload_n 2, 1) := by decide +kernel
theorem dX12_word_68 : decode cX12_word 68 = .ok (.iadd, 1) := by decide +kernel
theorem dX12_word_69 : decode cX12_word 69 = .ok (.iload_n 3, 1) := by decide +kernel
theorem dX12_word_70 : decode cX12_word 70 = .ok (.iastore, 1) := by decide +kernel
theorem dX12_word_71 : decode cX12_word 71 = .ok (.iload 4, 2) := by decide +kernel
theorem dX12_word_73 : decode cX12_word 73 = .ok (.ireturn, 1) := by decide +kernel
def PM_X12_word (d : Nat) (E : zb_E) (x0 : Int) (x1 : Int) (x2 : Int) (x3 : Int) (m : zb_M) (Q : Int → zb_M → Prop) : Prop :=
  zb_Tp K_X12_isThing d [(2, x0), (0, x1), (0, x2)] E m (fun r3 => (r3 = 0 → Q (-1) m) ∧ (¬ r3 = 0 → zb_Tp K_X12_in d [(0, x3), (0, 0), (0, 99)] E m (fun r13 => (r13 = 0 → Q (-1) m) ∧ (¬ r13 = 0 → (zb_inI (12 * x1)) ∧ ((zb_inI ((12 * x1) + x2)) ∧ ((0 ≤ ((12 * x1) + x2) ∧ ((12 * x1) + x2) < 96) ∧ (zb_Tp K_X12_isNamed d [(0, (m (E.2 x0 1) ((12 * x1) + x2)))] E m (fun r32 => (r32 = 0 → Q (-13) m) ∧ (¬ r32 = 0 → zb_T K_X12_note d [(2, x0), (0, x1)] E m (fun r43 m43 => ∀ m70, m70 = zb_up m43 (E.2 x0 3) ((12 * x1) + x2) x3 → (Q (m43 (E.2 x0 3) ((12 * x1) + x2)) m70)))))))))))
set_option maxRecDepth 100000 in
set_option maxHeartbeats 4000000 in
theorem w_X12_word {d : Nat} {E : zb_E} {x0 x1 x2 x3 : Int} {m : zb_M} {Q : Int → zb_M → Prop} (h : PM_X12_word d E x0 x1 x2 x3 m Q) : zb_T K_X12_word (d + 1) [(2, x0), (0, x1), (0, x2), (0, x3)] E m Q := by
  unfold PM_X12_word at h
  refine zb_T_in gd_X12_word rfl rfl (fun hW hA G C hF => ?_)
  have i_0 : zb_is E.1 x0 12 := zb_aH hA (by decide)
  show zb_WP _ _ 0 [(0, (2, x0)), (1, (0, x1)), (2, (0, x2)), (3, (0, x3))] [] _ _ _ _
  refine zb_aload_n (j := 0) dX12_word_0 rfl rfl ?_
  refine zb_iload_n (j := 1) dX12_word_1 rfl rfl ?_
  refine zb_iload_n (j := 2) dX12_word_2 rfl rfl ?_
  refine zb_cVp (As := [(0, x1), (0, x2)]) (As' := [(0, x2), (0, x1)]) (st := []) dX12_word_3 lk_X12_152 gd_X12_isThing rfl rfl i_0 ⟨_, rfl, rfl⟩ h hW hF (zb_aR i_0 (zb_aI (zb_aI zb_a0))) (Nat.le_refl _) (Nat.le_of_ble_eq_true rfl) (fun r3 h => ?_)
  show zb_WP _ _ _ _ [(0, r3)] _ _ _ _
  refine zb_if_eq (tgt := 19) dX12_word_6 (by decide) (fun c1 => ?_) (fun c1 => ?_)
  · have h := h.1 c1
    refine zb_iconst dX12_word_19 (zb_inIc rfl) ?_
    exact zb_rI dX12_word_20 rfl hF h
  · have h := h.2 c1
    refine zb_iload_n (j := 3) dX12_word_9 rfl rfl ?_
    refine zb_iconst dX12_word_10 (zb_inIc rfl) ?_
    refine zb_bipush dX12_word_11 (by decide) (zb_inIc rfl) ?_
    refine zb_cSp (As := [(0, x3), (0, 0), (0, 99)]) (As' := [(0, 99), (0, 0), (0, x3)]) (st := []) dX12_word_13 lk_X12_133 gd_X12_in rfl rfl h hW hF (zb_aI (zb_aI (zb_aI zb_a0))) (Nat.le_refl _) (Nat.le_of_ble_eq_true rfl) (fun r13 h => ?_)
    show zb_WP _ _ _ _ [(0, r13)] _ _ _ _
    refine zb_if_ne (tgt := 21) dX12_word_16 (by decide) (fun c2 => ?_) (fun c2 => ?_)
    · have h := h.2 c2
      refine zb_aload_n (j := 0) dX12_word_21 rfl rfl ?_
      refine zb_gFa 1 dX12_word_22 fl_X12_13 i_0 hW hF rfl rfl rfl (by decide) rfl 96 rfl (fun i3 l4 => ?_)
      refine zb_bipush dX12_word_25 (by decide) (zb_inIc rfl) ?_
      refine zb_iload_n (j := 1) dX12_word_27 rfl rfl ?_
      obtain ⟨o5, h⟩ := h
      refine zb_imul dX12_word_28 o5 ?_
      refine zb_iload_n (j := 2) dX12_word_29 rfl rfl ?_
      obtain ⟨o6, h⟩ := h
      refine zb_iadd dX12_word_30 o6 ?_
      obtain ⟨o7, h⟩ := h
      refine zb_lI dX12_word_31 i3 l4 o7.1 o7.2 ?_
      refine zb_cSp (As := [(0, (m (E.2 x0 1) ((12 * x1) + x2)))]) (As' := [(0, (m (E.2 x0 1) ((12 * x1) + x2)))]) (st := []) dX12_word_32 lk_X12_145 gd_X12_isNamed rfl rfl h hW hF (zb_aI zb_a0) (Nat.le_refl _) (Nat.le_of_ble_eq_true rfl) (fun r32 h => ?_)
      show zb_WP _ _ _ _ [(0, r32)] _ _ _ _
      refine zb_if_ne (tgt := 41) dX12_word_35 (by decide) (fun c8 => ?_) (fun c8 => ?_)
      · have h := h.2 c8
        refine zb_aload_n (j := 0) dX12_word_41 rfl rfl ?_
        refine zb_iload_n (j := 1) dX12_word_42 rfl rfl ?_
        refine zb_cV (As := [(0, x1)]) (As' := [(0, x1)]) (st := []) dX12_word_43 lk_X12_148 gd_X12_note rfl rfl i_0 ⟨_, rfl, rfl⟩ h hW hF (zb_aR i_0 (zb_aI zb_a0)) (Nat.le_refl _) (Nat.le_of_ble_eq_true rfl) (fun r43 m43 hF h => ?_)
        show zb_WP _ _ _ _ [] _ _ _ _
        refine zb_aload_n (j := 0) dX12_word_46 rfl rfl ?_
        refine zb_gFa 3 dX12_word_47 fl_X12_19 i_0 hW hF rfl rfl rfl (by decide) rfl 96 rfl (fun i9 l10 => ?_)
        refine zb_bipush dX12_word_50 (by decide) (zb_inIc rfl) ?_
        refine zb_iload_n (j := 1) dX12_word_52 rfl rfl ?_
        refine zb_imul dX12_word_53 o5 ?_
        refine zb_iload_n (j := 2) dX12_word_54 rfl rfl ?_
        refine zb_iadd dX12_word_55 o6 ?_
        refine zb_lI dX12_word_56 i9 l10 o7.1 o7.2 ?_
        refine zb_istore (L' := [(4, (0, (m43 (E.2 x0 3) ((12 * x1) + x2)))), (0, (2, x0)), (1, (0, x1)), (2, (0, x2)), (3, (0, x3))]) dX12_word_57 (by decide) rfl ?_
        refine zb_aload_n (j := 1) dX12_word_59 rfl rfl ?_
        refine zb_gFa 3 dX12_word_60 fl_X12_19 i_0 hW hF rfl rfl rfl (by decide) rfl 96 rfl (fun i11 l12 => ?_)
        refine zb_bipush dX12_word_63 (by decide) (zb_inIc rfl) ?_
        refine zb_iload_n (j := 2) dX12_word_65 rfl rfl ?_
        refine zb_imul dX12_word_66 o5 ?_
        refine zb_iload_n (j := 3) dX12_word_67 rfl rfl ?_
        refine zb_iadd dX12_word_68 o6 ?_
        refine zb_iload_n (j := 4) dX12_word_69 rfl rfl ?_
        refine zb_sI dX12_word_70 i11 l12 o7.1 o7.2 hF (fun m70 e70 hF => ?_)
        have h := h m70 e70
        refine zb_iload (j := 0) dX12_word_71 rfl ?_
        exact zb_rI dX12_word_73 rfl hF h
      · have h := h.1 c8
        refine zb_bipush dX12_word_38 (by decide) (zb_inIc rfl) ?_
        exact zb_rI dX12_word_40 rfl hF h
    · have h := h.1 c2
      refine zb_iconst dX12_word_19 (zb_inIc rfl) ?_
      exact zb_rI dX12_word_20 rfl hF h
theorem dX12_row_0 : decode cX12_row 0 = .ok (.aload_n 0, 1) := by decide +kernel
theorem dX12_row_1 : decode cX12_row 1 = .ok (.iload_n 1, 1) := by decide +kernel
theorem dX12_row_2 : decode cX12_row 2 = .ok (.iload_n 2, 1) := by decide +kernel
theorem dX12_row_3 : decode cX12_row 3 = .ok (.invokevirtual 152, 3) := by decide +kernel
theorem dX12_row_6 : decode cX12_row 6 = .ok (.ifCond .eq 9, 3) := by decide +kernel
theorem dX12_row_9 : decode cX12_row 9 = .ok (.iload_n 3, 1) := by decide +kernel
theorem dX12_row_10 : decode cX12_row 10 = .ok (.bipush 12, 2) := by decide +kernel
theorem dX12_row_12 : decode cX12_row 12 = .ok (.if_icmp .le 5, 3) := by decide +kernel
theorem dX12_row_15 : decode cX12_row 15 = .ok (.iconst (-1), 1) := by decide +kernel
theorem dX12_row_16 : decode cX12_row 16 = .ok (.ireturn, 1) := by decide +kernel
theorem dX12_row_17 : decode cX12_row 17 = .ok (.iload_n 3, 1) := by decide +kernel
theorem dX12_row_18 : decode cX12_row 18 = .ok (.ifCond .ge 6, 3) := by decide +kernel
theorem dX12_row_21 : decode cX12_row 21 = .ok (.bipush (-14), 2) := by decide +kernel
theorem dX12_row_23 : decode cX12_row 23 = .ok (.ireturn, 1) := by decide +kernel
theorem dX12_row_24 : decode cX12_row 24 = .ok (.aload_n 0, 1) := by decide +kernel
theorem dX12_row_25 : decode cX12_row 25 = .ok (.iload_n 1, 1) := by decide +kernel
theorem dX12_row_26 : decode cX12_row 26 = .ok (.invokevirtual 148, 3) := by decide +kernel
theorem dX12_row_29 : decode cX12_row 29 = .ok (.aload_n 0, 1) := by decide +kernel
theorem dX12_row_30 : decode cX12_row 30 = .ok (.getfield 22, 3) := by decide +kernel
theorem dX12_row_33 : decode cX12_row 33 = .ok (.bipush 12, 2) := by decide +kernel
theorem dX12_row_35 : decode cX12_row 35 = .ok (.iload_n 1, 1) := by decide +kernel
theorem dX12_row_36 : decode cX12_row 36 = .ok (.imul, 1) := by decide +kernel
theorem dX12_row_37 : decode cX12_row 37 = .ok (.iload_n 2, 1) := by decide +kernel
theorem dX12_row_38 : decode cX12_row 38 = .ok (.iadd, 1) := by decide +kernel
theorem dX12_row_39 : decode cX12_row 39 = .ok (.iload_n 3, 1) := by decide +kernel
theorem dX12_row_40 : decode cX12_row 40 = .ok (.iastore, 1) := by decide +kernel
theorem dX12_row_41 : decode cX12_row 41 = .ok (.iconst 0, 1) := by decide +kernel
theorem dX12_row_42 : decode cX12_row 42 = .ok (.istore 4, 2) := by decide +kernel
theorem dX12_row_44 : decode cX12_row 44 = .ok (.iload 4, 2) := by decide +kernel
theorem dX12_row_46 : decode cX12_row 46 = .ok (.bipush 12, 2) := by decide +kernel
theorem dX12_row_48 : decode cX12_row 48 = .ok (.if_icmp .ge 28, 3) := by decide +kernel
theorem dX12_row_51 : decode cX12_row 51 = .ok (.aload_n 0, 1) := by decide +kernel
theorem dX12_row_52 : decode cX12_row 52 = .ok (.getfield 25, 3) := by decide +kernel
theorem dX12_row_55 : decode cX12_row 55 = .ok (.sipush 144, 3) := by decide +kernel
theorem dX12_row_58 : decode cX12_row 58 = .ok (.iload_n 1, 1) := by decide +kernel
theorem dX12_row_59 : decode cX12_row 59 = .ok (.imul, 1) := by decide +kernel
theorem dX12_row_60 : decode cX12_row 60 = .ok (.bipush 12, 2) := by decide +kernel
theorem dX12_row_62 : decode cX12_row 62 = .ok (.iload_n 2, 1) := by decide +kernel
theorem dX12_row_63 : decode cX12_row 63 = .ok (.imul, 1) := by decide +kernel
theorem dX12_row_64 : decode cX12_row 64 = .ok (.iadd, 1) := by decide +kernel
theorem dX12_row_65 : decode cX12_row 65 = .ok (.iload 4, 2) := by decide +kernel
theorem dX12_row_67 : decode cX12_row 67 = .ok (.iadd, 1) := by decide +kernel
theorem dX12_row_68 : decode cX12_row 68 = .ok (.iconst 0, 1) := by decide +kernel
theorem dX12_row_69 : decode cX12_row 69 = .ok (.iastore, 1) := by decide +kernel
theorem dX12_row_70 : decode cX12_row 70 = .ok (.iinc 4 1, 3) := by decide +kernel
theorem dX12_row_73 : decode cX12_row 73 = .ok (.goto (-29), 3) := by decide +kernel
theorem dX12_row_76 : decode cX12_row 76 = .ok (.iconst 1, 1) := by decide +kernel
theorem dX12_row_77 : decode cX12_row 77 = .ok (.ireturn, 1) := by decide +kernel
def PL_X12_row_44 (d : Nat) (E : zb_E) (x0 : Int) (x1 : Int) (x2 : Int) (Q : Int → zb_M → Prop)  (v4_44 : Int) (m44l : zb_M) : Prop :=
  ∀ X44 : Int → zb_M → Prop, (∀ (v4_44 : Int) (m44l : zb_M), ((12 ≤ v4_44 → Q 1 m44l) ∧ (¬ 12 ≤ v4_44 → (zb_inI (144 * x1)) ∧ ((zb_inI (12 * x2)) ∧ ((zb_inI ((144 * x1) + (12 * x2))) ∧ ((zb_inI (((144 * x1) + (12 * x2)) + v4_44)) ∧ ((0 ≤ (((144 * x1) + (12 * x2)) + v4_44) ∧ (((144 * x1) + (12 * x2)) + v4_44) < 1152) ∧ (∀ m69, m69 = zb_up m44l (E.2 x0 5) (((144 * x1) + (12 * x2)) + v4_44) 0 → ((zb_inI (v4_44 + 1)) ∧ (X44 (v4_44 + 1) m69))))))))) → X44 v4_44 m44l) → X44 v4_44 m44l
def PM_X12_row (d : Nat) (E : zb_E) (x0 : Int) (x1 : Int) (x2 : Int) (x3 : Int) (m : zb_M) (Q : Int → zb_M → Prop) : Prop :=
  zb_Tp K_X12_isThing d [(2, x0), (0, x1), (0, x2)] E m (fun r3 => (r3 = 0 → Q (-1) m) ∧ (¬ r3 = 0 → (x3 ≤ 12 → (0 ≤ x3 → zb_T K_X12_note d [(2, x0), (0, x1)] E m (fun r26 m26 => (zb_inI (12 * x1)) ∧ ((zb_inI ((12 * x1) + x2)) ∧ ((0 ≤ ((12 * x1) + x2) ∧ ((12 * x1) + x2) < 96) ∧ (∀ m40, m40 = zb_up m26 (E.2 x0 4) ((12 * x1) + x2) x3 → (PL_X12_row_44 d E x0 x1 x2 Q 0 m40)))))) ∧ (¬ 0 ≤ x3 → Q (-14) m)) ∧ (¬ x3 ≤ 12 → Q (-1) m)))
set_option maxRecDepth 100000 in
set_option maxHeartbeats 4000000 in
theorem w_X12_row {d : Nat} {E : zb_E} {x0 x1 x2 x3 : Int} {m : zb_M} {Q : Int → zb_M → Prop} (h : PM_X12_row d E x0 x1 x2 x3 m Q) : zb_T K_X12_row (d + 1) [(2, x0), (0, x1), (0, x2), (0, x3)] E m Q := by
  unfold PM_X12_row at h
  refine zb_T_in gd_X12_row rfl rfl (fun hW hA G C hF => ?_)
  have i_0 : zb_is E.1 x0 12 := zb_aH hA (by decide)
  show zb_WP _ _ 0 [(0, (2, x0)), (1, (0, x1)), (2, (0, x2)), (3, (0, x3))] [] _ _ _ _
  refine zb_aload_n (j := 0) dX12_row_0 rfl rfl ?_
  refine zb_iload_n (j := 1) dX12_row_1 rfl rfl ?_
  refine zb_iload_n (j := 2) dX12_row_2 rfl rfl ?_
  refine zb_cVp (As := [(0, x1), (0, x2)]) (As' := [(0, x2), (0, x1)]) (st := []) dX12_row_3 lk_X12_152 gd_X12_isThing rfl rfl i_0 ⟨_, rfl, rfl⟩ h hW hF (zb_aR i_0 (zb_aI (zb_aI zb_a0))) (Nat.le_refl _) (Nat.le_of_ble_eq_true rfl) (fun r3 h => ?_)
  show zb_WP _ _ _ _ [(0, r3)] _ _ _ _
  refine zb_if_eq (tgt := 15) dX12_row_6 (by decide) (fun c1 => ?_) (fun c1 => ?_)
  · have h := h.1 c1
    refine zb_iconst dX12_row_15 (zb_inIc rfl) ?_
    exact zb_rI dX12_row_16 rfl hF h
  · have h := h.2 c1
    refine zb_iload_n (j := 3) dX12_row_9 rfl rfl ?_
    refine zb_bipush dX12_row_10 (by decide) (zb_inIc rfl) ?_
    refine zb_icmp_le (tgt := 17) dX12_row_12 (by decide) (fun c2 => ?_) (fun c2 => ?_)
    · have h := h.1 c2
      refine zb_iload_n (j := 3) dX12_row_17 rfl rfl ?_
      refine zb_if_ge (tgt := 24) dX12_row_18 (by decide) (fun c3 => ?_) (fun c3 => ?_)
      · have h := h.1 c3
        refine zb_aload_n (j := 0) dX12_row_24 rfl rfl ?_
        refine zb_iload_n (j := 1) dX12_row_25 rfl rfl ?_
        refine zb_cV (As := [(0, x1)]) (As' := [(0, x1)]) (st := []) dX12_row_26 lk_X12_148 gd_X12_note rfl rfl i_0 ⟨_, rfl, rfl⟩ h hW hF (zb_aR i_0 (zb_aI zb_a0)) (Nat.le_refl _) (Nat.le_of_ble_eq_true rfl) (fun r26 m26 hF h => ?_)
        show zb_WP _ _ _ _ [] _ _ _ _
        refine zb_aload_n (j := 0) dX12_row_29 rfl rfl ?_
        refine zb_gFa 4 dX12_row_30 fl_X12_22 i_0 hW hF rfl rfl rfl (by decide) rfl 96 rfl (fun i4 l5 => ?_)
        refine zb_bipush dX12_row_33 (by decide) (zb_inIc rfl) ?_
        refine zb_iload_n (j := 1) dX12_row_35 rfl rfl ?_
        obtain ⟨o6, h⟩ := h
        refine zb_imul dX12_row_36 o6 ?_
        refine zb_iload_n (j := 2) dX12_row_37 rfl rfl ?_
        obtain ⟨o7, h⟩ := h
        refine zb_iadd dX12_row_38 o7 ?_
        refine zb_iload_n (j := 3) dX12_row_39 rfl rfl ?_
        obtain ⟨o8, h⟩ := h
        refine zb_sI dX12_row_40 i4 l5 o8.1 o8.2 hF (fun m40 e40 hF => ?_)
        have h := h m40 e40
        refine zb_iconst dX12_row_41 (zb_inIc rfl) ?_
        refine zb_istore (L' := [(4, (0, 0)), (0, (2, x0)), (1, (0, x1)), (2, (0, x2)), (3, (0, x3))]) dX12_row_42 (by decide) rfl ?_
        refine zb_sub (L' := [(0, (2, x0)), (1, (0, x1)), (2, (0, x2)), (4, (0, 0))]) [1, 2, 3, 0] rfl ?_
        unfold PL_X12_row_44 at h
        obtain ⟨X44, hX44⟩ : ∃ X : Int → zb_M → Prop, ∀ (v4_44 : Int) (m44l : zb_M), (X v4_44 m44l ↔ (zb_FIN E m44l → zb_WP (G, C, d + 1, 0, 0, zb_q E Q) F_X12_row 44 [(0, (2, x0)), (1, (0, x1)), (2, (0, x2)), (4, (0, v4_44))] [] E.1 m44l 0 0)) := ⟨fun v4_44 m44l => zb_FIN E m44l → zb_WP (G, C, d + 1, 0, 0, zb_q E Q) F_X12_row 44 [(0, (2, x0)), (1, (0, x1)), (2, (0, x2)), (4, (0, v4_44))] [] E.1 m44l 0 0, fun _ _ => Iff.rfl⟩
        refine (hX44 _ _).mp (h X44 (fun v4_44 m44l h => (hX44 _ _).mpr (fun hF => ?_))) hF
        refine zb_iload (j := 3) dX12_row_44 rfl ?_
        refine zb_bipush dX12_row_46 (by decide) (zb_inIc rfl) ?_
        refine zb_icmp_ge (tgt := 76) dX12_row_48 (by decide) (fun c9 => ?_) (fun c9 => ?_)
        · have h := h.1 c9
          refine zb_iconst dX12_row_76 (zb_inIc rfl) ?_
          exact zb_rI dX12_row_77 rfl hF h
        · have h := h.2 c9
          refine zb_aload_n (j := 0) dX12_row_51 rfl rfl ?_
          refine zb_gFa 5 dX12_row_52 fl_X12_25 i_0 hW hF rfl rfl rfl (by decide) rfl 1152 rfl (fun i10 l11 => ?_)
          refine zb_sipush dX12_row_55 (by decide) (zb_inIc rfl) ?_
          refine zb_iload_n (j := 1) dX12_row_58 rfl rfl ?_
          obtain ⟨o12, h⟩ := h
          refine zb_imul dX12_row_59 o12 ?_
          refine zb_bipush dX12_row_60 (by decide) (zb_inIc rfl) ?_
          refine zb_iload_n (j := 2) dX12_row_62 rfl rfl ?_
          obtain ⟨o13, h⟩ := h
          refine zb_imul dX12_row_63 o13 ?_
          obtain ⟨o14, h⟩ := h
          refine zb_iadd dX12_row_64 o14 ?_
          refine zb_iload (j := 3) dX12_row_65 rfl ?_
          obtain ⟨o15, h⟩ := h
          refine zb_iadd dX12_row_67 o15 ?_
          refine zb_iconst dX12_row_68 (zb_inIc rfl) ?_
          obtain ⟨o16, h⟩ := h
          refine zb_sI dX12_row_69 i10 l11 o16.1 o16.2 hF (fun m69 e69 hF => ?_)
          have h := h m69 e69
          obtain ⟨o17, h⟩ := h
          refine zb_iinc (j := 3) (L' := [(4, (0, (v4_44 + 1))), (0, (2, x0)), (1, (0, x1)), (2, (0, x2))]) dX12_row_70 rfl o17 (by decide) rfl ?_
          refine zb_goto (tgt := 44) dX12_row_73 (by decide) ?_
          refine zb_sub (L' := [(0, (2, x0)), (1, (0, x1)), (2, (0, x2)), (4, (0, (v4_44 + 1)))]) [1, 2, 3, 0] rfl ?_
          exact (hX44 _ _).mp h hF
      · have h := h.2 c3
        refine zb_bipush dX12_row_21 (by decide) (zb_inIc rfl) ?_
        exact zb_rI dX12_row_23 rfl hF h
    · have h := h.2 c2
      refine zb_iconst dX12_row_15 (zb_inIc rfl) ?_
      exact zb_rI dX12_row_16 rfl hF h
theorem dX12_unrow_0 : decode cX12_unrow 0 = .ok (.aload_n 0, 1) := by decide +kernel
theorem dX12_unrow_1 : decode cX12_unrow 1 = .ok (.iload_n 1, 1) := by decide +kernel
theorem dX12_unrow_2 : decode cX12_unrow 2 = .ok (.iload_n 2, 1) := by decide +kernel
theorem dX12_unrow_3 : decode cX12_unrow 3 = .ok (.invokevirtual 152, 3) := by decide +kernel
theorem dX12_unrow_6 : decode cX12_unrow 6 = .ok (.ifCond .ne 5, 3) := by decide +kernel
theorem dX12_unrow_9 : decode cX12_unrow 9 = .ok (.iconst (-1), 1) := by decide +kernel
theorem dX12_unrow_10 : decode cX12_unrow 10 = .ok (.ireturn, 1) := by decide +kernel
theorem dX12_unrow_11 : decode cX12_unrow 11 = .ok (.aload_n 0, 1) := by decide +kernel
theorem dX12_unrow_12 : decode cX12_unrow 12 = .ok (.getfield 22, 3) := by decide +kernel
theorem dX12_unrow_15 : decode cX12_unrow 15 = .ok (.bipush 12, 2) := by decide +kernel
theorem dX12_unrow_17 : decode cX12_unrow 17 = .ok (.iload_n 1, 1) := by decide +kernel
theorem dX12_unrow_18 : decode cX12_unrow 18 = .ok (.imul, 1) := by decide +kernel
theorem dX12_unrow_19 : decode cX12_unrow 19 = .ok (.iload_n 2, 1) := by decide +kernel
theorem dX12_unrow_20 : decode cX12_unrow 20 = .ok (.iadd, 1) := by decide +kernel
theorem dX12_unrow_21 : decode cX12_unrow 21 = .ok (.iaload, 1) := by decide +kernel
theorem dX12_unrow_22 : decode cX12_unrow 22 = .ok (.istore_n 3, 1) := by decide +kernel
theorem dX12_unrow_23 : decode cX12_unrow 23 = .ok (.iload_n 3, 1) := by decide +kernel
theorem dX12_unrow_24 : decode cX12_unrow 24 = .ok (.ifCond .ge 6, 3) := by decide +kernel
theorem dX12_unrow_27 : decode cX12_unrow 27 = .ok (.bipush (-11), 2) := by decide +kernel
theorem dX12_unrow_29 : decode cX12_unrow 29 = .ok (.ireturn, 1) := by decide +kernel
theorem dX12_unrow_30 : decode cX12_unrow 30 = .ok (.aload_n 0, 1) := by decide +kernel
theorem dX12_unrow_31 : decode cX12_unrow 31 = .ok (.iload_n 1, 1) := by decide +kernel
theorem dX12_unrow_32 : decode cX12_unrow 32 = .ok (.invokevirtual 148, 3) := by decide +kernel
theorem dX12_unrow_35 : decode cX12_unrow 35 = .ok (.aload_n 0, 1) := by decide +kernel
theorem dX12_unrow_36 : decode cX12_unrow 36 = .ok (.getfield 22, 3) := by decide +kernel
theorem dX12_unrow_39 : decode cX12_unrow 39 = .ok (.bipush 12, 2) := by decide +kernel
theorem dX12_unrow_41 : decode cX12_unrow 41 = .ok (.iload_n 1, 1) := by decide +kernel
theorem dX12_unrow_42 : decode cX12_unrow 42 = .ok (.imul, 1) := by decide +kernel
theorem dX12_unrow_43 : decode cX12_unrow 43 = .ok (.iload_n 2, 1) := by decide +kernel
theorem dX12_unrow_44 : decode cX12_unrow 44 = .ok (.iadd, 1) := by decide +kernel
theorem dX12_unrow_45 : decode cX12_unrow 45 = .ok (.iconst (-1), 1) := by decide +kernel
theorem dX12_unrow_46 : decode cX12_unrow 46 = .ok (.iastore, 1) := by decide +kernel
theorem dX12_unrow_47 : decode cX12_unrow 47 = .ok (.iload_n 3, 1) := by decide +kernel
theorem dX12_unrow_48 : decode cX12_unrow 48 = .ok (.ireturn, 1) := by decide +kernel
def PM_X12_unrow (d : Nat) (E : zb_E) (x0 : Int) (x1 : Int) (x2 : Int) (m : zb_M) (Q : Int → zb_M → Prop) : Prop :=
  zb_Tp K_X12_isThing d [(2, x0), (0, x1), (0, x2)] E m (fun r3 => (r3 = 0 → Q (-1) m) ∧ (¬ r3 = 0 → (zb_inI (12 * x1)) ∧ ((zb_inI ((12 * x1) + x2)) ∧ ((0 ≤ ((12 * x1) + x2) ∧ ((12 * x1) + x2) < 96) ∧ ((0 ≤ (m (E.2 x0 4) ((12 * x1) + x2)) → zb_T K_X12_note d [(2, x0), (0, x1)] E m (fun r32 m32 => ∀ m46, m46 = zb_up m32 (E.2 x0 4) ((12 * x1) + x2) (-1) → (Q (m (E.2 x0 4) ((12 * x1) + x2)) m46))) ∧ (¬ 0 ≤ (m (E.2 x0 4) ((12 * x1) + x2)) → Q (-11) m))))))
set_option maxRecDepth 100000 in
set_option maxHeartbeats 4000000 in
theorem w_X12_unrow {d : Nat} {E : zb_E} {x0 x1 x2 : Int} {m : zb_M} {Q : Int → zb_M → Prop} (h : PM_X12_unrow d E x0 x1 x2 m Q) : zb_T K_X12_unrow (d + 1) [(2, x0), (0, x1), (0, x2)] E m Q := by
  unfold PM_X12_unrow at h
  refine zb_T_in gd_X12_unrow rfl rfl (fun hW hA G C hF => ?_)
  have i_0 : zb_is E.1 x0 12 := zb_aH hA (by decide)
  show zb_WP _ _ 0 [(0, (2, x0)), (1, (0, x1)), (2, (0, x2))] [] _ _ _ _
  refine zb_aload_n (j := 0) dX12_unrow_0 rfl rfl ?_
  refine zb_iload_n (j := 1) dX12_unrow_1 rfl rfl ?_
  refine zb_iload_n (j := 2) dX12_unrow_2 rfl rfl ?_
  refine zb_cVp (As := [(0, x1), (0, x2)]) (As' := [(0, x2), (0, x1)]) (st := []) dX12_unrow_3 lk_X12_152 gd_X12_isThing rfl rfl i_0 ⟨_, rfl, rfl⟩ h hW hF (zb_aR i_0 (zb_aI (zb_aI zb_a0))) (Nat.le_refl _) (Nat.le_of_ble_eq_true rfl) (fun r3 h => ?_)
  show zb_WP _ _ _ _ [(0, r3)] _ _ _ _
  refine zb_if_ne (tgt := 11) dX12_unrow_6 (by decide) (fun c1 => ?_) (fun c1 => ?_)
  · have h := h.2 c1
    refine zb_aload_n (j := 0) dX12_unrow_11 rfl rfl ?_
    refine zb_gFa 4 dX12_unrow_12 fl_X12_22 i_0 hW hF rfl rfl rfl (by decide) rfl 96 rfl (fun i2 l3 => ?_)
    refine zb_bipush dX12_unrow_15 (by decide) (zb_inIc rfl) ?_
    refine zb_iload_n (j := 1) dX12_unrow_17 rfl rfl ?_
    obtain ⟨o4, h⟩ := h
    refine zb_imul dX12_unrow_18 o4 ?_
    refine zb_iload_n (j := 2) dX12_unrow_19 rfl rfl ?_
    obtain ⟨o5, h⟩ := h
    refine zb_iadd dX12_unrow_20 o5 ?_
    obtain ⟨o6, h⟩ := h
    refine zb_lI dX12_unrow_21 i2 l3 o6.1 o6.2 ?_
    refine zb_istore_n (L' := [(3, (0, (m (E.2 x0 4) ((12 * x1) + x2)))), (0, (2, x0)), (1, (0, x1)), (2, (0, x2))]) dX12_unrow_22 rfl (by decide) rfl ?_
    refine zb_iload_n (j := 0) dX12_unrow_23 rfl rfl ?_
    refine zb_if_ge (tgt := 30) dX12_unrow_24 (by decide) (fun c7 => ?_) (fun c7 => ?_)
    · have h := h.1 c7
      refine zb_aload_n (j := 1) dX12_unrow_30 rfl rfl ?_
      refine zb_iload_n (j := 2) dX12_unrow_31 rfl rfl ?_
      refine zb_cV (As := [(0, x1)]) (As' := [(0, x1)]) (st := []) dX12_unrow_32 lk_X12_148 gd_X12_note rfl rfl i_0 ⟨_, rfl, rfl⟩ h hW hF (zb_aR i_0 (zb_aI zb_a0)) (Nat.le_refl _) (Nat.le_of_ble_eq_true rfl) (fun r32 m32 hF h => ?_)
      show zb_WP _ _ _ _ [] _ _ _ _
      refine zb_aload_n (j := 1) dX12_unrow_35 rfl rfl ?_
      refine zb_gFa 4 dX12_unrow_36 fl_X12_22 i_0 hW hF rfl rfl rfl (by decide) rfl 96 rfl (fun i8 l9 => ?_)
      refine zb_bipush dX12_unrow_39 (by decide) (zb_inIc rfl) ?_
      refine zb_iload_n (j := 2) dX12_unrow_41 rfl rfl ?_
      refine zb_imul dX12_unrow_42 o4 ?_
      refine zb_iload_n (j := 3) dX12_unrow_43 rfl rfl ?_
      refine zb_iadd dX12_unrow_44 o5 ?_
      refine zb_iconst dX12_unrow_45 (zb_inIc rfl) ?_
      refine zb_sI dX12_unrow_46 i8 l9 o6.1 o6.2 hF (fun m46 e46 hF => ?_)
      have h := h m46 e46
      refine zb_iload_n (j := 0) dX12_unrow_47 rfl rfl ?_
      exact zb_rI dX12_unrow_48 rfl hF h
    · have h := h.2 c7
      refine zb_bipush dX12_unrow_27 (by decide) (zb_inIc rfl) ?_
      exact zb_rI dX12_unrow_29 rfl hF h
  · have h := h.1 c1
    refine zb_iconst dX12_unrow_9 (zb_inIc rfl) ?_
    exact zb_rI dX12_unrow_10 rfl hF h
theorem dX12_place_0 : decode cX12_place 0 = .ok (.aload_n 0, 1) := by decide +kernel
theorem dX12_place_1 : decode cX12_place 1 = .ok (.iload_n 1, 1) := by decide +kernel
theorem dX12_place_2 : decode cX12_place 2 = .ok (.iload_n 2, 1) := by decide +kernel
theorem dX12_place_3 : decode cX12_place 3 = .ok (.invokevirtual 152, 3) := by decide +kernel
theorem dX12_place_6 : decode cX12_place 6 = .ok (.ifCond .eq 14, 3) := by decide +kernel
theorem dX12_place_9 : decode cX12_place 9 = .ok (.iload 4, 2) := by decide +kernel
theorem dX12_place_11 : decode cX12_place 11 = .ok (.iconst 0, 1) := by decide +kernel
theorem dX12_place_12 : decode cX12_place 12 = .ok (.bipush 9, 2) := by decide +kernel
theorem dX12_place_14 : decode cX12_place 14 = .ok (.invokestatic 133, 3) := by decide +kernel
theorem dX12_place_17 : decode cX12_place 17 = .ok (.ifCond .ne 5, 3) := by decide +kernel
theorem dX12_place_20 : decode cX12_place 20 = .ok (.iconst (-1), 1) := by decide +kernel
theorem dX12_place_21 : decode cX12_place 21 = .ok (.ireturn, 1) := by decide +kernel
theorem dX12_place_22 : decode cX12_place 22 = .ok (.aload_n 0, 1) := by decide +kernel
theorem dX12_place_23 : decode cX12_place 23 = .ok (.getfield 22, 3) := by decide +kernel
theorem dX12_place_26 : decode cX12_place 26 = .ok (.bipush 12, 2) := by decide +kernel
theorem dX12_place_28 : decode cX12_place 28 = .ok (.iload_n 1, 1) := by decide +kernel
theorem dX12_place_29 : decode cX12_place 29 = .ok (.imul, 1) := by decide +kernel
theorem dX12_place_30 : decode cX12_place 30 = .ok (.iload_n 2, 1) := by decide +kernel
theorem dX12_place_31 : decode cX12_place 31 = .ok (.iadd, 1) := by decide +kernel
theorem dX12_place_32 : decode cX12_place 32 = .ok (.iaload, 1) := by decide +kernel
theorem dX12_place_33 : decode cX12_place 33 = .ok (.istore 5, 2) := by decide +kernel
theorem dX12_place_35 : decode cX12_place 35 = .ok (.iload 5, 2) := by decide +kernel
theorem dX12_place_37 : decode cX12_place 37 = .ok (.ifCond .ge 6, 3) := by decide +kernel
theorem dX12_place_40 : decode cX12_place 40 = .ok (.bipush (-11), 2) := by decide +kernel
theorem dX12_place_42 : decode cX12_place 42 = .ok (.ireturn, 1) := by decide +kernel
theorem dX12_place_43 : decode cX12_place 43 = .ok (.iload_n 3, 1) := by decide +kernel
theorem dX12_place_44 : decode cX12_place 44 = .ok (.iconst 0, 1) := by decide +kernel
theorem dX12_place_45 : decode cX12_place 45 = .ok (.iload 5, 2) := by decide +kernel
theorem dX12_place_47 : decode cX12_place 47 = .ok (.iconst 1, 1) := by decide +kernel
theorem dX12_place_48 : decode cX12_place 48 = .ok (.isub, 1) := by decide +kernel
theorem dX12_place_49 : decode cX12_place 49 = .ok (.invokestatic 133, 3) := by decide +kernel
theorem dX12_place_52 : decode cX12_place 52 = .ok (.ifCond .ne 6, 3) := by decide +kernel
theorem dX12_place_55 : decode cX12_place 55 = .ok (.bipush (-12), 2) := by decide +kernel
theorem dX12_place_57 : decode cX12_place 57 = .ok (.ireturn, 1) := by decide +kernel
theorem dX12_place_58 : decode cX12_place 58 = .ok (.aload_n 0, 1) := by decide +kernel
theorem dX12_place_59 : decode cX12_place 59 = .ok (.iload_n 1, 1) := by decide +kernel
theorem dX12_place_60 : decode cX12_place 60 = .ok (.invokevirtual 148, 3) := by decide +kernel
theorem dX12_place_63 : decode cX12_place 63 = .ok (.sipush 144, 3) := by decide +kernel
theorem dX12_place_66 : decode cX12_place 66 = .ok (.iload_n 1, 1) := by decide +kernel
theorem dX12_place_67 : decode cX12_place 67 = .ok (.imul, 1) := by decide +kernel
theorem dX12_place_68 : decode cX12_place 68 = .ok (.bipush 12, 2) := by decide +kernel
theorem dX12_place_70 : decode cX12_place 70 = .ok (.iload_n 2, 1) := by decide +kernel
theorem dX12_place_71 : decode cX12_place 71 = .ok (.imul, 1) := by decide +kernel
theorem dX12_place_72 : decode cX12_place 72 = .ok (.iadd, 1) := by decide +kernel
theorem dX12_place_73 : decode cX12_place 73 = .ok (.iload_n 3, 1) := by decide +kernel
theorem dX12_place_74 : decode cX12_place 74 = .ok (.iadd, 1) := by decide +kernel
theorem dX12_place_75 : decode cX12_place 75 = .ok (.istore 6, 2) := by decide +kernel
theorem dX12_place_77 : decode cX12_place 77 = .ok (.aload_n 0, 1) := by decide +kernel
theorem dX12_place_78 : decode cX12_place 78 = .ok (.getfield 25, 3) := by decide +kernel
theorem dX12_place_81 : decode cX12_place 81 = .ok (.iload 6, 2) := by decide +kernel
theorem dX12_place_83 : decode cX12_place 83 = .ok (.iaload, 1) := by decide +kernel
theorem dX12_place_84 : decode cX12_place 84 = .ok (.istore 7, 2) := by decide +kernel
theorem dX12_place_86 : decode cX12_place 86 = .ok (.aload_n 0, 1) := by decide +kernel
theorem dX12_place_87 : decode cX12_place 87 = .ok (.getfield 25, 3) := by decide +kernel
theorem dX12_place_90 : decode cX12_place 90 = .ok (.iload 6, 2) := by decide +kernel
theorem dX12_place_92 : decode cX12_place 92 = .ok (.iload 4, 2) := by decide +kernel
theorem dX12_place_94 : decode cX12_place 94 = .ok (.iastore, 1) := by decide +kernel
theorem dX12_place_95 : decode cX12_place 95 = .ok (.iload 7, 2) := by decide +kernel
theorem dX12_place_97 : decode cX12_place 97 = .ok (.ireturn, 1) := by decide +kernel
def PM_X12_place (d : Nat) (E : zb_E) (x0 : Int) (x1 : Int) (x2 : Int) (x3 : Int) (x4 : Int) (m : zb_M) (Q : Int → zb_M → Prop) : Prop :=
  zb_Tp K_X12_isThing d [(2, x0), (0, x1), (0, x2)] E m (fun r3 => (r3 = 0 → Q (-1) m) ∧ (¬ r3 = 0 → zb_Tp K_X12_in d [(0, x4), (0, 0), (0, 9)] E m (fun r14 => (r14 = 0 → Q (-1) m) ∧ (¬ r14 = 0 → (zb_inI (12 * x1)) ∧ ((zb_inI ((12 * x1) + x2)) ∧ ((0 ≤ ((12 * x1) + x2) ∧ ((12 * x1) + x2) < 96) ∧ ((0 ≤ (m (E.2 x0 4) ((12 * x1) + x2)) → (zb_inI ((m (E.2 x0 4) ((12 * x1) + x2)) - 1)) ∧ (zb_Tp K_X12_in d [(0, x3), (0, 0), (0, ((m (E.2 x0 4) ((12 * x1) + x2)) - 1))] E m (fun r49 => (r49 = 0 → Q (-12) m) ∧ (¬ r49 = 0 → zb_T K_X12_note d [(2, x0), (0, x1)] E m (fun r60 m60 => (zb_inI (144 * x1)) ∧ ((zb_inI (12 * x2)) ∧ ((zb_inI ((144 * x1) + (12 * x2))) ∧ ((zb_inI (((144 * x1) + (12 * x2)) + x3)) ∧ ((0 ≤ (((144 * x1) + (12 * x2)) + x3) ∧ (((144 * x1) + (12 * x2)) + x3) < 1152) ∧ (∀ m94, m94 = zb_up m60 (E.2 x0 5) (((144 * x1) + (12 * x2)) + x3) x4 → (Q (m60 (E.2 x0 5) (((144 * x1) + (12 * x2)) + x3)) m94))))))))))) ∧ (¬ 0 ≤ (m (E.2 x0 4) ((12 * x1) + x2)) → Q (-11) m))))))))
set_option maxRecDepth 100000 in
set_option maxHeartbeats 4000000 in
theorem w_X12_place {d : Nat} {E : zb_E} {x0 x1 x2 x3 x4 : Int} {m : zb_M} {Q : Int → zb_M → Prop} (h : PM_X12_place d E x0 x1 x2 x3 x4 m Q) : zb_T K_X12_place (d + 1) [(2, x0), (0, x1), (0, x2), (0, x3), (0, x4)] E m Q := by
  unfold PM_X12_place at h
  refine zb_T_in gd_X12_place rfl rfl (fun hW hA G C hF => ?_)
  have i_0 : zb_is E.1 x0 12 := zb_aH hA (by decide)
  show zb_WP _ _ 0 [(0, (2, x0)), (1, (0, x1)), (2, (0, x2)), (3, (0, x3)), (4, (0, x4))] [] _ _ _ _
  refine zb_aload_n (j := 0) dX12_place_0 rfl rfl ?_
  refine zb_iload_n (j := 1) dX12_place_1 rfl rfl ?_
  refine zb_iload_n (j := 2) dX12_place_2 rfl rfl ?_
  refine zb_cVp (As := [(0, x1), (0, x2)]) (As' := [(0, x2), (0, x1)]) (st := []) dX12_place_3 lk_X12_152 gd_X12_isThing rfl rfl i_0 ⟨_, rfl, rfl⟩ h hW hF (zb_aR i_0 (zb_aI (zb_aI zb_a0))) (Nat.le_refl _) (Nat.le_of_ble_eq_true rfl) (fun r3 h => ?_)
  show zb_WP _ _ _ _ [(0, r3)] _ _ _ _
  refine zb_if_eq (tgt := 20) dX12_place_6 (by decide) (fun c1 => ?_) (fun c1 => ?_)
  · have h := h.1 c1
    refine zb_iconst dX12_place_20 (zb_inIc rfl) ?_
    exact zb_rI dX12_place_21 rfl hF h
  · have h := h.2 c1
    refine zb_iload (j := 4) dX12_place_9 rfl ?_
    refine zb_iconst dX12_place_11 (zb_inIc rfl) ?_
    refine zb_bipush dX12_place_12 (by decide) (zb_inIc rfl) ?_
    refine zb_cSp (As := [(0, x4), (0, 0), (0, 9)]) (As' := [(0, 9), (0, 0), (0, x4)]) (st := []) dX12_place_14 lk_X12_133 gd_X12_in rfl rfl h hW hF (zb_aI (zb_aI (zb_aI zb_a0))) (Nat.le_refl _) (Nat.le_of_ble_eq_true rfl) (fun r14 h => ?_)
    show zb_WP _ _ _ _ [(0, r14)] _ _ _ _
    refine zb_if_ne (tgt := 22) dX12_place_17 (by decide) (fun c2 => ?_) (fun c2 => ?_)
    · have h := h.2 c2
      refine zb_aload_n (j := 0) dX12_place_22 rfl rfl ?_
      refine zb_gFa 4 dX12_place_23 fl_X12_22 i_0 hW hF rfl rfl rfl (by decide) rfl 96 rfl (fun i3 l4 => ?_)
      refine zb_bipush dX12_place_26 (by decide) (zb_inIc rfl) ?_
      refine zb_iload_n (j := 1) dX12_place_28 rfl rfl ?_
      obtain ⟨o5, h⟩ := h
      refine zb_imul dX12_place_29 o5 ?_
      refine zb_iload_n (j := 2) dX12_place_30 rfl rfl ?_
      obtain ⟨o6, h⟩ := h
      refine zb_iadd dX12_place_31 o6 ?_
      obtain ⟨o7, h⟩ := h
      refine zb_lI dX12_place_32 i3 l4 o7.1 o7.2 ?_
      refine zb_istore (L' := [(5, (0, (m (E.2 x0 4) ((12 * x1) + x2)))), (0, (2, x0)), (1, (0, x1)), (2, (0, x2)), (3, (0, x3)), (4, (0, x4))]) dX12_place_33 (by decide) rfl ?_
      refine zb_iload (j := 0) dX12_place_35 rfl ?_
      refine zb_if_ge (tgt := 43) dX12_place_37 (by decide) (fun c8 => ?_) (fun c8 => ?_)
      · have h := h.1 c8
        refine zb_iload_n (j := 4) dX12_place_43 rfl rfl ?_
        refine zb_iconst dX12_place_44 (zb_inIc rfl) ?_
        refine zb_iload (j := 0) dX12_place_45 rfl ?_
        refine zb_iconst dX12_place_47 (zb_inIc rfl) ?_
        obtain ⟨o9, h⟩ := h
        refine zb_isub dX12_place_48 o9 ?_
        refine zb_cSp (As := [(0, x3), (0, 0), (0, ((m (E.2 x0 4) ((12 * x1) + x2)) - 1))]) (As' := [(0, ((m (E.2 x0 4) ((12 * x1) + x2)) - 1)), (0, 0), (0, x3)]) (st := []) dX12_place_49 lk_X12_133 gd_X12_in rfl rfl h hW hF (zb_aI (zb_aI (zb_aI zb_a0))) (Nat.le_refl _) (Nat.le_of_ble_eq_true rfl) (fun r49 h => ?_)
        show zb_WP _ _ _ _ [(0, r49)] _ _ _ _
        refine zb_if_ne (tgt := 58) dX12_place_52 (by decide) (fun c10 => ?_) (fun c10 => ?_)
        · have h := h.2 c10
          refine zb_aload_n (j := 1) dX12_place_58 rfl rfl ?_
          refine zb_iload_n (j := 2) dX12_place_59 rfl rfl ?_
          refine zb_cV (As := [(0, x1)]) (As' := [(0, x1)]) (st := []) dX12_place_60 lk_X12_148 gd_X12_note rfl rfl i_0 ⟨_, rfl, rfl⟩ h hW hF (zb_aR i_0 (zb_aI zb_a0)) (Nat.le_refl _) (Nat.le_of_ble_eq_true rfl) (fun r60 m60 hF h => ?_)
          show zb_WP _ _ _ _ [] _ _ _ _
          refine zb_sipush dX12_place_63 (by decide) (zb_inIc rfl) ?_
          refine zb_iload_n (j := 2) dX12_place_66 rfl rfl ?_
          obtain ⟨o11, h⟩ := h
          refine zb_imul dX12_place_67 o11 ?_
          refine zb_bipush dX12_place_68 (by decide) (zb_inIc rfl) ?_
          refine zb_iload_n (j := 3) dX12_place_70 rfl rfl ?_
          obtain ⟨o12, h⟩ := h
          refine zb_imul dX12_place_71 o12 ?_
          obtain ⟨o13, h⟩ := h
          refine zb_iadd dX12_place_72 o13 ?_
          refine zb_iload_n (j := 4) dX12_place_73 rfl rfl ?_
          obtain ⟨o14, h⟩ := h
          refine zb_iadd dX12_place_74 o14 ?_
          refine zb_istore (L' := [(6, (0, (((144 * x1) + (12 * x2)) + x3))), (5, (0, (m (E.2 x0 4) ((12 * x1) + x2)))), (0, (2, x0)), (1, (0, x1)), (2, (0, x2)), (3, (0, x3)), (4, (0, x4))]) dX12_place_75 (by decide) rfl ?_
          refine zb_aload_n (j := 2) dX12_place_77 rfl rfl ?_
          refine zb_gFa 5 dX12_place_78 fl_X12_25 i_0 hW hF rfl rfl rfl (by decide) rfl 1152 rfl (fun i15 l16 => ?_)
          refine zb_iload (j := 0) dX12_place_81 rfl ?_
          obtain ⟨o17, h⟩ := h
          refine zb_lI dX12_place_83 i15 l16 o17.1 o17.2 ?_
          refine zb_istore (L' := [(7, (0, (m60 (E.2 x0 5) (((144 * x1) + (12 * x2)) + x3)))), (6, (0, (((144 * x1) + (12 * x2)) + x3))), (5, (0, (m (E.2 x0 4) ((12 * x1) + x2)))), (0, (2, x0)), (1, (0, x1)), (2, (0, x2)), (3, (0, x3)), (4, (0, x4))]) dX12_place_84 (by decide) rfl ?_
          refine zb_aload_n (j := 3) dX12_place_86 rfl rfl ?_
          refine zb_gFa 5 dX12_place_87 fl_X12_25 i_0 hW hF rfl rfl rfl (by decide) rfl 1152 rfl (fun i18 l19 => ?_)
          refine zb_iload (j := 1) dX12_place_90 rfl ?_
          refine zb_iload (j := 7) dX12_place_92 rfl ?_
          refine zb_sI dX12_place_94 i18 l19 o17.1 o17.2 hF (fun m94 e94 hF => ?_)
          have h := h m94 e94
          refine zb_iload (j := 0) dX12_place_95 rfl ?_
          exact zb_rI dX12_place_97 rfl hF h
        · have h := h.1 c10
          refine zb_bipush dX12_place_55 (by decide) (zb_inIc rfl) ?_
          exact zb_rI dX12_place_57 rfl hF h
      · have h := h.2 c8
        refine zb_bipush dX12_place_40 (by decide) (zb_inIc rfl) ?_
        exact zb_rI dX12_place_42 rfl hF h
    · have h := h.1 c2
      refine zb_iconst dX12_place_20 (zb_inIc rfl) ?_
      exact zb_rI dX12_place_21 rfl hF h
