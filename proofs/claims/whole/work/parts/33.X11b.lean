/-! ===== SameBench: instructions and walks (laid by gen/layout.py) ===== -/
theorem dX11_same_0 : decode cX11_same 0 = .ok (.iload_n 1, 1) := by decide +kernel
theorem dX11_same_1 : decode cX11_same 1 = .ok (.invokestatic 97, 3) := by decide +kernel
theorem dX11_same_4 : decode cX11_same 4 = .ok (.ifCond .eq 10, 3) := by decide +kernel
theorem dX11_same_7 : decode cX11_same 7 = .ok (.iload_n 2, 1) := by decide +kernel
theorem dX11_same_8 : decode cX11_same 8 = .ok (.invokestatic 97, 3) := by decide +kernel
theorem dX11_same_11 : decode cX11_same 11 = .ok (.ifCond .ne 5, 3) := by decide +kernel
theorem dX11_same_14 : decode cX11_same 14 = .ok (.iconst (-1), 1) := by decide +kernel
theorem dX11_same_15 : decode cX11_same 15 = .ok (.ireturn, 1) := by decide +kernel
theorem dX11_same_16 : decode cX11_same 16 = .ok (.aload_n 0, 1) := by decide +kernel
theorem dX11_same_17 : decode cX11_same 17 = .ok (.getfield 11, 3) := by decide +kernel
theorem dX11_same_20 : decode cX11_same 20 = .ok (.iload_n 1, 1) := by decide +kernel
theorem dX11_same_21 : decode cX11_same 21 = .ok (.aaload, 1) := by decide +kernel
theorem dX11_same_22 : decode cX11_same 22 = .ok (.invokevirtual 177, 3) := by decide +kernel
theorem dX11_same_25 : decode cX11_same 25 = .ok (.ifCond .eq 15, 3) := by decide +kernel
theorem dX11_same_28 : decode cX11_same 28 = .ok (.aload_n 0, 1) := by decide +kernel
theorem dX11_same_29 : decode cX11_same 29 = .ok (.getfield 11, 3) := by decide +kernel
theorem dX11_same_32 : decode cX11_same 32 = .ok (.iload_n 2, 1) := by decide +kernel
theorem dX11_same_33 : decode cX11_same 33 = .ok (.aaload, 1) := by decide +kernel
theorem dX11_same_34 : decode cX11_same 34 = .ok (.invokevirtual 177, 3) := by decide +kernel
theorem dX11_same_37 : decode cX11_same 37 = .ok (.ifCond .ne 6, 3) := by decide +kernel
theorem dX11_same_40 : decode cX11_same 40 = .ok (.bipush (-2), 2) := by decide +kernel
theorem dX11_same_42 : decode cX11_same 42 = .ok (.ireturn, 1) := by decide +kernel
theorem dX11_same_43 : decode cX11_same 43 = .ok (.aload_n 0, 1) := by decide +kernel
theorem dX11_same_44 : decode cX11_same 44 = .ok (.getfield 57, 3) := by decide +kernel
theorem dX11_same_47 : decode cX11_same 47 = .ok (.aload_n 0, 1) := by decide +kernel
theorem dX11_same_48 : decode cX11_same 48 = .ok (.getfield 11, 3) := by decide +kernel
theorem dX11_same_51 : decode cX11_same 51 = .ok (.iload_n 1, 1) := by decide +kernel
theorem dX11_same_52 : decode cX11_same 52 = .ok (.aaload, 1) := by decide +kernel
theorem dX11_same_53 : decode cX11_same 53 = .ok (.aload_n 0, 1) := by decide +kernel
theorem dX11_same_54 : decode cX11_same 54 = .ok (.getfield 11, 3) := by decide +kernel
theorem dX11_same_57 : decode cX11_same 57 = .ok (.iload_n 2, 1) := by decide +kernel
theorem dX11_same_58 : decode cX11_same 58 = .ok (.aaload, 1) := by decide +kernel
theorem dX11_same_59 : decode cX11_same 59 = .ok (.invokevirtual 243, 3) := by decide +kernel
theorem dX11_same_62 : decode cX11_same 62 = .ok (.aload_n 0, 1) := by decide +kernel
theorem dX11_same_63 : decode cX11_same 63 = .ok (.getfield 57, 3) := by decide +kernel
theorem dX11_same_66 : decode cX11_same 66 = .ok (.invokevirtual 246, 3) := by decide +kernel
theorem dX11_same_69 : decode cX11_same 69 = .ok (.ifCond .ne 6, 3) := by decide +kernel
theorem dX11_same_72 : decode cX11_same 72 = .ok (.bipush (-3), 2) := by decide +kernel
theorem dX11_same_74 : decode cX11_same 74 = .ok (.ireturn, 1) := by decide +kernel
theorem dX11_same_75 : decode cX11_same 75 = .ok (.aload_n 0, 1) := by decide +kernel
theorem dX11_same_76 : decode cX11_same 76 = .ok (.getfield 57, 3) := by decide +kernel
theorem dX11_same_79 : decode cX11_same 79 = .ok (.invokevirtual 249, 3) := by decide +kernel
theorem dX11_same_82 : decode cX11_same 82 = .ok (.ifCond .ne 5, 3) := by decide +kernel
theorem dX11_same_85 : decode cX11_same 85 = .ok (.iconst 0, 1) := by decide +kernel
theorem dX11_same_86 : decode cX11_same 86 = .ok (.ireturn, 1) := by decide +kernel
theorem dX11_same_87 : decode cX11_same 87 = .ok (.aload_n 0, 1) := by decide +kernel
theorem dX11_same_88 : decode cX11_same 88 = .ok (.getfield 81, 3) := by decide +kernel
theorem dX11_same_91 : decode cX11_same 91 = .ok (.aload_n 0, 1) := by decide +kernel
theorem dX11_same_92 : decode cX11_same 92 = .ok (.getfield 57, 3) := by decide +kernel
theorem dX11_same_95 : decode cX11_same 95 = .ok (.getfield 252, 3) := by decide +kernel
theorem dX11_same_98 : decode cX11_same 98 = .ok (.aload_n 0, 1) := by decide +kernel
theorem dX11_same_99 : decode cX11_same 99 = .ok (.getfield 57, 3) := by decide +kernel
theorem dX11_same_102 : decode cX11_same 102 = .ok (.getfield 255, 3) := by decide +kernel
theorem dX11_same_105 : decode cX11_same 105 = .ok (.invokevirtual 258, 3) := by decide +kernel
theorem dX11_same_108 : decode cX11_same 108 = .ok (.iconst 1, 1) := by decide +kernel
theorem dX11_same_109 : decode cX11_same 109 = .ok (.ireturn, 1) := by decide +kernel
def PM_X11_same (d : Nat) (E : zb_E) (x0 : Int) (x1 : Int) (x2 : Int) (m : zb_M) (Q : Int → zb_M → Prop) : Prop :=
  zb_Tp K_X11_isGraph d [(0, x1)] E m (fun r1 => (r1 = 0 → Q (-1) m) ∧ (¬ r1 = 0 → zb_Tp K_X11_isGraph d [(0, x2)] E m (fun r8 => (r8 = 0 → Q (-1) m) ∧ (¬ r8 = 0 → (0 ≤ x1 ∧ x1 < 8) ∧ (zb_Tp K_X4_isRight d [(2, (E.2 (E.2 x0 0) x1))] E m (fun r22 => (r22 = 0 → Q (-2) m) ∧ (¬ r22 = 0 → (0 ≤ x2 ∧ x2 < 8) ∧ (zb_Tp K_X4_isRight d [(2, (E.2 (E.2 x0 0) x2))] E m (fun r34 => (r34 = 0 → Q (-2) m) ∧ (¬ r34 = 0 → zb_T K_X0_take d [(2, (E.2 x0 6)), (2, (E.2 (E.2 x0 0) x1)), (2, (E.2 (E.2 x0 0) x2))] E m (fun r59 m59 => zb_T K_X0_findNames d [(2, (E.2 x0 6))] E m59 (fun r66 m66 => (r66 = 0 → Q (-3) m66) ∧ (¬ r66 = 0 → zb_Tp K_X0_isOneName d [(2, (E.2 x0 6))] E m66 (fun r79 => (r79 = 0 → Q 0 m66) ∧ (¬ r79 = 0 → zb_T K_X10_takeOrders d [(2, (E.2 x0 11)), (2, (E.2 (E.2 x0 6) 6)), (2, (E.2 (E.2 x0 6) 7))] E m66 (fun r105 m105 => Q 1 m105))))))))))))))))
set_option maxRecDepth 100000 in
set_option maxHeartbeats 4000000 in
theorem w_X11_same {d : Nat} {E : zb_E} {x0 x1 x2 : Int} {m : zb_M} {Q : Int → zb_M → Prop} (h : PM_X11_same d E x0 x1 x2 m Q) : zb_T K_X11_same (d + 1) [(2, x0), (0, x1), (0, x2)] E m Q := by
  unfold PM_X11_same at h
  refine zb_T_in gd_X11_same rfl rfl (fun hW hA G C hF => ?_)
  have i_0 : zb_is E.1 x0 11 := zb_aH hA (by decide)
  show zb_WP _ _ 0 [(0, (2, x0)), (1, (0, x1)), (2, (0, x2))] [] _ _ _ _
  refine zb_iload_n (j := 1) dX11_same_0 rfl rfl ?_
  refine zb_cSp (As := [(0, x1)]) (As' := [(0, x1)]) (st := []) dX11_same_1 lk_X11_97 gd_X11_isGraph rfl rfl h hW hF (zb_aI zb_a0) (Nat.le_refl _) (Nat.le_of_ble_eq_true rfl) (fun r1 h => ?_)
  show zb_WP _ _ _ _ [(0, r1)] _ _ _ _
  refine zb_if_eq (tgt := 14) dX11_same_4 (by decide) (fun c1 => ?_) (fun c1 => ?_)
  · have h := h.1 c1
    refine zb_iconst dX11_same_14 (zb_inIc rfl) ?_
    exact zb_rI dX11_same_15 rfl hF h
  · have h := h.2 c1
    refine zb_iload_n (j := 2) dX11_same_7 rfl rfl ?_
    refine zb_cSp (As := [(0, x2)]) (As' := [(0, x2)]) (st := []) dX11_same_8 lk_X11_97 gd_X11_isGraph rfl rfl h hW hF (zb_aI zb_a0) (Nat.le_refl _) (Nat.le_of_ble_eq_true rfl) (fun r8 h => ?_)
    show zb_WP _ _ _ _ [(0, r8)] _ _ _ _
    refine zb_if_ne (tgt := 16) dX11_same_11 (by decide) (fun c2 => ?_) (fun c2 => ?_)
    · have h := h.2 c2
      refine zb_aload_n (j := 0) dX11_same_16 rfl rfl ?_
      refine zb_gFa 0 dX11_same_17 fl_X11_11 i_0 hW hF rfl rfl rfl (by decide) rfl 8 rfl (fun i3 l4 => ?_)
      refine zb_iload_n (j := 1) dX11_same_20 rfl rfl ?_
      obtain ⟨o5, h⟩ := h
      refine zb_lA 3 dX11_same_21 i3 (by decide) l4 hW hF o5.1 o5.2 (fun i6 => ?_)
      refine zb_cVp (As := []) (As' := []) (st := []) dX11_same_22 lk_X11_177 gd_X4_isRight rfl rfl i6 ⟨_, rfl, rfl⟩ h hW hF (zb_aR i6 zb_a0) (Nat.le_refl _) (Nat.le_of_ble_eq_true rfl) (fun r22 h => ?_)
      show zb_WP _ _ _ _ [(0, r22)] _ _ _ _
      refine zb_if_eq (tgt := 40) dX11_same_25 (by decide) (fun c7 => ?_) (fun c7 => ?_)
      · have h := h.1 c7
        refine zb_bipush dX11_same_40 (by decide) (zb_inIc rfl) ?_
        exact zb_rI dX11_same_42 rfl hF h
      · have h := h.2 c7
        refine zb_aload_n (j := 0) dX11_same_28 rfl rfl ?_
        refine zb_gFa 0 dX11_same_29 fl_X11_11 i_0 hW hF rfl rfl rfl (by decide) rfl 8 rfl (fun i8 l9 => ?_)
        refine zb_iload_n (j := 2) dX11_same_32 rfl rfl ?_
        obtain ⟨o10, h⟩ := h
        refine zb_lA 3 dX11_same_33 i8 (by decide) l9 hW hF o10.1 o10.2 (fun i11 => ?_)
        refine zb_cVp (As := []) (As' := []) (st := []) dX11_same_34 lk_X11_177 gd_X4_isRight rfl rfl i11 ⟨_, rfl, rfl⟩ h hW hF (zb_aR i11 zb_a0) (Nat.le_refl _) (Nat.le_of_ble_eq_true rfl) (fun r34 h => ?_)
        show zb_WP _ _ _ _ [(0, r34)] _ _ _ _
        refine zb_if_ne (tgt := 43) dX11_same_37 (by decide) (fun c12 => ?_) (fun c12 => ?_)
        · have h := h.2 c12
          refine zb_aload_n (j := 0) dX11_same_43 rfl rfl ?_
          refine zb_gFo 6 dX11_same_44 fl_X11_57 i_0 hW hF rfl rfl rfl rfl (fun i13 => ?_)
          refine zb_aload_n (j := 0) dX11_same_47 rfl rfl ?_
          refine zb_gFa 0 dX11_same_48 fl_X11_11 i_0 hW hF rfl rfl rfl (by decide) rfl 8 rfl (fun i14 l15 => ?_)
          refine zb_iload_n (j := 1) dX11_same_51 rfl rfl ?_
          refine zb_lA 3 dX11_same_52 i14 (by decide) l15 hW hF o5.1 o5.2 (fun i16 => ?_)
          refine zb_aload_n (j := 0) dX11_same_53 rfl rfl ?_
          refine zb_gFa 0 dX11_same_54 fl_X11_11 i_0 hW hF rfl rfl rfl (by decide) rfl 8 rfl (fun i17 l18 => ?_)
          refine zb_iload_n (j := 2) dX11_same_57 rfl rfl ?_
          refine zb_lA 3 dX11_same_58 i17 (by decide) l18 hW hF o10.1 o10.2 (fun i19 => ?_)
          refine zb_cV (As := [(2, (E.2 (E.2 x0 0) x1)), (2, (E.2 (E.2 x0 0) x2))]) (As' := [(2, (E.2 (E.2 x0 0) x2)), (2, (E.2 (E.2 x0 0) x1))]) (st := []) dX11_same_59 lk_X11_243 gd_X0_take rfl rfl i13 ⟨_, rfl, rfl⟩ h hW hF (zb_aR i13 (zb_aR i16 (zb_aR i19 zb_a0))) (Nat.le_refl _) (Nat.le_of_ble_eq_true rfl) (fun r59 m59 hF h => ?_)
          show zb_WP _ _ _ _ [] _ _ _ _
          refine zb_aload_n (j := 0) dX11_same_62 rfl rfl ?_
          refine zb_gFo 6 dX11_same_63 fl_X11_57 i_0 hW hF rfl rfl rfl rfl (fun i20 => ?_)
          refine zb_cV (As := []) (As' := []) (st := []) dX11_same_66 lk_X11_246 gd_X0_findNames rfl rfl i20 ⟨_, rfl, rfl⟩ h hW hF (zb_aR i20 zb_a0) (Nat.le_refl _) (Nat.le_of_ble_eq_true rfl) (fun r66 m66 hF h => ?_)
          show zb_WP _ _ _ _ [(0, r66)] _ _ _ _
          refine zb_if_ne (tgt := 75) dX11_same_69 (by decide) (fun c21 => ?_) (fun c21 => ?_)
          · have h := h.2 c21
            refine zb_aload_n (j := 0) dX11_same_75 rfl rfl ?_
            refine zb_gFo 6 dX11_same_76 fl_X11_57 i_0 hW hF rfl rfl rfl rfl (fun i22 => ?_)
            refine zb_cVp (As := []) (As' := []) (st := []) dX11_same_79 lk_X11_249 gd_X0_isOneName rfl rfl i22 ⟨_, rfl, rfl⟩ h hW hF (zb_aR i22 zb_a0) (Nat.le_refl _) (Nat.le_of_ble_eq_true rfl) (fun r79 h => ?_)
            show zb_WP _ _ _ _ [(0, r79)] _ _ _ _
            refine zb_if_ne (tgt := 87) dX11_same_82 (by decide) (fun c23 => ?_) (fun c23 => ?_)
            · have h := h.2 c23
              refine zb_aload_n (j := 0) dX11_same_87 rfl rfl ?_
              refine zb_gFo 11 dX11_same_88 fl_X11_81 i_0 hW hF rfl rfl rfl rfl (fun i24 => ?_)
              refine zb_aload_n (j := 0) dX11_same_91 rfl rfl ?_
              refine zb_gFo 6 dX11_same_92 fl_X11_57 i_0 hW hF rfl rfl rfl rfl (fun i25 => ?_)
              refine zb_gFo 6 dX11_same_95 fl_X11_252 i25 hW hF rfl rfl rfl rfl (fun i26 => ?_)
              refine zb_aload_n (j := 0) dX11_same_98 rfl rfl ?_
              refine zb_gFo 6 dX11_same_99 fl_X11_57 i_0 hW hF rfl rfl rfl rfl (fun i27 => ?_)
              refine zb_gFo 7 dX11_same_102 fl_X11_255 i27 hW hF rfl rfl rfl rfl (fun i28 => ?_)
              refine zb_cV (As := [(2, (E.2 (E.2 x0 6) 6)), (2, (E.2 (E.2 x0 6) 7))]) (As' := [(2, (E.2 (E.2 x0 6) 7)), (2, (E.2 (E.2 x0 6) 6))]) (st := []) dX11_same_105 lk_X11_258 gd_X10_takeOrders rfl rfl i24 ⟨_, rfl, rfl⟩ h hW hF (zb_aR i24 (zb_aR i26 (zb_aR i28 zb_a0))) (Nat.le_refl _) (Nat.le_of_ble_eq_true rfl) (fun r105 m105 hF h => ?_)
              show zb_WP _ _ _ _ [] _ _ _ _
              refine zb_iconst dX11_same_108 (zb_inIc rfl) ?_
              exact zb_rI dX11_same_109 rfl hF h
            · have h := h.1 c23
              refine zb_iconst dX11_same_85 (zb_inIc rfl) ?_
              exact zb_rI dX11_same_86 rfl hF h
          · have h := h.1 c21
            refine zb_bipush dX11_same_72 (by decide) (zb_inIc rfl) ?_
            exact zb_rI dX11_same_74 rfl hF h
        · have h := h.1 c12
          refine zb_bipush dX11_same_40 (by decide) (zb_inIc rfl) ?_
          exact zb_rI dX11_same_42 rfl hF h
    · have h := h.1 c2
      refine zb_iconst dX11_same_14 (zb_inIc rfl) ?_
      exact zb_rI dX11_same_15 rfl hF h
theorem dX11_unlike_0 : decode cX11_unlike 0 = .ok (.iload_n 1, 1) := by decide +kernel
theorem dX11_unlike_1 : decode cX11_unlike 1 = .ok (.invokestatic 97, 3) := by decide +kernel
theorem dX11_unlike_4 : decode cX11_unlike 4 = .ok (.ifCond .eq 10, 3) := by decide +kernel
theorem dX11_unlike_7 : decode cX11_unlike 7 = .ok (.iload_n 2, 1) := by decide +kernel
theorem dX11_unlike_8 : decode cX11_unlike 8 = .ok (.invokestatic 97, 3) := by decide +kernel
theorem dX11_unlike_11 : decode cX11_unlike 11 = .ok (.ifCond .ne 5, 3) := by decide +kernel
theorem dX11_unlike_14 : decode cX11_unlike 14 = .ok (.iconst (-1), 1) := by decide +kernel
theorem dX11_unlike_15 : decode cX11_unlike 15 = .ok (.ireturn, 1) := by decide +kernel
theorem dX11_unlike_16 : decode cX11_unlike 16 = .ok (.aload_n 0, 1) := by decide +kernel
theorem dX11_unlike_17 : decode cX11_unlike 17 = .ok (.getfield 11, 3) := by decide +kernel
theorem dX11_unlike_20 : decode cX11_unlike 20 = .ok (.iload_n 1, 1) := by decide +kernel
theorem dX11_unlike_21 : decode cX11_unlike 21 = .ok (.aaload, 1) := by decide +kernel
theorem dX11_unlike_22 : decode cX11_unlike 22 = .ok (.invokevirtual 177, 3) := by decide +kernel
theorem dX11_unlike_25 : decode cX11_unlike 25 = .ok (.ifCond .eq 15, 3) := by decide +kernel
theorem dX11_unlike_28 : decode cX11_unlike 28 = .ok (.aload_n 0, 1) := by decide +kernel
theorem dX11_unlike_29 : decode cX11_unlike 29 = .ok (.getfield 11, 3) := by decide +kernel
theorem dX11_unlike_32 : decode cX11_unlike 32 = .ok (.iload_n 2, 1) := by decide +kernel
theorem dX11_unlike_33 : decode cX11_unlike 33 = .ok (.aaload, 1) := by decide +kernel
theorem dX11_unlike_34 : decode cX11_unlike 34 = .ok (.invokevirtual 177, 3) := by decide +kernel
theorem dX11_unlike_37 : decode cX11_unlike 37 = .ok (.ifCond .ne 6, 3) := by decide +kernel
theorem dX11_unlike_40 : decode cX11_unlike 40 = .ok (.bipush (-2), 2) := by decide +kernel
theorem dX11_unlike_42 : decode cX11_unlike 42 = .ok (.ireturn, 1) := by decide +kernel
theorem dX11_unlike_43 : decode cX11_unlike 43 = .ok (.aload_n 0, 1) := by decide +kernel
theorem dX11_unlike_44 : decode cX11_unlike 44 = .ok (.getfield 57, 3) := by decide +kernel
theorem dX11_unlike_47 : decode cX11_unlike 47 = .ok (.aload_n 0, 1) := by decide +kernel
theorem dX11_unlike_48 : decode cX11_unlike 48 = .ok (.getfield 11, 3) := by decide +kernel
theorem dX11_unlike_51 : decode cX11_unlike 51 = .ok (.iload_n 1, 1) := by decide +kernel
theorem dX11_unlike_52 : decode cX11_unlike 52 = .ok (.aaload, 1) := by decide +kernel
theorem dX11_unlike_53 : decode cX11_unlike 53 = .ok (.aload_n 0, 1) := by decide +kernel
theorem dX11_unlike_54 : decode cX11_unlike 54 = .ok (.getfield 11, 3) := by decide +kernel
theorem dX11_unlike_57 : decode cX11_unlike 57 = .ok (.iload_n 2, 1) := by decide +kernel
theorem dX11_unlike_58 : decode cX11_unlike 58 = .ok (.aaload, 1) := by decide +kernel
theorem dX11_unlike_59 : decode cX11_unlike 59 = .ok (.invokevirtual 243, 3) := by decide +kernel
theorem dX11_unlike_62 : decode cX11_unlike 62 = .ok (.aload_n 0, 1) := by decide +kernel
theorem dX11_unlike_63 : decode cX11_unlike 63 = .ok (.getfield 57, 3) := by decide +kernel
theorem dX11_unlike_66 : decode cX11_unlike 66 = .ok (.invokevirtual 262, 3) := by decide +kernel
theorem dX11_unlike_69 : decode cX11_unlike 69 = .ok (.ireturn, 1) := by decide +kernel
def PM_X11_unlike (d : Nat) (E : zb_E) (x0 : Int) (x1 : Int) (x2 : Int) (m : zb_M) (Q : Int → zb_M → Prop) : Prop :=
  zb_Tp K_X11_isGraph d [(0, x1)] E m (fun r1 => (r1 = 0 → Q (-1) m) ∧ (¬ r1 = 0 → zb_Tp K_X11_isGraph d [(0, x2)] E m (fun r8 => (r8 = 0 → Q (-1) m) ∧ (¬ r8 = 0 → (0 ≤ x1 ∧ x1 < 8) ∧ (zb_Tp K_X4_isRight d [(2, (E.2 (E.2 x0 0) x1))] E m (fun r22 => (r22 = 0 → Q (-2) m) ∧ (¬ r22 = 0 → (0 ≤ x2 ∧ x2 < 8) ∧ (zb_Tp K_X4_isRight d [(2, (E.2 (E.2 x0 0) x2))] E m (fun r34 => (r34 = 0 → Q (-2) m) ∧ (¬ r34 = 0 → zb_T K_X0_take d [(2, (E.2 x0 6)), (2, (E.2 (E.2 x0 0) x1)), (2, (E.2 (E.2 x0 0) x2))] E m (fun r59 m59 => zb_T K_X0_tellApart d [(2, (E.2 x0 6))] E m59 (fun r66 m66 => Q r66 m66))))))))))))
set_option maxRecDepth 100000 in
set_option maxHeartbeats 4000000 in
theorem w_X11_unlike {d : Nat} {E : zb_E} {x0 x1 x2 : Int} {m : zb_M} {Q : Int → zb_M → Prop} (h : PM_X11_unlike d E x0 x1 x2 m Q) : zb_T K_X11_unlike (d + 1) [(2, x0), (0, x1), (0, x2)] E m Q := by
  unfold PM_X11_unlike at h
  refine zb_T_in gd_X11_unlike rfl rfl (fun hW hA G C hF => ?_)
  have i_0 : zb_is E.1 x0 11 := zb_aH hA (by decide)
  show zb_WP _ _ 0 [(0, (2, x0)), (1, (0, x1)), (2, (0, x2))] [] _ _ _ _
  refine zb_iload_n (j := 1) dX11_unlike_0 rfl rfl ?_
  refine zb_cSp (As := [(0, x1)]) (As' := [(0, x1)]) (st := []) dX11_unlike_1 lk_X11_97 gd_X11_isGraph rfl rfl h hW hF (zb_aI zb_a0) (Nat.le_refl _) (Nat.le_of_ble_eq_true rfl) (fun r1 h => ?_)
  show zb_WP _ _ _ _ [(0, r1)] _ _ _ _
  refine zb_if_eq (tgt := 14) dX11_unlike_4 (by decide) (fun c1 => ?_) (fun c1 => ?_)
  · have h := h.1 c1
    refine zb_iconst dX11_unlike_14 (zb_inIc rfl) ?_
    exact zb_rI dX11_unlike_15 rfl hF h
  · have h := h.2 c1
    refine zb_iload_n (j := 2) dX11_unlike_7 rfl rfl ?_
    refine zb_cSp (As := [(0, x2)]) (As' := [(0, x2)]) (st := []) dX11_unlike_8 lk_X11_97 gd_X11_isGraph rfl rfl h hW hF (zb_aI zb_a0) (Nat.le_refl _) (Nat.le_of_ble_eq_true rfl) (fun r8 h => ?_)
    show zb_WP _ _ _ _ [(0, r8)] _ _ _ _
    refine zb_if_ne (tgt := 16) dX11_unlike_11 (by decide) (fun c2 => ?_) (fun c2 => ?_)
    · have h := h.2 c2
      refine zb_aload_n (j := 0) dX11_unlike_16 rfl rfl ?_
      refine zb_gFa 0 dX11_unlike_17 fl_X11_11 i_0 hW hF rfl rfl rfl (by decide) rfl 8 rfl (fun i3 l4 => ?_)
      refine zb_iload_n (j := 1) dX11_unlike_20 rfl rfl ?_
      obtain ⟨o5, h⟩ := h
      refine zb_lA 3 dX11_unlike_21 i3 (by decide) l4 hW hF o5.1 o5.2 (fun i6 => ?_)
      refine zb_cVp (As := []) (As' := []) (st := []) dX11_unlike_22 lk_X11_177 gd_X4_isRight rfl rfl i6 ⟨_, rfl, rfl⟩ h hW hF (zb_aR i6 zb_a0) (Nat.le_refl _) (Nat.le_of_ble_eq_true rfl) (fun r22 h => ?_)
      show zb_WP _ _ _ _ [(0, r22)] _ _ _ _
      refine zb_if_eq (tgt := 40) dX11_unlike_25 (by decide) (fun c7 => ?_) (fun c7 => ?_)
      · have h := h.1 c7
        refine zb_bipush dX11_unlike_40 (by decide) (zb_inIc rfl) ?_
        exact zb_rI dX11_unlike_42 rfl hF h
      · have h := h.2 c7
        refine zb_aload_n (j := 0) dX11_unlike_28 rfl rfl ?_
        refine zb_gFa 0 dX11_unlike_29 fl_X11_11 i_0 hW hF rfl rfl rfl (by decide) rfl 8 rfl (fun i8 l9 => ?_)
        refine zb_iload_n (j := 2) dX11_unlike_32 rfl rfl ?_
        obtain ⟨o10, h⟩ := h
        refine zb_lA 3 dX11_unlike_33 i8 (by decide) l9 hW hF o10.1 o10.2 (fun i11 => ?_)
        refine zb_cVp (As := []) (As' := []) (st := []) dX11_unlike_34 lk_X11_177 gd_X4_isRight rfl rfl i11 ⟨_, rfl, rfl⟩ h hW hF (zb_aR i11 zb_a0) (Nat.le_refl _) (Nat.le_of_ble_eq_true rfl) (fun r34 h => ?_)
        show zb_WP _ _ _ _ [(0, r34)] _ _ _ _
        refine zb_if_ne (tgt := 43) dX11_unlike_37 (by decide) (fun c12 => ?_) (fun c12 => ?_)
        · have h := h.2 c12
          refine zb_aload_n (j := 0) dX11_unlike_43 rfl rfl ?_
          refine zb_gFo 6 dX11_unlike_44 fl_X11_57 i_0 hW hF rfl rfl rfl rfl (fun i13 => ?_)
          refine zb_aload_n (j := 0) dX11_unlike_47 rfl rfl ?_
          refine zb_gFa 0 dX11_unlike_48 fl_X11_11 i_0 hW hF rfl rfl rfl (by decide) rfl 8 rfl (fun i14 l15 => ?_)
          refine zb_iload_n (j := 1) dX11_unlike_51 rfl rfl ?_
          refine zb_lA 3 dX11_unlike_52 i14 (by decide) l15 hW hF o5.1 o5.2 (fun i16 => ?_)
          refine zb_aload_n (j := 0) dX11_unlike_53 rfl rfl ?_
          refine zb_gFa 0 dX11_unlike_54 fl_X11_11 i_0 hW hF rfl rfl rfl (by decide) rfl 8 rfl (fun i17 l18 => ?_)
          refine zb_iload_n (j := 2) dX11_unlike_57 rfl rfl ?_
          refine zb_lA 3 dX11_unlike_58 i17 (by decide) l18 hW hF o10.1 o10.2 (fun i19 => ?_)
          refine zb_cV (As := [(2, (E.2 (E.2 x0 0) x1)), (2, (E.2 (E.2 x0 0) x2))]) (As' := [(2, (E.2 (E.2 x0 0) x2)), (2, (E.2 (E.2 x0 0) x1))]) (st := []) dX11_unlike_59 lk_X11_243 gd_X0_take rfl rfl i13 ⟨_, rfl, rfl⟩ h hW hF (zb_aR i13 (zb_aR i16 (zb_aR i19 zb_a0))) (Nat.le_refl _) (Nat.le_of_ble_eq_true rfl) (fun r59 m59 hF h => ?_)
          show zb_WP _ _ _ _ [] _ _ _ _
          refine zb_aload_n (j := 0) dX11_unlike_62 rfl rfl ?_
          refine zb_gFo 6 dX11_unlike_63 fl_X11_57 i_0 hW hF rfl rfl rfl rfl (fun i20 => ?_)
          refine zb_cV (As := []) (As' := []) (st := []) dX11_unlike_66 lk_X11_262 gd_X0_tellApart rfl rfl i20 ⟨_, rfl, rfl⟩ h hW hF (zb_aR i20 zb_a0) (Nat.le_refl _) (Nat.le_of_ble_eq_true rfl) (fun r66 m66 hF h => ?_)
          show zb_WP _ _ _ _ [(0, r66)] _ _ _ _
          exact zb_rI dX11_unlike_69 rfl hF h
        · have h := h.1 c12
          refine zb_bipush dX11_unlike_40 (by decide) (zb_inIc rfl) ?_
          exact zb_rI dX11_unlike_42 rfl hF h
    · have h := h.1 c2
      refine zb_iconst dX11_unlike_14 (zb_inIc rfl) ?_
      exact zb_rI dX11_unlike_15 rfl hF h
theorem dX11_why_0 : decode cX11_why 0 = .ok (.aload_n 0, 1) := by decide +kernel
theorem dX11_why_1 : decode cX11_why 1 = .ok (.getfield 57, 3) := by decide +kernel
theorem dX11_why_4 : decode cX11_why 4 = .ok (.getfield 265, 3) := by decide +kernel
theorem dX11_why_7 : decode cX11_why 7 = .ok (.ifCond .eq 18, 3) := by decide +kernel
theorem dX11_why_10 : decode cX11_why 10 = .ok (.iload_n 1, 1) := by decide +kernel
theorem dX11_why_11 : decode cX11_why 11 = .ok (.aload_n 0, 1) := by decide +kernel
theorem dX11_why_12 : decode cX11_why 12 = .ok (.getfield 57, 3) := by decide +kernel
theorem dX11_why_15 : decode cX11_why 15 = .ok (.getfield 268, 3) := by decide +kernel
theorem dX11_why_18 : decode cX11_why 18 = .ok (.arraylength, 1) := by decide +kernel
theorem dX11_why_19 : decode cX11_why 19 = .ok (.invokestatic 101, 3) := by decide +kernel
theorem dX11_why_22 : decode cX11_why 22 = .ok (.ifCond .ne 5, 3) := by decide +kernel
theorem dX11_why_25 : decode cX11_why 25 = .ok (.iconst (-1), 1) := by decide +kernel
theorem dX11_why_26 : decode cX11_why 26 = .ok (.ireturn, 1) := by decide +kernel
theorem dX11_why_27 : decode cX11_why 27 = .ok (.aload_n 0, 1) := by decide +kernel
theorem dX11_why_28 : decode cX11_why 28 = .ok (.getfield 57, 3) := by decide +kernel
theorem dX11_why_31 : decode cX11_why 31 = .ok (.getfield 268, 3) := by decide +kernel
theorem dX11_why_34 : decode cX11_why 34 = .ok (.iload_n 1, 1) := by decide +kernel
theorem dX11_why_35 : decode cX11_why 35 = .ok (.iaload, 1) := by decide +kernel
theorem dX11_why_36 : decode cX11_why 36 = .ok (.ireturn, 1) := by decide +kernel
def PM_X11_why (d : Nat) (E : zb_E) (x0 : Int) (x1 : Int) (m : zb_M) (Q : Int → Prop) : Prop :=
  ((m (E.2 x0 6) 9) = 0 → Q (-1)) ∧ (¬ (m (E.2 x0 6) 9) = 0 → zb_Tp K_X11_isBelow d [(0, x1), (0, 3)] E m (fun r19 => (r19 = 0 → Q (-1)) ∧ (¬ r19 = 0 → (0 ≤ x1 ∧ x1 < 3) ∧ (Q (m (E.2 (E.2 x0 6) 8) x1)))))
set_option maxRecDepth 100000 in
set_option maxHeartbeats 4000000 in
theorem w_X11_why {d : Nat} {E : zb_E} {x0 x1 : Int} {m : zb_M} {Q : Int → Prop} (h : PM_X11_why d E x0 x1 m Q) : zb_Tp K_X11_why (d + 1) [(2, x0), (0, x1)] E m Q := by
  unfold PM_X11_why at h
  refine zb_T_in gd_X11_why rfl rfl (fun hW hA G C hF => ?_)
  have i_0 : zb_is E.1 x0 11 := zb_aH hA (by decide)
  show zb_WP _ _ 0 [(0, (2, x0)), (1, (0, x1))] [] _ _ _ _
  refine zb_aload_n (j := 0) dX11_why_0 rfl rfl ?_
  refine zb_gFo 6 dX11_why_1 fl_X11_57 i_0 hW hF rfl rfl rfl rfl (fun i1 => ?_)
  refine zb_gI 9 dX11_why_4 fl_X11_265 i1 rfl rfl ?_
  refine zb_if_eq (tgt := 25) dX11_why_7 (by decide) (fun c2 => ?_) (fun c2 => ?_)
  · have h := h.1 c2
    refine zb_iconst dX11_why_25 (zb_inIc rfl) ?_
    exact zb_rI dX11_why_26 rfl hF ⟨rfl, h⟩
  · have h := h.2 c2
    refine zb_iload_n (j := 1) dX11_why_10 rfl rfl ?_
    refine zb_aload_n (j := 0) dX11_why_11 rfl rfl ?_
    refine zb_gFo 6 dX11_why_12 fl_X11_57 i_0 hW hF rfl rfl rfl rfl (fun i3 => ?_)
    refine zb_gFa 8 dX11_why_15 fl_X11_268 i3 hW hF rfl rfl rfl (by decide) rfl 3 rfl (fun i4 l5 => ?_)
    refine zb_aL (t := 0) dX11_why_18 i4 (by decide) l5 (zb_inIc rfl) ?_
    refine zb_cSp (As := [(0, x1), (0, 3)]) (As' := [(0, 3), (0, x1)]) (st := []) dX11_why_19 lk_X11_101 gd_X11_isBelow rfl rfl h hW hF (zb_aI (zb_aI zb_a0)) (Nat.le_refl _) (Nat.le_of_ble_eq_true rfl) (fun r19 h => ?_)
    show zb_WP _ _ _ _ [(0, r19)] _ _ _ _
    refine zb_if_ne (tgt := 27) dX11_why_22 (by decide) (fun c6 => ?_) (fun c6 => ?_)
    · have h := h.2 c6
      refine zb_aload_n (j := 0) dX11_why_27 rfl rfl ?_
      refine zb_gFo 6 dX11_why_28 fl_X11_57 i_0 hW hF rfl rfl rfl rfl (fun i7 => ?_)
      refine zb_gFa 8 dX11_why_31 fl_X11_268 i7 hW hF rfl rfl rfl (by decide) rfl 3 rfl (fun i8 l9 => ?_)
      refine zb_iload_n (j := 1) dX11_why_34 rfl rfl ?_
      obtain ⟨o10, h⟩ := h
      refine zb_lI dX11_why_35 i8 l9 o10.1 o10.2 ?_
      exact zb_rI dX11_why_36 rfl hF ⟨rfl, h⟩
    · have h := h.1 c6
      refine zb_iconst dX11_why_25 (zb_inIc rfl) ?_
      exact zb_rI dX11_why_26 rfl hF ⟨rfl, h⟩
theorem dX11_turnings_0 : decode cX11_turnings 0 = .ok (.aload_n 0, 1) := by decide +kernel
theorem dX11_turnings_1 : decode cX11_turnings 1 = .ok (.iload_n 1, 1) := by decide +kernel
theorem dX11_turnings_2 : decode cX11_turnings 2 = .ok (.invokevirtual 271, 3) := by decide +kernel
theorem dX11_turnings_5 : decode cX11_turnings 5 = .ok (.istore_n 2, 1) := by decide +kernel
theorem dX11_turnings_6 : decode cX11_turnings 6 = .ok (.iload_n 2, 1) := by decide +kernel
theorem dX11_turnings_7 : decode cX11_turnings 7 = .ok (.ifCond .eq 6, 3) := by decide +kernel
theorem dX11_turnings_10 : decode cX11_turnings 10 = .ok (.iload_n 2, 1) := by decide +kernel
theorem dX11_turnings_11 : decode cX11_turnings 11 = .ok (.i2l, 1) := by decide +kernel
theorem dX11_turnings_12 : decode cX11_turnings 12 = .ok (.lreturn, 1) := by decide +kernel
theorem dX11_turnings_13 : decode cX11_turnings 13 = .ok (.aload_n 0, 1) := by decide +kernel
theorem dX11_turnings_14 : decode cX11_turnings 14 = .ok (.getfield 48, 3) := by decide +kernel
theorem dX11_turnings_17 : decode cX11_turnings 17 = .ok (.aload_n 0, 1) := by decide +kernel
theorem dX11_turnings_18 : decode cX11_turnings 18 = .ok (.getfield 25, 3) := by decide +kernel
theorem dX11_turnings_21 : decode cX11_turnings 21 = .ok (.invokevirtual 274, 3) := by decide +kernel
theorem dX11_turnings_24 : decode cX11_turnings 24 = .ok (.lconst 1, 1) := by decide +kernel
theorem dX11_turnings_25 : decode cX11_turnings 25 = .ok (.lstore_n 3, 1) := by decide +kernel
theorem dX11_turnings_26 : decode cX11_turnings 26 = .ok (.iconst 0, 1) := by decide +kernel
theorem dX11_turnings_27 : decode cX11_turnings 27 = .ok (.istore 5, 2) := by decide +kernel
theorem dX11_turnings_29 : decode cX11_turnings 29 = .ok (.iload 5, 2) := by decide +kernel
theorem dX11_turnings_31 : decode cX11_turnings 31 = .ok (.aload_n 0, 1) := by decide +kernel
theorem dX11_turnings_32 : decode cX11_turnings 32 = .ok (.getfield 25, 3) := by decide +kernel
theorem dX11_turnings_35 : decode cX11_turnings 35 = .ok (.getfield 278, 3) := by decide +kernel
theorem dX11_turnings_38 : decode cX11_turnings 38 = .ok (.if_icmp .ge 23, 3) := by decide +kernel
theorem dX11_turnings_41 : decode cX11_turnings 41 = .ok (.lload_n 3, 1) := by decide +kernel
theorem dX11_turnings_42 : decode cX11_turnings 42 = .ok (.aload_n 0, 1) := by decide +kernel
theorem dX11_turnings_43 : decode cX11_turnings 43 = .ok (.getfield 48, 3) := by decide +kernel
theorem dX11_turnings_46 : decode cX11_turnings 46 = .ok (.getfield 279, 3) := by decide +kernel
theorem dX11_turnings_49 : decode cX11_turnings 49 = .ok (.iload 5, 2) := by decide +kernel
theorem dX11_turnings_51 : decode cX11_turnings 51 = .ok (.iaload, 1) := by decide +kernel
theorem dX11_turnings_52 : decode cX11_turnings 52 = .ok (.i2l, 1) := by decide +kernel
theorem dX11_turnings_53 : decode cX11_turnings 53 = .ok (.lmul, 1) := by decide +kernel
theorem dX11_turnings_54 : decode cX11_turnings 54 = .ok (.lstore_n 3, 1) := by decide +kernel
theorem dX11_turnings_55 : decode cX11_turnings 55 = .ok (.iinc 5 1, 3) := by decide +kernel
theorem dX11_turnings_58 : decode cX11_turnings 58 = .ok (.goto (-29), 3) := by decide +kernel
theorem dX11_turnings_61 : decode cX11_turnings 61 = .ok (.lload_n 3, 1) := by decide +kernel
theorem dX11_turnings_62 : decode cX11_turnings 62 = .ok (.lreturn, 1) := by decide +kernel
def PL_X11_turnings_29 (d : Nat) (E : zb_E) (x0 : Int) (m21 : zb_M) (Q : Int → zb_M → Prop)  (v3_29 : Int) (v5_29 : Int) : Prop :=
  ∀ X29 : Int → Int → Prop, (∀ (v3_29 : Int) (v5_29 : Int), (((m21 (E.2 x0 2) 0) ≤ v5_29 → Q v3_29 m21) ∧ (¬ (m21 (E.2 x0 2) 0) ≤ v5_29 → (0 ≤ v5_29 ∧ v5_29 < 12) ∧ ((zb_inL (v3_29 * (m21 (E.2 (E.2 x0 5) 8) v5_29))) ∧ ((zb_inI (v5_29 + 1)) ∧ (X29 (v3_29 * (m21 (E.2 (E.2 x0 5) 8) v5_29)) (v5_29 + 1)))))) → X29 v3_29 v5_29) → X29 v3_29 v5_29
def PM_X11_turnings (d : Nat) (E : zb_E) (x0 : Int) (x1 : Int) (m : zb_M) (Q : Int → zb_M → Prop) : Prop :=
  zb_T K_X11_refusalOfTurnings d [(2, x0), (0, x1)] E m (fun r2 m2 => (r2 = 0 → zb_T K_X9_findMakers d [(2, (E.2 x0 5)), (2, (E.2 x0 2))] E m2 (fun r21 m21 => PL_X11_turnings_29 d E x0 m21 Q 1 0)) ∧ (¬ r2 = 0 → Q r2 m2))
set_option maxRecDepth 100000 in
set_option maxHeartbeats 4000000 in
theorem w_X11_turnings {d : Nat} {E : zb_E} {x0 x1 : Int} {m : zb_M} {Q : Int → zb_M → Prop} (h : PM_X11_turnings d E x0 x1 m Q) : zb_T K_X11_turnings (d + 1) [(2, x0), (0, x1)] E m Q := by
  unfold PM_X11_turnings at h
  refine zb_T_in gd_X11_turnings rfl rfl (fun hW hA G C hF => ?_)
  have i_0 : zb_is E.1 x0 11 := zb_aH hA (by decide)
  show zb_WP _ _ 0 [(0, (2, x0)), (1, (0, x1))] [] _ _ _ _
  refine zb_aload_n (j := 0) dX11_turnings_0 rfl rfl ?_
  refine zb_iload_n (j := 1) dX11_turnings_1 rfl rfl ?_
  refine zb_cV (As := [(0, x1)]) (As' := [(0, x1)]) (st := []) dX11_turnings_2 lk_X11_271 gd_X11_refusalOfTurnings rfl rfl i_0 ⟨_, rfl, rfl⟩ h hW hF (zb_aR i_0 (zb_aI zb_a0)) (Nat.le_refl _) (Nat.le_of_ble_eq_true rfl) (fun r2 m2 hF h => ?_)
  show zb_WP _ _ _ _ [(0, r2)] _ _ _ _
  refine zb_istore_n (L' := [(2, (0, r2)), (0, (2, x0)), (1, (0, x1))]) dX11_turnings_5 rfl (by decide) rfl ?_
  refine zb_iload_n (j := 0) dX11_turnings_6 rfl rfl ?_
  refine zb_if_eq (tgt := 13) dX11_turnings_7 (by decide) (fun c1 => ?_) (fun c1 => ?_)
  · have h := h.1 c1
    refine zb_aload_n (j := 1) dX11_turnings_13 rfl rfl ?_
    refine zb_gFo 5 dX11_turnings_14 fl_X11_48 i_0 hW hF rfl rfl rfl rfl (fun i2 => ?_)
    refine zb_aload_n (j := 1) dX11_turnings_17 rfl rfl ?_
    refine zb_gFo 2 dX11_turnings_18 fl_X11_25 i_0 hW hF rfl rfl rfl rfl (fun i3 => ?_)
    refine zb_cV (As := [(2, (E.2 x0 2))]) (As' := [(2, (E.2 x0 2))]) (st := []) dX11_turnings_21 lk_X11_274 gd_X9_findMakers rfl rfl i2 ⟨_, rfl, rfl⟩ h hW hF (zb_aR i2 (zb_aR i3 zb_a0)) (Nat.le_refl _) (Nat.le_of_ble_eq_true rfl) (fun r21 m21 hF h => ?_)
    show zb_WP _ _ _ _ [] _ _ _ _
    refine zb_lconst dX11_turnings_24 rfl ?_
    refine zb_lstore_n (L' := [(3, (1, 1)), (2, (0, r2)), (0, (2, x0)), (1, (0, x1))]) dX11_turnings_25 rfl (by decide) rfl ?_
    refine zb_iconst dX11_turnings_26 (zb_inIc rfl) ?_
    refine zb_istore (L' := [(5, (0, 0)), (3, (1, 1)), (2, (0, r2)), (0, (2, x0)), (1, (0, x1))]) dX11_turnings_27 (by decide) rfl ?_
    refine zb_sub (L' := [(0, (2, x0)), (3, (1, 1)), (5, (0, 0))]) [3, 1, 0] rfl ?_
    unfold PL_X11_turnings_29 at h
    obtain ⟨X29, hX29⟩ : ∃ X : Int → Int → Prop, ∀ (v3_29 : Int) (v5_29 : Int), (X v3_29 v5_29 ↔ (zb_FIN E m21 → zb_WP (G, C, d + 1, 0, 0, zb_q E Q) F_X11_turnings 29 [(0, (2, x0)), (3, (1, v3_29)), (5, (0, v5_29))] [] E.1 m21 0 0)) := ⟨fun v3_29 v5_29 => zb_FIN E m21 → zb_WP (G, C, d + 1, 0, 0, zb_q E Q) F_X11_turnings 29 [(0, (2, x0)), (3, (1, v3_29)), (5, (0, v5_29))] [] E.1 m21 0 0, fun _ _ => Iff.rfl⟩
    refine (hX29 _ _).mp (h X29 (fun v3_29 v5_29 h => (hX29 _ _).mpr (fun hF => ?_))) hF
    refine zb_iload (j := 2) dX11_turnings_29 rfl ?_
    refine zb_aload_n (j := 0) dX11_turnings_31 rfl rfl ?_
    refine zb_gFo 2 dX11_turnings_32 fl_X11_25 i_0 hW hF rfl rfl rfl rfl (fun i4 => ?_)
    refine zb_gI 0 dX11_turnings_35 fl_X11_278 i4 rfl rfl ?_
    refine zb_icmp_ge (tgt := 61) dX11_turnings_38 (by decide) (fun c5 => ?_) (fun c5 => ?_)
    · have h := h.1 c5
      refine zb_lload_n (j := 1) dX11_turnings_61 rfl rfl ?_
      exact zb_rL dX11_turnings_62 rfl hF h
    · have h := h.2 c5
      refine zb_lload_n (j := 1) dX11_turnings_41 rfl rfl ?_
      refine zb_aload_n (j := 0) dX11_turnings_42 rfl rfl ?_
      refine zb_gFo 5 dX11_turnings_43 fl_X11_48 i_0 hW hF rfl rfl rfl rfl (fun i6 => ?_)
      refine zb_gFa 8 dX11_turnings_46 fl_X11_279 i6 hW hF rfl rfl rfl (by decide) rfl 12 rfl (fun i7 l8 => ?_)
      refine zb_iload (j := 2) dX11_turnings_49 rfl ?_
      obtain ⟨o9, h⟩ := h
      refine zb_lI dX11_turnings_51 i7 l8 o9.1 o9.2 ?_
      refine zb_i2l dX11_turnings_52 ?_
      obtain ⟨o10, h⟩ := h
      refine zb_lmul dX11_turnings_53 o10 ?_
      refine zb_lstore_n (L' := [(3, (1, (v3_29 * (m21 (E.2 (E.2 x0 5) 8) v5_29)))), (0, (2, x0)), (5, (0, v5_29))]) dX11_turnings_54 rfl (by decide) rfl ?_
      obtain ⟨o11, h⟩ := h
      refine zb_iinc (j := 2) (L' := [(5, (0, (v5_29 + 1))), (3, (1, (v3_29 * (m21 (E.2 (E.2 x0 5) 8) v5_29)))), (0, (2, x0))]) dX11_turnings_55 rfl o11 (by decide) rfl ?_
      refine zb_goto (tgt := 29) dX11_turnings_58 (by decide) ?_
      refine zb_sub (L' := [(0, (2, x0)), (3, (1, (v3_29 * (m21 (E.2 (E.2 x0 5) 8) v5_29)))), (5, (0, (v5_29 + 1)))]) [2, 1, 0] rfl ?_
      exact (hX29 _ _).mp h hF
  · have h := h.2 c1
    refine zb_iload_n (j := 0) dX11_turnings_10 rfl rfl ?_
    refine zb_i2l dX11_turnings_11 ?_
    exact zb_rL dX11_turnings_12 rfl hF h
theorem dX11_chain_0 : decode cX11_chain 0 = .ok (.aload_n 0, 1) := by decide +kernel
theorem dX11_chain_1 : decode cX11_chain 1 = .ok (.iload_n 1, 1) := by decide +kernel
theorem dX11_chain_2 : decode cX11_chain 2 = .ok (.invokevirtual 271, 3) := by decide +kernel
theorem dX11_chain_5 : decode cX11_chain 5 = .ok (.istore_n 3, 1) := by decide +kernel
theorem dX11_chain_6 : decode cX11_chain 6 = .ok (.iload_n 3, 1) := by decide +kernel
theorem dX11_chain_7 : decode cX11_chain 7 = .ok (.ifCond .eq 5, 3) := by decide +kernel
theorem dX11_chain_10 : decode cX11_chain 10 = .ok (.iload_n 3, 1) := by decide +kernel
theorem dX11_chain_11 : decode cX11_chain 11 = .ok (.ireturn, 1) := by decide +kernel
theorem dX11_chain_12 : decode cX11_chain 12 = .ok (.iload_n 2, 1) := by decide +kernel
theorem dX11_chain_13 : decode cX11_chain 13 = .ok (.aload_n 0, 1) := by decide +kernel
theorem dX11_chain_14 : decode cX11_chain 14 = .ok (.getfield 25, 3) := by decide +kernel
theorem dX11_chain_17 : decode cX11_chain 17 = .ok (.getfield 278, 3) := by decide +kernel
theorem dX11_chain_20 : decode cX11_chain 20 = .ok (.invokestatic 101, 3) := by decide +kernel
theorem dX11_chain_23 : decode cX11_chain 23 = .ok (.ifCond .ne 5, 3) := by decide +kernel
theorem dX11_chain_26 : decode cX11_chain 26 = .ok (.iconst (-1), 1) := by decide +kernel
theorem dX11_chain_27 : decode cX11_chain 27 = .ok (.ireturn, 1) := by decide +kernel
theorem dX11_chain_28 : decode cX11_chain 28 = .ok (.aload_n 0, 1) := by decide +kernel
theorem dX11_chain_29 : decode cX11_chain 29 = .ok (.getfield 48, 3) := by decide +kernel
theorem dX11_chain_32 : decode cX11_chain 32 = .ok (.aload_n 0, 1) := by decide +kernel
theorem dX11_chain_33 : decode cX11_chain 33 = .ok (.getfield 25, 3) := by decide +kernel
theorem dX11_chain_36 : decode cX11_chain 36 = .ok (.invokevirtual 274, 3) := by decide +kernel
theorem dX11_chain_39 : decode cX11_chain 39 = .ok (.aload_n 0, 1) := by decide +kernel
theorem dX11_chain_40 : decode cX11_chain 40 = .ok (.getfield 48, 3) := by decide +kernel
theorem dX11_chain_43 : decode cX11_chain 43 = .ok (.getfield 279, 3) := by decide +kernel
theorem dX11_chain_46 : decode cX11_chain 46 = .ok (.iload_n 2, 1) := by decide +kernel
theorem dX11_chain_47 : decode cX11_chain 47 = .ok (.iaload, 1) := by decide +kernel
theorem dX11_chain_48 : decode cX11_chain 48 = .ok (.ireturn, 1) := by decide +kernel
def PM_X11_chain (d : Nat) (E : zb_E) (x0 : Int) (x1 : Int) (x2 : Int) (m : zb_M) (Q : Int → zb_M → Prop) : Prop :=
  zb_T K_X11_refusalOfTurnings d [(2, x0), (0, x1)] E m (fun r2 m2 => (r2 = 0 → zb_Tp K_X11_isBelow d [(0, x2), (0, (m2 (E.2 x0 2) 0))] E m2 (fun r20 => (r20 = 0 → Q (-1) m2) ∧ (¬ r20 = 0 → zb_T K_X9_findMakers d [(2, (E.2 x0 5)), (2, (E.2 x0 2))] E m2 (fun r36 m36 => (0 ≤ x2 ∧ x2 < 12) ∧ (Q (m36 (E.2 (E.2 x0 5) 8) x2) m36))))) ∧ (¬ r2 = 0 → Q r2 m2))
set_option maxRecDepth 100000 in
set_option maxHeartbeats 4000000 in
theorem w_X11_chain {d : Nat} {E : zb_E} {x0 x1 x2 : Int} {m : zb_M} {Q : Int → zb_M → Prop} (h : PM_X11_chain d E x0 x1 x2 m Q) : zb_T K_X11_chain (d + 1) [(2, x0), (0, x1), (0, x2)] E m Q := by
  unfold PM_X11_chain at h
  refine zb_T_in gd_X11_chain rfl rfl (fun hW hA G C hF => ?_)
  have i_0 : zb_is E.1 x0 11 := zb_aH hA (by decide)
  show zb_WP _ _ 0 [(0, (2, x0)), (1, (0, x1)), (2, (0, x2))] [] _ _ _ _
  refine zb_aload_n (j := 0) dX11_chain_0 rfl rfl ?_
  refine zb_iload_n (j := 1) dX11_chain_1 rfl rfl ?_
  refine zb_cV (As := [(0, x1)]) (As' := [(0, x1)]) (st := []) dX11_chain_2 lk_X11_271 gd_X11_refusalOfTurnings rfl rfl i_0 ⟨_, rfl, rfl⟩ h hW hF (zb_aR i_0 (zb_aI zb_a0)) (Nat.le_refl _) (Nat.le_of_ble_eq_true rfl) (fun r2 m2 hF h => ?_)
  show zb_WP _ _ _ _ [(0, r2)] _ _ _ _
  refine zb_istore_n (L' := [(3, (0, r2)), (0, (2, x0)), (1, (0, x1)), (2, (0, x2))]) dX11_chain_5 rfl (by decide) rfl ?_
  refine zb_iload_n (j := 0) dX11_chain_6 rfl rfl ?_
  refine zb_if_eq (tgt := 12) dX11_chain_7 (by decide) (fun c1 => ?_) (fun c1 => ?_)
  · have h := h.1 c1
    refine zb_iload_n (j := 3) dX11_chain_12 rfl rfl ?_
    refine zb_aload_n (j := 1) dX11_chain_13 rfl rfl ?_
    refine zb_gFo 2 dX11_chain_14 fl_X11_25 i_0 hW hF rfl rfl rfl rfl (fun i2 => ?_)
    refine zb_gI 0 dX11_chain_17 fl_X11_278 i2 rfl rfl ?_
    refine zb_cSp (As := [(0, x2), (0, (m2 (E.2 x0 2) 0))]) (As' := [(0, (m2 (E.2 x0 2) 0)), (0, x2)]) (st := []) dX11_chain_20 lk_X11_101 gd_X11_isBelow rfl rfl h hW hF (zb_aI (zb_aI zb_a0)) (Nat.le_refl _) (Nat.le_of_ble_eq_true rfl) (fun r20 h => ?_)
    show zb_WP _ _ _ _ [(0, r20)] _ _ _ _
    refine zb_if_ne (tgt := 28) dX11_chain_23 (by decide) (fun c3 => ?_) (fun c3 => ?_)
    · have h := h.2 c3
      refine zb_aload_n (j := 1) dX11_chain_28 rfl rfl ?_
      refine zb_gFo 5 dX11_chain_29 fl_X11_48 i_0 hW hF rfl rfl rfl rfl (fun i4 => ?_)
      refine zb_aload_n (j := 1) dX11_chain_32 rfl rfl ?_
      refine zb_gFo 2 dX11_chain_33 fl_X11_25 i_0 hW hF rfl rfl rfl rfl (fun i5 => ?_)
      refine zb_cV (As := [(2, (E.2 x0 2))]) (As' := [(2, (E.2 x0 2))]) (st := []) dX11_chain_36 lk_X11_274 gd_X9_findMakers rfl rfl i4 ⟨_, rfl, rfl⟩ h hW hF (zb_aR i4 (zb_aR i5 zb_a0)) (Nat.le_refl _) (Nat.le_of_ble_eq_true rfl) (fun r36 m36 hF h => ?_)
      show zb_WP _ _ _ _ [] _ _ _ _
      refine zb_aload_n (j := 1) dX11_chain_39 rfl rfl ?_
      refine zb_gFo 5 dX11_chain_40 fl_X11_48 i_0 hW hF rfl rfl rfl rfl (fun i6 => ?_)
      refine zb_gFa 8 dX11_chain_43 fl_X11_279 i6 hW hF rfl rfl rfl (by decide) rfl 12 rfl (fun i7 l8 => ?_)
      refine zb_iload_n (j := 3) dX11_chain_46 rfl rfl ?_
      obtain ⟨o9, h⟩ := h
      refine zb_lI dX11_chain_47 i7 l8 o9.1 o9.2 ?_
      exact zb_rI dX11_chain_48 rfl hF h
    · have h := h.1 c3
      refine zb_iconst dX11_chain_26 (zb_inIc rfl) ?_
      exact zb_rI dX11_chain_27 rfl hF h
  · have h := h.2 c1
    refine zb_iload_n (j := 0) dX11_chain_10 rfl rfl ?_
    exact zb_rI dX11_chain_11 rfl hF h
theorem dX11_where_0 : decode cX11_where 0 = .ok (.aload_n 0, 1) := by decide +kernel
theorem dX11_where_1 : decode cX11_where 1 = .ok (.iload_n 1, 1) := by decide +kernel
theorem dX11_where_2 : decode cX11_where 2 = .ok (.invokevirtual 271, 3) := by decide +kernel
theorem dX11_where_5 : decode cX11_where 5 = .ok (.istore 4, 2) := by decide +kernel
theorem dX11_where_7 : decode cX11_where 7 = .ok (.iload 4, 2) := by decide +kernel
theorem dX11_where_9 : decode cX11_where 9 = .ok (.ifCond .eq 6, 3) := by decide +kernel
theorem dX11_where_12 : decode cX11_where 12 = .ok (.iload 4, 2) := by decide +kernel
theorem dX11_where_14 : decode cX11_where 14 = .ok (.ireturn, 1) := by decide +kernel
theorem dX11_where_15 : decode cX11_where 15 = .ok (.aload_n 0, 1) := by decide +kernel
theorem dX11_where_16 : decode cX11_where 16 = .ok (.getfield 25, 3) := by decide +kernel
theorem dX11_where_19 : decode cX11_where 19 = .ok (.iload_n 2, 1) := by decide +kernel
theorem dX11_where_20 : decode cX11_where 20 = .ok (.invokevirtual 208, 3) := by decide +kernel
theorem dX11_where_23 : decode cX11_where 23 = .ok (.istore 5, 2) := by decide +kernel
theorem dX11_where_25 : decode cX11_where 25 = .ok (.aload_n 0, 1) := by decide +kernel
theorem dX11_where_26 : decode cX11_where 26 = .ok (.getfield 25, 3) := by decide +kernel
theorem dX11_where_29 : decode cX11_where 29 = .ok (.iload_n 3, 1) := by decide +kernel
theorem dX11_where_30 : decode cX11_where 30 = .ok (.invokevirtual 208, 3) := by decide +kernel
theorem dX11_where_33 : decode cX11_where 33 = .ok (.istore 6, 2) := by decide +kernel
theorem dX11_where_35 : decode cX11_where 35 = .ok (.iload 5, 2) := by decide +kernel
theorem dX11_where_37 : decode cX11_where 37 = .ok (.ifCond .lt 8, 3) := by decide +kernel
theorem dX11_where_40 : decode cX11_where 40 = .ok (.iload 6, 2) := by decide +kernel
theorem dX11_where_42 : decode cX11_where 42 = .ok (.ifCond .ge 5, 3) := by decide +kernel
theorem dX11_where_45 : decode cX11_where 45 = .ok (.iconst (-1), 1) := by decide +kernel
theorem dX11_where_46 : decode cX11_where 46 = .ok (.ireturn, 1) := by decide +kernel
theorem dX11_where_47 : decode cX11_where 47 = .ok (.aload_n 0, 1) := by decide +kernel
theorem dX11_where_48 : decode cX11_where 48 = .ok (.getfield 48, 3) := by decide +kernel
theorem dX11_where_51 : decode cX11_where 51 = .ok (.aload_n 0, 1) := by decide +kernel
theorem dX11_where_52 : decode cX11_where 52 = .ok (.getfield 25, 3) := by decide +kernel
theorem dX11_where_55 : decode cX11_where 55 = .ok (.iload 5, 2) := by decide +kernel
theorem dX11_where_57 : decode cX11_where 57 = .ok (.iload 6, 2) := by decide +kernel
theorem dX11_where_59 : decode cX11_where 59 = .ok (.invokevirtual 282, 3) := by decide +kernel
theorem dX11_where_62 : decode cX11_where 62 = .ok (.ifCond .ne 5, 3) := by decide +kernel
theorem dX11_where_65 : decode cX11_where 65 = .ok (.iconst 0, 1) := by decide +kernel
theorem dX11_where_66 : decode cX11_where 66 = .ok (.ireturn, 1) := by decide +kernel
theorem dX11_where_67 : decode cX11_where 67 = .ok (.aload_n 0, 1) := by decide +kernel
theorem dX11_where_68 : decode cX11_where 68 = .ok (.getfield 81, 3) := by decide +kernel
theorem dX11_where_71 : decode cX11_where 71 = .ok (.aload_n 0, 1) := by decide +kernel
theorem dX11_where_72 : decode cX11_where 72 = .ok (.getfield 25, 3) := by decide +kernel
theorem dX11_where_75 : decode cX11_where 75 = .ok (.aload_n 0, 1) := by decide +kernel
theorem dX11_where_76 : decode cX11_where 76 = .ok (.getfield 48, 3) := by decide +kernel
theorem dX11_where_79 : decode cX11_where 79 = .ok (.getfield 286, 3) := by decide +kernel
theorem dX11_where_82 : decode cX11_where 82 = .ok (.iconst 0, 1) := by decide +kernel
theorem dX11_where_83 : decode cX11_where 83 = .ok (.invokevirtual 289, 3) := by decide +kernel
theorem dX11_where_86 : decode cX11_where 86 = .ok (.iconst 1, 1) := by decide +kernel
theorem dX11_where_87 : decode cX11_where 87 = .ok (.ireturn, 1) := by decide +kernel
def PM_X11_where (d : Nat) (E : zb_E) (x0 : Int) (x1 : Int) (x2 : Int) (x3 : Int) (m : zb_M) (Q : Int → zb_M → Prop) : Prop :=
  zb_T K_X11_refusalOfTurnings d [(2, x0), (0, x1)] E m (fun r2 m2 => (r2 = 0 → zb_Tp K_X6_indexOf d [(2, (E.2 x0 2)), (0, x2)] E m2 (fun r20 => zb_Tp K_X6_indexOf d [(2, (E.2 x0 2)), (0, x3)] E m2 (fun r30 => (r20 < 0 → Q (-1) m2) ∧ (¬ r20 < 0 → (0 ≤ r30 → zb_T K_X9_findLeast d [(2, (E.2 x0 5)), (2, (E.2 x0 2)), (0, r20), (0, r30)] E m2 (fun r59 m59 => (r59 = 0 → Q 0 m59) ∧ (¬ r59 = 0 → zb_T K_X10_take d [(2, (E.2 x0 11)), (2, (E.2 x0 2)), (2, (E.2 (E.2 x0 5) 4)), (0, 0)] E m59 (fun r83 m83 => Q 1 m83)))) ∧ (¬ 0 ≤ r30 → Q (-1) m2))))) ∧ (¬ r2 = 0 → Q r2 m2))
set_option maxRecDepth 100000 in
set_option maxHeartbeats 4000000 in
theorem w_X11_where {d : Nat} {E : zb_E} {x0 x1 x2 x3 : Int} {m : zb_M} {Q : Int → zb_M → Prop} (h : PM_X11_where d E x0 x1 x2 x3 m Q) : zb_T K_X11_where (d + 1) [(2, x0), (0, x1), (0, x2), (0, x3)] E m Q := by
  unfold PM_X11_where at h
  refine zb_T_in gd_X11_where rfl rfl (fun hW hA G C hF => ?_)
  have i_0 : zb_is E.1 x0 11 := zb_aH hA (by decide)
  show zb_WP _ _ 0 [(0, (2, x0)), (1, (0, x1)), (2, (0, x2)), (3, (0, x3))] [] _ _ _ _
  refine zb_aload_n (j := 0) dX11_where_0 rfl rfl ?_
  refine zb_iload_n (j := 1) dX11_where_1 rfl rfl ?_
  refine zb_cV (As := [(0, x1)]) (As' := [(0, x1)]) (st := []) dX11_where_2 lk_X11_271 gd_X11_refusalOfTurnings rfl rfl i_0 ⟨_, rfl, rfl⟩ h hW hF (zb_aR i_0 (zb_aI zb_a0)) (Nat.le_refl _) (Nat.le_of_ble_eq_true rfl) (fun r2 m2 hF h => ?_)
  show zb_WP _ _ _ _ [(0, r2)] _ _ _ _
  refine zb_istore (L' := [(4, (0, r2)), (0, (2, x0)), (1, (0, x1)), (2, (0, x2)), (3, (0, x3))]) dX11_where_5 (by decide) rfl ?_
  refine zb_iload (j := 0) dX11_where_7 rfl ?_
  refine zb_if_eq (tgt := 15) dX11_where_9 (by decide) (fun c1 => ?_) (fun c1 => ?_)
  · have h := h.1 c1
    refine zb_aload_n (j := 1) dX11_where_15 rfl rfl ?_
    refine zb_gFo 2 dX11_where_16 fl_X11_25 i_0 hW hF rfl rfl rfl rfl (fun i2 => ?_)
    refine zb_iload_n (j := 3) dX11_where_19 rfl rfl ?_
    refine zb_cVp (As := [(0, x2)]) (As' := [(0, x2)]) (st := []) dX11_where_20 lk_X11_208 gd_X6_indexOf rfl rfl i2 ⟨_, rfl, rfl⟩ h hW hF (zb_aR i2 (zb_aI zb_a0)) (Nat.le_refl _) (Nat.le_of_ble_eq_true rfl) (fun r20 h => ?_)
    show zb_WP _ _ _ _ [(0, r20)] _ _ _ _
    refine zb_istore (L' := [(5, (0, r20)), (4, (0, r2)), (0, (2, x0)), (1, (0, x1)), (2, (0, x2)), (3, (0, x3))]) dX11_where_23 (by decide) rfl ?_
    refine zb_aload_n (j := 2) dX11_where_25 rfl rfl ?_
    refine zb_gFo 2 dX11_where_26 fl_X11_25 i_0 hW hF rfl rfl rfl rfl (fun i3 => ?_)
    refine zb_iload_n (j := 5) dX11_where_29 rfl rfl ?_
    refine zb_cVp (As := [(0, x3)]) (As' := [(0, x3)]) (st := []) dX11_where_30 lk_X11_208 gd_X6_indexOf rfl rfl i3 ⟨_, rfl, rfl⟩ h hW hF (zb_aR i3 (zb_aI zb_a0)) (Nat.le_refl _) (Nat.le_of_ble_eq_true rfl) (fun r30 h => ?_)
    show zb_WP _ _ _ _ [(0, r30)] _ _ _ _
    refine zb_istore (L' := [(6, (0, r30)), (5, (0, r20)), (4, (0, r2)), (0, (2, x0)), (1, (0, x1)), (2, (0, x2)), (3, (0, x3))]) dX11_where_33 (by decide) rfl ?_
    refine zb_iload (j := 1) dX11_where_35 rfl ?_
    refine zb_if_lt (tgt := 45) dX11_where_37 (by decide) (fun c4 => ?_) (fun c4 => ?_)
    · have h := h.1 c4
      refine zb_iconst dX11_where_45 (zb_inIc rfl) ?_
      exact zb_rI dX11_where_46 rfl hF h
    · have h := h.2 c4
      refine zb_iload (j := 0) dX11_where_40 rfl ?_
      refine zb_if_ge (tgt := 47) dX11_where_42 (by decide) (fun c5 => ?_) (fun c5 => ?_)
      · have h := h.1 c5
        refine zb_aload_n (j := 3) dX11_where_47 rfl rfl ?_
        refine zb_gFo 5 dX11_where_48 fl_X11_48 i_0 hW hF rfl rfl rfl rfl (fun i6 => ?_)
        refine zb_aload_n (j := 3) dX11_where_51 rfl rfl ?_
        refine zb_gFo 2 dX11_where_52 fl_X11_25 i_0 hW hF rfl rfl rfl rfl (fun i7 => ?_)
        refine zb_iload (j := 1) dX11_where_55 rfl ?_
        refine zb_iload (j := 0) dX11_where_57 rfl ?_
        refine zb_cV (As := [(2, (E.2 x0 2)), (0, r20), (0, r30)]) (As' := [(0, r30), (0, r20), (2, (E.2 x0 2))]) (st := []) dX11_where_59 lk_X11_282 gd_X9_findLeast rfl rfl i6 ⟨_, rfl, rfl⟩ h hW hF (zb_aR i6 (zb_aR i7 (zb_aI (zb_aI zb_a0)))) (Nat.le_refl _) (Nat.le_of_ble_eq_true rfl) (fun r59 m59 hF h => ?_)
        show zb_WP _ _ _ _ [(0, r59)] _ _ _ _
        refine zb_if_ne (tgt := 67) dX11_where_62 (by decide) (fun c8 => ?_) (fun c8 => ?_)
        · have h := h.2 c8
          refine zb_aload_n (j := 3) dX11_where_67 rfl rfl ?_
          refine zb_gFo 11 dX11_where_68 fl_X11_81 i_0 hW hF rfl rfl rfl rfl (fun i9 => ?_)
          refine zb_aload_n (j := 3) dX11_where_71 rfl rfl ?_
          refine zb_gFo 2 dX11_where_72 fl_X11_25 i_0 hW hF rfl rfl rfl rfl (fun i10 => ?_)
          refine zb_aload_n (j := 3) dX11_where_75 rfl rfl ?_
          refine zb_gFo 5 dX11_where_76 fl_X11_48 i_0 hW hF rfl rfl rfl rfl (fun i11 => ?_)
          refine zb_gFa 4 dX11_where_79 fl_X11_286 i11 hW hF rfl rfl rfl (by decide) rfl 12 rfl (fun i12 l13 => ?_)
          refine zb_iconst dX11_where_82 (zb_inIc rfl) ?_
          refine zb_cV (As := [(2, (E.2 x0 2)), (2, (E.2 (E.2 x0 5) 4)), (0, 0)]) (As' := [(0, 0), (2, (E.2 (E.2 x0 5) 4)), (2, (E.2 x0 2))]) (st := []) dX11_where_83 lk_X11_289 gd_X10_take rfl rfl i9 ⟨_, rfl, rfl⟩ h hW hF (zb_aR i9 (zb_aR i10 (zb_aR i12 (zb_aI zb_a0)))) (Nat.le_refl _) (Nat.le_of_ble_eq_true rfl) (fun r83 m83 hF h => ?_)
          show zb_WP _ _ _ _ [] _ _ _ _
          refine zb_iconst dX11_where_86 (zb_inIc rfl) ?_
          exact zb_rI dX11_where_87 rfl hF h
        · have h := h.1 c8
          refine zb_iconst dX11_where_65 (zb_inIc rfl) ?_
          exact zb_rI dX11_where_66 rfl hF h
      · have h := h.2 c5
        refine zb_iconst dX11_where_45 (zb_inIc rfl) ?_
        exact zb_rI dX11_where_46 rfl hF h
  · have h := h.2 c1
    refine zb_iload (j := 0) dX11_where_12 rfl ?_
    exact zb_rI dX11_where_14 rfl hF h
theorem dX11_orbit_0 : decode cX11_orbit 0 = .ok (.aload_n 0, 1) := by decide +kernel
theorem dX11_orbit_1 : decode cX11_orbit 1 = .ok (.iload_n 1, 1) := by decide +kernel
theorem dX11_orbit_2 : decode cX11_orbit 2 = .ok (.invokevirtual 271, 3) := by decide +kernel
theorem dX11_orbit_5 : decode cX11_orbit 5 = .ok (.istore_n 3, 1) := by decide +kernel
theorem dX11_orbit_6 : decode cX11_orbit 6 = .ok (.iload_n 3, 1) := by decide +kernel
theorem dX11_orbit_7 : decode cX11_orbit 7 = .ok (.ifCond .eq 5, 3) := by decide +kernel
theorem dX11_orbit_10 : decode cX11_orbit 10 = .ok (.iload_n 3, 1) := by decide +kernel
theorem dX11_orbit_11 : decode cX11_orbit 11 = .ok (.ireturn, 1) := by decide +kernel
theorem dX11_orbit_12 : decode cX11_orbit 12 = .ok (.aload_n 0, 1) := by decide +kernel
theorem dX11_orbit_13 : decode cX11_orbit 13 = .ok (.getfield 25, 3) := by decide +kernel
theorem dX11_orbit_16 : decode cX11_orbit 16 = .ok (.iload_n 2, 1) := by decide +kernel
theorem dX11_orbit_17 : decode cX11_orbit 17 = .ok (.invokevirtual 208, 3) := by decide +kernel
theorem dX11_orbit_20 : decode cX11_orbit 20 = .ok (.istore 4, 2) := by decide +kernel
theorem dX11_orbit_22 : decode cX11_orbit 22 = .ok (.iload 4, 2) := by decide +kernel
theorem dX11_orbit_24 : decode cX11_orbit 24 = .ok (.ifCond .ge 5, 3) := by decide +kernel
theorem dX11_orbit_27 : decode cX11_orbit 27 = .ok (.iconst (-1), 1) := by decide +kernel
theorem dX11_orbit_28 : decode cX11_orbit 28 = .ok (.ireturn, 1) := by decide +kernel
theorem dX11_orbit_29 : decode cX11_orbit 29 = .ok (.aload_n 0, 1) := by decide +kernel
theorem dX11_orbit_30 : decode cX11_orbit 30 = .ok (.getfield 48, 3) := by decide +kernel
theorem dX11_orbit_33 : decode cX11_orbit 33 = .ok (.aload_n 0, 1) := by decide +kernel
theorem dX11_orbit_34 : decode cX11_orbit 34 = .ok (.getfield 25, 3) := by decide +kernel
theorem dX11_orbit_37 : decode cX11_orbit 37 = .ok (.invokevirtual 274, 3) := by decide +kernel
theorem dX11_orbit_40 : decode cX11_orbit 40 = .ok (.aload_n 0, 1) := by decide +kernel
theorem dX11_orbit_41 : decode cX11_orbit 41 = .ok (.getfield 48, 3) := by decide +kernel
theorem dX11_orbit_44 : decode cX11_orbit 44 = .ok (.iload 4, 2) := by decide +kernel
theorem dX11_orbit_46 : decode cX11_orbit 46 = .ok (.invokevirtual 292, 3) := by decide +kernel
theorem dX11_orbit_49 : decode cX11_orbit 49 = .ok (.ireturn, 1) := by decide +kernel
def PM_X11_orbit (d : Nat) (E : zb_E) (x0 : Int) (x1 : Int) (x2 : Int) (m : zb_M) (Q : Int → zb_M → Prop) : Prop :=
  zb_T K_X11_refusalOfTurnings d [(2, x0), (0, x1)] E m (fun r2 m2 => (r2 = 0 → zb_Tp K_X6_indexOf d [(2, (E.2 x0 2)), (0, x2)] E m2 (fun r17 => (0 ≤ r17 → zb_T K_X9_findMakers d [(2, (E.2 x0 5)), (2, (E.2 x0 2))] E m2 (fun r37 m37 => zb_Tp K_X9_countReached d [(2, (E.2 x0 5)), (0, r17)] E m37 (fun r46 => Q r46 m37))) ∧ (¬ 0 ≤ r17 → Q (-1) m2))) ∧ (¬ r2 = 0 → Q r2 m2))
set_option maxRecDepth 100000 in
set_option maxHeartbeats 4000000 in
theorem w_X11_orbit {d : Nat} {E : zb_E} {x0 x1 x2 : Int} {m : zb_M} {Q : Int → zb_M → Prop} (h : PM_X11_orbit d E x0 x1 x2 m Q) : zb_T K_X11_orbit (d + 1) [(2, x0), (0, x1), (0, x2)] E m Q := by
  unfold PM_X11_orbit at h
  refine zb_T_in gd_X11_orbit rfl rfl (fun hW hA G C hF => ?_)
  have i_0 : zb_is E.1 x0 11 := zb_aH hA (by decide)
  show zb_WP _ _ 0 [(0, (2, x0)), (1, (0, x1)), (2, (0, x2))] [] _ _ _ _
  refine zb_aload_n (j := 0) dX11_orbit_0 rfl rfl ?_
  refine zb_iload_n (j := 1) dX11_orbit_1 rfl rfl ?_
  refine zb_cV (As := [(0, x1)]) (As' := [(0, x1)]) (st := []) dX11_orbit_2 lk_X11_271 gd_X11_refusalOfTurnings rfl rfl i_0 ⟨_, rfl, rfl⟩ h hW hF (zb_aR i_0 (zb_aI zb_a0)) (Nat.le_refl _) (Nat.le_of_ble_eq_true rfl) (fun r2 m2 hF h => ?_)
  show zb_WP _ _ _ _ [(0, r2)] _ _ _ _
  refine zb_istore_n (L' := [(3, (0, r2)), (0, (2, x0)), (1, (0, x1)), (2, (0, x2))]) dX11_orbit_5 rfl (by decide) rfl ?_
  refine zb_iload_n (j := 0) dX11_orbit_6 rfl rfl ?_
  refine zb_if_eq (tgt := 12) dX11_orbit_7 (by decide) (fun c1 => ?_) (fun c1 => ?_)
  · have h := h.1 c1
    refine zb_aload_n (j := 1) dX11_orbit_12 rfl rfl ?_
    refine zb_gFo 2 dX11_orbit_13 fl_X11_25 i_0 hW hF rfl rfl rfl rfl (fun i2 => ?_)
    refine zb_iload_n (j := 3) dX11_orbit_16 rfl rfl ?_
    refine zb_cVp (As := [(0, x2)]) (As' := [(0, x2)]) (st := []) dX11_orbit_17 lk_X11_208 gd_X6_indexOf rfl rfl i2 ⟨_, rfl, rfl⟩ h hW hF (zb_aR i2 (zb_aI zb_a0)) (Nat.le_refl _) (Nat.le_of_ble_eq_true rfl) (fun r17 h => ?_)
    show zb_WP _ _ _ _ [(0, r17)] _ _ _ _
    refine zb_istore (L' := [(4, (0, r17)), (3, (0, r2)), (0, (2, x0)), (1, (0, x1)), (2, (0, x2))]) dX11_orbit_20 (by decide) rfl ?_
    refine zb_iload (j := 0) dX11_orbit_22 rfl ?_
    refine zb_if_ge (tgt := 29) dX11_orbit_24 (by decide) (fun c3 => ?_) (fun c3 => ?_)
    · have h := h.1 c3
      refine zb_aload_n (j := 2) dX11_orbit_29 rfl rfl ?_
      refine zb_gFo 5 dX11_orbit_30 fl_X11_48 i_0 hW hF rfl rfl rfl rfl (fun i4 => ?_)
      refine zb_aload_n (j := 2) dX11_orbit_33 rfl rfl ?_
      refine zb_gFo 2 dX11_orbit_34 fl_X11_25 i_0 hW hF rfl rfl rfl rfl (fun i5 => ?_)
      refine zb_cV (As := [(2, (E.2 x0 2))]) (As' := [(2, (E.2 x0 2))]) (st := []) dX11_orbit_37 lk_X11_274 gd_X9_findMakers rfl rfl i4 ⟨_, rfl, rfl⟩ h hW hF (zb_aR i4 (zb_aR i5 zb_a0)) (Nat.le_refl _) (Nat.le_of_ble_eq_true rfl) (fun r37 m37 hF h => ?_)
      show zb_WP _ _ _ _ [] _ _ _ _
      refine zb_aload_n (j := 2) dX11_orbit_40 rfl rfl ?_
      refine zb_gFo 5 dX11_orbit_41 fl_X11_48 i_0 hW hF rfl rfl rfl rfl (fun i6 => ?_)
      refine zb_iload (j := 0) dX11_orbit_44 rfl ?_
      refine zb_cVp (As := [(0, r17)]) (As' := [(0, r17)]) (st := []) dX11_orbit_46 lk_X11_292 gd_X9_countReached rfl rfl i6 ⟨_, rfl, rfl⟩ h hW hF (zb_aR i6 (zb_aI zb_a0)) (Nat.le_refl _) (Nat.le_of_ble_eq_true rfl) (fun r46 h => ?_)
      show zb_WP _ _ _ _ [(0, r46)] _ _ _ _
      exact zb_rI dX11_orbit_49 rfl hF h
    · have h := h.2 c3
      refine zb_iconst dX11_orbit_27 (zb_inIc rfl) ?_
      exact zb_rI dX11_orbit_28 rfl hF h
  · have h := h.2 c1
    refine zb_iload_n (j := 0) dX11_orbit_10 rfl rfl ?_
    exact zb_rI dX11_orbit_11 rfl hF h
theorem dX11_by_0 : decode cX11_by 0 = .ok (.aload_n 0, 1) := by decide +kernel
theorem dX11_by_1 : decode cX11_by 1 = .ok (.getfield 81, 3) := by decide +kernel
theorem dX11_by_4 : decode cX11_by 4 = .ok (.iload_n 1, 1) := by decide +kernel
theorem dX11_by_5 : decode cX11_by 5 = .ok (.invokevirtual 295, 3) := by decide +kernel
theorem dX11_by_8 : decode cX11_by 8 = .ok (.ifCond .eq 15, 3) := by decide +kernel
theorem dX11_by_11 : decode cX11_by 11 = .ok (.aload_n 0, 1) := by decide +kernel
theorem dX11_by_12 : decode cX11_by 12 = .ok (.getfield 81, 3) := by decide +kernel
theorem dX11_by_15 : decode cX11_by 15 = .ok (.getfield 298, 3) := by decide +kernel
theorem dX11_by_18 : decode cX11_by 18 = .ok (.iload_n 1, 1) := by decide +kernel
theorem dX11_by_19 : decode cX11_by 19 = .ok (.iaload, 1) := by decide +kernel
theorem dX11_by_20 : decode cX11_by 20 = .ok (.goto 4, 3) := by decide +kernel
theorem dX11_by_23 : decode cX11_by 23 = .ok (.iconst (-1), 1) := by decide +kernel
theorem dX11_by_24 : decode cX11_by 24 = .ok (.ireturn, 1) := by decide +kernel
def PM_X11_by (d : Nat) (E : zb_E) (x0 : Int) (x1 : Int) (m : zb_M) (Q : Int → Prop) : Prop :=
  zb_Tp K_X10_leadsFrom d [(2, (E.2 x0 11)), (0, x1)] E m (fun r5 => (r5 = 0 → Q (-1)) ∧ (¬ r5 = 0 → (0 ≤ x1 ∧ x1 < 12) ∧ (Q (m (E.2 (E.2 x0 11) 1) x1))))
set_option maxRecDepth 100000 in
set_option maxHeartbeats 4000000 in
theorem w_X11_by {d : Nat} {E : zb_E} {x0 x1 : Int} {m : zb_M} {Q : Int → Prop} (h : PM_X11_by d E x0 x1 m Q) : zb_Tp K_X11_by (d + 1) [(2, x0), (0, x1)] E m Q := by
  unfold PM_X11_by at h
  refine zb_T_in gd_X11_by rfl rfl (fun hW hA G C hF => ?_)
  have i_0 : zb_is E.1 x0 11 := zb_aH hA (by decide)
  show zb_WP _ _ 0 [(0, (2, x0)), (1, (0, x1))] [] _ _ _ _
  refine zb_aload_n (j := 0) dX11_by_0 rfl rfl ?_
  refine zb_gFo 11 dX11_by_1 fl_X11_81 i_0 hW hF rfl rfl rfl rfl (fun i1 => ?_)
  refine zb_iload_n (j := 1) dX11_by_4 rfl rfl ?_
  refine zb_cVp (As := [(0, x1)]) (As' := [(0, x1)]) (st := []) dX11_by_5 lk_X11_295 gd_X10_leadsFrom rfl rfl i1 ⟨_, rfl, rfl⟩ h hW hF (zb_aR i1 (zb_aI zb_a0)) (Nat.le_refl _) (Nat.le_of_ble_eq_true rfl) (fun r5 h => ?_)
  show zb_WP _ _ _ _ [(0, r5)] _ _ _ _
  refine zb_if_eq (tgt := 23) dX11_by_8 (by decide) (fun c2 => ?_) (fun c2 => ?_)
  · have h := h.1 c2
    refine zb_iconst dX11_by_23 (zb_inIc rfl) ?_
    exact zb_rI dX11_by_24 rfl hF ⟨rfl, h⟩
  · have h := h.2 c2
    refine zb_aload_n (j := 0) dX11_by_11 rfl rfl ?_
    refine zb_gFo 11 dX11_by_12 fl_X11_81 i_0 hW hF rfl rfl rfl rfl (fun i3 => ?_)
    refine zb_gFa 1 dX11_by_15 fl_X11_298 i3 hW hF rfl rfl rfl (by decide) rfl 12 rfl (fun i4 l5 => ?_)
    refine zb_iload_n (j := 1) dX11_by_18 rfl rfl ?_
    obtain ⟨o6, h⟩ := h
    refine zb_lI dX11_by_19 i4 l5 o6.1 o6.2 ?_
    refine zb_goto (tgt := 24) dX11_by_20 (by decide) ?_
    exact zb_rI dX11_by_24 rfl hF ⟨rfl, h⟩
theorem dX11_makers_0 : decode cX11_makers 0 = .ok (.aload_n 0, 1) := by decide +kernel
theorem dX11_makers_1 : decode cX11_makers 1 = .ok (.iload_n 1, 1) := by decide +kernel
theorem dX11_makers_2 : decode cX11_makers 2 = .ok (.invokevirtual 271, 3) := by decide +kernel
theorem dX11_makers_5 : decode cX11_makers 5 = .ok (.istore_n 2, 1) := by decide +kernel
theorem dX11_makers_6 : decode cX11_makers 6 = .ok (.iload_n 2, 1) := by decide +kernel
theorem dX11_makers_7 : decode cX11_makers 7 = .ok (.ifCond .eq 5, 3) := by decide +kernel
theorem dX11_makers_10 : decode cX11_makers 10 = .ok (.iload_n 2, 1) := by decide +kernel
theorem dX11_makers_11 : decode cX11_makers 11 = .ok (.ireturn, 1) := by decide +kernel
theorem dX11_makers_12 : decode cX11_makers 12 = .ok (.aload_n 0, 1) := by decide +kernel
theorem dX11_makers_13 : decode cX11_makers 13 = .ok (.getfield 48, 3) := by decide +kernel
theorem dX11_makers_16 : decode cX11_makers 16 = .ok (.aload_n 0, 1) := by decide +kernel
theorem dX11_makers_17 : decode cX11_makers 17 = .ok (.getfield 25, 3) := by decide +kernel
theorem dX11_makers_20 : decode cX11_makers 20 = .ok (.invokevirtual 274, 3) := by decide +kernel
theorem dX11_makers_23 : decode cX11_makers 23 = .ok (.aload_n 0, 1) := by decide +kernel
theorem dX11_makers_24 : decode cX11_makers 24 = .ok (.aload_n 0, 1) := by decide +kernel
theorem dX11_makers_25 : decode cX11_makers 25 = .ok (.getfield 48, 3) := by decide +kernel
theorem dX11_makers_28 : decode cX11_makers 28 = .ok (.getfield 301, 3) := by decide +kernel
theorem dX11_makers_31 : decode cX11_makers 31 = .ok (.putfield 304, 3) := by decide +kernel
theorem dX11_makers_34 : decode cX11_makers 34 = .ok (.iconst 0, 1) := by decide +kernel
theorem dX11_makers_35 : decode cX11_makers 35 = .ok (.istore_n 3, 1) := by decide +kernel
theorem dX11_makers_36 : decode cX11_makers 36 = .ok (.iload_n 3, 1) := by decide +kernel
theorem dX11_makers_37 : decode cX11_makers 37 = .ok (.aload_n 0, 1) := by decide +kernel
theorem dX11_makers_38 : decode cX11_makers 38 = .ok (.getfield 304, 3) := by decide +kernel
theorem dX11_makers_41 : decode cX11_makers 41 = .ok (.if_icmp .ge 33, 3) := by decide +kernel
theorem dX11_makers_44 : decode cX11_makers 44 = .ok (.aload_n 0, 1) := by decide +kernel
theorem dX11_makers_45 : decode cX11_makers 45 = .ok (.getfield 85, 3) := by decide +kernel
theorem dX11_makers_48 : decode cX11_makers 48 = .ok (.iload_n 3, 1) := by decide +kernel
theorem dX11_makers_49 : decode cX11_makers 49 = .ok (.aaload, 1) := by decide +kernel
theorem dX11_makers_50 : decode cX11_makers 50 = .ok (.aload_n 0, 1) := by decide +kernel
theorem dX11_makers_51 : decode cX11_makers 51 = .ok (.getfield 25, 3) := by decide +kernel
theorem dX11_makers_54 : decode cX11_makers 54 = .ok (.aload_n 0, 1) := by decide +kernel
theorem dX11_makers_55 : decode cX11_makers 55 = .ok (.getfield 48, 3) := by decide +kernel
theorem dX11_makers_58 : decode cX11_makers 58 = .ok (.getfield 305, 3) := by decide +kernel
theorem dX11_makers_61 : decode cX11_makers 61 = .ok (.iload_n 3, 1) := by decide +kernel
theorem dX11_makers_62 : decode cX11_makers 62 = .ok (.bipush 12, 2) := by decide +kernel
theorem dX11_makers_64 : decode cX11_makers 64 = .ok (.imul, 1) := by decide +kernel
theorem dX11_makers_65 : decode cX11_makers 65 = .ok (.invokevirtual 289, 3) := by decide +kernel
theorem dX11_makers_68 : decode cX11_makers 68 = .ok (.iinc 3 1, 3) := by decide +kernel
theorem dX11_makers_71 : decode cX11_makers 71 = .ok (.goto (-35), 3) := by decide +kernel
theorem dX11_makers_74 : decode cX11_makers 74 = .ok (.aload_n 0, 1) := by decide +kernel
theorem dX11_makers_75 : decode cX11_makers 75 = .ok (.getfield 304, 3) := by decide +kernel
theorem dX11_makers_78 : decode cX11_makers 78 = .ok (.ireturn, 1) := by decide +kernel
def PJ_X11_makers_74 (d : Nat) (E : zb_E) (x0 : Int) (Q : Int → zb_M → Prop) (m74j : zb_M) : Prop :=
  Q (m74j x0 13) m74j
def PL_X11_makers_36 (d : Nat) (E : zb_E) (x0 : Int) (Q : Int → zb_M → Prop) (K74_36 : zb_M → Prop) (v3_36 : Int) (m36l : zb_M) : Prop :=
  ∀ X36 : Int → zb_M → Prop, (∀ (v3_36 : Int) (m36l : zb_M), (((m36l x0 13) ≤ v3_36 → K74_36 m36l) ∧ (¬ (m36l x0 13) ≤ v3_36 → (0 ≤ v3_36 ∧ v3_36 < 12) ∧ ((zb_inI (v3_36 * 12)) ∧ (zb_T K_X10_take d [(2, (E.2 (E.2 x0 12) v3_36)), (2, (E.2 x0 2)), (2, (E.2 (E.2 x0 5) 5)), (0, (v3_36 * 12))] E m36l (fun r65 m65 => (zb_inI (v3_36 + 1)) ∧ (X36 (v3_36 + 1) m65)))))) → X36 v3_36 m36l) → X36 v3_36 m36l
def PM_X11_makers (d : Nat) (E : zb_E) (x0 : Int) (x1 : Int) (m : zb_M) (Q : Int → zb_M → Prop) : Prop :=
  zb_T K_X11_refusalOfTurnings d [(2, x0), (0, x1)] E m (fun r2 m2 => (r2 = 0 → zb_T K_X9_findMakers d [(2, (E.2 x0 5)), (2, (E.2 x0 2))] E m2 (fun r20 m20 => ∀ m31, m31 = zb_up m20 x0 13 (m20 (E.2 x0 5) 6) → (PL_X11_makers_36 d E x0 Q (PJ_X11_makers_74 d E x0 Q) 0 m31))) ∧ (¬ r2 = 0 → Q r2 m2))
set_option maxRecDepth 100000 in
set_option maxHeartbeats 4000000 in
theorem w_X11_makers {d : Nat} {E : zb_E} {x0 x1 : Int} {m : zb_M} {Q : Int → zb_M → Prop} (h : PM_X11_makers d E x0 x1 m Q) : zb_T K_X11_makers (d + 1) [(2, x0), (0, x1)] E m Q := by
  unfold PM_X11_makers at h
  refine zb_T_in gd_X11_makers rfl rfl (fun hW hA G C hF => ?_)
  have i_0 : zb_is E.1 x0 11 := zb_aH hA (by decide)
  show zb_WP _ _ 0 [(0, (2, x0)), (1, (0, x1))] [] _ _ _ _
  refine zb_aload_n (j := 0) dX11_makers_0 rfl rfl ?_
  refine zb_iload_n (j := 1) dX11_makers_1 rfl rfl ?_
  refine zb_cV (As := [(0, x1)]) (As' := [(0, x1)]) (st := []) dX11_makers_2 lk_X11_271 gd_X11_refusalOfTurnings rfl rfl i_0 ⟨_, rfl, rfl⟩ h hW hF (zb_aR i_0 (zb_aI zb_a0)) (Nat.le_refl _) (Nat.le_of_ble_eq_true rfl) (fun r2 m2 hF h => ?_)
  show zb_WP _ _ _ _ [(0, r2)] _ _ _ _
  refine zb_istore_n (L' := [(2, (0, r2)), (0, (2, x0)), (1, (0, x1))]) dX11_makers_5 rfl (by decide) rfl ?_
  refine zb_iload_n (j := 0) dX11_makers_6 rfl rfl ?_
  refine zb_if_eq (tgt := 12) dX11_makers_7 (by decide) (fun c1 => ?_) (fun c1 => ?_)
  · have h := h.1 c1
    refine zb_aload_n (j := 1) dX11_makers_12 rfl rfl ?_
    refine zb_gFo 5 dX11_makers_13 fl_X11_48 i_0 hW hF rfl rfl rfl rfl (fun i2 => ?_)
    refine zb_aload_n (j := 1) dX11_makers_16 rfl rfl ?_
    refine zb_gFo 2 dX11_makers_17 fl_X11_25 i_0 hW hF rfl rfl rfl rfl (fun i3 => ?_)
    refine zb_cV (As := [(2, (E.2 x0 2))]) (As' := [(2, (E.2 x0 2))]) (st := []) dX11_makers_20 lk_X11_274 gd_X9_findMakers rfl rfl i2 ⟨_, rfl, rfl⟩ h hW hF (zb_aR i2 (zb_aR i3 zb_a0)) (Nat.le_refl _) (Nat.le_of_ble_eq_true rfl) (fun r20 m20 hF h => ?_)
    show zb_WP _ _ _ _ [] _ _ _ _
    refine zb_aload_n (j := 1) dX11_makers_23 rfl rfl ?_
    refine zb_aload_n (j := 1) dX11_makers_24 rfl rfl ?_
    refine zb_gFo 5 dX11_makers_25 fl_X11_48 i_0 hW hF rfl rfl rfl rfl (fun i4 => ?_)
    refine zb_gI 6 dX11_makers_28 fl_X11_301 i4 rfl rfl ?_
    refine zb_pF 13 dX11_makers_31 fl_X11_304 rfl rfl i_0 (Or.inl rfl) hF rfl rfl (fun m31 e31 hF => ?_)
    have h := h m31 e31
    refine zb_iconst dX11_makers_34 (zb_inIc rfl) ?_
    refine zb_istore_n (L' := [(3, (0, 0)), (2, (0, r2)), (0, (2, x0)), (1, (0, x1))]) dX11_makers_35 rfl (by decide) rfl ?_
    refine zb_sub (L' := [(0, (2, x0)), (3, (0, 0))]) [2, 0] rfl ?_
    have hJ74 : ∀ (m74j : zb_M), zb_FIN E m74j → PJ_X11_makers_74 d E x0 Q m74j → zb_WP (G, C, d + 1, 0, 0, zb_q E Q) F_X11_makers 74 [(0, (2, x0))] [] E.1 m74j 0 0 := by
      intro m74j hF h
      unfold PJ_X11_makers_74 at h
      refine zb_aload_n (j := 0) dX11_makers_74 rfl rfl ?_
      refine zb_gI 13 dX11_makers_75 fl_X11_304 i_0 rfl rfl ?_
      exact zb_rI dX11_makers_78 rfl hF h
    unfold PL_X11_makers_36 at h
    obtain ⟨X36, hX36⟩ : ∃ X : Int → zb_M → Prop, ∀ (v3_36 : Int) (m36l : zb_M), (X v3_36 m36l ↔ (zb_FIN E m36l → zb_WP (G, C, d + 1, 0, 0, zb_q E Q) F_X11_makers 36 [(0, (2, x0)), (3, (0, v3_36))] [] E.1 m36l 0 0)) := ⟨fun v3_36 m36l => zb_FIN E m36l → zb_WP (G, C, d + 1, 0, 0, zb_q E Q) F_X11_makers 36 [(0, (2, x0)), (3, (0, v3_36))] [] E.1 m36l 0 0, fun _ _ => Iff.rfl⟩
    refine (hX36 _ _).mp (h X36 (fun v3_36 m36l h => (hX36 _ _).mpr (fun hF => ?_))) hF
    refine zb_iload_n (j := 1) dX11_makers_36 rfl rfl ?_
    refine zb_aload_n (j := 0) dX11_makers_37 rfl rfl ?_
    refine zb_gI 13 dX11_makers_38 fl_X11_304 i_0 rfl rfl ?_
    refine zb_icmp_ge (tgt := 74) dX11_makers_41 (by decide) (fun c5 => ?_) (fun c5 => ?_)
    · have h := h.1 c5
      refine zb_sub (L' := [(0, (2, x0))]) [0] rfl ?_
      exact hJ74 _ hF h
    · have h := h.2 c5
      refine zb_aload_n (j := 0) dX11_makers_44 rfl rfl ?_
      refine zb_gFa 12 dX11_makers_45 fl_X11_85 i_0 hW hF rfl rfl rfl (by decide) rfl 12 rfl (fun i6 l7 => ?_)
      refine zb_iload_n (j := 1) dX11_makers_48 rfl rfl ?_
      obtain ⟨o8, h⟩ := h
      refine zb_lA 6 dX11_makers_49 i6 (by decide) l7 hW hF o8.1 o8.2 (fun i9 => ?_)
      refine zb_aload_n (j := 0) dX11_makers_50 rfl rfl ?_
      refine zb_gFo 2 dX11_makers_51 fl_X11_25 i_0 hW hF rfl rfl rfl rfl (fun i10 => ?_)
      refine zb_aload_n (j := 0) dX11_makers_54 rfl rfl ?_
      refine zb_gFo 5 dX11_makers_55 fl_X11_48 i_0 hW hF rfl rfl rfl rfl (fun i11 => ?_)
      refine zb_gFa 5 dX11_makers_58 fl_X11_305 i11 hW hF rfl rfl rfl (by decide) rfl 144 rfl (fun i12 l13 => ?_)
      refine zb_iload_n (j := 1) dX11_makers_61 rfl rfl ?_
      refine zb_bipush dX11_makers_62 (by decide) (zb_inIc rfl) ?_
      obtain ⟨o14, h⟩ := h
      refine zb_imul dX11_makers_64 o14 ?_
      refine zb_cV (As := [(2, (E.2 x0 2)), (2, (E.2 (E.2 x0 5) 5)), (0, (v3_36 * 12))]) (As' := [(0, (v3_36 * 12)), (2, (E.2 (E.2 x0 5) 5)), (2, (E.2 x0 2))]) (st := []) dX11_makers_65 lk_X11_289 gd_X10_take rfl rfl i9 ⟨_, rfl, rfl⟩ h hW hF (zb_aR i9 (zb_aR i10 (zb_aR i12 (zb_aI zb_a0)))) (Nat.le_refl _) (Nat.le_of_ble_eq_true rfl) (fun r65 m65 hF h => ?_)
      show zb_WP _ _ _ _ [] _ _ _ _
      obtain ⟨o15, h⟩ := h
      refine zb_iinc (j := 1) (L' := [(3, (0, (v3_36 + 1))), (0, (2, x0))]) dX11_makers_68 rfl o15 (by decide) rfl ?_
      refine zb_goto (tgt := 36) dX11_makers_71 (by decide) ?_
      refine zb_sub (L' := [(0, (2, x0)), (3, (0, (v3_36 + 1)))]) [1, 0] rfl ?_
      exact (hX36 _ _).mp h hF
  · have h := h.2 c1
    refine zb_iload_n (j := 0) dX11_makers_10 rfl rfl ?_
    exact zb_rI dX11_makers_11 rfl hF h
theorem dX11_maker_0 : decode cX11_maker 0 = .ok (.iload_n 1, 1) := by decide +kernel
theorem dX11_maker_1 : decode cX11_maker 1 = .ok (.aload_n 0, 1) := by decide +kernel
theorem dX11_maker_2 : decode cX11_maker 2 = .ok (.getfield 304, 3) := by decide +kernel
theorem dX11_maker_5 : decode cX11_maker 5 = .ok (.invokestatic 101, 3) := by decide +kernel
theorem dX11_maker_8 : decode cX11_maker 8 = .ok (.ifCond .eq 16, 3) := by decide +kernel
theorem dX11_maker_11 : decode cX11_maker 11 = .ok (.aload_n 0, 1) := by decide +kernel
theorem dX11_maker_12 : decode cX11_maker 12 = .ok (.getfield 85, 3) := by decide +kernel
theorem dX11_maker_15 : decode cX11_maker 15 = .ok (.iload_n 1, 1) := by decide +kernel
theorem dX11_maker_16 : decode cX11_maker 16 = .ok (.aaload, 1) := by decide +kernel
theorem dX11_maker_17 : decode cX11_maker 17 = .ok (.iload_n 2, 1) := by decide +kernel
theorem dX11_maker_18 : decode cX11_maker 18 = .ok (.invokevirtual 295, 3) := by decide +kernel
theorem dX11_maker_21 : decode cX11_maker 21 = .ok (.ifCond .ne 5, 3) := by decide +kernel
theorem dX11_maker_24 : decode cX11_maker 24 = .ok (.iconst (-1), 1) := by decide +kernel
theorem dX11_maker_25 : decode cX11_maker 25 = .ok (.ireturn, 1) := by decide +kernel
theorem dX11_maker_26 : decode cX11_maker 26 = .ok (.aload_n 0, 1) := by decide +kernel
theorem dX11_maker_27 : decode cX11_maker 27 = .ok (.getfield 85, 3) := by decide +kernel
theorem dX11_maker_30 : decode cX11_maker 30 = .ok (.iload_n 1, 1) := by decide +kernel
theorem dX11_maker_31 : decode cX11_maker 31 = .ok (.aaload, 1) := by decide +kernel
theorem dX11_maker_32 : decode cX11_maker 32 = .ok (.getfield 298, 3) := by decide +kernel
theorem dX11_maker_35 : decode cX11_maker 35 = .ok (.iload_n 2, 1) := by decide +kernel
theorem dX11_maker_36 : decode cX11_maker 36 = .ok (.iaload, 1) := by decide +kernel
theorem dX11_maker_37 : decode cX11_maker 37 = .ok (.ireturn, 1) := by decide +kernel
def PM_X11_maker (d : Nat) (E : zb_E) (x0 : Int) (x1 : Int) (x2 : Int) (m : zb_M) (Q : Int → Prop) : Prop :=
  zb_Tp K_X11_isBelow d [(0, x1), (0, (m x0 13))] E m (fun r5 => (r5 = 0 → Q (-1)) ∧ (¬ r5 = 0 → (0 ≤ x1 ∧ x1 < 12) ∧ (zb_Tp K_X10_leadsFrom d [(2, (E.2 (E.2 x0 12) x1)), (0, x2)] E m (fun r18 => (r18 = 0 → Q (-1)) ∧ (¬ r18 = 0 → (0 ≤ x2 ∧ x2 < 12) ∧ (Q (m (E.2 (E.2 (E.2 x0 12) x1) 1) x2)))))))
set_option maxRecDepth 100000 in
set_option maxHeartbeats 4000000 in
theorem w_X11_maker {d : Nat} {E : zb_E} {x0 x1 x2 : Int} {m : zb_M} {Q : Int → Prop} (h : PM_X11_maker d E x0 x1 x2 m Q) : zb_Tp K_X11_maker (d + 1) [(2, x0), (0, x1), (0, x2)] E m Q := by
  unfold PM_X11_maker at h
  refine zb_T_in gd_X11_maker rfl rfl (fun hW hA G C hF => ?_)
  have i_0 : zb_is E.1 x0 11 := zb_aH hA (by decide)
  show zb_WP _ _ 0 [(0, (2, x0)), (1, (0, x1)), (2, (0, x2))] [] _ _ _ _
  refine zb_iload_n (j := 1) dX11_maker_0 rfl rfl ?_
  refine zb_aload_n (j := 0) dX11_maker_1 rfl rfl ?_
  refine zb_gI 13 dX11_maker_2 fl_X11_304 i_0 rfl rfl ?_
  refine zb_cSp (As := [(0, x1), (0, (m x0 13))]) (As' := [(0, (m x0 13)), (0, x1)]) (st := []) dX11_maker_5 lk_X11_101 gd_X11_isBelow rfl rfl h hW hF (zb_aI (zb_aI zb_a0)) (Nat.le_refl _) (Nat.le_of_ble_eq_true rfl) (fun r5 h => ?_)
  show zb_WP _ _ _ _ [(0, r5)] _ _ _ _
  refine zb_if_eq (tgt := 24) dX11_maker_8 (by decide) (fun c1 => ?_) (fun c1 => ?_)
  · have h := h.1 c1
    refine zb_iconst dX11_maker_24 (zb_inIc rfl) ?_
    exact zb_rI dX11_maker_25 rfl hF ⟨rfl, h⟩
  · have h := h.2 c1
    refine zb_aload_n (j := 0) dX11_maker_11 rfl rfl ?_
    refine zb_gFa 12 dX11_maker_12 fl_X11_85 i_0 hW hF rfl rfl rfl (by decide) rfl 12 rfl (fun i2 l3 => ?_)
    refine zb_iload_n (j := 1) dX11_maker_15 rfl rfl ?_
    obtain ⟨o4, h⟩ := h
    refine zb_lA 6 dX11_maker_16 i2 (by decide) l3 hW hF o4.1 o4.2 (fun i5 => ?_)
    refine zb_iload_n (j := 2) dX11_maker_17 rfl rfl ?_
    refine zb_cVp (As := [(0, x2)]) (As' := [(0, x2)]) (st := []) dX11_maker_18 lk_X11_295 gd_X10_leadsFrom rfl rfl i5 ⟨_, rfl, rfl⟩ h hW hF (zb_aR i5 (zb_aI zb_a0)) (Nat.le_refl _) (Nat.le_of_ble_eq_true rfl) (fun r18 h => ?_)
    show zb_WP _ _ _ _ [(0, r18)] _ _ _ _
    refine zb_if_ne (tgt := 26) dX11_maker_21 (by decide) (fun c6 => ?_) (fun c6 => ?_)
    · have h := h.2 c6
      refine zb_aload_n (j := 0) dX11_maker_26 rfl rfl ?_
      refine zb_gFa 12 dX11_maker_27 fl_X11_85 i_0 hW hF rfl rfl rfl (by decide) rfl 12 rfl (fun i7 l8 => ?_)
      refine zb_iload_n (j := 1) dX11_maker_30 rfl rfl ?_
      refine zb_lA 6 dX11_maker_31 i7 (by decide) l8 hW hF o4.1 o4.2 (fun i9 => ?_)
      refine zb_gFa 1 dX11_maker_32 fl_X11_298 i9 hW hF rfl rfl rfl (by decide) rfl 12 rfl (fun i10 l11 => ?_)
      refine zb_iload_n (j := 2) dX11_maker_35 rfl rfl ?_
      obtain ⟨o12, h⟩ := h
      refine zb_lI dX11_maker_36 i10 l11 o12.1 o12.2 ?_
      exact zb_rI dX11_maker_37 rfl hF ⟨rfl, h⟩
    · have h := h.1 c6
      refine zb_iconst dX11_maker_24 (zb_inIc rfl) ?_
      exact zb_rI dX11_maker_25 rfl hF ⟨rfl, h⟩
theorem dX11_then_0 : decode cX11_then 0 = .ok (.iload_n 1, 1) := by decide +kernel
theorem dX11_then_1 : decode cX11_then 1 = .ok (.aload_n 0, 1) := by decide +kernel
theorem dX11_then_2 : decode cX11_then 2 = .ok (.getfield 304, 3) := by decide +kernel
theorem dX11_then_5 : decode cX11_then 5 = .ok (.invokestatic 101, 3) := by decide +kernel
theorem dX11_then_8 : decode cX11_then 8 = .ok (.ifCond .ne 5, 3) := by decide +kernel
theorem dX11_then_11 : decode cX11_then 11 = .ok (.iconst (-1), 1) := by decide +kernel
theorem dX11_then_12 : decode cX11_then 12 = .ok (.ireturn, 1) := by decide +kernel
theorem dX11_then_13 : decode cX11_then 13 = .ok (.aload_n 0, 1) := by decide +kernel
theorem dX11_then_14 : decode cX11_then 14 = .ok (.getfield 81, 3) := by decide +kernel
theorem dX11_then_17 : decode cX11_then 17 = .ok (.aload_n 0, 1) := by decide +kernel
theorem dX11_then_18 : decode cX11_then 18 = .ok (.getfield 85, 3) := by decide +kernel
theorem dX11_then_21 : decode cX11_then 21 = .ok (.iload_n 1, 1) := by decide +kernel
theorem dX11_then_22 : decode cX11_then 22 = .ok (.aaload, 1) := by decide +kernel
theorem dX11_then_23 : decode cX11_then 23 = .ok (.invokevirtual 308, 3) := by decide +kernel
theorem dX11_then_26 : decode cX11_then 26 = .ok (.ifCond .ne 6, 3) := by decide +kernel
theorem dX11_then_29 : decode cX11_then 29 = .ok (.bipush (-2), 2) := by decide +kernel
theorem dX11_then_31 : decode cX11_then 31 = .ok (.ireturn, 1) := by decide +kernel
theorem dX11_then_32 : decode cX11_then 32 = .ok (.aload_n 0, 1) := by decide +kernel
theorem dX11_then_33 : decode cX11_then 33 = .ok (.getfield 81, 3) := by decide +kernel
theorem dX11_then_36 : decode cX11_then 36 = .ok (.aload_n 0, 1) := by decide +kernel
theorem dX11_then_37 : decode cX11_then 37 = .ok (.getfield 85, 3) := by decide +kernel
theorem dX11_then_40 : decode cX11_then 40 = .ok (.iload_n 1, 1) := by decide +kernel
theorem dX11_then_41 : decode cX11_then 41 = .ok (.aaload, 1) := by decide +kernel
theorem dX11_then_42 : decode cX11_then 42 = .ok (.invokevirtual 312, 3) := by decide +kernel
theorem dX11_then_45 : decode cX11_then 45 = .ok (.iconst 1, 1) := by decide +kernel
theorem dX11_then_46 : decode cX11_then 46 = .ok (.ireturn, 1) := by decide +kernel
def PM_X11_then (d : Nat) (E : zb_E) (x0 : Int) (x1 : Int) (m : zb_M) (Q : Int → zb_M → Prop) : Prop :=
  zb_Tp K_X11_isBelow d [(0, x1), (0, (m x0 13))] E m (fun r5 => (r5 = 0 → Q (-1) m) ∧ (¬ r5 = 0 → (0 ≤ x1 ∧ x1 < 12) ∧ (zb_Tp K_X10_isWithin d [(2, (E.2 x0 11)), (2, (E.2 (E.2 x0 12) x1))] E m (fun r23 => (r23 = 0 → Q (-2) m) ∧ (¬ r23 = 0 → zb_T K_X10_goOnBy d [(2, (E.2 x0 11)), (2, (E.2 (E.2 x0 12) x1))] E m (fun r42 m42 => Q 1 m42))))))
set_option maxRecDepth 100000 in
set_option maxHeartbeats 4000000 in
theorem w_X11_then {d : Nat} {E : zb_E} {x0 x1 : Int} {m : zb_M} {Q : Int → zb_M → Prop} (h : PM_X11_then d E x0 x1 m Q) : zb_T K_X11_then (d + 1) [(2, x0), (0, x1)] E m Q := by
  unfold PM_X11_then at h
  refine zb_T_in gd_X11_then rfl rfl (fun hW hA G C hF => ?_)
  have i_0 : zb_is E.1 x0 11 := zb_aH hA (by decide)
  show zb_WP _ _ 0 [(0, (2, x0)), (1, (0, x1))] [] _ _ _ _
  refine zb_iload_n (j := 1) dX11_then_0 rfl rfl ?_
  refine zb_aload_n (j := 0) dX11_then_1 rfl rfl ?_
  refine zb_gI 13 dX11_then_2 fl_X11_304 i_0 rfl rfl ?_
  refine zb_cSp (As := [(0, x1), (0, (m x0 13))]) (As' := [(0, (m x0 13)), (0, x1)]) (st := []) dX11_then_5 lk_X11_101 gd_X11_isBelow rfl rfl h hW hF (zb_aI (zb_aI zb_a0)) (Nat.le_refl _) (Nat.le_of_ble_eq_true rfl) (fun r5 h => ?_)
  show zb_WP _ _ _ _ [(0, r5)] _ _ _ _
  refine zb_if_ne (tgt := 13) dX11_then_8 (by decide) (fun c1 => ?_) (fun c1 => ?_)
  · have h := h.2 c1
    refine zb_aload_n (j := 0) dX11_then_13 rfl rfl ?_
    refine zb_gFo 11 dX11_then_14 fl_X11_81 i_0 hW hF rfl rfl rfl rfl (fun i2 => ?_)
    refine zb_aload_n (j := 0) dX11_then_17 rfl rfl ?_
    refine zb_gFa 12 dX11_then_18 fl_X11_85 i_0 hW hF rfl rfl rfl (by decide) rfl 12 rfl (fun i3 l4 => ?_)
    refine zb_iload_n (j := 1) dX11_then_21 rfl rfl ?_
    obtain ⟨o5, h⟩ := h
    refine zb_lA 6 dX11_then_22 i3 (by decide) l4 hW hF o5.1 o5.2 (fun i6 => ?_)
    refine zb_cVp (As := [(2, (E.2 (E.2 x0 12) x1))]) (As' := [(2, (E.2 (E.2 x0 12) x1))]) (st := []) dX11_then_23 lk_X11_308 gd_X10_isWithin rfl rfl i2 ⟨_, rfl, rfl⟩ h hW hF (zb_aR i2 (zb_aR i6 zb_a0)) (Nat.le_refl _) (Nat.le_of_ble_eq_true rfl) (fun r23 h => ?_)
    show zb_WP _ _ _ _ [(0, r23)] _ _ _ _
    refine zb_if_ne (tgt := 32) dX11_then_26 (by decide) (fun c7 => ?_) (fun c7 => ?_)
    · have h := h.2 c7
      refine zb_aload_n (j := 0) dX11_then_32 rfl rfl ?_
      refine zb_gFo 11 dX11_then_33 fl_X11_81 i_0 hW hF rfl rfl rfl rfl (fun i8 => ?_)
      refine zb_aload_n (j := 0) dX11_then_36 rfl rfl ?_
      refine zb_gFa 12 dX11_then_37 fl_X11_85 i_0 hW hF rfl rfl rfl (by decide) rfl 12 rfl (fun i9 l10 => ?_)
      refine zb_iload_n (j := 1) dX11_then_40 rfl rfl ?_
      refine zb_lA 6 dX11_then_41 i9 (by decide) l10 hW hF o5.1 o5.2 (fun i11 => ?_)
      refine zb_cV (As := [(2, (E.2 (E.2 x0 12) x1))]) (As' := [(2, (E.2 (E.2 x0 12) x1))]) (st := []) dX11_then_42 lk_X11_312 gd_X10_goOnBy rfl rfl i8 ⟨_, rfl, rfl⟩ h hW hF (zb_aR i8 (zb_aR i11 zb_a0)) (Nat.le_refl _) (Nat.le_of_ble_eq_true rfl) (fun r42 m42 hF h => ?_)
      show zb_WP _ _ _ _ [] _ _ _ _
      refine zb_iconst dX11_then_45 (zb_inIc rfl) ?_
      exact zb_rI dX11_then_46 rfl hF h
    · have h := h.1 c7
      refine zb_bipush dX11_then_29 (by decide) (zb_inIc rfl) ?_
      exact zb_rI dX11_then_31 rfl hF h
  · have h := h.1 c1
    refine zb_iconst dX11_then_11 (zb_inIc rfl) ?_
    exact zb_rI dX11_then_12 rfl hF h
theorem dX11_list_0 : decode cX11_list 0 = .ok (.iload_n 1, 1) := by decide +kernel
theorem dX11_list_1 : decode cX11_list 1 = .ok (.iconst 1, 1) := by decide +kernel
theorem dX11_list_2 : decode cX11_list 2 = .ok (.if_icmp .lt 23, 3) := by decide +kernel
theorem dX11_list_5 : decode cX11_list 5 = .ok (.iload_n 1, 1) := by decide +kernel
theorem dX11_list_6 : decode cX11_list 6 = .ok (.iconst 5, 1) := by decide +kernel
theorem dX11_list_7 : decode cX11_list 7 = .ok (.if_icmp .gt 18, 3) := by decide +kernel
theorem dX11_list_10 : decode cX11_list 10 = .ok (.iload_n 2, 1) := by decide +kernel
theorem dX11_list_11 : decode cX11_list 11 = .ok (.ifCond .lt 14, 3) := by decide +kernel
theorem dX11_list_14 : decode cX11_list 14 = .ok (.iload_n 2, 1) := by decide +kernel
theorem dX11_list_15 : decode cX11_list 15 = .ok (.iload_n 1, 1) := by decide +kernel
theorem dX11_list_16 : decode cX11_list 16 = .ok (.iload_n 1, 1) := by decide +kernel
theorem dX11_list_17 : decode cX11_list 17 = .ok (.iconst 1, 1) := by decide +kernel
theorem dX11_list_18 : decode cX11_list 18 = .ok (.isub, 1) := by decide +kernel
theorem dX11_list_19 : decode cX11_list 19 = .ok (.imul, 1) := by decide +kernel
theorem dX11_list_20 : decode cX11_list 20 = .ok (.iconst 2, 1) := by decide +kernel
theorem dX11_list_21 : decode cX11_list 21 = .ok (.idiv, 1) := by decide +kernel
theorem dX11_list_22 : decode cX11_list 22 = .ok (.if_icmp .le 5, 3) := by decide +kernel
theorem dX11_list_25 : decode cX11_list 25 = .ok (.iconst (-1), 1) := by decide +kernel
theorem dX11_list_26 : decode cX11_list 26 = .ok (.ireturn, 1) := by decide +kernel
theorem dX11_list_27 : decode cX11_list 27 = .ok (.aload_n 0, 1) := by decide +kernel
theorem dX11_list_28 : decode cX11_list 28 = .ok (.getfield 92, 3) := by decide +kernel
theorem dX11_list_31 : decode cX11_list 31 = .ok (.iload_n 1, 1) := by decide +kernel
theorem dX11_list_32 : decode cX11_list 32 = .ok (.iload_n 2, 1) := by decide +kernel
theorem dX11_list_33 : decode cX11_list 33 = .ok (.aload_n 0, 1) := by decide +kernel
theorem dX11_list_34 : decode cX11_list 34 = .ok (.getfield 41, 3) := by decide +kernel
theorem dX11_list_37 : decode cX11_list 37 = .ok (.aload_n 0, 1) := by decide +kernel
theorem dX11_list_38 : decode cX11_list 38 = .ok (.getfield 25, 3) := by decide +kernel
theorem dX11_list_41 : decode cX11_list 41 = .ok (.invokevirtual 316, 3) := by decide +kernel
theorem dX11_list_44 : decode cX11_list 44 = .ok (.aload_n 0, 1) := by decide +kernel
theorem dX11_list_45 : decode cX11_list 45 = .ok (.getfield 92, 3) := by decide +kernel
theorem dX11_list_48 : decode cX11_list 48 = .ok (.getfield 320, 3) := by decide +kernel
theorem dX11_list_51 : decode cX11_list 51 = .ok (.ireturn, 1) := by decide +kernel
def PM_X11_list (d : Nat) (E : zb_E) (x0 : Int) (x1 : Int) (x2 : Int) (m : zb_M) (Q : Int → zb_M → Prop) : Prop :=
  (x1 < 1 → Q (-1) m) ∧ (¬ x1 < 1 → (5 < x1 → Q (-1) m) ∧ (¬ 5 < x1 → (x2 < 0 → Q (-1) m) ∧ (¬ x2 < 0 → (zb_inI (x1 - 1)) ∧ ((zb_inI (x1 * (x1 - 1))) ∧ ((0 ≤ (x1 * (x1 - 1)) ∧ (0 : Int) < 2) ∧ ((x2 ≤ ((x1 * (x1 - 1)) / 2) → zb_T K_X2_make d [(2, (E.2 x0 14)), (0, x1), (0, x2), (2, (E.2 x0 4)), (2, (E.2 x0 2))] E m (fun r41 m41 => Q (m41 (E.2 x0 14) 1) m41)) ∧ (¬ x2 ≤ ((x1 * (x1 - 1)) / 2) → Q (-1) m)))))))
set_option maxRecDepth 100000 in
set_option maxHeartbeats 4000000 in
theorem w_X11_list {d : Nat} {E : zb_E} {x0 x1 x2 : Int} {m : zb_M} {Q : Int → zb_M → Prop} (h : PM_X11_list d E x0 x1 x2 m Q) : zb_T K_X11_list (d + 1) [(2, x0), (0, x1), (0, x2)] E m Q := by
  unfold PM_X11_list at h
  refine zb_T_in gd_X11_list rfl rfl (fun hW hA G C hF => ?_)
  have i_0 : zb_is E.1 x0 11 := zb_aH hA (by decide)
  show zb_WP _ _ 0 [(0, (2, x0)), (1, (0, x1)), (2, (0, x2))] [] _ _ _ _
  refine zb_iload_n (j := 1) dX11_list_0 rfl rfl ?_
  refine zb_iconst dX11_list_1 (zb_inIc rfl) ?_
  refine zb_icmp_lt (tgt := 25) dX11_list_2 (by decide) (fun c1 => ?_) (fun c1 => ?_)
  · have h := h.1 c1
    refine zb_iconst dX11_list_25 (zb_inIc rfl) ?_
    exact zb_rI dX11_list_26 rfl hF h
  · have h := h.2 c1
    refine zb_iload_n (j := 1) dX11_list_5 rfl rfl ?_
    refine zb_iconst dX11_list_6 (zb_inIc rfl) ?_
    refine zb_icmp_gt (tgt := 25) dX11_list_7 (by decide) (fun c2 => ?_) (fun c2 => ?_)
    · have h := h.1 c2
      refine zb_iconst dX11_list_25 (zb_inIc rfl) ?_
      exact zb_rI dX11_list_26 rfl hF h
    · have h := h.2 c2
      refine zb_iload_n (j := 2) dX11_list_10 rfl rfl ?_
      refine zb_if_lt (tgt := 25) dX11_list_11 (by decide) (fun c3 => ?_) (fun c3 => ?_)
      · have h := h.1 c3
        refine zb_iconst dX11_list_25 (zb_inIc rfl) ?_
        exact zb_rI dX11_list_26 rfl hF h
      · have h := h.2 c3
        refine zb_iload_n (j := 2) dX11_list_14 rfl rfl ?_
        refine zb_iload_n (j := 1) dX11_list_15 rfl rfl ?_
        refine zb_iload_n (j := 1) dX11_list_16 rfl rfl ?_
        refine zb_iconst dX11_list_17 (zb_inIc rfl) ?_
        obtain ⟨o4, h⟩ := h
        refine zb_isub dX11_list_18 o4 ?_
        obtain ⟨o5, h⟩ := h
        refine zb_imul dX11_list_19 o5 ?_
        refine zb_iconst dX11_list_20 (zb_inIc rfl) ?_
        obtain ⟨o6, h⟩ := h
        refine zb_idiv dX11_list_21 o6.1 o6.2 ?_
        refine zb_icmp_le (tgt := 27) dX11_list_22 (by decide) (fun c7 => ?_) (fun c7 => ?_)
        · have h := h.1 c7
          refine zb_aload_n (j := 0) dX11_list_27 rfl rfl ?_
          refine zb_gFo 14 dX11_list_28 fl_X11_92 i_0 hW hF rfl rfl rfl rfl (fun i8 => ?_)
          refine zb_iload_n (j := 1) dX11_list_31 rfl rfl ?_
          refine zb_iload_n (j := 2) dX11_list_32 rfl rfl ?_
          refine zb_aload_n (j := 0) dX11_list_33 rfl rfl ?_
          refine zb_gFo 4 dX11_list_34 fl_X11_41 i_0 hW hF rfl rfl rfl rfl (fun i9 => ?_)
          refine zb_aload_n (j := 0) dX11_list_37 rfl rfl ?_
          refine zb_gFo 2 dX11_list_38 fl_X11_25 i_0 hW hF rfl rfl rfl rfl (fun i10 => ?_)
          refine zb_cV (As := [(0, x1), (0, x2), (2, (E.2 x0 4)), (2, (E.2 x0 2))]) (As' := [(2, (E.2 x0 2)), (2, (E.2 x0 4)), (0, x2), (0, x1)]) (st := []) dX11_list_41 lk_X11_316 gd_X2_make rfl rfl i8 ⟨_, rfl, rfl⟩ h hW hF (zb_aR i8 (zb_aI (zb_aI (zb_aR i9 (zb_aR i10 zb_a0))))) (Nat.le_refl _) (Nat.le_of_ble_eq_true rfl) (fun r41 m41 hF h => ?_)
          show zb_WP _ _ _ _ [] _ _ _ _
          refine zb_aload_n (j := 0) dX11_list_44 rfl rfl ?_
          refine zb_gFo 14 dX11_list_45 fl_X11_92 i_0 hW hF rfl rfl rfl rfl (fun i11 => ?_)
          refine zb_gI 1 dX11_list_48 fl_X11_320 i11 rfl rfl ?_
          exact zb_rI dX11_list_51 rfl hF h
        · have h := h.2 c7
          refine zb_iconst dX11_list_25 (zb_inIc rfl) ?_
          exact zb_rI dX11_list_26 rfl hF h
theorem dX11_listed_0 : decode cX11_listed 0 = .ok (.iload_n 2, 1) := by decide +kernel
theorem dX11_listed_1 : decode cX11_listed 1 = .ok (.invokestatic 97, 3) := by decide +kernel
theorem dX11_listed_4 : decode cX11_listed 4 = .ok (.ifCond .eq 17, 3) := by decide +kernel
theorem dX11_listed_7 : decode cX11_listed 7 = .ok (.iload_n 1, 1) := by decide +kernel
theorem dX11_listed_8 : decode cX11_listed 8 = .ok (.aload_n 0, 1) := by decide +kernel
theorem dX11_listed_9 : decode cX11_listed 9 = .ok (.getfield 92, 3) := by decide +kernel
theorem dX11_listed_12 : decode cX11_listed 12 = .ok (.getfield 320, 3) := by decide +kernel
theorem dX11_listed_15 : decode cX11_listed 15 = .ok (.invokestatic 101, 3) := by decide +kernel
theorem dX11_listed_18 : decode cX11_listed 18 = .ok (.ifCond .ne 5, 3) := by decide +kernel
theorem dX11_listed_21 : decode cX11_listed 21 = .ok (.iconst (-1), 1) := by decide +kernel
theorem dX11_listed_22 : decode cX11_listed 22 = .ok (.ireturn, 1) := by decide +kernel
theorem dX11_listed_23 : decode cX11_listed 23 = .ok (.aload_n 0, 1) := by decide +kernel
theorem dX11_listed_24 : decode cX11_listed 24 = .ok (.iload_n 2, 1) := by decide +kernel
theorem dX11_listed_25 : decode cX11_listed 25 = .ok (.invokevirtual 112, 3) := by decide +kernel
theorem dX11_listed_28 : decode cX11_listed 28 = .ok (.aload_n 0, 1) := by decide +kernel
theorem dX11_listed_29 : decode cX11_listed 29 = .ok (.getfield 11, 3) := by decide +kernel
theorem dX11_listed_32 : decode cX11_listed 32 = .ok (.iload_n 2, 1) := by decide +kernel
theorem dX11_listed_33 : decode cX11_listed 33 = .ok (.aaload, 1) := by decide +kernel
theorem dX11_listed_34 : decode cX11_listed 34 = .ok (.aload_n 0, 1) := by decide +kernel
theorem dX11_listed_35 : decode cX11_listed 35 = .ok (.getfield 92, 3) := by decide +kernel
theorem dX11_listed_38 : decode cX11_listed 38 = .ok (.getfield 323, 3) := by decide +kernel
theorem dX11_listed_41 : decode cX11_listed 41 = .ok (.iload_n 1, 1) := by decide +kernel
theorem dX11_listed_42 : decode cX11_listed 42 = .ok (.aaload, 1) := by decide +kernel
theorem dX11_listed_43 : decode cX11_listed 43 = .ok (.invokevirtual 327, 3) := by decide +kernel
theorem dX11_listed_46 : decode cX11_listed 46 = .ok (.aload_n 0, 1) := by decide +kernel
theorem dX11_listed_47 : decode cX11_listed 47 = .ok (.getfield 11, 3) := by decide +kernel
theorem dX11_listed_50 : decode cX11_listed 50 = .ok (.iload_n 2, 1) := by decide +kernel
theorem dX11_listed_51 : decode cX11_listed 51 = .ok (.aaload, 1) := by decide +kernel
theorem dX11_listed_52 : decode cX11_listed 52 = .ok (.getfield 108, 3) := by decide +kernel
theorem dX11_listed_55 : decode cX11_listed 55 = .ok (.ireturn, 1) := by decide +kernel
def PM_X11_listed (d : Nat) (E : zb_E) (x0 : Int) (x1 : Int) (x2 : Int) (m : zb_M) (Q : Int → zb_M → Prop) : Prop :=
  zb_Tp K_X11_isGraph d [(0, x2)] E m (fun r1 => (r1 = 0 → Q (-1) m) ∧ (¬ r1 = 0 → zb_Tp K_X11_isBelow d [(0, x1), (0, (m (E.2 x0 14) 1))] E m (fun r15 => (r15 = 0 → Q (-1) m) ∧ (¬ r15 = 0 → zb_T K_X11_keep d [(2, x0), (0, x2)] E m (fun r25 m25 => (0 ≤ x2 ∧ x2 < 8) ∧ ((0 ≤ x1 ∧ x1 < 8) ∧ ((zb_is E.1 (m25 (E.2 (E.2 x0 14) 0) x1) 3) ∧ (zb_T K_X4_becomeNamed d [(2, (E.2 (E.2 x0 0) x2)), (2, (m25 (E.2 (E.2 x0 14) 0) x1))] E m25 (fun r43 m43 => Q (m43 (E.2 (E.2 x0 0) x2) 0) m43)))))))))
set_option maxRecDepth 100000 in
set_option maxHeartbeats 4000000 in
theorem w_X11_listed {d : Nat} {E : zb_E} {x0 x1 x2 : Int} {m : zb_M} {Q : Int → zb_M → Prop} (h : PM_X11_listed d E x0 x1 x2 m Q) : zb_T K_X11_listed (d + 1) [(2, x0), (0, x1), (0, x2)] E m Q := by
  unfold PM_X11_listed at h
  refine zb_T_in gd_X11_listed rfl rfl (fun hW hA G C hF => ?_)
  have i_0 : zb_is E.1 x0 11 := zb_aH hA (by decide)
  show zb_WP _ _ 0 [(0, (2, x0)), (1, (0, x1)), (2, (0, x2))] [] _ _ _ _
  refine zb_iload_n (j := 2) dX11_listed_0 rfl rfl ?_
  refine zb_cSp (As := [(0, x2)]) (As' := [(0, x2)]) (st := []) dX11_listed_1 lk_X11_97 gd_X11_isGraph rfl rfl h hW hF (zb_aI zb_a0) (Nat.le_refl _) (Nat.le_of_ble_eq_true rfl) (fun r1 h => ?_)
  show zb_WP _ _ _ _ [(0, r1)] _ _ _ _
  refine zb_if_eq (tgt := 21) dX11_listed_4 (by decide) (fun c1 => ?_) (fun c1 => ?_)
  · have h := h.1 c1
    refine zb_iconst dX11_listed_21 (zb_inIc rfl) ?_
    exact zb_rI dX11_listed_22 rfl hF h
  · have h := h.2 c1
    refine zb_iload_n (j := 1) dX11_listed_7 rfl rfl ?_
    refine zb_aload_n (j := 0) dX11_listed_8 rfl rfl ?_
    refine zb_gFo 14 dX11_listed_9 fl_X11_92 i_0 hW hF rfl rfl rfl rfl (fun i2 => ?_)
    refine zb_gI 1 dX11_listed_12 fl_X11_320 i2 rfl rfl ?_
    refine zb_cSp (As := [(0, x1), (0, (m (E.2 x0 14) 1))]) (As' := [(0, (m (E.2 x0 14) 1)), (0, x1)]) (st := []) dX11_listed_15 lk_X11_101 gd_X11_isBelow rfl rfl h hW hF (zb_aI (zb_aI zb_a0)) (Nat.le_refl _) (Nat.le_of_ble_eq_true rfl) (fun r15 h => ?_)
    show zb_WP _ _ _ _ [(0, r15)] _ _ _ _
    refine zb_if_ne (tgt := 23) dX11_listed_18 (by decide) (fun c3 => ?_) (fun c3 => ?_)
    · have h := h.2 c3
      refine zb_aload_n (j := 0) dX11_listed_23 rfl rfl ?_
      refine zb_iload_n (j := 2) dX11_listed_24 rfl rfl ?_
      refine zb_cV (As := [(0, x2)]) (As' := [(0, x2)]) (st := []) dX11_listed_25 lk_X11_112 gd_X11_keep rfl rfl i_0 ⟨_, rfl, rfl⟩ h hW hF (zb_aR i_0 (zb_aI zb_a0)) (Nat.le_refl _) (Nat.le_of_ble_eq_true rfl) (fun r25 m25 hF h => ?_)
      show zb_WP _ _ _ _ [] _ _ _ _
      refine zb_aload_n (j := 0) dX11_listed_28 rfl rfl ?_
      refine zb_gFa 0 dX11_listed_29 fl_X11_11 i_0 hW hF rfl rfl rfl (by decide) rfl 8 rfl (fun i4 l5 => ?_)
      refine zb_iload_n (j := 2) dX11_listed_32 rfl rfl ?_
      obtain ⟨o6, h⟩ := h
      refine zb_lA 3 dX11_listed_33 i4 (by decide) l5 hW hF o6.1 o6.2 (fun i7 => ?_)
      refine zb_aload_n (j := 0) dX11_listed_34 rfl rfl ?_
      refine zb_gFo 14 dX11_listed_35 fl_X11_92 i_0 hW hF rfl rfl rfl rfl (fun i8 => ?_)
      refine zb_gFa 0 dX11_listed_38 fl_X11_323 i8 hW hF rfl rfl rfl (by decide) rfl 8 rfl (fun i9 l10 => ?_)
      refine zb_iload_n (j := 1) dX11_listed_41 rfl rfl ?_
      obtain ⟨o11, h⟩ := h
      obtain ⟨o12, h⟩ := h
      refine zb_lD dX11_listed_42 i9 l10 o11.1 o11.2 o12 ?_
      refine zb_cV (As := [(2, (m25 (E.2 (E.2 x0 14) 0) x1))]) (As' := [(2, (m25 (E.2 (E.2 x0 14) 0) x1))]) (st := []) dX11_listed_43 lk_X11_327 gd_X4_becomeNamed rfl rfl i7 ⟨_, rfl, rfl⟩ h hW hF (zb_aR i7 (zb_aR o12 zb_a0)) (Nat.le_refl _) (Nat.le_of_ble_eq_true rfl) (fun r43 m43 hF h => ?_)
      show zb_WP _ _ _ _ [] _ _ _ _
      refine zb_aload_n (j := 0) dX11_listed_46 rfl rfl ?_
      refine zb_gFa 0 dX11_listed_47 fl_X11_11 i_0 hW hF rfl rfl rfl (by decide) rfl 8 rfl (fun i13 l14 => ?_)
      refine zb_iload_n (j := 2) dX11_listed_50 rfl rfl ?_
      refine zb_lA 3 dX11_listed_51 i13 (by decide) l14 hW hF o6.1 o6.2 (fun i15 => ?_)
      refine zb_gI 0 dX11_listed_52 fl_X11_108 i15 rfl rfl ?_
      exact zb_rI dX11_listed_55 rfl hF h
    · have h := h.1 c3
      refine zb_iconst dX11_listed_21 (zb_inIc rfl) ?_
      exact zb_rI dX11_listed_22 rfl hF h
theorem dX11_isBelow_0 : decode cX11_isBelow 0 = .ok (.iload_n 0, 1) := by decide +kernel
theorem dX11_isBelow_1 : decode cX11_isBelow 1 = .ok (.ifCond .lt 12, 3) := by decide +kernel
theorem dX11_isBelow_4 : decode cX11_isBelow 4 = .ok (.iload_n 0, 1) := by decide +kernel
theorem dX11_isBelow_5 : decode cX11_isBelow 5 = .ok (.iload_n 1, 1) := by decide +kernel
theorem dX11_isBelow_6 : decode cX11_isBelow 6 = .ok (.if_icmp .ge 7, 3) := by decide +kernel
theorem dX11_isBelow_9 : decode cX11_isBelow 9 = .ok (.iconst 1, 1) := by decide +kernel
theorem dX11_isBelow_10 : decode cX11_isBelow 10 = .ok (.goto 4, 3) := by decide +kernel
theorem dX11_isBelow_13 : decode cX11_isBelow 13 = .ok (.iconst 0, 1) := by decide +kernel
theorem dX11_isBelow_14 : decode cX11_isBelow 14 = .ok (.ireturn, 1) := by decide +kernel
def PM_X11_isBelow (d : Nat) (E : zb_E) (x0 : Int) (x1 : Int) (m : zb_M) (Q : Int → Prop) : Prop :=
  (x0 < 0 → Q 0) ∧ (¬ x0 < 0 → (x1 ≤ x0 → Q 0) ∧ (¬ x1 ≤ x0 → Q 1))
set_option maxRecDepth 100000 in
set_option maxHeartbeats 4000000 in
theorem w_X11_isBelow {d : Nat} {E : zb_E} {x0 x1 : Int} {m : zb_M} {Q : Int → Prop} (h : PM_X11_isBelow d E x0 x1 m Q) : zb_Tp K_X11_isBelow (d + 1) [(0, x0), (0, x1)] E m Q := by
  unfold PM_X11_isBelow at h
  refine zb_T_in gd_X11_isBelow rfl rfl (fun hW hA G C hF => ?_)
  show zb_WP _ _ 0 [(0, (0, x0)), (1, (0, x1))] [] _ _ _ _
  refine zb_iload_n (j := 0) dX11_isBelow_0 rfl rfl ?_
  refine zb_if_lt (tgt := 13) dX11_isBelow_1 (by decide) (fun c1 => ?_) (fun c1 => ?_)
  · have h := h.1 c1
    refine zb_iconst dX11_isBelow_13 (zb_inIc rfl) ?_
    exact zb_rZ dX11_isBelow_14 rfl hF (by decide) ⟨rfl, h⟩
  · have h := h.2 c1
    refine zb_iload_n (j := 0) dX11_isBelow_4 rfl rfl ?_
    refine zb_iload_n (j := 1) dX11_isBelow_5 rfl rfl ?_
    refine zb_icmp_ge (tgt := 13) dX11_isBelow_6 (by decide) (fun c2 => ?_) (fun c2 => ?_)
    · have h := h.1 c2
      refine zb_iconst dX11_isBelow_13 (zb_inIc rfl) ?_
      exact zb_rZ dX11_isBelow_14 rfl hF (by decide) ⟨rfl, h⟩
    · have h := h.2 c2
      refine zb_iconst dX11_isBelow_9 (zb_inIc rfl) ?_
      refine zb_goto (tgt := 14) dX11_isBelow_10 (by decide) ?_
      exact zb_rZ dX11_isBelow_14 rfl hF (by decide) ⟨rfl, h⟩
theorem dX11_isNamedKind_0 : decode cX11_isNamedKind 0 = .ok (.iload_n 0, 1) := by decide +kernel
theorem dX11_isNamedKind_1 : decode cX11_isNamedKind 1 = .ok (.iconst 1, 1) := by decide +kernel
theorem dX11_isNamedKind_2 : decode cX11_isNamedKind 2 = .ok (.if_icmp .eq 13, 3) := by decide +kernel
theorem dX11_isNamedKind_5 : decode cX11_isNamedKind 5 = .ok (.iload_n 0, 1) := by decide +kernel
theorem dX11_isNamedKind_6 : decode cX11_isNamedKind 6 = .ok (.iconst 2, 1) := by decide +kernel
theorem dX11_isNamedKind_7 : decode cX11_isNamedKind 7 = .ok (.if_icmp .eq 8, 3) := by decide +kernel
theorem dX11_isNamedKind_10 : decode cX11_isNamedKind 10 = .ok (.iload_n 0, 1) := by decide +kernel
theorem dX11_isNamedKind_11 : decode cX11_isNamedKind 11 = .ok (.iconst 3, 1) := by decide +kernel
theorem dX11_isNamedKind_12 : decode cX11_isNamedKind 12 = .ok (.if_icmp .ne 7, 3) := by decide +kernel
theorem dX11_isNamedKind_15 : decode cX11_isNamedKind 15 = .ok (.iconst 1, 1) := by decide +kernel
theorem dX11_isNamedKind_16 : decode cX11_isNamedKind 16 = .ok (.goto 4, 3) := by decide +kernel
theorem dX11_isNamedKind_19 : decode cX11_isNamedKind 19 = .ok (.iconst 0, 1) := by decide +kernel
theorem dX11_isNamedKind_20 : decode cX11_isNamedKind 20 = .ok (.ireturn, 1) := by decide +kernel
def PM_X11_isNamedKind (d : Nat) (E : zb_E) (x0 : Int) (m : zb_M) (Q : Int → Prop) : Prop :=
  (x0 = 1 → Q 1) ∧ (¬ x0 = 1 → (x0 = 2 → Q 1) ∧ (¬ x0 = 2 → (x0 = 3 → Q 1) ∧ (¬ x0 = 3 → Q 0)))
set_option maxRecDepth 100000 in
set_option maxHeartbeats 4000000 in
theorem w_X11_isNamedKind {d : Nat} {E : zb_E} {x0 : Int} {m : zb_M} {Q : Int → Prop} (h : PM_X11_isNamedKind d E x0 m Q) : zb_Tp K_X11_isNamedKind (d + 1) [(0, x0)] E m Q := by
  unfold PM_X11_isNamedKind at h
  refine zb_T_in gd_X11_isNamedKind rfl rfl (fun hW hA G C hF => ?_)
  show zb_WP _ _ 0 [(0, (0, x0))] [] _ _ _ _
  refine zb_iload_n (j := 0) dX11_isNamedKind_0 rfl rfl ?_
  refine zb_iconst dX11_isNamedKind_1 (zb_inIc rfl) ?_
  refine zb_icmp_eq (tgt := 15) dX11_isNamedKind_2 (by decide) (fun c1 => ?_) (fun c1 => ?_)
  · have h := h.1 c1
    refine zb_iconst dX11_isNamedKind_15 (zb_inIc rfl) ?_
    refine zb_goto (tgt := 20) dX11_isNamedKind_16 (by decide) ?_
    exact zb_rZ dX11_isNamedKind_20 rfl hF (by decide) ⟨rfl, h⟩
  · have h := h.2 c1
    refine zb_iload_n (j := 0) dX11_isNamedKind_5 rfl rfl ?_
    refine zb_iconst dX11_isNamedKind_6 (zb_inIc rfl) ?_
    refine zb_icmp_eq (tgt := 15) dX11_isNamedKind_7 (by decide) (fun c2 => ?_) (fun c2 => ?_)
    · have h := h.1 c2
      refine zb_iconst dX11_isNamedKind_15 (zb_inIc rfl) ?_
      refine zb_goto (tgt := 20) dX11_isNamedKind_16 (by decide) ?_
      exact zb_rZ dX11_isNamedKind_20 rfl hF (by decide) ⟨rfl, h⟩
    · have h := h.2 c2
      refine zb_iload_n (j := 0) dX11_isNamedKind_10 rfl rfl ?_
      refine zb_iconst dX11_isNamedKind_11 (zb_inIc rfl) ?_
      refine zb_icmp_ne (tgt := 19) dX11_isNamedKind_12 (by decide) (fun c3 => ?_) (fun c3 => ?_)
      · have h := h.2 c3
        refine zb_iconst dX11_isNamedKind_19 (zb_inIc rfl) ?_
        exact zb_rZ dX11_isNamedKind_20 rfl hF (by decide) ⟨rfl, h⟩
      · have h := h.1 c3
        refine zb_iconst dX11_isNamedKind_15 (zb_inIc rfl) ?_
        refine zb_goto (tgt := 20) dX11_isNamedKind_16 (by decide) ?_
        exact zb_rZ dX11_isNamedKind_20 rfl hF (by decide) ⟨rfl, h⟩
theorem dX11_isGraph_0 : decode cX11_isGraph 0 = .ok (.iload_n 0, 1) := by decide +kernel
theorem dX11_isGraph_1 : decode cX11_isGraph 1 = .ok (.bipush 8, 2) := by decide +kernel
theorem dX11_isGraph_3 : decode cX11_isGraph 3 = .ok (.invokestatic 101, 3) := by decide +kernel
theorem dX11_isGraph_6 : decode cX11_isGraph 6 = .ok (.ireturn, 1) := by decide +kernel
def PM_X11_isGraph (d : Nat) (E : zb_E) (x0 : Int) (m : zb_M) (Q : Int → Prop) : Prop :=
  zb_Tp K_X11_isBelow d [(0, x0), (0, 8)] E m (fun r3 => (r3 = 0 ∨ r3 = 1) ∧ (Q r3))
set_option maxRecDepth 100000 in
set_option maxHeartbeats 4000000 in
theorem w_X11_isGraph {d : Nat} {E : zb_E} {x0 : Int} {m : zb_M} {Q : Int → Prop} (h : PM_X11_isGraph d E x0 m Q) : zb_Tp K_X11_isGraph (d + 1) [(0, x0)] E m Q := by
  unfold PM_X11_isGraph at h
  refine zb_T_in gd_X11_isGraph rfl rfl (fun hW hA G C hF => ?_)
  show zb_WP _ _ 0 [(0, (0, x0))] [] _ _ _ _
  refine zb_iload_n (j := 0) dX11_isGraph_0 rfl rfl ?_
  refine zb_bipush dX11_isGraph_1 (by decide) (zb_inIc rfl) ?_
  refine zb_cSp (As := [(0, x0), (0, 8)]) (As' := [(0, 8), (0, x0)]) (st := []) dX11_isGraph_3 lk_X11_101 gd_X11_isBelow rfl rfl h hW hF (zb_aI (zb_aI zb_a0)) (Nat.le_refl _) (Nat.le_of_ble_eq_true rfl) (fun r3 h => ?_)
  show zb_WP _ _ _ _ [(0, r3)] _ _ _ _
  obtain ⟨o1, h⟩ := h
  exact zb_rZ dX11_isGraph_6 rfl hF o1 ⟨rfl, h⟩
theorem dX11_isThing_0 : decode cX11_isThing 0 = .ok (.iload_n 1, 1) := by decide +kernel
theorem dX11_isThing_1 : decode cX11_isThing 1 = .ok (.invokestatic 97, 3) := by decide +kernel
theorem dX11_isThing_4 : decode cX11_isThing 4 = .ok (.ifCond .eq 23, 3) := by decide +kernel
theorem dX11_isThing_7 : decode cX11_isThing 7 = .ok (.iload_n 2, 1) := by decide +kernel
theorem dX11_isThing_8 : decode cX11_isThing 8 = .ok (.aload_n 0, 1) := by decide +kernel
theorem dX11_isThing_9 : decode cX11_isThing 9 = .ok (.getfield 11, 3) := by decide +kernel
theorem dX11_isThing_12 : decode cX11_isThing 12 = .ok (.iload_n 1, 1) := by decide +kernel
theorem dX11_isThing_13 : decode cX11_isThing 13 = .ok (.aaload, 1) := by decide +kernel
theorem dX11_isThing_14 : decode cX11_isThing 14 = .ok (.getfield 108, 3) := by decide +kernel
theorem dX11_isThing_17 : decode cX11_isThing 17 = .ok (.invokestatic 101, 3) := by decide +kernel
theorem dX11_isThing_20 : decode cX11_isThing 20 = .ok (.ifCond .eq 7, 3) := by decide +kernel
theorem dX11_isThing_23 : decode cX11_isThing 23 = .ok (.iconst 1, 1) := by decide +kernel
theorem dX11_isThing_24 : decode cX11_isThing 24 = .ok (.goto 4, 3) := by decide +kernel
theorem dX11_isThing_27 : decode cX11_isThing 27 = .ok (.iconst 0, 1) := by decide +kernel
theorem dX11_isThing_28 : decode cX11_isThing 28 = .ok (.ireturn, 1) := by decide +kernel
def PM_X11_isThing (d : Nat) (E : zb_E) (x0 : Int) (x1 : Int) (x2 : Int) (m : zb_M) (Q : Int → Prop) : Prop :=
  zb_Tp K_X11_isGraph d [(0, x1)] E m (fun r1 => (r1 = 0 → Q 0) ∧ (¬ r1 = 0 → (0 ≤ x1 ∧ x1 < 8) ∧ (zb_Tp K_X11_isBelow d [(0, x2), (0, (m (E.2 (E.2 x0 0) x1) 0))] E m (fun r17 => (r17 = 0 → Q 0) ∧ (¬ r17 = 0 → Q 1)))))
set_option maxRecDepth 100000 in
set_option maxHeartbeats 4000000 in
theorem w_X11_isThing {d : Nat} {E : zb_E} {x0 x1 x2 : Int} {m : zb_M} {Q : Int → Prop} (h : PM_X11_isThing d E x0 x1 x2 m Q) : zb_Tp K_X11_isThing (d + 1) [(2, x0), (0, x1), (0, x2)] E m Q := by
  unfold PM_X11_isThing at h
  refine zb_T_in gd_X11_isThing rfl rfl (fun hW hA G C hF => ?_)
  have i_0 : zb_is E.1 x0 11 := zb_aH hA (by decide)
  show zb_WP _ _ 0 [(0, (2, x0)), (1, (0, x1)), (2, (0, x2))] [] _ _ _ _
  refine zb_iload_n (j := 1) dX11_isThing_0 rfl rfl ?_
  refine zb_cSp (As := [(0, x1)]) (As' := [(0, x1)]) (st := []) dX11_isThing_1 lk_X11_97 gd_X11_isGraph rfl rfl h hW hF (zb_aI zb_a0) (Nat.le_refl _) (Nat.le_of_ble_eq_true rfl) (fun r1 h => ?_)
  show zb_WP _ _ _ _ [(0, r1)] _ _ _ _
  refine zb_if_eq (tgt := 27) dX11_isThing_4 (by decide) (fun c1 => ?_) (fun c1 => ?_)
  · have h := h.1 c1
    refine zb_iconst dX11_isThing_27 (zb_inIc rfl) ?_
    exact zb_rZ dX11_isThing_28 rfl hF (by decide) ⟨rfl, h⟩
  · have h := h.2 c1
    refine zb_iload_n (j := 2) dX11_isThing_7 rfl rfl ?_
    refine zb_aload_n (j := 0) dX11_isThing_8 rfl rfl ?_
    refine zb_gFa 0 dX11_isThing_9 fl_X11_11 i_0 hW hF rfl rfl rfl (by decide) rfl 8 rfl (fun i2 l3 => ?_)
    refine zb_iload_n (j := 1) dX11_isThing_12 rfl rfl ?_
    obtain ⟨o4, h⟩ := h
    refine zb_lA 3 dX11_isThing_13 i2 (by decide) l3 hW hF o4.1 o4.2 (fun i5 => ?_)
    refine zb_gI 0 dX11_isThing_14 fl_X11_108 i5 rfl rfl ?_
    refine zb_cSp (As := [(0, x2), (0, (m (E.2 (E.2 x0 0) x1) 0))]) (As' := [(0, (m (E.2 (E.2 x0 0) x1) 0)), (0, x2)]) (st := []) dX11_isThing_17 lk_X11_101 gd_X11_isBelow rfl rfl h hW hF (zb_aI (zb_aI zb_a0)) (Nat.le_refl _) (Nat.le_of_ble_eq_true rfl) (fun r17 h => ?_)
    show zb_WP _ _ _ _ [(0, r17)] _ _ _ _
    refine zb_if_eq (tgt := 27) dX11_isThing_20 (by decide) (fun c6 => ?_) (fun c6 => ?_)
    · have h := h.1 c6
      refine zb_iconst dX11_isThing_27 (zb_inIc rfl) ?_
      exact zb_rZ dX11_isThing_28 rfl hF (by decide) ⟨rfl, h⟩
    · have h := h.2 c6
      refine zb_iconst dX11_isThing_23 (zb_inIc rfl) ?_
      refine zb_goto (tgt := 28) dX11_isThing_24 (by decide) ?_
      exact zb_rZ dX11_isThing_28 rfl hF (by decide) ⟨rfl, h⟩
theorem dX11_keep_0 : decode cX11_keep 0 = .ok (.aload_n 0, 1) := by decide +kernel
theorem dX11_keep_1 : decode cX11_keep 1 = .ok (.getfield 18, 3) := by decide +kernel
theorem dX11_keep_4 : decode cX11_keep 4 = .ok (.iload_n 1, 1) := by decide +kernel
theorem dX11_keep_5 : decode cX11_keep 5 = .ok (.aload_n 0, 1) := by decide +kernel
theorem dX11_keep_6 : decode cX11_keep 6 = .ok (.getfield 11, 3) := by decide +kernel
theorem dX11_keep_9 : decode cX11_keep 9 = .ok (.iload_n 1, 1) := by decide +kernel
theorem dX11_keep_10 : decode cX11_keep 10 = .ok (.aaload, 1) := by decide +kernel
theorem dX11_keep_11 : decode cX11_keep 11 = .ok (.invokevirtual 331, 3) := by decide +kernel
theorem dX11_keep_14 : decode cX11_keep 14 = .ok (.return_, 1) := by decide +kernel
def PM_X11_keep (d : Nat) (E : zb_E) (x0 : Int) (x1 : Int) (m : zb_M) (Q : Int → zb_M → Prop) : Prop :=
  (0 ≤ x1 ∧ x1 < 8) ∧ (zb_T K_X1_keep d [(2, (E.2 x0 1)), (0, x1), (2, (E.2 (E.2 x0 0) x1))] E m (fun r11 m11 => Q 0 m11))
set_option maxRecDepth 100000 in
set_option maxHeartbeats 4000000 in
theorem w_X11_keep {d : Nat} {E : zb_E} {x0 x1 : Int} {m : zb_M} {Q : Int → zb_M → Prop} (h : PM_X11_keep d E x0 x1 m Q) : zb_T K_X11_keep (d + 1) [(2, x0), (0, x1)] E m Q := by
  unfold PM_X11_keep at h
  refine zb_T_in gd_X11_keep rfl rfl (fun hW hA G C hF => ?_)
  have i_0 : zb_is E.1 x0 11 := zb_aH hA (by decide)
  show zb_WP _ _ 0 [(0, (2, x0)), (1, (0, x1))] [] _ _ _ _
  refine zb_aload_n (j := 0) dX11_keep_0 rfl rfl ?_
  refine zb_gFo 1 dX11_keep_1 fl_X11_18 i_0 hW hF rfl rfl rfl rfl (fun i1 => ?_)
  refine zb_iload_n (j := 1) dX11_keep_4 rfl rfl ?_
  refine zb_aload_n (j := 0) dX11_keep_5 rfl rfl ?_
  refine zb_gFa 0 dX11_keep_6 fl_X11_11 i_0 hW hF rfl rfl rfl (by decide) rfl 8 rfl (fun i2 l3 => ?_)
  refine zb_iload_n (j := 1) dX11_keep_9 rfl rfl ?_
  obtain ⟨o4, h⟩ := h
  refine zb_lA 3 dX11_keep_10 i2 (by decide) l3 hW hF o4.1 o4.2 (fun i5 => ?_)
  refine zb_cV (As := [(0, x1), (2, (E.2 (E.2 x0 0) x1))]) (As' := [(2, (E.2 (E.2 x0 0) x1)), (0, x1)]) (st := []) dX11_keep_11 lk_X11_331 gd_X1_keep rfl rfl i1 ⟨_, rfl, rfl⟩ h hW hF (zb_aR i1 (zb_aI (zb_aR i5 zb_a0))) (Nat.le_refl _) (Nat.le_of_ble_eq_true rfl) (fun r11 m11 hF h => ?_)
  show zb_WP _ _ _ _ [] _ _ _ _
  exact zb_rV dX11_keep_14 rfl hF h
theorem dX11_refusalOfTurnings_0 : decode cX11_refusalOfTurnings 0 = .ok (.iload_n 1, 1) := by decide +kernel
theorem dX11_refusalOfTurnings_1 : decode cX11_refusalOfTurnings 1 = .ok (.invokestatic 97, 3) := by decide +kernel
theorem dX11_refusalOfTurnings_4 : decode cX11_refusalOfTurnings 4 = .ok (.ifCond .ne 5, 3) := by decide +kernel
theorem dX11_refusalOfTurnings_7 : decode cX11_refusalOfTurnings 7 = .ok (.iconst (-1), 1) := by decide +kernel
theorem dX11_refusalOfTurnings_8 : decode cX11_refusalOfTurnings 8 = .ok (.ireturn, 1) := by decide +kernel
theorem dX11_refusalOfTurnings_9 : decode cX11_refusalOfTurnings 9 = .ok (.aload_n 0, 1) := by decide +kernel
theorem dX11_refusalOfTurnings_10 : decode cX11_refusalOfTurnings 10 = .ok (.getfield 11, 3) := by decide +kernel
theorem dX11_refusalOfTurnings_13 : decode cX11_refusalOfTurnings 13 = .ok (.iload_n 1, 1) := by decide +kernel
theorem dX11_refusalOfTurnings_14 : decode cX11_refusalOfTurnings 14 = .ok (.aaload, 1) := by decide +kernel
theorem dX11_refusalOfTurnings_15 : decode cX11_refusalOfTurnings 15 = .ok (.invokevirtual 177, 3) := by decide +kernel
theorem dX11_refusalOfTurnings_18 : decode cX11_refusalOfTurnings 18 = .ok (.ifCond .ne 6, 3) := by decide +kernel
theorem dX11_refusalOfTurnings_21 : decode cX11_refusalOfTurnings 21 = .ok (.bipush (-2), 2) := by decide +kernel
theorem dX11_refusalOfTurnings_23 : decode cX11_refusalOfTurnings 23 = .ok (.ireturn, 1) := by decide +kernel
theorem dX11_refusalOfTurnings_24 : decode cX11_refusalOfTurnings 24 = .ok (.aload_n 0, 1) := by decide +kernel
theorem dX11_refusalOfTurnings_25 : decode cX11_refusalOfTurnings 25 = .ok (.getfield 25, 3) := by decide +kernel
theorem dX11_refusalOfTurnings_28 : decode cX11_refusalOfTurnings 28 = .ok (.aload_n 0, 1) := by decide +kernel
theorem dX11_refusalOfTurnings_29 : decode cX11_refusalOfTurnings 29 = .ok (.getfield 11, 3) := by decide +kernel
theorem dX11_refusalOfTurnings_32 : decode cX11_refusalOfTurnings 32 = .ok (.iload_n 1, 1) := by decide +kernel
theorem dX11_refusalOfTurnings_33 : decode cX11_refusalOfTurnings 33 = .ok (.aaload, 1) := by decide +kernel
theorem dX11_refusalOfTurnings_34 : decode cX11_refusalOfTurnings 34 = .ok (.invokevirtual 194, 3) := by decide +kernel
theorem dX11_refusalOfTurnings_37 : decode cX11_refusalOfTurnings 37 = .ok (.iconst 0, 1) := by decide +kernel
theorem dX11_refusalOfTurnings_38 : decode cX11_refusalOfTurnings 38 = .ok (.ireturn, 1) := by decide +kernel
def PM_X11_refusalOfTurnings (d : Nat) (E : zb_E) (x0 : Int) (x1 : Int) (m : zb_M) (Q : Int → zb_M → Prop) : Prop :=
  zb_Tp K_X11_isGraph d [(0, x1)] E m (fun r1 => (r1 = 0 → Q (-1) m) ∧ (¬ r1 = 0 → (0 ≤ x1 ∧ x1 < 8) ∧ (zb_Tp K_X4_isRight d [(2, (E.2 (E.2 x0 0) x1))] E m (fun r15 => (r15 = 0 → Q (-2) m) ∧ (¬ r15 = 0 → zb_T K_X6_take d [(2, (E.2 x0 2)), (2, (E.2 (E.2 x0 0) x1))] E m (fun r34 m34 => Q 0 m34))))))
set_option maxRecDepth 100000 in
set_option maxHeartbeats 4000000 in
theorem w_X11_refusalOfTurnings {d : Nat} {E : zb_E} {x0 x1 : Int} {m : zb_M} {Q : Int → zb_M → Prop} (h : PM_X11_refusalOfTurnings d E x0 x1 m Q) : zb_T K_X11_refusalOfTurnings (d + 1) [(2, x0), (0, x1)] E m Q := by
  unfold PM_X11_refusalOfTurnings at h
  refine zb_T_in gd_X11_refusalOfTurnings rfl rfl (fun hW hA G C hF => ?_)
  have i_0 : zb_is E.1 x0 11 := zb_aH hA (by decide)
  show zb_WP _ _ 0 [(0, (2, x0)), (1, (0, x1))] [] _ _ _ _
  refine zb_iload_n (j := 1) dX11_refusalOfTurnings_0 rfl rfl ?_
  refine zb_cSp (As := [(0, x1)]) (As' := [(0, x1)]) (st := []) dX11_refusalOfTurnings_1 lk_X11_97 gd_X11_isGraph rfl rfl h hW hF (zb_aI zb_a0) (Nat.le_refl _) (Nat.le_of_ble_eq_true rfl) (fun r1 h => ?_)
  show zb_WP _ _ _ _ [(0, r1)] _ _ _ _
  refine zb_if_ne (tgt := 9) dX11_refusalOfTurnings_4 (by decide) (fun c1 => ?_) (fun c1 => ?_)
  · have h := h.2 c1
    refine zb_aload_n (j := 0) dX11_refusalOfTurnings_9 rfl rfl ?_
    refine zb_gFa 0 dX11_refusalOfTurnings_10 fl_X11_11 i_0 hW hF rfl rfl rfl (by decide) rfl 8 rfl (fun i2 l3 => ?_)
    refine zb_iload_n (j := 1) dX11_refusalOfTurnings_13 rfl rfl ?_
    obtain ⟨o4, h⟩ := h
    refine zb_lA 3 dX11_refusalOfTurnings_14 i2 (by decide) l3 hW hF o4.1 o4.2 (fun i5 => ?_)
    refine zb_cVp (As := []) (As' := []) (st := []) dX11_refusalOfTurnings_15 lk_X11_177 gd_X4_isRight rfl rfl i5 ⟨_, rfl, rfl⟩ h hW hF (zb_aR i5 zb_a0) (Nat.le_refl _) (Nat.le_of_ble_eq_true rfl) (fun r15 h => ?_)
    show zb_WP _ _ _ _ [(0, r15)] _ _ _ _
    refine zb_if_ne (tgt := 24) dX11_refusalOfTurnings_18 (by decide) (fun c6 => ?_) (fun c6 => ?_)
    · have h := h.2 c6
      refine zb_aload_n (j := 0) dX11_refusalOfTurnings_24 rfl rfl ?_
      refine zb_gFo 2 dX11_refusalOfTurnings_25 fl_X11_25 i_0 hW hF rfl rfl rfl rfl (fun i7 => ?_)
      refine zb_aload_n (j := 0) dX11_refusalOfTurnings_28 rfl rfl ?_
      refine zb_gFa 0 dX11_refusalOfTurnings_29 fl_X11_11 i_0 hW hF rfl rfl rfl (by decide) rfl 8 rfl (fun i8 l9 => ?_)
      refine zb_iload_n (j := 1) dX11_refusalOfTurnings_32 rfl rfl ?_
      refine zb_lA 3 dX11_refusalOfTurnings_33 i8 (by decide) l9 hW hF o4.1 o4.2 (fun i10 => ?_)
      refine zb_cV (As := [(2, (E.2 (E.2 x0 0) x1))]) (As' := [(2, (E.2 (E.2 x0 0) x1))]) (st := []) dX11_refusalOfTurnings_34 lk_X11_194 gd_X6_take rfl rfl i7 ⟨_, rfl, rfl⟩ h hW hF (zb_aR i7 (zb_aR i10 zb_a0)) (Nat.le_refl _) (Nat.le_of_ble_eq_true rfl) (fun r34 m34 hF h => ?_)
      show zb_WP _ _ _ _ [] _ _ _ _
      refine zb_iconst dX11_refusalOfTurnings_37 (zb_inIc rfl) ?_
      exact zb_rI dX11_refusalOfTurnings_38 rfl hF h
    · have h := h.1 c6
      refine zb_bipush dX11_refusalOfTurnings_21 (by decide) (zb_inIc rfl) ?_
      exact zb_rI dX11_refusalOfTurnings_23 rfl hF h
  · have h := h.1 c1
    refine zb_iconst dX11_refusalOfTurnings_7 (zb_inIc rfl) ?_
    exact zb_rI dX11_refusalOfTurnings_8 rfl hF h
