/-! ===== SameBench: instructions and walks (laid by gen/layout.py) ===== -/
theorem dX11_thing_0 : decode cX11_thing 0 = .ok (.iload_n 1, 1) := by decide +kernel
theorem dX11_thing_1 : decode cX11_thing 1 = .ok (.invokestatic 97, 3) := by decide +kernel
theorem dX11_thing_4 : decode cX11_thing 4 = .ok (.ifCond .eq 20, 3) := by decide +kernel
theorem dX11_thing_7 : decode cX11_thing 7 = .ok (.iload_n 2, 1) := by decide +kernel
theorem dX11_thing_8 : decode cX11_thing 8 = .ok (.iconst 5, 1) := by decide +kernel
theorem dX11_thing_9 : decode cX11_thing 9 = .ok (.invokestatic 101, 3) := by decide +kernel
theorem dX11_thing_12 : decode cX11_thing 12 = .ok (.ifCond .eq 12, 3) := by decide +kernel
theorem dX11_thing_15 : decode cX11_thing 15 = .ok (.iload_n 3, 1) := by decide +kernel
theorem dX11_thing_16 : decode cX11_thing 16 = .ok (.bipush 10, 2) := by decide +kernel
theorem dX11_thing_18 : decode cX11_thing 18 = .ok (.invokestatic 101, 3) := by decide +kernel
theorem dX11_thing_21 : decode cX11_thing 21 = .ok (.ifCond .ne 5, 3) := by decide +kernel
theorem dX11_thing_24 : decode cX11_thing 24 = .ok (.iconst (-1), 1) := by decide +kernel
theorem dX11_thing_25 : decode cX11_thing 25 = .ok (.ireturn, 1) := by decide +kernel
theorem dX11_thing_26 : decode cX11_thing 26 = .ok (.iload_n 2, 1) := by decide +kernel
theorem dX11_thing_27 : decode cX11_thing 27 = .ok (.invokestatic 105, 3) := by decide +kernel
theorem dX11_thing_30 : decode cX11_thing 30 = .ok (.ifCond .eq 15, 3) := by decide +kernel
theorem dX11_thing_33 : decode cX11_thing 33 = .ok (.iload 4, 2) := by decide +kernel
theorem dX11_thing_35 : decode cX11_thing 35 = .ok (.bipush 100, 2) := by decide +kernel
theorem dX11_thing_37 : decode cX11_thing 37 = .ok (.invokestatic 101, 3) := by decide +kernel
theorem dX11_thing_40 : decode cX11_thing 40 = .ok (.ifCond .ne 5, 3) := by decide +kernel
theorem dX11_thing_43 : decode cX11_thing 43 = .ok (.iconst (-1), 1) := by decide +kernel
theorem dX11_thing_44 : decode cX11_thing 44 = .ok (.ireturn, 1) := by decide +kernel
theorem dX11_thing_45 : decode cX11_thing 45 = .ok (.aload_n 0, 1) := by decide +kernel
theorem dX11_thing_46 : decode cX11_thing 46 = .ok (.getfield 11, 3) := by decide +kernel
theorem dX11_thing_49 : decode cX11_thing 49 = .ok (.iload_n 1, 1) := by decide +kernel
theorem dX11_thing_50 : decode cX11_thing 50 = .ok (.aaload, 1) := by decide +kernel
theorem dX11_thing_51 : decode cX11_thing 51 = .ok (.getfield 108, 3) := by decide +kernel
theorem dX11_thing_54 : decode cX11_thing 54 = .ok (.bipush 12, 2) := by decide +kernel
theorem dX11_thing_56 : decode cX11_thing 56 = .ok (.if_icmp .lt 6, 3) := by decide +kernel
theorem dX11_thing_59 : decode cX11_thing 59 = .ok (.bipush (-3), 2) := by decide +kernel
theorem dX11_thing_61 : decode cX11_thing 61 = .ok (.ireturn, 1) := by decide +kernel
theorem dX11_thing_62 : decode cX11_thing 62 = .ok (.aload_n 0, 1) := by decide +kernel
theorem dX11_thing_63 : decode cX11_thing 63 = .ok (.iload_n 1, 1) := by decide +kernel
theorem dX11_thing_64 : decode cX11_thing 64 = .ok (.invokevirtual 112, 3) := by decide +kernel
theorem dX11_thing_67 : decode cX11_thing 67 = .ok (.aload_n 0, 1) := by decide +kernel
theorem dX11_thing_68 : decode cX11_thing 68 = .ok (.getfield 11, 3) := by decide +kernel
theorem dX11_thing_71 : decode cX11_thing 71 = .ok (.iload_n 1, 1) := by decide +kernel
theorem dX11_thing_72 : decode cX11_thing 72 = .ok (.aaload, 1) := by decide +kernel
theorem dX11_thing_73 : decode cX11_thing 73 = .ok (.iload_n 2, 1) := by decide +kernel
theorem dX11_thing_74 : decode cX11_thing 74 = .ok (.iload_n 3, 1) := by decide +kernel
theorem dX11_thing_75 : decode cX11_thing 75 = .ok (.iload 4, 2) := by decide +kernel
theorem dX11_thing_77 : decode cX11_thing 77 = .ok (.invokevirtual 116, 3) := by decide +kernel
theorem dX11_thing_80 : decode cX11_thing 80 = .ok (.ireturn, 1) := by decide +kernel
def PJ_X11_thing_45 (d : Nat) (E : zb_E) (x0 : Int) (x1 : Int) (x2 : Int) (x3 : Int) (x4 : Int) (m : zb_M) (Q : Int → zb_M → Prop)  : Prop :=
  (0 ≤ x1 ∧ x1 < 8) ∧ (((m (E.2 (E.2 x0 0) x1) 0) < 12 → zb_T K_X11_keep d [(2, x0), (0, x1)] E m (fun r64 m64 => zb_T K_X4_add d [(2, (E.2 (E.2 x0 0) x1)), (0, x2), (0, x3), (0, x4)] E m64 (fun r77 m77 => Q r77 m77))) ∧ (¬ (m (E.2 (E.2 x0 0) x1) 0) < 12 → Q (-3) m))
def PM_X11_thing (d : Nat) (E : zb_E) (x0 : Int) (x1 : Int) (x2 : Int) (x3 : Int) (x4 : Int) (m : zb_M) (Q : Int → zb_M → Prop) : Prop :=
  zb_Tp K_X11_isGraph d [(0, x1)] E m (fun r1 => (r1 = 0 → Q (-1) m) ∧ (¬ r1 = 0 → zb_Tp K_X11_isBelow d [(0, x2), (0, 5)] E m (fun r9 => (r9 = 0 → Q (-1) m) ∧ (¬ r9 = 0 → zb_Tp K_X11_isBelow d [(0, x3), (0, 10)] E m (fun r18 => (r18 = 0 → Q (-1) m) ∧ (¬ r18 = 0 → zb_Tp K_X11_isNamedKind d [(0, x2)] E m (fun r27 => (r27 = 0 → PJ_X11_thing_45 d E x0 x1 x2 x3 x4 m Q) ∧ (¬ r27 = 0 → zb_Tp K_X11_isBelow d [(0, x4), (0, 100)] E m (fun r37 => (r37 = 0 → Q (-1) m) ∧ (¬ r37 = 0 → PJ_X11_thing_45 d E x0 x1 x2 x3 x4 m Q))))))))))
set_option maxRecDepth 100000 in
set_option maxHeartbeats 4000000 in
theorem w_X11_thing {d : Nat} {E : zb_E} {x0 x1 x2 x3 x4 : Int} {m : zb_M} {Q : Int → zb_M → Prop} (h : PM_X11_thing d E x0 x1 x2 x3 x4 m Q) : zb_T K_X11_thing (d + 1) [(2, x0), (0, x1), (0, x2), (0, x3), (0, x4)] E m Q := by
  unfold PM_X11_thing at h
  refine zb_T_in gd_X11_thing rfl rfl (fun hW hA G C hF => ?_)
  have i_0 : zb_is E.1 x0 11 := zb_aH hA (by decide)
  show zb_WP _ _ 0 [(0, (2, x0)), (1, (0, x1)), (2, (0, x2)), (3, (0, x3)), (4, (0, x4))] [] _ _ _ _
  refine zb_iload_n (j := 1) dX11_thing_0 rfl rfl ?_
  refine zb_cSp (As := [(0, x1)]) (As' := [(0, x1)]) (st := []) dX11_thing_1 lk_X11_97 gd_X11_isGraph rfl rfl h hW hF (zb_aI zb_a0) (Nat.le_refl _) (Nat.le_of_ble_eq_true rfl) (fun r1 h => ?_)
  show zb_WP _ _ _ _ [(0, r1)] _ _ _ _
  refine zb_if_eq (tgt := 24) dX11_thing_4 (by decide) (fun c1 => ?_) (fun c1 => ?_)
  · have h := h.1 c1
    refine zb_iconst dX11_thing_24 (zb_inIc rfl) ?_
    exact zb_rI dX11_thing_25 rfl hF h
  · have h := h.2 c1
    refine zb_iload_n (j := 2) dX11_thing_7 rfl rfl ?_
    refine zb_iconst dX11_thing_8 (zb_inIc rfl) ?_
    refine zb_cSp (As := [(0, x2), (0, 5)]) (As' := [(0, 5), (0, x2)]) (st := []) dX11_thing_9 lk_X11_101 gd_X11_isBelow rfl rfl h hW hF (zb_aI (zb_aI zb_a0)) (Nat.le_refl _) (Nat.le_of_ble_eq_true rfl) (fun r9 h => ?_)
    show zb_WP _ _ _ _ [(0, r9)] _ _ _ _
    refine zb_if_eq (tgt := 24) dX11_thing_12 (by decide) (fun c2 => ?_) (fun c2 => ?_)
    · have h := h.1 c2
      refine zb_iconst dX11_thing_24 (zb_inIc rfl) ?_
      exact zb_rI dX11_thing_25 rfl hF h
    · have h := h.2 c2
      refine zb_iload_n (j := 3) dX11_thing_15 rfl rfl ?_
      refine zb_bipush dX11_thing_16 (by decide) (zb_inIc rfl) ?_
      refine zb_cSp (As := [(0, x3), (0, 10)]) (As' := [(0, 10), (0, x3)]) (st := []) dX11_thing_18 lk_X11_101 gd_X11_isBelow rfl rfl h hW hF (zb_aI (zb_aI zb_a0)) (Nat.le_refl _) (Nat.le_of_ble_eq_true rfl) (fun r18 h => ?_)
      show zb_WP _ _ _ _ [(0, r18)] _ _ _ _
      refine zb_if_ne (tgt := 26) dX11_thing_21 (by decide) (fun c3 => ?_) (fun c3 => ?_)
      · have h := h.2 c3
        refine zb_iload_n (j := 2) dX11_thing_26 rfl rfl ?_
        refine zb_cSp (As := [(0, x2)]) (As' := [(0, x2)]) (st := []) dX11_thing_27 lk_X11_105 gd_X11_isNamedKind rfl rfl h hW hF (zb_aI zb_a0) (Nat.le_refl _) (Nat.le_of_ble_eq_true rfl) (fun r27 h => ?_)
        show zb_WP _ _ _ _ [(0, r27)] _ _ _ _
        have hJ45 : zb_FIN E m → PJ_X11_thing_45 d E x0 x1 x2 x3 x4 m Q  → zb_WP (G, C, d + 1, 0, 0, zb_q E Q) F_X11_thing 45 [(0, (2, x0)), (1, (0, x1)), (2, (0, x2)), (3, (0, x3)), (4, (0, x4))] [] E.1 m 0 0 := by
          intro  hF h
          unfold PJ_X11_thing_45 at h
          refine zb_aload_n (j := 0) dX11_thing_45 rfl rfl ?_
          refine zb_gFa 0 dX11_thing_46 fl_X11_11 i_0 hW hF rfl rfl rfl (by decide) rfl 8 rfl (fun i4 l5 => ?_)
          refine zb_iload_n (j := 1) dX11_thing_49 rfl rfl ?_
          obtain ⟨o6, h⟩ := h
          refine zb_lA 3 dX11_thing_50 i4 (by decide) l5 hW hF o6.1 o6.2 (fun i7 => ?_)
          refine zb_gI 0 dX11_thing_51 fl_X11_108 i7 rfl rfl ?_
          refine zb_bipush dX11_thing_54 (by decide) (zb_inIc rfl) ?_
          refine zb_icmp_lt (tgt := 62) dX11_thing_56 (by decide) (fun c8 => ?_) (fun c8 => ?_)
          · have h := h.1 c8
            refine zb_aload_n (j := 0) dX11_thing_62 rfl rfl ?_
            refine zb_iload_n (j := 1) dX11_thing_63 rfl rfl ?_
            refine zb_cV (As := [(0, x1)]) (As' := [(0, x1)]) (st := []) dX11_thing_64 lk_X11_112 gd_X11_keep rfl rfl i_0 ⟨_, rfl, rfl⟩ h hW hF (zb_aR i_0 (zb_aI zb_a0)) (Nat.le_refl _) (Nat.le_of_ble_eq_true rfl) (fun r64 m64 hF h => ?_)
            show zb_WP _ _ _ _ [] _ _ _ _
            refine zb_aload_n (j := 0) dX11_thing_67 rfl rfl ?_
            refine zb_gFa 0 dX11_thing_68 fl_X11_11 i_0 hW hF rfl rfl rfl (by decide) rfl 8 rfl (fun i9 l10 => ?_)
            refine zb_iload_n (j := 1) dX11_thing_71 rfl rfl ?_
            refine zb_lA 3 dX11_thing_72 i9 (by decide) l10 hW hF o6.1 o6.2 (fun i11 => ?_)
            refine zb_iload_n (j := 2) dX11_thing_73 rfl rfl ?_
            refine zb_iload_n (j := 3) dX11_thing_74 rfl rfl ?_
            refine zb_iload (j := 4) dX11_thing_75 rfl ?_
            refine zb_cV (As := [(0, x2), (0, x3), (0, x4)]) (As' := [(0, x4), (0, x3), (0, x2)]) (st := []) dX11_thing_77 lk_X11_116 gd_X4_add rfl rfl i11 ⟨_, rfl, rfl⟩ h hW hF (zb_aR i11 (zb_aI (zb_aI (zb_aI zb_a0)))) (Nat.le_refl _) (Nat.le_of_ble_eq_true rfl) (fun r77 m77 hF h => ?_)
            show zb_WP _ _ _ _ [(0, r77)] _ _ _ _
            exact zb_rI dX11_thing_80 rfl hF h
          · have h := h.2 c8
            refine zb_bipush dX11_thing_59 (by decide) (zb_inIc rfl) ?_
            exact zb_rI dX11_thing_61 rfl hF h
        refine zb_if_eq (tgt := 45) dX11_thing_30 (by decide) (fun c12 => ?_) (fun c12 => ?_)
        · have h := h.1 c12
          exact hJ45 hF h
        · have h := h.2 c12
          refine zb_iload (j := 4) dX11_thing_33 rfl ?_
          refine zb_bipush dX11_thing_35 (by decide) (zb_inIc rfl) ?_
          refine zb_cSp (As := [(0, x4), (0, 100)]) (As' := [(0, 100), (0, x4)]) (st := []) dX11_thing_37 lk_X11_101 gd_X11_isBelow rfl rfl h hW hF (zb_aI (zb_aI zb_a0)) (Nat.le_refl _) (Nat.le_of_ble_eq_true rfl) (fun r37 h => ?_)
          show zb_WP _ _ _ _ [(0, r37)] _ _ _ _
          refine zb_if_ne (tgt := 45) dX11_thing_40 (by decide) (fun c13 => ?_) (fun c13 => ?_)
          · have h := h.2 c13
            exact hJ45 hF h
          · have h := h.1 c13
            refine zb_iconst dX11_thing_43 (zb_inIc rfl) ?_
            exact zb_rI dX11_thing_44 rfl hF h
      · have h := h.1 c3
        refine zb_iconst dX11_thing_24 (zb_inIc rfl) ?_
        exact zb_rI dX11_thing_25 rfl hF h
theorem dX11_colour_0 : decode cX11_colour 0 = .ok (.aload_n 0, 1) := by decide +kernel
theorem dX11_colour_1 : decode cX11_colour 1 = .ok (.iload_n 1, 1) := by decide +kernel
theorem dX11_colour_2 : decode cX11_colour 2 = .ok (.iload_n 2, 1) := by decide +kernel
theorem dX11_colour_3 : decode cX11_colour 3 = .ok (.invokevirtual 120, 3) := by decide +kernel
theorem dX11_colour_6 : decode cX11_colour 6 = .ok (.ifCond .eq 12, 3) := by decide +kernel
theorem dX11_colour_9 : decode cX11_colour 9 = .ok (.iload_n 3, 1) := by decide +kernel
theorem dX11_colour_10 : decode cX11_colour 10 = .ok (.bipush 10, 2) := by decide +kernel
theorem dX11_colour_12 : decode cX11_colour 12 = .ok (.invokestatic 101, 3) := by decide +kernel
theorem dX11_colour_15 : decode cX11_colour 15 = .ok (.ifCond .ne 5, 3) := by decide +kernel
theorem dX11_colour_18 : decode cX11_colour 18 = .ok (.iconst (-1), 1) := by decide +kernel
theorem dX11_colour_19 : decode cX11_colour 19 = .ok (.ireturn, 1) := by decide +kernel
theorem dX11_colour_20 : decode cX11_colour 20 = .ok (.aload_n 0, 1) := by decide +kernel
theorem dX11_colour_21 : decode cX11_colour 21 = .ok (.iload_n 1, 1) := by decide +kernel
theorem dX11_colour_22 : decode cX11_colour 22 = .ok (.invokevirtual 112, 3) := by decide +kernel
theorem dX11_colour_25 : decode cX11_colour 25 = .ok (.aload_n 0, 1) := by decide +kernel
theorem dX11_colour_26 : decode cX11_colour 26 = .ok (.getfield 11, 3) := by decide +kernel
theorem dX11_colour_29 : decode cX11_colour 29 = .ok (.iload_n 1, 1) := by decide +kernel
theorem dX11_colour_30 : decode cX11_colour 30 = .ok (.aaload, 1) := by decide +kernel
theorem dX11_colour_31 : decode cX11_colour 31 = .ok (.getfield 123, 3) := by decide +kernel
theorem dX11_colour_34 : decode cX11_colour 34 = .ok (.iload_n 2, 1) := by decide +kernel
theorem dX11_colour_35 : decode cX11_colour 35 = .ok (.iaload, 1) := by decide +kernel
theorem dX11_colour_36 : decode cX11_colour 36 = .ok (.istore 4, 2) := by decide +kernel
theorem dX11_colour_38 : decode cX11_colour 38 = .ok (.aload_n 0, 1) := by decide +kernel
theorem dX11_colour_39 : decode cX11_colour 39 = .ok (.getfield 11, 3) := by decide +kernel
theorem dX11_colour_42 : decode cX11_colour 42 = .ok (.iload_n 1, 1) := by decide +kernel
theorem dX11_colour_43 : decode cX11_colour 43 = .ok (.aaload, 1) := by decide +kernel
theorem dX11_colour_44 : decode cX11_colour 44 = .ok (.getfield 123, 3) := by decide +kernel
theorem dX11_colour_47 : decode cX11_colour 47 = .ok (.iload_n 2, 1) := by decide +kernel
theorem dX11_colour_48 : decode cX11_colour 48 = .ok (.iload_n 3, 1) := by decide +kernel
theorem dX11_colour_49 : decode cX11_colour 49 = .ok (.iastore, 1) := by decide +kernel
theorem dX11_colour_50 : decode cX11_colour 50 = .ok (.iload 4, 2) := by decide +kernel
theorem dX11_colour_52 : decode cX11_colour 52 = .ok (.ireturn, 1) := by decide +kernel
def PM_X11_colour (d : Nat) (E : zb_E) (x0 : Int) (x1 : Int) (x2 : Int) (x3 : Int) (m : zb_M) (Q : Int → zb_M → Prop) : Prop :=
  zb_Tp K_X11_isThing d [(2, x0), (0, x1), (0, x2)] E m (fun r3 => (r3 = 0 → Q (-1) m) ∧ (¬ r3 = 0 → zb_Tp K_X11_isBelow d [(0, x3), (0, 10)] E m (fun r12 => (r12 = 0 → Q (-1) m) ∧ (¬ r12 = 0 → zb_T K_X11_keep d [(2, x0), (0, x1)] E m (fun r22 m22 => (0 ≤ x1 ∧ x1 < 8) ∧ ((0 ≤ x2 ∧ x2 < 12) ∧ (∀ m49, m49 = zb_up m22 (E.2 (E.2 (E.2 x0 0) x1) 2) x2 x3 → (Q (m22 (E.2 (E.2 (E.2 x0 0) x1) 2) x2) m49))))))))
set_option maxRecDepth 100000 in
set_option maxHeartbeats 4000000 in
theorem w_X11_colour {d : Nat} {E : zb_E} {x0 x1 x2 x3 : Int} {m : zb_M} {Q : Int → zb_M → Prop} (h : PM_X11_colour d E x0 x1 x2 x3 m Q) : zb_T K_X11_colour (d + 1) [(2, x0), (0, x1), (0, x2), (0, x3)] E m Q := by
  unfold PM_X11_colour at h
  refine zb_T_in gd_X11_colour rfl rfl (fun hW hA G C hF => ?_)
  have i_0 : zb_is E.1 x0 11 := zb_aH hA (by decide)
  show zb_WP _ _ 0 [(0, (2, x0)), (1, (0, x1)), (2, (0, x2)), (3, (0, x3))] [] _ _ _ _
  refine zb_aload_n (j := 0) dX11_colour_0 rfl rfl ?_
  refine zb_iload_n (j := 1) dX11_colour_1 rfl rfl ?_
  refine zb_iload_n (j := 2) dX11_colour_2 rfl rfl ?_
  refine zb_cVp (As := [(0, x1), (0, x2)]) (As' := [(0, x2), (0, x1)]) (st := []) dX11_colour_3 lk_X11_120 gd_X11_isThing rfl rfl i_0 ⟨_, rfl, rfl⟩ h hW hF (zb_aR i_0 (zb_aI (zb_aI zb_a0))) (Nat.le_refl _) (Nat.le_of_ble_eq_true rfl) (fun r3 h => ?_)
  show zb_WP _ _ _ _ [(0, r3)] _ _ _ _
  refine zb_if_eq (tgt := 18) dX11_colour_6 (by decide) (fun c1 => ?_) (fun c1 => ?_)
  · have h := h.1 c1
    refine zb_iconst dX11_colour_18 (zb_inIc rfl) ?_
    exact zb_rI dX11_colour_19 rfl hF h
  · have h := h.2 c1
    refine zb_iload_n (j := 3) dX11_colour_9 rfl rfl ?_
    refine zb_bipush dX11_colour_10 (by decide) (zb_inIc rfl) ?_
    refine zb_cSp (As := [(0, x3), (0, 10)]) (As' := [(0, 10), (0, x3)]) (st := []) dX11_colour_12 lk_X11_101 gd_X11_isBelow rfl rfl h hW hF (zb_aI (zb_aI zb_a0)) (Nat.le_refl _) (Nat.le_of_ble_eq_true rfl) (fun r12 h => ?_)
    show zb_WP _ _ _ _ [(0, r12)] _ _ _ _
    refine zb_if_ne (tgt := 20) dX11_colour_15 (by decide) (fun c2 => ?_) (fun c2 => ?_)
    · have h := h.2 c2
      refine zb_aload_n (j := 0) dX11_colour_20 rfl rfl ?_
      refine zb_iload_n (j := 1) dX11_colour_21 rfl rfl ?_
      refine zb_cV (As := [(0, x1)]) (As' := [(0, x1)]) (st := []) dX11_colour_22 lk_X11_112 gd_X11_keep rfl rfl i_0 ⟨_, rfl, rfl⟩ h hW hF (zb_aR i_0 (zb_aI zb_a0)) (Nat.le_refl _) (Nat.le_of_ble_eq_true rfl) (fun r22 m22 hF h => ?_)
      show zb_WP _ _ _ _ [] _ _ _ _
      refine zb_aload_n (j := 0) dX11_colour_25 rfl rfl ?_
      refine zb_gFa 0 dX11_colour_26 fl_X11_11 i_0 hW hF rfl rfl rfl (by decide) rfl 8 rfl (fun i3 l4 => ?_)
      refine zb_iload_n (j := 1) dX11_colour_29 rfl rfl ?_
      obtain ⟨o5, h⟩ := h
      refine zb_lA 3 dX11_colour_30 i3 (by decide) l4 hW hF o5.1 o5.2 (fun i6 => ?_)
      refine zb_gFa 2 dX11_colour_31 fl_X11_123 i6 hW hF rfl rfl rfl (by decide) rfl 12 rfl (fun i7 l8 => ?_)
      refine zb_iload_n (j := 2) dX11_colour_34 rfl rfl ?_
      obtain ⟨o9, h⟩ := h
      refine zb_lI dX11_colour_35 i7 l8 o9.1 o9.2 ?_
      refine zb_istore (L' := [(4, (0, (m22 (E.2 (E.2 (E.2 x0 0) x1) 2) x2))), (0, (2, x0)), (1, (0, x1)), (2, (0, x2)), (3, (0, x3))]) dX11_colour_36 (by decide) rfl ?_
      refine zb_aload_n (j := 1) dX11_colour_38 rfl rfl ?_
      refine zb_gFa 0 dX11_colour_39 fl_X11_11 i_0 hW hF rfl rfl rfl (by decide) rfl 8 rfl (fun i10 l11 => ?_)
      refine zb_iload_n (j := 2) dX11_colour_42 rfl rfl ?_
      refine zb_lA 3 dX11_colour_43 i10 (by decide) l11 hW hF o5.1 o5.2 (fun i12 => ?_)
      refine zb_gFa 2 dX11_colour_44 fl_X11_123 i12 hW hF rfl rfl rfl (by decide) rfl 12 rfl (fun i13 l14 => ?_)
      refine zb_iload_n (j := 3) dX11_colour_47 rfl rfl ?_
      refine zb_iload_n (j := 4) dX11_colour_48 rfl rfl ?_
      refine zb_sI dX11_colour_49 i13 l14 o9.1 o9.2 hF (fun m49 e49 hF => ?_)
      have h := h m49 e49
      refine zb_iload (j := 0) dX11_colour_50 rfl ?_
      exact zb_rI dX11_colour_52 rfl hF h
    · have h := h.1 c2
      refine zb_iconst dX11_colour_18 (zb_inIc rfl) ?_
      exact zb_rI dX11_colour_19 rfl hF h
theorem dX11_word_0 : decode cX11_word 0 = .ok (.aload_n 0, 1) := by decide +kernel
theorem dX11_word_1 : decode cX11_word 1 = .ok (.iload_n 1, 1) := by decide +kernel
theorem dX11_word_2 : decode cX11_word 2 = .ok (.iload_n 2, 1) := by decide +kernel
theorem dX11_word_3 : decode cX11_word 3 = .ok (.invokevirtual 120, 3) := by decide +kernel
theorem dX11_word_6 : decode cX11_word 6 = .ok (.ifCond .eq 12, 3) := by decide +kernel
theorem dX11_word_9 : decode cX11_word 9 = .ok (.iload_n 3, 1) := by decide +kernel
theorem dX11_word_10 : decode cX11_word 10 = .ok (.bipush 100, 2) := by decide +kernel
theorem dX11_word_12 : decode cX11_word 12 = .ok (.invokestatic 101, 3) := by decide +kernel
theorem dX11_word_15 : decode cX11_word 15 = .ok (.ifCond .ne 5, 3) := by decide +kernel
theorem dX11_word_18 : decode cX11_word 18 = .ok (.iconst (-1), 1) := by decide +kernel
theorem dX11_word_19 : decode cX11_word 19 = .ok (.ireturn, 1) := by decide +kernel
theorem dX11_word_20 : decode cX11_word 20 = .ok (.aload_n 0, 1) := by decide +kernel
theorem dX11_word_21 : decode cX11_word 21 = .ok (.getfield 11, 3) := by decide +kernel
theorem dX11_word_24 : decode cX11_word 24 = .ok (.iload_n 1, 1) := by decide +kernel
theorem dX11_word_25 : decode cX11_word 25 = .ok (.aaload, 1) := by decide +kernel
theorem dX11_word_26 : decode cX11_word 26 = .ok (.iload_n 2, 1) := by decide +kernel
theorem dX11_word_27 : decode cX11_word 27 = .ok (.invokevirtual 127, 3) := by decide +kernel
theorem dX11_word_30 : decode cX11_word 30 = .ok (.ifCond .ne 6, 3) := by decide +kernel
theorem dX11_word_33 : decode cX11_word 33 = .ok (.bipush (-13), 2) := by decide +kernel
theorem dX11_word_35 : decode cX11_word 35 = .ok (.ireturn, 1) := by decide +kernel
theorem dX11_word_36 : decode cX11_word 36 = .ok (.aload_n 0, 1) := by decide +kernel
theorem dX11_word_37 : decode cX11_word 37 = .ok (.iload_n 1, 1) := by decide +kernel
theorem dX11_word_38 : decode cX11_word 38 = .ok (.invokevirtual 112, 3) := by decide +kernel
theorem dX11_word_41 : decode cX11_word 41 = .ok (.aload_n 0, 1) := by decide +kernel
theorem dX11_word_42 : decode cX11_word 42 = .ok (.getfield 11, 3) := by decide +kernel
theorem dX11_word_45 : decode cX11_word 45 = .ok (.iload_n 1, 1) := by decide +kernel
theorem dX11_word_46 : decode cX11_word 46 = .ok (.aaload, 1) := by decide +kernel
theorem dX11_word_47 : decode cX11_word 47 = .ok (.getfield 130, 3) := by decide +kernel
theorem dX11_word_50 : decode cX11_word 50 = .ok (.iload_n 2, 1) := by decide +kernel
theorem dX11_word_51 : decode cX11_word 51 = .ok (.iaload, 1) := by decide +kernel
theorem dX11_word_52 : decode cX11_word 52 = .ok (.istore 4, 2) := by decide +kernel
theorem dX11_word_54 : decode cX11_word 54 = .ok (.aload_n 0, 1) := by decide +kernel
theorem dX11_word_55 : decode cX11_word 55 = .ok (.getfield 11, 3) := by decide +kernel
theorem dX11_word_58 : decode cX11_word 58 = .ok (.iload_n 1, 1) := by decide +kernel
theorem dX11_word_59 : decode cX11_word 59 = .ok (.aaload, 1) := by decide +kernel
theorem dX11_word_60 : decode cX11_word 60 = .ok (.getfield 130, 3) := by decide +kernel
theorem dX11_word_63 : decode cX11_word 63 = .ok (.iload_n 2, 1) := by decide +kernel
theorem dX11_word_64 : decode cX11_word 64 = .ok (.iload_n 3, 1) := by decide +kernel
theorem dX11_word_65 : decode cX11_word 65 = .ok (.iastore, 1) := by decide +kernel
theorem dX11_word_66 : decode cX11_word 66 = .ok (.iload 4, 2) := by decide +kernel
theorem dX11_word_68 : decode cX11_word 68 = .ok (.ireturn, 1) := by decide +kernel
def PM_X11_word (d : Nat) (E : zb_E) (x0 : Int) (x1 : Int) (x2 : Int) (x3 : Int) (m : zb_M) (Q : Int → zb_M → Prop) : Prop :=
  zb_Tp K_X11_isThing d [(2, x0), (0, x1), (0, x2)] E m (fun r3 => (r3 = 0 → Q (-1) m) ∧ (¬ r3 = 0 → zb_Tp K_X11_isBelow d [(0, x3), (0, 100)] E m (fun r12 => (r12 = 0 → Q (-1) m) ∧ (¬ r12 = 0 → (0 ≤ x1 ∧ x1 < 8) ∧ (zb_Tp K_X4_isNamed d [(2, (E.2 (E.2 x0 0) x1)), (0, x2)] E m (fun r27 => (r27 = 0 → Q (-13) m) ∧ (¬ r27 = 0 → zb_T K_X11_keep d [(2, x0), (0, x1)] E m (fun r38 m38 => (0 ≤ x2 ∧ x2 < 12) ∧ (∀ m65, m65 = zb_up m38 (E.2 (E.2 (E.2 x0 0) x1) 3) x2 x3 → (Q (m38 (E.2 (E.2 (E.2 x0 0) x1) 3) x2) m65))))))))))
set_option maxRecDepth 100000 in
set_option maxHeartbeats 4000000 in
theorem w_X11_word {d : Nat} {E : zb_E} {x0 x1 x2 x3 : Int} {m : zb_M} {Q : Int → zb_M → Prop} (h : PM_X11_word d E x0 x1 x2 x3 m Q) : zb_T K_X11_word (d + 1) [(2, x0), (0, x1), (0, x2), (0, x3)] E m Q := by
  unfold PM_X11_word at h
  refine zb_T_in gd_X11_word rfl rfl (fun hW hA G C hF => ?_)
  have i_0 : zb_is E.1 x0 11 := zb_aH hA (by decide)
  show zb_WP _ _ 0 [(0, (2, x0)), (1, (0, x1)), (2, (0, x2)), (3, (0, x3))] [] _ _ _ _
  refine zb_aload_n (j := 0) dX11_word_0 rfl rfl ?_
  refine zb_iload_n (j := 1) dX11_word_1 rfl rfl ?_
  refine zb_iload_n (j := 2) dX11_word_2 rfl rfl ?_
  refine zb_cVp (As := [(0, x1), (0, x2)]) (As' := [(0, x2), (0, x1)]) (st := []) dX11_word_3 lk_X11_120 gd_X11_isThing rfl rfl i_0 ⟨_, rfl, rfl⟩ h hW hF (zb_aR i_0 (zb_aI (zb_aI zb_a0))) (Nat.le_refl _) (Nat.le_of_ble_eq_true rfl) (fun r3 h => ?_)
  show zb_WP _ _ _ _ [(0, r3)] _ _ _ _
  refine zb_if_eq (tgt := 18) dX11_word_6 (by decide) (fun c1 => ?_) (fun c1 => ?_)
  · have h := h.1 c1
    refine zb_iconst dX11_word_18 (zb_inIc rfl) ?_
    exact zb_rI dX11_word_19 rfl hF h
  · have h := h.2 c1
    refine zb_iload_n (j := 3) dX11_word_9 rfl rfl ?_
    refine zb_bipush dX11_word_10 (by decide) (zb_inIc rfl) ?_
    refine zb_cSp (As := [(0, x3), (0, 100)]) (As' := [(0, 100), (0, x3)]) (st := []) dX11_word_12 lk_X11_101 gd_X11_isBelow rfl rfl h hW hF (zb_aI (zb_aI zb_a0)) (Nat.le_refl _) (Nat.le_of_ble_eq_true rfl) (fun r12 h => ?_)
    show zb_WP _ _ _ _ [(0, r12)] _ _ _ _
    refine zb_if_ne (tgt := 20) dX11_word_15 (by decide) (fun c2 => ?_) (fun c2 => ?_)
    · have h := h.2 c2
      refine zb_aload_n (j := 0) dX11_word_20 rfl rfl ?_
      refine zb_gFa 0 dX11_word_21 fl_X11_11 i_0 hW hF rfl rfl rfl (by decide) rfl 8 rfl (fun i3 l4 => ?_)
      refine zb_iload_n (j := 1) dX11_word_24 rfl rfl ?_
      obtain ⟨o5, h⟩ := h
      refine zb_lA 3 dX11_word_25 i3 (by decide) l4 hW hF o5.1 o5.2 (fun i6 => ?_)
      refine zb_iload_n (j := 2) dX11_word_26 rfl rfl ?_
      refine zb_cVp (As := [(0, x2)]) (As' := [(0, x2)]) (st := []) dX11_word_27 lk_X11_127 gd_X4_isNamed rfl rfl i6 ⟨_, rfl, rfl⟩ h hW hF (zb_aR i6 (zb_aI zb_a0)) (Nat.le_refl _) (Nat.le_of_ble_eq_true rfl) (fun r27 h => ?_)
      show zb_WP _ _ _ _ [(0, r27)] _ _ _ _
      refine zb_if_ne (tgt := 36) dX11_word_30 (by decide) (fun c7 => ?_) (fun c7 => ?_)
      · have h := h.2 c7
        refine zb_aload_n (j := 0) dX11_word_36 rfl rfl ?_
        refine zb_iload_n (j := 1) dX11_word_37 rfl rfl ?_
        refine zb_cV (As := [(0, x1)]) (As' := [(0, x1)]) (st := []) dX11_word_38 lk_X11_112 gd_X11_keep rfl rfl i_0 ⟨_, rfl, rfl⟩ h hW hF (zb_aR i_0 (zb_aI zb_a0)) (Nat.le_refl _) (Nat.le_of_ble_eq_true rfl) (fun r38 m38 hF h => ?_)
        show zb_WP _ _ _ _ [] _ _ _ _
        refine zb_aload_n (j := 0) dX11_word_41 rfl rfl ?_
        refine zb_gFa 0 dX11_word_42 fl_X11_11 i_0 hW hF rfl rfl rfl (by decide) rfl 8 rfl (fun i8 l9 => ?_)
        refine zb_iload_n (j := 1) dX11_word_45 rfl rfl ?_
        refine zb_lA 3 dX11_word_46 i8 (by decide) l9 hW hF o5.1 o5.2 (fun i10 => ?_)
        refine zb_gFa 3 dX11_word_47 fl_X11_130 i10 hW hF rfl rfl rfl (by decide) rfl 12 rfl (fun i11 l12 => ?_)
        refine zb_iload_n (j := 2) dX11_word_50 rfl rfl ?_
        obtain ⟨o13, h⟩ := h
        refine zb_lI dX11_word_51 i11 l12 o13.1 o13.2 ?_
        refine zb_istore (L' := [(4, (0, (m38 (E.2 (E.2 (E.2 x0 0) x1) 3) x2))), (0, (2, x0)), (1, (0, x1)), (2, (0, x2)), (3, (0, x3))]) dX11_word_52 (by decide) rfl ?_
        refine zb_aload_n (j := 1) dX11_word_54 rfl rfl ?_
        refine zb_gFa 0 dX11_word_55 fl_X11_11 i_0 hW hF rfl rfl rfl (by decide) rfl 8 rfl (fun i14 l15 => ?_)
        refine zb_iload_n (j := 2) dX11_word_58 rfl rfl ?_
        refine zb_lA 3 dX11_word_59 i14 (by decide) l15 hW hF o5.1 o5.2 (fun i16 => ?_)
        refine zb_gFa 3 dX11_word_60 fl_X11_130 i16 hW hF rfl rfl rfl (by decide) rfl 12 rfl (fun i17 l18 => ?_)
        refine zb_iload_n (j := 3) dX11_word_63 rfl rfl ?_
        refine zb_iload_n (j := 4) dX11_word_64 rfl rfl ?_
        refine zb_sI dX11_word_65 i17 l18 o13.1 o13.2 hF (fun m65 e65 hF => ?_)
        have h := h m65 e65
        refine zb_iload (j := 0) dX11_word_66 rfl ?_
        exact zb_rI dX11_word_68 rfl hF h
      · have h := h.1 c7
        refine zb_bipush dX11_word_33 (by decide) (zb_inIc rfl) ?_
        exact zb_rI dX11_word_35 rfl hF h
    · have h := h.1 c2
      refine zb_iconst dX11_word_18 (zb_inIc rfl) ?_
      exact zb_rI dX11_word_19 rfl hF h
theorem dX11_row_0 : decode cX11_row 0 = .ok (.aload_n 0, 1) := by decide +kernel
theorem dX11_row_1 : decode cX11_row 1 = .ok (.iload_n 1, 1) := by decide +kernel
theorem dX11_row_2 : decode cX11_row 2 = .ok (.iload_n 2, 1) := by decide +kernel
theorem dX11_row_3 : decode cX11_row 3 = .ok (.invokevirtual 120, 3) := by decide +kernel
theorem dX11_row_6 : decode cX11_row 6 = .ok (.ifCond .eq 9, 3) := by decide +kernel
theorem dX11_row_9 : decode cX11_row 9 = .ok (.iload_n 3, 1) := by decide +kernel
theorem dX11_row_10 : decode cX11_row 10 = .ok (.bipush 12, 2) := by decide +kernel
theorem dX11_row_12 : decode cX11_row 12 = .ok (.if_icmp .le 5, 3) := by decide +kernel
theorem dX11_row_15 : decode cX11_row 15 = .ok (.iconst (-1), 1) := by decide +kernel
theorem dX11_row_16 : decode cX11_row 16 = .ok (.ireturn, 1) := by decide +kernel
theorem dX11_row_17 : decode cX11_row 17 = .ok (.iload_n 3, 1) := by decide +kernel
theorem dX11_row_18 : decode cX11_row 18 = .ok (.ifCond .ge 6, 3) := by decide +kernel
theorem dX11_row_21 : decode cX11_row 21 = .ok (.bipush (-14), 2) := by decide +kernel
theorem dX11_row_23 : decode cX11_row 23 = .ok (.ireturn, 1) := by decide +kernel
theorem dX11_row_24 : decode cX11_row 24 = .ok (.aload_n 0, 1) := by decide +kernel
theorem dX11_row_25 : decode cX11_row 25 = .ok (.iload_n 1, 1) := by decide +kernel
theorem dX11_row_26 : decode cX11_row 26 = .ok (.invokevirtual 112, 3) := by decide +kernel
theorem dX11_row_29 : decode cX11_row 29 = .ok (.aload_n 0, 1) := by decide +kernel
theorem dX11_row_30 : decode cX11_row 30 = .ok (.getfield 11, 3) := by decide +kernel
theorem dX11_row_33 : decode cX11_row 33 = .ok (.iload_n 1, 1) := by decide +kernel
theorem dX11_row_34 : decode cX11_row 34 = .ok (.aaload, 1) := by decide +kernel
theorem dX11_row_35 : decode cX11_row 35 = .ok (.iload_n 2, 1) := by decide +kernel
theorem dX11_row_36 : decode cX11_row 36 = .ok (.iload_n 3, 1) := by decide +kernel
theorem dX11_row_37 : decode cX11_row 37 = .ok (.invokevirtual 133, 3) := by decide +kernel
theorem dX11_row_40 : decode cX11_row 40 = .ok (.iconst 1, 1) := by decide +kernel
theorem dX11_row_41 : decode cX11_row 41 = .ok (.ireturn, 1) := by decide +kernel
def PM_X11_row (d : Nat) (E : zb_E) (x0 : Int) (x1 : Int) (x2 : Int) (x3 : Int) (m : zb_M) (Q : Int → zb_M → Prop) : Prop :=
  zb_Tp K_X11_isThing d [(2, x0), (0, x1), (0, x2)] E m (fun r3 => (r3 = 0 → Q (-1) m) ∧ (¬ r3 = 0 → (x3 ≤ 12 → (0 ≤ x3 → zb_T K_X11_keep d [(2, x0), (0, x1)] E m (fun r26 m26 => (0 ≤ x1 ∧ x1 < 8) ∧ (zb_T K_X4_clearRow d [(2, (E.2 (E.2 x0 0) x1)), (0, x2), (0, x3)] E m26 (fun r37 m37 => Q 1 m37)))) ∧ (¬ 0 ≤ x3 → Q (-14) m)) ∧ (¬ x3 ≤ 12 → Q (-1) m)))
set_option maxRecDepth 100000 in
set_option maxHeartbeats 4000000 in
theorem w_X11_row {d : Nat} {E : zb_E} {x0 x1 x2 x3 : Int} {m : zb_M} {Q : Int → zb_M → Prop} (h : PM_X11_row d E x0 x1 x2 x3 m Q) : zb_T K_X11_row (d + 1) [(2, x0), (0, x1), (0, x2), (0, x3)] E m Q := by
  unfold PM_X11_row at h
  refine zb_T_in gd_X11_row rfl rfl (fun hW hA G C hF => ?_)
  have i_0 : zb_is E.1 x0 11 := zb_aH hA (by decide)
  show zb_WP _ _ 0 [(0, (2, x0)), (1, (0, x1)), (2, (0, x2)), (3, (0, x3))] [] _ _ _ _
  refine zb_aload_n (j := 0) dX11_row_0 rfl rfl ?_
  refine zb_iload_n (j := 1) dX11_row_1 rfl rfl ?_
  refine zb_iload_n (j := 2) dX11_row_2 rfl rfl ?_
  refine zb_cVp (As := [(0, x1), (0, x2)]) (As' := [(0, x2), (0, x1)]) (st := []) dX11_row_3 lk_X11_120 gd_X11_isThing rfl rfl i_0 ⟨_, rfl, rfl⟩ h hW hF (zb_aR i_0 (zb_aI (zb_aI zb_a0))) (Nat.le_refl _) (Nat.le_of_ble_eq_true rfl) (fun r3 h => ?_)
  show zb_WP _ _ _ _ [(0, r3)] _ _ _ _
  refine zb_if_eq (tgt := 15) dX11_row_6 (by decide) (fun c1 => ?_) (fun c1 => ?_)
  · have h := h.1 c1
    refine zb_iconst dX11_row_15 (zb_inIc rfl) ?_
    exact zb_rI dX11_row_16 rfl hF h
  · have h := h.2 c1
    refine zb_iload_n (j := 3) dX11_row_9 rfl rfl ?_
    refine zb_bipush dX11_row_10 (by decide) (zb_inIc rfl) ?_
    refine zb_icmp_le (tgt := 17) dX11_row_12 (by decide) (fun c2 => ?_) (fun c2 => ?_)
    · have h := h.1 c2
      refine zb_iload_n (j := 3) dX11_row_17 rfl rfl ?_
      refine zb_if_ge (tgt := 24) dX11_row_18 (by decide) (fun c3 => ?_) (fun c3 => ?_)
      · have h := h.1 c3
        refine zb_aload_n (j := 0) dX11_row_24 rfl rfl ?_
        refine zb_iload_n (j := 1) dX11_row_25 rfl rfl ?_
        refine zb_cV (As := [(0, x1)]) (As' := [(0, x1)]) (st := []) dX11_row_26 lk_X11_112 gd_X11_keep rfl rfl i_0 ⟨_, rfl, rfl⟩ h hW hF (zb_aR i_0 (zb_aI zb_a0)) (Nat.le_refl _) (Nat.le_of_ble_eq_true rfl) (fun r26 m26 hF h => ?_)
        show zb_WP _ _ _ _ [] _ _ _ _
        refine zb_aload_n (j := 0) dX11_row_29 rfl rfl ?_
        refine zb_gFa 0 dX11_row_30 fl_X11_11 i_0 hW hF rfl rfl rfl (by decide) rfl 8 rfl (fun i4 l5 => ?_)
        refine zb_iload_n (j := 1) dX11_row_33 rfl rfl ?_
        obtain ⟨o6, h⟩ := h
        refine zb_lA 3 dX11_row_34 i4 (by decide) l5 hW hF o6.1 o6.2 (fun i7 => ?_)
        refine zb_iload_n (j := 2) dX11_row_35 rfl rfl ?_
        refine zb_iload_n (j := 3) dX11_row_36 rfl rfl ?_
        refine zb_cV (As := [(0, x2), (0, x3)]) (As' := [(0, x3), (0, x2)]) (st := []) dX11_row_37 lk_X11_133 gd_X4_clearRow rfl rfl i7 ⟨_, rfl, rfl⟩ h hW hF (zb_aR i7 (zb_aI (zb_aI zb_a0))) (Nat.le_refl _) (Nat.le_of_ble_eq_true rfl) (fun r37 m37 hF h => ?_)
        show zb_WP _ _ _ _ [] _ _ _ _
        refine zb_iconst dX11_row_40 (zb_inIc rfl) ?_
        exact zb_rI dX11_row_41 rfl hF h
      · have h := h.2 c3
        refine zb_bipush dX11_row_21 (by decide) (zb_inIc rfl) ?_
        exact zb_rI dX11_row_23 rfl hF h
    · have h := h.2 c2
      refine zb_iconst dX11_row_15 (zb_inIc rfl) ?_
      exact zb_rI dX11_row_16 rfl hF h
theorem dX11_unrow_0 : decode cX11_unrow 0 = .ok (.aload_n 0, 1) := by decide +kernel
theorem dX11_unrow_1 : decode cX11_unrow 1 = .ok (.iload_n 1, 1) := by decide +kernel
theorem dX11_unrow_2 : decode cX11_unrow 2 = .ok (.iload_n 2, 1) := by decide +kernel
theorem dX11_unrow_3 : decode cX11_unrow 3 = .ok (.invokevirtual 120, 3) := by decide +kernel
theorem dX11_unrow_6 : decode cX11_unrow 6 = .ok (.ifCond .ne 5, 3) := by decide +kernel
theorem dX11_unrow_9 : decode cX11_unrow 9 = .ok (.iconst (-1), 1) := by decide +kernel
theorem dX11_unrow_10 : decode cX11_unrow 10 = .ok (.ireturn, 1) := by decide +kernel
theorem dX11_unrow_11 : decode cX11_unrow 11 = .ok (.aload_n 0, 1) := by decide +kernel
theorem dX11_unrow_12 : decode cX11_unrow 12 = .ok (.getfield 11, 3) := by decide +kernel
theorem dX11_unrow_15 : decode cX11_unrow 15 = .ok (.iload_n 1, 1) := by decide +kernel
theorem dX11_unrow_16 : decode cX11_unrow 16 = .ok (.aaload, 1) := by decide +kernel
theorem dX11_unrow_17 : decode cX11_unrow 17 = .ok (.iload_n 2, 1) := by decide +kernel
theorem dX11_unrow_18 : decode cX11_unrow 18 = .ok (.invokevirtual 137, 3) := by decide +kernel
theorem dX11_unrow_21 : decode cX11_unrow 21 = .ok (.ifCond .ne 6, 3) := by decide +kernel
theorem dX11_unrow_24 : decode cX11_unrow 24 = .ok (.bipush (-11), 2) := by decide +kernel
theorem dX11_unrow_26 : decode cX11_unrow 26 = .ok (.ireturn, 1) := by decide +kernel
theorem dX11_unrow_27 : decode cX11_unrow 27 = .ok (.aload_n 0, 1) := by decide +kernel
theorem dX11_unrow_28 : decode cX11_unrow 28 = .ok (.iload_n 1, 1) := by decide +kernel
theorem dX11_unrow_29 : decode cX11_unrow 29 = .ok (.invokevirtual 112, 3) := by decide +kernel
theorem dX11_unrow_32 : decode cX11_unrow 32 = .ok (.aload_n 0, 1) := by decide +kernel
theorem dX11_unrow_33 : decode cX11_unrow 33 = .ok (.getfield 11, 3) := by decide +kernel
theorem dX11_unrow_36 : decode cX11_unrow 36 = .ok (.iload_n 1, 1) := by decide +kernel
theorem dX11_unrow_37 : decode cX11_unrow 37 = .ok (.aaload, 1) := by decide +kernel
theorem dX11_unrow_38 : decode cX11_unrow 38 = .ok (.getfield 140, 3) := by decide +kernel
theorem dX11_unrow_41 : decode cX11_unrow 41 = .ok (.iload_n 2, 1) := by decide +kernel
theorem dX11_unrow_42 : decode cX11_unrow 42 = .ok (.iaload, 1) := by decide +kernel
theorem dX11_unrow_43 : decode cX11_unrow 43 = .ok (.istore_n 3, 1) := by decide +kernel
theorem dX11_unrow_44 : decode cX11_unrow 44 = .ok (.aload_n 0, 1) := by decide +kernel
theorem dX11_unrow_45 : decode cX11_unrow 45 = .ok (.getfield 11, 3) := by decide +kernel
theorem dX11_unrow_48 : decode cX11_unrow 48 = .ok (.iload_n 1, 1) := by decide +kernel
theorem dX11_unrow_49 : decode cX11_unrow 49 = .ok (.aaload, 1) := by decide +kernel
theorem dX11_unrow_50 : decode cX11_unrow 50 = .ok (.iload_n 2, 1) := by decide +kernel
theorem dX11_unrow_51 : decode cX11_unrow 51 = .ok (.iconst (-1), 1) := by decide +kernel
theorem dX11_unrow_52 : decode cX11_unrow 52 = .ok (.invokevirtual 133, 3) := by decide +kernel
theorem dX11_unrow_55 : decode cX11_unrow 55 = .ok (.iload_n 3, 1) := by decide +kernel
theorem dX11_unrow_56 : decode cX11_unrow 56 = .ok (.ireturn, 1) := by decide +kernel
def PM_X11_unrow (d : Nat) (E : zb_E) (x0 : Int) (x1 : Int) (x2 : Int) (m : zb_M) (Q : Int → zb_M → Prop) : Prop :=
  zb_Tp K_X11_isThing d [(2, x0), (0, x1), (0, x2)] E m (fun r3 => (r3 = 0 → Q (-1) m) ∧ (¬ r3 = 0 → (0 ≤ x1 ∧ x1 < 8) ∧ (zb_Tp K_X4_hasRow d [(2, (E.2 (E.2 x0 0) x1)), (0, x2)] E m (fun r18 => (r18 = 0 → Q (-11) m) ∧ (¬ r18 = 0 → zb_T K_X11_keep d [(2, x0), (0, x1)] E m (fun r29 m29 => (0 ≤ x2 ∧ x2 < 12) ∧ (zb_T K_X4_clearRow d [(2, (E.2 (E.2 x0 0) x1)), (0, x2), (0, (-1))] E m29 (fun r52 m52 => Q (m29 (E.2 (E.2 (E.2 x0 0) x1) 4) x2) m52))))))))
set_option maxRecDepth 100000 in
set_option maxHeartbeats 4000000 in
theorem w_X11_unrow {d : Nat} {E : zb_E} {x0 x1 x2 : Int} {m : zb_M} {Q : Int → zb_M → Prop} (h : PM_X11_unrow d E x0 x1 x2 m Q) : zb_T K_X11_unrow (d + 1) [(2, x0), (0, x1), (0, x2)] E m Q := by
  unfold PM_X11_unrow at h
  refine zb_T_in gd_X11_unrow rfl rfl (fun hW hA G C hF => ?_)
  have i_0 : zb_is E.1 x0 11 := zb_aH hA (by decide)
  show zb_WP _ _ 0 [(0, (2, x0)), (1, (0, x1)), (2, (0, x2))] [] _ _ _ _
  refine zb_aload_n (j := 0) dX11_unrow_0 rfl rfl ?_
  refine zb_iload_n (j := 1) dX11_unrow_1 rfl rfl ?_
  refine zb_iload_n (j := 2) dX11_unrow_2 rfl rfl ?_
  refine zb_cVp (As := [(0, x1), (0, x2)]) (As' := [(0, x2), (0, x1)]) (st := []) dX11_unrow_3 lk_X11_120 gd_X11_isThing rfl rfl i_0 ⟨_, rfl, rfl⟩ h hW hF (zb_aR i_0 (zb_aI (zb_aI zb_a0))) (Nat.le_refl _) (Nat.le_of_ble_eq_true rfl) (fun r3 h => ?_)
  show zb_WP _ _ _ _ [(0, r3)] _ _ _ _
  refine zb_if_ne (tgt := 11) dX11_unrow_6 (by decide) (fun c1 => ?_) (fun c1 => ?_)
  · have h := h.2 c1
    refine zb_aload_n (j := 0) dX11_unrow_11 rfl rfl ?_
    refine zb_gFa 0 dX11_unrow_12 fl_X11_11 i_0 hW hF rfl rfl rfl (by decide) rfl 8 rfl (fun i2 l3 => ?_)
    refine zb_iload_n (j := 1) dX11_unrow_15 rfl rfl ?_
    obtain ⟨o4, h⟩ := h
    refine zb_lA 3 dX11_unrow_16 i2 (by decide) l3 hW hF o4.1 o4.2 (fun i5 => ?_)
    refine zb_iload_n (j := 2) dX11_unrow_17 rfl rfl ?_
    refine zb_cVp (As := [(0, x2)]) (As' := [(0, x2)]) (st := []) dX11_unrow_18 lk_X11_137 gd_X4_hasRow rfl rfl i5 ⟨_, rfl, rfl⟩ h hW hF (zb_aR i5 (zb_aI zb_a0)) (Nat.le_refl _) (Nat.le_of_ble_eq_true rfl) (fun r18 h => ?_)
    show zb_WP _ _ _ _ [(0, r18)] _ _ _ _
    refine zb_if_ne (tgt := 27) dX11_unrow_21 (by decide) (fun c6 => ?_) (fun c6 => ?_)
    · have h := h.2 c6
      refine zb_aload_n (j := 0) dX11_unrow_27 rfl rfl ?_
      refine zb_iload_n (j := 1) dX11_unrow_28 rfl rfl ?_
      refine zb_cV (As := [(0, x1)]) (As' := [(0, x1)]) (st := []) dX11_unrow_29 lk_X11_112 gd_X11_keep rfl rfl i_0 ⟨_, rfl, rfl⟩ h hW hF (zb_aR i_0 (zb_aI zb_a0)) (Nat.le_refl _) (Nat.le_of_ble_eq_true rfl) (fun r29 m29 hF h => ?_)
      show zb_WP _ _ _ _ [] _ _ _ _
      refine zb_aload_n (j := 0) dX11_unrow_32 rfl rfl ?_
      refine zb_gFa 0 dX11_unrow_33 fl_X11_11 i_0 hW hF rfl rfl rfl (by decide) rfl 8 rfl (fun i7 l8 => ?_)
      refine zb_iload_n (j := 1) dX11_unrow_36 rfl rfl ?_
      refine zb_lA 3 dX11_unrow_37 i7 (by decide) l8 hW hF o4.1 o4.2 (fun i9 => ?_)
      refine zb_gFa 4 dX11_unrow_38 fl_X11_140 i9 hW hF rfl rfl rfl (by decide) rfl 12 rfl (fun i10 l11 => ?_)
      refine zb_iload_n (j := 2) dX11_unrow_41 rfl rfl ?_
      obtain ⟨o12, h⟩ := h
      refine zb_lI dX11_unrow_42 i10 l11 o12.1 o12.2 ?_
      refine zb_istore_n (L' := [(3, (0, (m29 (E.2 (E.2 (E.2 x0 0) x1) 4) x2))), (0, (2, x0)), (1, (0, x1)), (2, (0, x2))]) dX11_unrow_43 rfl (by decide) rfl ?_
      refine zb_aload_n (j := 1) dX11_unrow_44 rfl rfl ?_
      refine zb_gFa 0 dX11_unrow_45 fl_X11_11 i_0 hW hF rfl rfl rfl (by decide) rfl 8 rfl (fun i13 l14 => ?_)
      refine zb_iload_n (j := 2) dX11_unrow_48 rfl rfl ?_
      refine zb_lA 3 dX11_unrow_49 i13 (by decide) l14 hW hF o4.1 o4.2 (fun i15 => ?_)
      refine zb_iload_n (j := 3) dX11_unrow_50 rfl rfl ?_
      refine zb_iconst dX11_unrow_51 (zb_inIc rfl) ?_
      refine zb_cV (As := [(0, x2), (0, (-1))]) (As' := [(0, (-1)), (0, x2)]) (st := []) dX11_unrow_52 lk_X11_133 gd_X4_clearRow rfl rfl i15 ⟨_, rfl, rfl⟩ h hW hF (zb_aR i15 (zb_aI (zb_aI zb_a0))) (Nat.le_refl _) (Nat.le_of_ble_eq_true rfl) (fun r52 m52 hF h => ?_)
      show zb_WP _ _ _ _ [] _ _ _ _
      refine zb_iload_n (j := 0) dX11_unrow_55 rfl rfl ?_
      exact zb_rI dX11_unrow_56 rfl hF h
    · have h := h.1 c6
      refine zb_bipush dX11_unrow_24 (by decide) (zb_inIc rfl) ?_
      exact zb_rI dX11_unrow_26 rfl hF h
  · have h := h.1 c1
    refine zb_iconst dX11_unrow_9 (zb_inIc rfl) ?_
    exact zb_rI dX11_unrow_10 rfl hF h
theorem dX11_place_0 : decode cX11_place 0 = .ok (.aload_n 0, 1) := by decide +kernel
theorem dX11_place_1 : decode cX11_place 1 = .ok (.iload_n 1, 1) := by decide +kernel
theorem dX11_place_2 : decode cX11_place 2 = .ok (.iload_n 2, 1) := by decide +kernel
theorem dX11_place_3 : decode cX11_place 3 = .ok (.invokevirtual 120, 3) := by decide +kernel
theorem dX11_place_6 : decode cX11_place 6 = .ok (.ifCond .eq 13, 3) := by decide +kernel
theorem dX11_place_9 : decode cX11_place 9 = .ok (.iload 4, 2) := by decide +kernel
theorem dX11_place_11 : decode cX11_place 11 = .ok (.bipush 10, 2) := by decide +kernel
theorem dX11_place_13 : decode cX11_place 13 = .ok (.invokestatic 101, 3) := by decide +kernel
theorem dX11_place_16 : decode cX11_place 16 = .ok (.ifCond .ne 5, 3) := by decide +kernel
theorem dX11_place_19 : decode cX11_place 19 = .ok (.iconst (-1), 1) := by decide +kernel
theorem dX11_place_20 : decode cX11_place 20 = .ok (.ireturn, 1) := by decide +kernel
theorem dX11_place_21 : decode cX11_place 21 = .ok (.aload_n 0, 1) := by decide +kernel
theorem dX11_place_22 : decode cX11_place 22 = .ok (.getfield 11, 3) := by decide +kernel
theorem dX11_place_25 : decode cX11_place 25 = .ok (.iload_n 1, 1) := by decide +kernel
theorem dX11_place_26 : decode cX11_place 26 = .ok (.aaload, 1) := by decide +kernel
theorem dX11_place_27 : decode cX11_place 27 = .ok (.astore 5, 2) := by decide +kernel
theorem dX11_place_29 : decode cX11_place 29 = .ok (.aload 5, 2) := by decide +kernel
theorem dX11_place_31 : decode cX11_place 31 = .ok (.iload_n 2, 1) := by decide +kernel
theorem dX11_place_32 : decode cX11_place 32 = .ok (.invokevirtual 137, 3) := by decide +kernel
theorem dX11_place_35 : decode cX11_place 35 = .ok (.ifCond .ne 6, 3) := by decide +kernel
theorem dX11_place_38 : decode cX11_place 38 = .ok (.bipush (-11), 2) := by decide +kernel
theorem dX11_place_40 : decode cX11_place 40 = .ok (.ireturn, 1) := by decide +kernel
theorem dX11_place_41 : decode cX11_place 41 = .ok (.iload_n 3, 1) := by decide +kernel
theorem dX11_place_42 : decode cX11_place 42 = .ok (.aload 5, 2) := by decide +kernel
theorem dX11_place_44 : decode cX11_place 44 = .ok (.getfield 140, 3) := by decide +kernel
theorem dX11_place_47 : decode cX11_place 47 = .ok (.iload_n 2, 1) := by decide +kernel
theorem dX11_place_48 : decode cX11_place 48 = .ok (.iaload, 1) := by decide +kernel
theorem dX11_place_49 : decode cX11_place 49 = .ok (.invokestatic 101, 3) := by decide +kernel
theorem dX11_place_52 : decode cX11_place 52 = .ok (.ifCond .ne 6, 3) := by decide +kernel
theorem dX11_place_55 : decode cX11_place 55 = .ok (.bipush (-12), 2) := by decide +kernel
theorem dX11_place_57 : decode cX11_place 57 = .ok (.ireturn, 1) := by decide +kernel
theorem dX11_place_58 : decode cX11_place 58 = .ok (.aload_n 0, 1) := by decide +kernel
theorem dX11_place_59 : decode cX11_place 59 = .ok (.iload_n 1, 1) := by decide +kernel
theorem dX11_place_60 : decode cX11_place 60 = .ok (.invokevirtual 112, 3) := by decide +kernel
theorem dX11_place_63 : decode cX11_place 63 = .ok (.aload 5, 2) := by decide +kernel
theorem dX11_place_65 : decode cX11_place 65 = .ok (.iload_n 2, 1) := by decide +kernel
theorem dX11_place_66 : decode cX11_place 66 = .ok (.iload_n 3, 1) := by decide +kernel
theorem dX11_place_67 : decode cX11_place 67 = .ok (.invokevirtual 143, 3) := by decide +kernel
theorem dX11_place_70 : decode cX11_place 70 = .ok (.istore 6, 2) := by decide +kernel
theorem dX11_place_72 : decode cX11_place 72 = .ok (.aload 5, 2) := by decide +kernel
theorem dX11_place_74 : decode cX11_place 74 = .ok (.getfield 147, 3) := by decide +kernel
theorem dX11_place_77 : decode cX11_place 77 = .ok (.iload_n 2, 1) := by decide +kernel
theorem dX11_place_78 : decode cX11_place 78 = .ok (.bipush 12, 2) := by decide +kernel
theorem dX11_place_80 : decode cX11_place 80 = .ok (.imul, 1) := by decide +kernel
theorem dX11_place_81 : decode cX11_place 81 = .ok (.iload_n 3, 1) := by decide +kernel
theorem dX11_place_82 : decode cX11_place 82 = .ok (.iadd, 1) := by decide +kernel
theorem dX11_place_83 : decode cX11_place 83 = .ok (.iload 4, 2) := by decide +kernel
theorem dX11_place_85 : decode cX11_place 85 = .ok (.iastore, 1) := by decide +kernel
theorem dX11_place_86 : decode cX11_place 86 = .ok (.iload 6, 2) := by decide +kernel
theorem dX11_place_88 : decode cX11_place 88 = .ok (.ireturn, 1) := by decide +kernel
def PM_X11_place (d : Nat) (E : zb_E) (x0 : Int) (x1 : Int) (x2 : Int) (x3 : Int) (x4 : Int) (m : zb_M) (Q : Int → zb_M → Prop) : Prop :=
  zb_Tp K_X11_isThing d [(2, x0), (0, x1), (0, x2)] E m (fun r3 => (r3 = 0 → Q (-1) m) ∧ (¬ r3 = 0 → zb_Tp K_X11_isBelow d [(0, x4), (0, 10)] E m (fun r13 => (r13 = 0 → Q (-1) m) ∧ (¬ r13 = 0 → (0 ≤ x1 ∧ x1 < 8) ∧ (zb_Tp K_X4_hasRow d [(2, (E.2 (E.2 x0 0) x1)), (0, x2)] E m (fun r32 => (r32 = 0 → Q (-11) m) ∧ (¬ r32 = 0 → (0 ≤ x2 ∧ x2 < 12) ∧ (zb_Tp K_X11_isBelow d [(0, x3), (0, (m (E.2 (E.2 (E.2 x0 0) x1) 4) x2))] E m (fun r49 => (r49 = 0 → Q (-12) m) ∧ (¬ r49 = 0 → zb_T K_X11_keep d [(2, x0), (0, x1)] E m (fun r60 m60 => zb_Tp K_X4_lineFrom d [(2, (E.2 (E.2 x0 0) x1)), (0, x2), (0, x3)] E m60 (fun r67 => (zb_inI (x2 * 12)) ∧ ((zb_inI ((x2 * 12) + x3)) ∧ ((0 ≤ ((x2 * 12) + x3) ∧ ((x2 * 12) + x3) < 144) ∧ (∀ m85, m85 = zb_up m60 (E.2 (E.2 (E.2 x0 0) x1) 5) ((x2 * 12) + x3) x4 → (Q r67 m85))))))))))))))))
set_option maxRecDepth 100000 in
set_option maxHeartbeats 4000000 in
theorem w_X11_place {d : Nat} {E : zb_E} {x0 x1 x2 x3 x4 : Int} {m : zb_M} {Q : Int → zb_M → Prop} (h : PM_X11_place d E x0 x1 x2 x3 x4 m Q) : zb_T K_X11_place (d + 1) [(2, x0), (0, x1), (0, x2), (0, x3), (0, x4)] E m Q := by
  unfold PM_X11_place at h
  refine zb_T_in gd_X11_place rfl rfl (fun hW hA G C hF => ?_)
  have i_0 : zb_is E.1 x0 11 := zb_aH hA (by decide)
  show zb_WP _ _ 0 [(0, (2, x0)), (1, (0, x1)), (2, (0, x2)), (3, (0, x3)), (4, (0, x4))] [] _ _ _ _
  refine zb_aload_n (j := 0) dX11_place_0 rfl rfl ?_
  refine zb_iload_n (j := 1) dX11_place_1 rfl rfl ?_
  refine zb_iload_n (j := 2) dX11_place_2 rfl rfl ?_
  refine zb_cVp (As := [(0, x1), (0, x2)]) (As' := [(0, x2), (0, x1)]) (st := []) dX11_place_3 lk_X11_120 gd_X11_isThing rfl rfl i_0 ⟨_, rfl, rfl⟩ h hW hF (zb_aR i_0 (zb_aI (zb_aI zb_a0))) (Nat.le_refl _) (Nat.le_of_ble_eq_true rfl) (fun r3 h => ?_)
  show zb_WP _ _ _ _ [(0, r3)] _ _ _ _
  refine zb_if_eq (tgt := 19) dX11_place_6 (by decide) (fun c1 => ?_) (fun c1 => ?_)
  · have h := h.1 c1
    refine zb_iconst dX11_place_19 (zb_inIc rfl) ?_
    exact zb_rI dX11_place_20 rfl hF h
  · have h := h.2 c1
    refine zb_iload (j := 4) dX11_place_9 rfl ?_
    refine zb_bipush dX11_place_11 (by decide) (zb_inIc rfl) ?_
    refine zb_cSp (As := [(0, x4), (0, 10)]) (As' := [(0, 10), (0, x4)]) (st := []) dX11_place_13 lk_X11_101 gd_X11_isBelow rfl rfl h hW hF (zb_aI (zb_aI zb_a0)) (Nat.le_refl _) (Nat.le_of_ble_eq_true rfl) (fun r13 h => ?_)
    show zb_WP _ _ _ _ [(0, r13)] _ _ _ _
    refine zb_if_ne (tgt := 21) dX11_place_16 (by decide) (fun c2 => ?_) (fun c2 => ?_)
    · have h := h.2 c2
      refine zb_aload_n (j := 0) dX11_place_21 rfl rfl ?_
      refine zb_gFa 0 dX11_place_22 fl_X11_11 i_0 hW hF rfl rfl rfl (by decide) rfl 8 rfl (fun i3 l4 => ?_)
      refine zb_iload_n (j := 1) dX11_place_25 rfl rfl ?_
      obtain ⟨o5, h⟩ := h
      refine zb_lA 3 dX11_place_26 i3 (by decide) l4 hW hF o5.1 o5.2 (fun i6 => ?_)
      refine zb_astore (L' := [(5, (2, (E.2 (E.2 x0 0) x1))), (0, (2, x0)), (1, (0, x1)), (2, (0, x2)), (3, (0, x3)), (4, (0, x4))]) dX11_place_27 (by decide) rfl ?_
      refine zb_aload (j := 0) dX11_place_29 rfl ?_
      refine zb_iload_n (j := 3) dX11_place_31 rfl rfl ?_
      refine zb_cVp (As := [(0, x2)]) (As' := [(0, x2)]) (st := []) dX11_place_32 lk_X11_137 gd_X4_hasRow rfl rfl i6 ⟨_, rfl, rfl⟩ h hW hF (zb_aR i6 (zb_aI zb_a0)) (Nat.le_refl _) (Nat.le_of_ble_eq_true rfl) (fun r32 h => ?_)
      show zb_WP _ _ _ _ [(0, r32)] _ _ _ _
      refine zb_if_ne (tgt := 41) dX11_place_35 (by decide) (fun c7 => ?_) (fun c7 => ?_)
      · have h := h.2 c7
        refine zb_iload_n (j := 4) dX11_place_41 rfl rfl ?_
        refine zb_aload (j := 0) dX11_place_42 rfl ?_
        refine zb_gFa 4 dX11_place_44 fl_X11_140 i6 hW hF rfl rfl rfl (by decide) rfl 12 rfl (fun i8 l9 => ?_)
        refine zb_iload_n (j := 3) dX11_place_47 rfl rfl ?_
        obtain ⟨o10, h⟩ := h
        refine zb_lI dX11_place_48 i8 l9 o10.1 o10.2 ?_
        refine zb_cSp (As := [(0, x3), (0, (m (E.2 (E.2 (E.2 x0 0) x1) 4) x2))]) (As' := [(0, (m (E.2 (E.2 (E.2 x0 0) x1) 4) x2)), (0, x3)]) (st := []) dX11_place_49 lk_X11_101 gd_X11_isBelow rfl rfl h hW hF (zb_aI (zb_aI zb_a0)) (Nat.le_refl _) (Nat.le_of_ble_eq_true rfl) (fun r49 h => ?_)
        show zb_WP _ _ _ _ [(0, r49)] _ _ _ _
        refine zb_if_ne (tgt := 58) dX11_place_52 (by decide) (fun c11 => ?_) (fun c11 => ?_)
        · have h := h.2 c11
          refine zb_aload_n (j := 1) dX11_place_58 rfl rfl ?_
          refine zb_iload_n (j := 2) dX11_place_59 rfl rfl ?_
          refine zb_cV (As := [(0, x1)]) (As' := [(0, x1)]) (st := []) dX11_place_60 lk_X11_112 gd_X11_keep rfl rfl i_0 ⟨_, rfl, rfl⟩ h hW hF (zb_aR i_0 (zb_aI zb_a0)) (Nat.le_refl _) (Nat.le_of_ble_eq_true rfl) (fun r60 m60 hF h => ?_)
          show zb_WP _ _ _ _ [] _ _ _ _
          refine zb_aload (j := 0) dX11_place_63 rfl ?_
          refine zb_iload_n (j := 3) dX11_place_65 rfl rfl ?_
          refine zb_iload_n (j := 4) dX11_place_66 rfl rfl ?_
          refine zb_cVp (As := [(0, x2), (0, x3)]) (As' := [(0, x3), (0, x2)]) (st := []) dX11_place_67 lk_X11_143 gd_X4_lineFrom rfl rfl i6 ⟨_, rfl, rfl⟩ h hW hF (zb_aR i6 (zb_aI (zb_aI zb_a0))) (Nat.le_refl _) (Nat.le_of_ble_eq_true rfl) (fun r67 h => ?_)
          show zb_WP _ _ _ _ [(0, r67)] _ _ _ _
          refine zb_istore (L' := [(6, (0, r67)), (5, (2, (E.2 (E.2 x0 0) x1))), (0, (2, x0)), (1, (0, x1)), (2, (0, x2)), (3, (0, x3)), (4, (0, x4))]) dX11_place_70 (by decide) rfl ?_
          refine zb_aload (j := 1) dX11_place_72 rfl ?_
          refine zb_gFa 5 dX11_place_74 fl_X11_147 i6 hW hF rfl rfl rfl (by decide) rfl 144 rfl (fun i12 l13 => ?_)
          refine zb_iload_n (j := 4) dX11_place_77 rfl rfl ?_
          refine zb_bipush dX11_place_78 (by decide) (zb_inIc rfl) ?_
          obtain ⟨o14, h⟩ := h
          refine zb_imul dX11_place_80 o14 ?_
          refine zb_iload_n (j := 5) dX11_place_81 rfl rfl ?_
          obtain ⟨o15, h⟩ := h
          refine zb_iadd dX11_place_82 o15 ?_
          refine zb_iload (j := 6) dX11_place_83 rfl ?_
          obtain ⟨o16, h⟩ := h
          refine zb_sI dX11_place_85 i12 l13 o16.1 o16.2 hF (fun m85 e85 hF => ?_)
          have h := h m85 e85
          refine zb_iload (j := 0) dX11_place_86 rfl ?_
          exact zb_rI dX11_place_88 rfl hF h
        · have h := h.1 c11
          refine zb_bipush dX11_place_55 (by decide) (zb_inIc rfl) ?_
          exact zb_rI dX11_place_57 rfl hF h
      · have h := h.1 c7
        refine zb_bipush dX11_place_38 (by decide) (zb_inIc rfl) ?_
        exact zb_rI dX11_place_40 rfl hF h
    · have h := h.1 c2
      refine zb_iconst dX11_place_19 (zb_inIc rfl) ?_
      exact zb_rI dX11_place_20 rfl hF h
theorem dX11_line_0 : decode cX11_line 0 = .ok (.aload_n 0, 1) := by decide +kernel
theorem dX11_line_1 : decode cX11_line 1 = .ok (.iload_n 1, 1) := by decide +kernel
theorem dX11_line_2 : decode cX11_line 2 = .ok (.iload_n 2, 1) := by decide +kernel
theorem dX11_line_3 : decode cX11_line 3 = .ok (.invokevirtual 120, 3) := by decide +kernel
theorem dX11_line_6 : decode cX11_line 6 = .ok (.ifCond .eq 12, 3) := by decide +kernel
theorem dX11_line_9 : decode cX11_line 9 = .ok (.aload_n 0, 1) := by decide +kernel
theorem dX11_line_10 : decode cX11_line 10 = .ok (.iload_n 1, 1) := by decide +kernel
theorem dX11_line_11 : decode cX11_line 11 = .ok (.iload_n 3, 1) := by decide +kernel
theorem dX11_line_12 : decode cX11_line 12 = .ok (.invokevirtual 120, 3) := by decide +kernel
theorem dX11_line_15 : decode cX11_line 15 = .ok (.ifCond .ne 5, 3) := by decide +kernel
theorem dX11_line_18 : decode cX11_line 18 = .ok (.iconst (-1), 1) := by decide +kernel
theorem dX11_line_19 : decode cX11_line 19 = .ok (.ireturn, 1) := by decide +kernel
theorem dX11_line_20 : decode cX11_line 20 = .ok (.aload_n 0, 1) := by decide +kernel
theorem dX11_line_21 : decode cX11_line 21 = .ok (.getfield 11, 3) := by decide +kernel
theorem dX11_line_24 : decode cX11_line 24 = .ok (.iload_n 1, 1) := by decide +kernel
theorem dX11_line_25 : decode cX11_line 25 = .ok (.aaload, 1) := by decide +kernel
theorem dX11_line_26 : decode cX11_line 26 = .ok (.iload_n 2, 1) := by decide +kernel
theorem dX11_line_27 : decode cX11_line 27 = .ok (.iload_n 3, 1) := by decide +kernel
theorem dX11_line_28 : decode cX11_line 28 = .ok (.invokevirtual 143, 3) := by decide +kernel
theorem dX11_line_31 : decode cX11_line 31 = .ok (.ireturn, 1) := by decide +kernel
def PM_X11_line (d : Nat) (E : zb_E) (x0 : Int) (x1 : Int) (x2 : Int) (x3 : Int) (m : zb_M) (Q : Int → Prop) : Prop :=
  zb_Tp K_X11_isThing d [(2, x0), (0, x1), (0, x2)] E m (fun r3 => (r3 = 0 → Q (-1)) ∧ (¬ r3 = 0 → zb_Tp K_X11_isThing d [(2, x0), (0, x1), (0, x3)] E m (fun r12 => (r12 = 0 → Q (-1)) ∧ (¬ r12 = 0 → (0 ≤ x1 ∧ x1 < 8) ∧ (zb_Tp K_X4_lineFrom d [(2, (E.2 (E.2 x0 0) x1)), (0, x2), (0, x3)] E m (fun r28 => Q r28))))))
set_option maxRecDepth 100000 in
set_option maxHeartbeats 4000000 in
theorem w_X11_line {d : Nat} {E : zb_E} {x0 x1 x2 x3 : Int} {m : zb_M} {Q : Int → Prop} (h : PM_X11_line d E x0 x1 x2 x3 m Q) : zb_Tp K_X11_line (d + 1) [(2, x0), (0, x1), (0, x2), (0, x3)] E m Q := by
  unfold PM_X11_line at h
  refine zb_T_in gd_X11_line rfl rfl (fun hW hA G C hF => ?_)
  have i_0 : zb_is E.1 x0 11 := zb_aH hA (by decide)
  show zb_WP _ _ 0 [(0, (2, x0)), (1, (0, x1)), (2, (0, x2)), (3, (0, x3))] [] _ _ _ _
  refine zb_aload_n (j := 0) dX11_line_0 rfl rfl ?_
  refine zb_iload_n (j := 1) dX11_line_1 rfl rfl ?_
  refine zb_iload_n (j := 2) dX11_line_2 rfl rfl ?_
  refine zb_cVp (As := [(0, x1), (0, x2)]) (As' := [(0, x2), (0, x1)]) (st := []) dX11_line_3 lk_X11_120 gd_X11_isThing rfl rfl i_0 ⟨_, rfl, rfl⟩ h hW hF (zb_aR i_0 (zb_aI (zb_aI zb_a0))) (Nat.le_refl _) (Nat.le_of_ble_eq_true rfl) (fun r3 h => ?_)
  show zb_WP _ _ _ _ [(0, r3)] _ _ _ _
  refine zb_if_eq (tgt := 18) dX11_line_6 (by decide) (fun c1 => ?_) (fun c1 => ?_)
  · have h := h.1 c1
    refine zb_iconst dX11_line_18 (zb_inIc rfl) ?_
    exact zb_rI dX11_line_19 rfl hF ⟨rfl, h⟩
  · have h := h.2 c1
    refine zb_aload_n (j := 0) dX11_line_9 rfl rfl ?_
    refine zb_iload_n (j := 1) dX11_line_10 rfl rfl ?_
    refine zb_iload_n (j := 3) dX11_line_11 rfl rfl ?_
    refine zb_cVp (As := [(0, x1), (0, x3)]) (As' := [(0, x3), (0, x1)]) (st := []) dX11_line_12 lk_X11_120 gd_X11_isThing rfl rfl i_0 ⟨_, rfl, rfl⟩ h hW hF (zb_aR i_0 (zb_aI (zb_aI zb_a0))) (Nat.le_refl _) (Nat.le_of_ble_eq_true rfl) (fun r12 h => ?_)
    show zb_WP _ _ _ _ [(0, r12)] _ _ _ _
    refine zb_if_ne (tgt := 20) dX11_line_15 (by decide) (fun c2 => ?_) (fun c2 => ?_)
    · have h := h.2 c2
      refine zb_aload_n (j := 0) dX11_line_20 rfl rfl ?_
      refine zb_gFa 0 dX11_line_21 fl_X11_11 i_0 hW hF rfl rfl rfl (by decide) rfl 8 rfl (fun i3 l4 => ?_)
      refine zb_iload_n (j := 1) dX11_line_24 rfl rfl ?_
      obtain ⟨o5, h⟩ := h
      refine zb_lA 3 dX11_line_25 i3 (by decide) l4 hW hF o5.1 o5.2 (fun i6 => ?_)
      refine zb_iload_n (j := 2) dX11_line_26 rfl rfl ?_
      refine zb_iload_n (j := 3) dX11_line_27 rfl rfl ?_
      refine zb_cVp (As := [(0, x2), (0, x3)]) (As' := [(0, x3), (0, x2)]) (st := []) dX11_line_28 lk_X11_143 gd_X4_lineFrom rfl rfl i6 ⟨_, rfl, rfl⟩ h hW hF (zb_aR i6 (zb_aI (zb_aI zb_a0))) (Nat.le_refl _) (Nat.le_of_ble_eq_true rfl) (fun r28 h => ?_)
      show zb_WP _ _ _ _ [(0, r28)] _ _ _ _
      exact zb_rI dX11_line_31 rfl hF ⟨rfl, h⟩
    · have h := h.1 c2
      refine zb_iconst dX11_line_18 (zb_inIc rfl) ?_
      exact zb_rI dX11_line_19 rfl hF ⟨rfl, h⟩
theorem dX11_copy_0 : decode cX11_copy 0 = .ok (.aload_n 0, 1) := by decide +kernel
theorem dX11_copy_1 : decode cX11_copy 1 = .ok (.iload_n 1, 1) := by decide +kernel
theorem dX11_copy_2 : decode cX11_copy 2 = .ok (.iload_n 2, 1) := by decide +kernel
theorem dX11_copy_3 : decode cX11_copy 3 = .ok (.invokevirtual 120, 3) := by decide +kernel
theorem dX11_copy_6 : decode cX11_copy 6 = .ok (.ifCond .eq 14, 3) := by decide +kernel
theorem dX11_copy_9 : decode cX11_copy 9 = .ok (.aload_n 0, 1) := by decide +kernel
theorem dX11_copy_10 : decode cX11_copy 10 = .ok (.iload 4, 2) := by decide +kernel
theorem dX11_copy_12 : decode cX11_copy 12 = .ok (.iload 5, 2) := by decide +kernel
theorem dX11_copy_14 : decode cX11_copy 14 = .ok (.invokevirtual 120, 3) := by decide +kernel
theorem dX11_copy_17 : decode cX11_copy 17 = .ok (.ifCond .ne 5, 3) := by decide +kernel
theorem dX11_copy_20 : decode cX11_copy 20 = .ok (.iconst (-1), 1) := by decide +kernel
theorem dX11_copy_21 : decode cX11_copy 21 = .ok (.ireturn, 1) := by decide +kernel
theorem dX11_copy_22 : decode cX11_copy 22 = .ok (.aload_n 0, 1) := by decide +kernel
theorem dX11_copy_23 : decode cX11_copy 23 = .ok (.getfield 11, 3) := by decide +kernel
theorem dX11_copy_26 : decode cX11_copy 26 = .ok (.iload_n 1, 1) := by decide +kernel
theorem dX11_copy_27 : decode cX11_copy 27 = .ok (.aaload, 1) := by decide +kernel
theorem dX11_copy_28 : decode cX11_copy 28 = .ok (.astore 8, 2) := by decide +kernel
theorem dX11_copy_30 : decode cX11_copy 30 = .ok (.aload_n 0, 1) := by decide +kernel
theorem dX11_copy_31 : decode cX11_copy 31 = .ok (.getfield 11, 3) := by decide +kernel
theorem dX11_copy_34 : decode cX11_copy 34 = .ok (.iload 4, 2) := by decide +kernel
theorem dX11_copy_36 : decode cX11_copy 36 = .ok (.aaload, 1) := by decide +kernel
theorem dX11_copy_37 : decode cX11_copy 37 = .ok (.astore 9, 2) := by decide +kernel
theorem dX11_copy_39 : decode cX11_copy 39 = .ok (.aload 8, 2) := by decide +kernel
theorem dX11_copy_41 : decode cX11_copy 41 = .ok (.iload_n 2, 1) := by decide +kernel
theorem dX11_copy_42 : decode cX11_copy 42 = .ok (.invokevirtual 137, 3) := by decide +kernel
theorem dX11_copy_45 : decode cX11_copy 45 = .ok (.ifCond .eq 13, 3) := by decide +kernel
theorem dX11_copy_48 : decode cX11_copy 48 = .ok (.aload 9, 2) := by decide +kernel
theorem dX11_copy_50 : decode cX11_copy 50 = .ok (.iload 5, 2) := by decide +kernel
theorem dX11_copy_52 : decode cX11_copy 52 = .ok (.invokevirtual 137, 3) := by decide +kernel
theorem dX11_copy_55 : decode cX11_copy 55 = .ok (.ifCond .ne 6, 3) := by decide +kernel
theorem dX11_copy_58 : decode cX11_copy 58 = .ok (.bipush (-11), 2) := by decide +kernel
theorem dX11_copy_60 : decode cX11_copy 60 = .ok (.ireturn, 1) := by decide +kernel
theorem dX11_copy_61 : decode cX11_copy 61 = .ok (.iload 7, 2) := by decide +kernel
theorem dX11_copy_63 : decode cX11_copy 63 = .ok (.ifCond .lt 12, 3) := by decide +kernel
theorem dX11_copy_66 : decode cX11_copy 66 = .ok (.iload_n 3, 1) := by decide +kernel
theorem dX11_copy_67 : decode cX11_copy 67 = .ok (.ifCond .lt 8, 3) := by decide +kernel
theorem dX11_copy_70 : decode cX11_copy 70 = .ok (.iload 6, 2) := by decide +kernel
theorem dX11_copy_72 : decode cX11_copy 72 = .ok (.ifCond .ge 6, 3) := by decide +kernel
theorem dX11_copy_75 : decode cX11_copy 75 = .ok (.bipush (-12), 2) := by decide +kernel
theorem dX11_copy_77 : decode cX11_copy 77 = .ok (.ireturn, 1) := by decide +kernel
theorem dX11_copy_78 : decode cX11_copy 78 = .ok (.iload 7, 2) := by decide +kernel
theorem dX11_copy_80 : decode cX11_copy 80 = .ok (.aload 8, 2) := by decide +kernel
theorem dX11_copy_82 : decode cX11_copy 82 = .ok (.getfield 140, 3) := by decide +kernel
theorem dX11_copy_85 : decode cX11_copy 85 = .ok (.iload_n 2, 1) := by decide +kernel
theorem dX11_copy_86 : decode cX11_copy 86 = .ok (.iaload, 1) := by decide +kernel
theorem dX11_copy_87 : decode cX11_copy 87 = .ok (.iload_n 3, 1) := by decide +kernel
theorem dX11_copy_88 : decode cX11_copy 88 = .ok (.isub, 1) := by decide +kernel
theorem dX11_copy_89 : decode cX11_copy 89 = .ok (.if_icmp .gt 19, 3) := by decide +kernel
theorem dX11_copy_92 : decode cX11_copy 92 = .ok (.iload 7, 2) := by decide +kernel
theorem dX11_copy_94 : decode cX11_copy 94 = .ok (.aload 9, 2) := by decide +kernel
theorem dX11_copy_96 : decode cX11_copy 96 = .ok (.getfield 140, 3) := by decide +kernel
theorem dX11_copy_99 : decode cX11_copy 99 = .ok (.iload 5, 2) := by decide +kernel
theorem dX11_copy_101 : decode cX11_copy 101 = .ok (.iaload, 1) := by decide +kernel
theorem dX11_copy_102 : decode cX11_copy 102 = .ok (.iload 6, 2) := by decide +kernel
theorem dX11_copy_104 : decode cX11_copy 104 = .ok (.isub, 1) := by decide +kernel
theorem dX11_copy_105 : decode cX11_copy 105 = .ok (.if_icmp .le 6, 3) := by decide +kernel
theorem dX11_copy_108 : decode cX11_copy 108 = .ok (.bipush (-12), 2) := by decide +kernel
theorem dX11_copy_110 : decode cX11_copy 110 = .ok (.ireturn, 1) := by decide +kernel
theorem dX11_copy_111 : decode cX11_copy 111 = .ok (.aload_n 0, 1) := by decide +kernel
theorem dX11_copy_112 : decode cX11_copy 112 = .ok (.iload 4, 2) := by decide +kernel
theorem dX11_copy_114 : decode cX11_copy 114 = .ok (.invokevirtual 112, 3) := by decide +kernel
theorem dX11_copy_117 : decode cX11_copy 117 = .ok (.aload 8, 2) := by decide +kernel
theorem dX11_copy_119 : decode cX11_copy 119 = .ok (.getfield 147, 3) := by decide +kernel
theorem dX11_copy_122 : decode cX11_copy 122 = .ok (.iload_n 2, 1) := by decide +kernel
theorem dX11_copy_123 : decode cX11_copy 123 = .ok (.bipush 12, 2) := by decide +kernel
theorem dX11_copy_125 : decode cX11_copy 125 = .ok (.imul, 1) := by decide +kernel
theorem dX11_copy_126 : decode cX11_copy 126 = .ok (.iload_n 3, 1) := by decide +kernel
theorem dX11_copy_127 : decode cX11_copy 127 = .ok (.iadd, 1) := by decide +kernel
theorem dX11_copy_128 : decode cX11_copy 128 = .ok (.aload 9, 2) := by decide +kernel
theorem dX11_copy_130 : decode cX11_copy 130 = .ok (.getfield 147, 3) := by decide +kernel
theorem dX11_copy_133 : decode cX11_copy 133 = .ok (.iload 5, 2) := by decide +kernel
theorem dX11_copy_135 : decode cX11_copy 135 = .ok (.bipush 12, 2) := by decide +kernel
theorem dX11_copy_137 : decode cX11_copy 137 = .ok (.imul, 1) := by decide +kernel
theorem dX11_copy_138 : decode cX11_copy 138 = .ok (.iload 6, 2) := by decide +kernel
theorem dX11_copy_140 : decode cX11_copy 140 = .ok (.iadd, 1) := by decide +kernel
theorem dX11_copy_141 : decode cX11_copy 141 = .ok (.iload 7, 2) := by decide +kernel
theorem dX11_copy_143 : decode cX11_copy 143 = .ok (.invokestatic 150, 3) := by decide +kernel
theorem dX11_copy_146 : decode cX11_copy 146 = .ok (.iload 7, 2) := by decide +kernel
theorem dX11_copy_148 : decode cX11_copy 148 = .ok (.ireturn, 1) := by decide +kernel
def PM_X11_copy (d : Nat) (E : zb_E) (x0 : Int) (x1 : Int) (x2 : Int) (x3 : Int) (x4 : Int) (x5 : Int) (x6 : Int) (x7 : Int) (m : zb_M) (Q : Int → zb_M → Prop) : Prop :=
  zb_Tp K_X11_isThing d [(2, x0), (0, x1), (0, x2)] E m (fun r3 => (r3 = 0 → Q (-1) m) ∧ (¬ r3 = 0 → zb_Tp K_X11_isThing d [(2, x0), (0, x4), (0, x5)] E m (fun r14 => (r14 = 0 → Q (-1) m) ∧ (¬ r14 = 0 → (0 ≤ x1 ∧ x1 < 8) ∧ ((0 ≤ x4 ∧ x4 < 8) ∧ (zb_Tp K_X4_hasRow d [(2, (E.2 (E.2 x0 0) x1)), (0, x2)] E m (fun r42 => (r42 = 0 → Q (-11) m) ∧ (¬ r42 = 0 → zb_Tp K_X4_hasRow d [(2, (E.2 (E.2 x0 0) x4)), (0, x5)] E m (fun r52 => (r52 = 0 → Q (-11) m) ∧ (¬ r52 = 0 → (x7 < 0 → Q (-12) m) ∧ (¬ x7 < 0 → (x3 < 0 → Q (-12) m) ∧ (¬ x3 < 0 → (0 ≤ x6 → (0 ≤ x2 ∧ x2 < 12) ∧ ((zb_inI ((m (E.2 (E.2 (E.2 x0 0) x1) 4) x2) - x3)) ∧ ((((m (E.2 (E.2 (E.2 x0 0) x1) 4) x2) - x3) < x7 → Q (-12) m) ∧ (¬ ((m (E.2 (E.2 (E.2 x0 0) x1) 4) x2) - x3) < x7 → (0 ≤ x5 ∧ x5 < 12) ∧ ((zb_inI ((m (E.2 (E.2 (E.2 x0 0) x4) 4) x5) - x6)) ∧ ((x7 ≤ ((m (E.2 (E.2 (E.2 x0 0) x4) 4) x5) - x6) → zb_T K_X11_keep d [(2, x0), (0, x4)] E m (fun r114 m114 => (zb_inI (x2 * 12)) ∧ ((zb_inI ((x2 * 12) + x3)) ∧ ((zb_inI (x5 * 12)) ∧ ((zb_inI ((x5 * 12) + x6)) ∧ ((zb_cpo ((x2 * 12) + x3) ((x5 * 12) + x6) x7 144 144) ∧ (∀ m143, m143 = zb_cp m114 (E.2 (E.2 (E.2 x0 0) x1) 5) ((x2 * 12) + x3) (E.2 (E.2 (E.2 x0 0) x4) 5) ((x5 * 12) + x6) x7 → (Q x7 m143)))))))) ∧ (¬ x7 ≤ ((m (E.2 (E.2 (E.2 x0 0) x4) 4) x5) - x6) → Q (-12) m))))))) ∧ (¬ 0 ≤ x6 → Q (-12) m)))))))))))))
set_option maxRecDepth 100000 in
set_option maxHeartbeats 4000000 in
theorem w_X11_copy {d : Nat} {E : zb_E} {x0 x1 x2 x3 x4 x5 x6 x7 : Int} {m : zb_M} {Q : Int → zb_M → Prop} (h : PM_X11_copy d E x0 x1 x2 x3 x4 x5 x6 x7 m Q) : zb_T K_X11_copy (d + 1) [(2, x0), (0, x1), (0, x2), (0, x3), (0, x4), (0, x5), (0, x6), (0, x7)] E m Q := by
  unfold PM_X11_copy at h
  refine zb_T_in gd_X11_copy rfl rfl (fun hW hA G C hF => ?_)
  have i_0 : zb_is E.1 x0 11 := zb_aH hA (by decide)
  show zb_WP _ _ 0 [(0, (2, x0)), (1, (0, x1)), (2, (0, x2)), (3, (0, x3)), (4, (0, x4)), (5, (0, x5)), (6, (0, x6)), (7, (0, x7))] [] _ _ _ _
  refine zb_aload_n (j := 0) dX11_copy_0 rfl rfl ?_
  refine zb_iload_n (j := 1) dX11_copy_1 rfl rfl ?_
  refine zb_iload_n (j := 2) dX11_copy_2 rfl rfl ?_
  refine zb_cVp (As := [(0, x1), (0, x2)]) (As' := [(0, x2), (0, x1)]) (st := []) dX11_copy_3 lk_X11_120 gd_X11_isThing rfl rfl i_0 ⟨_, rfl, rfl⟩ h hW hF (zb_aR i_0 (zb_aI (zb_aI zb_a0))) (Nat.le_refl _) (Nat.le_of_ble_eq_true rfl) (fun r3 h => ?_)
  show zb_WP _ _ _ _ [(0, r3)] _ _ _ _
  refine zb_if_eq (tgt := 20) dX11_copy_6 (by decide) (fun c1 => ?_) (fun c1 => ?_)
  · have h := h.1 c1
    refine zb_iconst dX11_copy_20 (zb_inIc rfl) ?_
    exact zb_rI dX11_copy_21 rfl hF h
  · have h := h.2 c1
    refine zb_aload_n (j := 0) dX11_copy_9 rfl rfl ?_
    refine zb_iload (j := 4) dX11_copy_10 rfl ?_
    refine zb_iload (j := 5) dX11_copy_12 rfl ?_
    refine zb_cVp (As := [(0, x4), (0, x5)]) (As' := [(0, x5), (0, x4)]) (st := []) dX11_copy_14 lk_X11_120 gd_X11_isThing rfl rfl i_0 ⟨_, rfl, rfl⟩ h hW hF (zb_aR i_0 (zb_aI (zb_aI zb_a0))) (Nat.le_refl _) (Nat.le_of_ble_eq_true rfl) (fun r14 h => ?_)
    show zb_WP _ _ _ _ [(0, r14)] _ _ _ _
    refine zb_if_ne (tgt := 22) dX11_copy_17 (by decide) (fun c2 => ?_) (fun c2 => ?_)
    · have h := h.2 c2
      refine zb_aload_n (j := 0) dX11_copy_22 rfl rfl ?_
      refine zb_gFa 0 dX11_copy_23 fl_X11_11 i_0 hW hF rfl rfl rfl (by decide) rfl 8 rfl (fun i3 l4 => ?_)
      refine zb_iload_n (j := 1) dX11_copy_26 rfl rfl ?_
      obtain ⟨o5, h⟩ := h
      refine zb_lA 3 dX11_copy_27 i3 (by decide) l4 hW hF o5.1 o5.2 (fun i6 => ?_)
      refine zb_astore (L' := [(8, (2, (E.2 (E.2 x0 0) x1))), (0, (2, x0)), (1, (0, x1)), (2, (0, x2)), (3, (0, x3)), (4, (0, x4)), (5, (0, x5)), (6, (0, x6)), (7, (0, x7))]) dX11_copy_28 (by decide) rfl ?_
      refine zb_aload_n (j := 1) dX11_copy_30 rfl rfl ?_
      refine zb_gFa 0 dX11_copy_31 fl_X11_11 i_0 hW hF rfl rfl rfl (by decide) rfl 8 rfl (fun i7 l8 => ?_)
      refine zb_iload (j := 5) dX11_copy_34 rfl ?_
      obtain ⟨o9, h⟩ := h
      refine zb_lA 3 dX11_copy_36 i7 (by decide) l8 hW hF o9.1 o9.2 (fun i10 => ?_)
      refine zb_astore (L' := [(9, (2, (E.2 (E.2 x0 0) x4))), (8, (2, (E.2 (E.2 x0 0) x1))), (0, (2, x0)), (1, (0, x1)), (2, (0, x2)), (3, (0, x3)), (4, (0, x4)), (5, (0, x5)), (6, (0, x6)), (7, (0, x7))]) dX11_copy_37 (by decide) rfl ?_
      refine zb_aload (j := 1) dX11_copy_39 rfl ?_
      refine zb_iload_n (j := 4) dX11_copy_41 rfl rfl ?_
      refine zb_cVp (As := [(0, x2)]) (As' := [(0, x2)]) (st := []) dX11_copy_42 lk_X11_137 gd_X4_hasRow rfl rfl i6 ⟨_, rfl, rfl⟩ h hW hF (zb_aR i6 (zb_aI zb_a0)) (Nat.le_refl _) (Nat.le_of_ble_eq_true rfl) (fun r42 h => ?_)
      show zb_WP _ _ _ _ [(0, r42)] _ _ _ _
      refine zb_if_eq (tgt := 58) dX11_copy_45 (by decide) (fun c11 => ?_) (fun c11 => ?_)
      · have h := h.1 c11
        refine zb_bipush dX11_copy_58 (by decide) (zb_inIc rfl) ?_
        exact zb_rI dX11_copy_60 rfl hF h
      · have h := h.2 c11
        refine zb_aload (j := 0) dX11_copy_48 rfl ?_
        refine zb_iload (j := 7) dX11_copy_50 rfl ?_
        refine zb_cVp (As := [(0, x5)]) (As' := [(0, x5)]) (st := []) dX11_copy_52 lk_X11_137 gd_X4_hasRow rfl rfl i10 ⟨_, rfl, rfl⟩ h hW hF (zb_aR i10 (zb_aI zb_a0)) (Nat.le_refl _) (Nat.le_of_ble_eq_true rfl) (fun r52 h => ?_)
        show zb_WP _ _ _ _ [(0, r52)] _ _ _ _
        refine zb_if_ne (tgt := 61) dX11_copy_55 (by decide) (fun c12 => ?_) (fun c12 => ?_)
        · have h := h.2 c12
          refine zb_iload (j := 9) dX11_copy_61 rfl ?_
          refine zb_if_lt (tgt := 75) dX11_copy_63 (by decide) (fun c13 => ?_) (fun c13 => ?_)
          · have h := h.1 c13
            refine zb_bipush dX11_copy_75 (by decide) (zb_inIc rfl) ?_
            exact zb_rI dX11_copy_77 rfl hF h
          · have h := h.2 c13
            refine zb_iload_n (j := 5) dX11_copy_66 rfl rfl ?_
            refine zb_if_lt (tgt := 75) dX11_copy_67 (by decide) (fun c14 => ?_) (fun c14 => ?_)
            · have h := h.1 c14
              refine zb_bipush dX11_copy_75 (by decide) (zb_inIc rfl) ?_
              exact zb_rI dX11_copy_77 rfl hF h
            · have h := h.2 c14
              refine zb_iload (j := 8) dX11_copy_70 rfl ?_
              refine zb_if_ge (tgt := 78) dX11_copy_72 (by decide) (fun c15 => ?_) (fun c15 => ?_)
              · have h := h.1 c15
                refine zb_iload (j := 9) dX11_copy_78 rfl ?_
                refine zb_aload (j := 1) dX11_copy_80 rfl ?_
                refine zb_gFa 4 dX11_copy_82 fl_X11_140 i6 hW hF rfl rfl rfl (by decide) rfl 12 rfl (fun i16 l17 => ?_)
                refine zb_iload_n (j := 4) dX11_copy_85 rfl rfl ?_
                obtain ⟨o18, h⟩ := h
                refine zb_lI dX11_copy_86 i16 l17 o18.1 o18.2 ?_
                refine zb_iload_n (j := 5) dX11_copy_87 rfl rfl ?_
                obtain ⟨o19, h⟩ := h
                refine zb_isub dX11_copy_88 o19 ?_
                refine zb_icmp_gt (tgt := 108) dX11_copy_89 (by decide) (fun c20 => ?_) (fun c20 => ?_)
                · have h := h.1 c20
                  refine zb_bipush dX11_copy_108 (by decide) (zb_inIc rfl) ?_
                  exact zb_rI dX11_copy_110 rfl hF h
                · have h := h.2 c20
                  refine zb_iload (j := 9) dX11_copy_92 rfl ?_
                  refine zb_aload (j := 0) dX11_copy_94 rfl ?_
                  refine zb_gFa 4 dX11_copy_96 fl_X11_140 i10 hW hF rfl rfl rfl (by decide) rfl 12 rfl (fun i21 l22 => ?_)
                  refine zb_iload (j := 7) dX11_copy_99 rfl ?_
                  obtain ⟨o23, h⟩ := h
                  refine zb_lI dX11_copy_101 i21 l22 o23.1 o23.2 ?_
                  refine zb_iload (j := 8) dX11_copy_102 rfl ?_
                  obtain ⟨o24, h⟩ := h
                  refine zb_isub dX11_copy_104 o24 ?_
                  refine zb_icmp_le (tgt := 111) dX11_copy_105 (by decide) (fun c25 => ?_) (fun c25 => ?_)
                  · have h := h.1 c25
                    refine zb_aload_n (j := 2) dX11_copy_111 rfl rfl ?_
                    refine zb_iload (j := 6) dX11_copy_112 rfl ?_
                    refine zb_cV (As := [(0, x4)]) (As' := [(0, x4)]) (st := []) dX11_copy_114 lk_X11_112 gd_X11_keep rfl rfl i_0 ⟨_, rfl, rfl⟩ h hW hF (zb_aR i_0 (zb_aI zb_a0)) (Nat.le_refl _) (Nat.le_of_ble_eq_true rfl) (fun r114 m114 hF h => ?_)
                    show zb_WP _ _ _ _ [] _ _ _ _
                    refine zb_aload (j := 1) dX11_copy_117 rfl ?_
                    refine zb_gFa 5 dX11_copy_119 fl_X11_147 i6 hW hF rfl rfl rfl (by decide) rfl 144 rfl (fun i26 l27 => ?_)
                    refine zb_iload_n (j := 4) dX11_copy_122 rfl rfl ?_
                    refine zb_bipush dX11_copy_123 (by decide) (zb_inIc rfl) ?_
                    obtain ⟨o28, h⟩ := h
                    refine zb_imul dX11_copy_125 o28 ?_
                    refine zb_iload_n (j := 5) dX11_copy_126 rfl rfl ?_
                    obtain ⟨o29, h⟩ := h
                    refine zb_iadd dX11_copy_127 o29 ?_
                    refine zb_aload (j := 0) dX11_copy_128 rfl ?_
                    refine zb_gFa 5 dX11_copy_130 fl_X11_147 i10 hW hF rfl rfl rfl (by decide) rfl 144 rfl (fun i30 l31 => ?_)
                    refine zb_iload (j := 7) dX11_copy_133 rfl ?_
                    refine zb_bipush dX11_copy_135 (by decide) (zb_inIc rfl) ?_
                    obtain ⟨o32, h⟩ := h
                    refine zb_imul dX11_copy_137 o32 ?_
                    refine zb_iload (j := 8) dX11_copy_138 rfl ?_
                    obtain ⟨o33, h⟩ := h
                    refine zb_iadd dX11_copy_140 o33 ?_
                    refine zb_iload (j := 9) dX11_copy_141 rfl ?_
                    obtain ⟨o34, h⟩ := h
                    refine zb_cpI dX11_copy_143 lk_X11_150 i26 i30 l27 l31 o34 (Nat.succ_le_succ (Nat.zero_le _)) (Nat.le_of_ble_eq_true rfl) hF (fun m143 e143 hF => ?_)
                    have h := h m143 e143
                    refine zb_iload (j := 9) dX11_copy_146 rfl ?_
                    exact zb_rI dX11_copy_148 rfl hF h
                  · have h := h.2 c25
                    refine zb_bipush dX11_copy_108 (by decide) (zb_inIc rfl) ?_
                    exact zb_rI dX11_copy_110 rfl hF h
              · have h := h.2 c15
                refine zb_bipush dX11_copy_75 (by decide) (zb_inIc rfl) ?_
                exact zb_rI dX11_copy_77 rfl hF h
        · have h := h.1 c12
          refine zb_bipush dX11_copy_58 (by decide) (zb_inIc rfl) ?_
          exact zb_rI dX11_copy_60 rfl hF h
    · have h := h.1 c2
      refine zb_iconst dX11_copy_20 (zb_inIc rfl) ?_
      exact zb_rI dX11_copy_21 rfl hF h
theorem dX11_swap_0 : decode cX11_swap 0 = .ok (.aload_n 0, 1) := by decide +kernel
theorem dX11_swap_1 : decode cX11_swap 1 = .ok (.iload_n 1, 1) := by decide +kernel
theorem dX11_swap_2 : decode cX11_swap 2 = .ok (.iload_n 2, 1) := by decide +kernel
theorem dX11_swap_3 : decode cX11_swap 3 = .ok (.invokevirtual 120, 3) := by decide +kernel
theorem dX11_swap_6 : decode cX11_swap 6 = .ok (.ifCond .eq 12, 3) := by decide +kernel
theorem dX11_swap_9 : decode cX11_swap 9 = .ok (.aload_n 0, 1) := by decide +kernel
theorem dX11_swap_10 : decode cX11_swap 10 = .ok (.iload_n 1, 1) := by decide +kernel
theorem dX11_swap_11 : decode cX11_swap 11 = .ok (.iload_n 3, 1) := by decide +kernel
theorem dX11_swap_12 : decode cX11_swap 12 = .ok (.invokevirtual 120, 3) := by decide +kernel
theorem dX11_swap_15 : decode cX11_swap 15 = .ok (.ifCond .ne 5, 3) := by decide +kernel
theorem dX11_swap_18 : decode cX11_swap 18 = .ok (.iconst (-1), 1) := by decide +kernel
theorem dX11_swap_19 : decode cX11_swap 19 = .ok (.ireturn, 1) := by decide +kernel
theorem dX11_swap_20 : decode cX11_swap 20 = .ok (.aload_n 0, 1) := by decide +kernel
theorem dX11_swap_21 : decode cX11_swap 21 = .ok (.iload_n 1, 1) := by decide +kernel
theorem dX11_swap_22 : decode cX11_swap 22 = .ok (.invokevirtual 112, 3) := by decide +kernel
theorem dX11_swap_25 : decode cX11_swap 25 = .ok (.aload_n 0, 1) := by decide +kernel
theorem dX11_swap_26 : decode cX11_swap 26 = .ok (.getfield 11, 3) := by decide +kernel
theorem dX11_swap_29 : decode cX11_swap 29 = .ok (.iload_n 1, 1) := by decide +kernel
theorem dX11_swap_30 : decode cX11_swap 30 = .ok (.aaload, 1) := by decide +kernel
theorem dX11_swap_31 : decode cX11_swap 31 = .ok (.invokevirtual 156, 3) := by decide +kernel
theorem dX11_swap_34 : decode cX11_swap 34 = .ok (.aload_n 0, 1) := by decide +kernel
theorem dX11_swap_35 : decode cX11_swap 35 = .ok (.getfield 11, 3) := by decide +kernel
theorem dX11_swap_38 : decode cX11_swap 38 = .ok (.iload_n 1, 1) := by decide +kernel
theorem dX11_swap_39 : decode cX11_swap 39 = .ok (.aaload, 1) := by decide +kernel
theorem dX11_swap_40 : decode cX11_swap 40 = .ok (.iload_n 2, 1) := by decide +kernel
theorem dX11_swap_41 : decode cX11_swap 41 = .ok (.iload_n 3, 1) := by decide +kernel
theorem dX11_swap_42 : decode cX11_swap 42 = .ok (.invokevirtual 159, 3) := by decide +kernel
theorem dX11_swap_45 : decode cX11_swap 45 = .ok (.iconst 1, 1) := by decide +kernel
theorem dX11_swap_46 : decode cX11_swap 46 = .ok (.ireturn, 1) := by decide +kernel
def PM_X11_swap (d : Nat) (E : zb_E) (x0 : Int) (x1 : Int) (x2 : Int) (x3 : Int) (m : zb_M) (Q : Int → zb_M → Prop) : Prop :=
  zb_Tp K_X11_isThing d [(2, x0), (0, x1), (0, x2)] E m (fun r3 => (r3 = 0 → Q (-1) m) ∧ (¬ r3 = 0 → zb_Tp K_X11_isThing d [(2, x0), (0, x1), (0, x3)] E m (fun r12 => (r12 = 0 → Q (-1) m) ∧ (¬ r12 = 0 → zb_T K_X11_keep d [(2, x0), (0, x1)] E m (fun r22 m22 => (0 ≤ x1 ∧ x1 < 8) ∧ (zb_T K_X4_lengthenRows d [(2, (E.2 (E.2 x0 0) x1))] E m22 (fun r31 m31 => zb_T K_X4_exchange d [(2, (E.2 (E.2 x0 0) x1)), (0, x2), (0, x3)] E m31 (fun r42 m42 => Q 1 m42))))))))
set_option maxRecDepth 100000 in
set_option maxHeartbeats 4000000 in
theorem w_X11_swap {d : Nat} {E : zb_E} {x0 x1 x2 x3 : Int} {m : zb_M} {Q : Int → zb_M → Prop} (h : PM_X11_swap d E x0 x1 x2 x3 m Q) : zb_T K_X11_swap (d + 1) [(2, x0), (0, x1), (0, x2), (0, x3)] E m Q := by
  unfold PM_X11_swap at h
  refine zb_T_in gd_X11_swap rfl rfl (fun hW hA G C hF => ?_)
  have i_0 : zb_is E.1 x0 11 := zb_aH hA (by decide)
  show zb_WP _ _ 0 [(0, (2, x0)), (1, (0, x1)), (2, (0, x2)), (3, (0, x3))] [] _ _ _ _
  refine zb_aload_n (j := 0) dX11_swap_0 rfl rfl ?_
  refine zb_iload_n (j := 1) dX11_swap_1 rfl rfl ?_
  refine zb_iload_n (j := 2) dX11_swap_2 rfl rfl ?_
  refine zb_cVp (As := [(0, x1), (0, x2)]) (As' := [(0, x2), (0, x1)]) (st := []) dX11_swap_3 lk_X11_120 gd_X11_isThing rfl rfl i_0 ⟨_, rfl, rfl⟩ h hW hF (zb_aR i_0 (zb_aI (zb_aI zb_a0))) (Nat.le_refl _) (Nat.le_of_ble_eq_true rfl) (fun r3 h => ?_)
  show zb_WP _ _ _ _ [(0, r3)] _ _ _ _
  refine zb_if_eq (tgt := 18) dX11_swap_6 (by decide) (fun c1 => ?_) (fun c1 => ?_)
  · have h := h.1 c1
    refine zb_iconst dX11_swap_18 (zb_inIc rfl) ?_
    exact zb_rI dX11_swap_19 rfl hF h
  · have h := h.2 c1
    refine zb_aload_n (j := 0) dX11_swap_9 rfl rfl ?_
    refine zb_iload_n (j := 1) dX11_swap_10 rfl rfl ?_
    refine zb_iload_n (j := 3) dX11_swap_11 rfl rfl ?_
    refine zb_cVp (As := [(0, x1), (0, x3)]) (As' := [(0, x3), (0, x1)]) (st := []) dX11_swap_12 lk_X11_120 gd_X11_isThing rfl rfl i_0 ⟨_, rfl, rfl⟩ h hW hF (zb_aR i_0 (zb_aI (zb_aI zb_a0))) (Nat.le_refl _) (Nat.le_of_ble_eq_true rfl) (fun r12 h => ?_)
    show zb_WP _ _ _ _ [(0, r12)] _ _ _ _
    refine zb_if_ne (tgt := 20) dX11_swap_15 (by decide) (fun c2 => ?_) (fun c2 => ?_)
    · have h := h.2 c2
      refine zb_aload_n (j := 0) dX11_swap_20 rfl rfl ?_
      refine zb_iload_n (j := 1) dX11_swap_21 rfl rfl ?_
      refine zb_cV (As := [(0, x1)]) (As' := [(0, x1)]) (st := []) dX11_swap_22 lk_X11_112 gd_X11_keep rfl rfl i_0 ⟨_, rfl, rfl⟩ h hW hF (zb_aR i_0 (zb_aI zb_a0)) (Nat.le_refl _) (Nat.le_of_ble_eq_true rfl) (fun r22 m22 hF h => ?_)
      show zb_WP _ _ _ _ [] _ _ _ _
      refine zb_aload_n (j := 0) dX11_swap_25 rfl rfl ?_
      refine zb_gFa 0 dX11_swap_26 fl_X11_11 i_0 hW hF rfl rfl rfl (by decide) rfl 8 rfl (fun i3 l4 => ?_)
      refine zb_iload_n (j := 1) dX11_swap_29 rfl rfl ?_
      obtain ⟨o5, h⟩ := h
      refine zb_lA 3 dX11_swap_30 i3 (by decide) l4 hW hF o5.1 o5.2 (fun i6 => ?_)
      refine zb_cV (As := []) (As' := []) (st := []) dX11_swap_31 lk_X11_156 gd_X4_lengthenRows rfl rfl i6 ⟨_, rfl, rfl⟩ h hW hF (zb_aR i6 zb_a0) (Nat.le_refl _) (Nat.le_of_ble_eq_true rfl) (fun r31 m31 hF h => ?_)
      show zb_WP _ _ _ _ [] _ _ _ _
      refine zb_aload_n (j := 0) dX11_swap_34 rfl rfl ?_
      refine zb_gFa 0 dX11_swap_35 fl_X11_11 i_0 hW hF rfl rfl rfl (by decide) rfl 8 rfl (fun i7 l8 => ?_)
      refine zb_iload_n (j := 1) dX11_swap_38 rfl rfl ?_
      refine zb_lA 3 dX11_swap_39 i7 (by decide) l8 hW hF o5.1 o5.2 (fun i9 => ?_)
      refine zb_iload_n (j := 2) dX11_swap_40 rfl rfl ?_
      refine zb_iload_n (j := 3) dX11_swap_41 rfl rfl ?_
      refine zb_cV (As := [(0, x2), (0, x3)]) (As' := [(0, x3), (0, x2)]) (st := []) dX11_swap_42 lk_X11_159 gd_X4_exchange rfl rfl i9 ⟨_, rfl, rfl⟩ h hW hF (zb_aR i9 (zb_aI (zb_aI zb_a0))) (Nat.le_refl _) (Nat.le_of_ble_eq_true rfl) (fun r42 m42 hF h => ?_)
      show zb_WP _ _ _ _ [] _ _ _ _
      refine zb_iconst dX11_swap_45 (zb_inIc rfl) ?_
      exact zb_rI dX11_swap_46 rfl hF h
    · have h := h.1 c2
      refine zb_iconst dX11_swap_18 (zb_inIc rfl) ?_
      exact zb_rI dX11_swap_19 rfl hF h
theorem dX11_twin_0 : decode cX11_twin 0 = .ok (.iload_n 1, 1) := by decide +kernel
theorem dX11_twin_1 : decode cX11_twin 1 = .ok (.invokestatic 97, 3) := by decide +kernel
theorem dX11_twin_4 : decode cX11_twin 4 = .ok (.ifCond .eq 10, 3) := by decide +kernel
theorem dX11_twin_7 : decode cX11_twin 7 = .ok (.iload_n 2, 1) := by decide +kernel
theorem dX11_twin_8 : decode cX11_twin 8 = .ok (.invokestatic 97, 3) := by decide +kernel
theorem dX11_twin_11 : decode cX11_twin 11 = .ok (.ifCond .ne 5, 3) := by decide +kernel
theorem dX11_twin_14 : decode cX11_twin 14 = .ok (.iconst (-1), 1) := by decide +kernel
theorem dX11_twin_15 : decode cX11_twin 15 = .ok (.ireturn, 1) := by decide +kernel
theorem dX11_twin_16 : decode cX11_twin 16 = .ok (.aload_n 0, 1) := by decide +kernel
theorem dX11_twin_17 : decode cX11_twin 17 = .ok (.iload_n 2, 1) := by decide +kernel
theorem dX11_twin_18 : decode cX11_twin 18 = .ok (.invokevirtual 112, 3) := by decide +kernel
theorem dX11_twin_21 : decode cX11_twin 21 = .ok (.aload_n 0, 1) := by decide +kernel
theorem dX11_twin_22 : decode cX11_twin 22 = .ok (.getfield 11, 3) := by decide +kernel
theorem dX11_twin_25 : decode cX11_twin 25 = .ok (.iload_n 2, 1) := by decide +kernel
theorem dX11_twin_26 : decode cX11_twin 26 = .ok (.aaload, 1) := by decide +kernel
theorem dX11_twin_27 : decode cX11_twin 27 = .ok (.aload_n 0, 1) := by decide +kernel
theorem dX11_twin_28 : decode cX11_twin 28 = .ok (.getfield 11, 3) := by decide +kernel
theorem dX11_twin_31 : decode cX11_twin 31 = .ok (.iload_n 1, 1) := by decide +kernel
theorem dX11_twin_32 : decode cX11_twin 32 = .ok (.aaload, 1) := by decide +kernel
theorem dX11_twin_33 : decode cX11_twin 33 = .ok (.invokevirtual 162, 3) := by decide +kernel
theorem dX11_twin_36 : decode cX11_twin 36 = .ok (.aload_n 0, 1) := by decide +kernel
theorem dX11_twin_37 : decode cX11_twin 37 = .ok (.getfield 11, 3) := by decide +kernel
theorem dX11_twin_40 : decode cX11_twin 40 = .ok (.iload_n 2, 1) := by decide +kernel
theorem dX11_twin_41 : decode cX11_twin 41 = .ok (.aaload, 1) := by decide +kernel
theorem dX11_twin_42 : decode cX11_twin 42 = .ok (.getfield 108, 3) := by decide +kernel
theorem dX11_twin_45 : decode cX11_twin 45 = .ok (.ireturn, 1) := by decide +kernel
def PM_X11_twin (d : Nat) (E : zb_E) (x0 : Int) (x1 : Int) (x2 : Int) (m : zb_M) (Q : Int → zb_M → Prop) : Prop :=
  zb_Tp K_X11_isGraph d [(0, x1)] E m (fun r1 => (r1 = 0 → Q (-1) m) ∧ (¬ r1 = 0 → zb_Tp K_X11_isGraph d [(0, x2)] E m (fun r8 => (r8 = 0 → Q (-1) m) ∧ (¬ r8 = 0 → zb_T K_X11_keep d [(2, x0), (0, x2)] E m (fun r18 m18 => (0 ≤ x2 ∧ x2 < 8) ∧ ((0 ≤ x1 ∧ x1 < 8) ∧ (zb_T K_X4_become d [(2, (E.2 (E.2 x0 0) x2)), (2, (E.2 (E.2 x0 0) x1))] E m18 (fun r33 m33 => Q (m33 (E.2 (E.2 x0 0) x2) 0) m33))))))))
set_option maxRecDepth 100000 in
set_option maxHeartbeats 4000000 in
theorem w_X11_twin {d : Nat} {E : zb_E} {x0 x1 x2 : Int} {m : zb_M} {Q : Int → zb_M → Prop} (h : PM_X11_twin d E x0 x1 x2 m Q) : zb_T K_X11_twin (d + 1) [(2, x0), (0, x1), (0, x2)] E m Q := by
  unfold PM_X11_twin at h
  refine zb_T_in gd_X11_twin rfl rfl (fun hW hA G C hF => ?_)
  have i_0 : zb_is E.1 x0 11 := zb_aH hA (by decide)
  show zb_WP _ _ 0 [(0, (2, x0)), (1, (0, x1)), (2, (0, x2))] [] _ _ _ _
  refine zb_iload_n (j := 1) dX11_twin_0 rfl rfl ?_
  refine zb_cSp (As := [(0, x1)]) (As' := [(0, x1)]) (st := []) dX11_twin_1 lk_X11_97 gd_X11_isGraph rfl rfl h hW hF (zb_aI zb_a0) (Nat.le_refl _) (Nat.le_of_ble_eq_true rfl) (fun r1 h => ?_)
  show zb_WP _ _ _ _ [(0, r1)] _ _ _ _
  refine zb_if_eq (tgt := 14) dX11_twin_4 (by decide) (fun c1 => ?_) (fun c1 => ?_)
  · have h := h.1 c1
    refine zb_iconst dX11_twin_14 (zb_inIc rfl) ?_
    exact zb_rI dX11_twin_15 rfl hF h
  · have h := h.2 c1
    refine zb_iload_n (j := 2) dX11_twin_7 rfl rfl ?_
    refine zb_cSp (As := [(0, x2)]) (As' := [(0, x2)]) (st := []) dX11_twin_8 lk_X11_97 gd_X11_isGraph rfl rfl h hW hF (zb_aI zb_a0) (Nat.le_refl _) (Nat.le_of_ble_eq_true rfl) (fun r8 h => ?_)
    show zb_WP _ _ _ _ [(0, r8)] _ _ _ _
    refine zb_if_ne (tgt := 16) dX11_twin_11 (by decide) (fun c2 => ?_) (fun c2 => ?_)
    · have h := h.2 c2
      refine zb_aload_n (j := 0) dX11_twin_16 rfl rfl ?_
      refine zb_iload_n (j := 2) dX11_twin_17 rfl rfl ?_
      refine zb_cV (As := [(0, x2)]) (As' := [(0, x2)]) (st := []) dX11_twin_18 lk_X11_112 gd_X11_keep rfl rfl i_0 ⟨_, rfl, rfl⟩ h hW hF (zb_aR i_0 (zb_aI zb_a0)) (Nat.le_refl _) (Nat.le_of_ble_eq_true rfl) (fun r18 m18 hF h => ?_)
      show zb_WP _ _ _ _ [] _ _ _ _
      refine zb_aload_n (j := 0) dX11_twin_21 rfl rfl ?_
      refine zb_gFa 0 dX11_twin_22 fl_X11_11 i_0 hW hF rfl rfl rfl (by decide) rfl 8 rfl (fun i3 l4 => ?_)
      refine zb_iload_n (j := 2) dX11_twin_25 rfl rfl ?_
      obtain ⟨o5, h⟩ := h
      refine zb_lA 3 dX11_twin_26 i3 (by decide) l4 hW hF o5.1 o5.2 (fun i6 => ?_)
      refine zb_aload_n (j := 0) dX11_twin_27 rfl rfl ?_
      refine zb_gFa 0 dX11_twin_28 fl_X11_11 i_0 hW hF rfl rfl rfl (by decide) rfl 8 rfl (fun i7 l8 => ?_)
      refine zb_iload_n (j := 1) dX11_twin_31 rfl rfl ?_
      obtain ⟨o9, h⟩ := h
      refine zb_lA 3 dX11_twin_32 i7 (by decide) l8 hW hF o9.1 o9.2 (fun i10 => ?_)
      refine zb_cV (As := [(2, (E.2 (E.2 x0 0) x1))]) (As' := [(2, (E.2 (E.2 x0 0) x1))]) (st := []) dX11_twin_33 lk_X11_162 gd_X4_become rfl rfl i6 ⟨_, rfl, rfl⟩ h hW hF (zb_aR i6 (zb_aR i10 zb_a0)) (Nat.le_refl _) (Nat.le_of_ble_eq_true rfl) (fun r33 m33 hF h => ?_)
      show zb_WP _ _ _ _ [] _ _ _ _
      refine zb_aload_n (j := 0) dX11_twin_36 rfl rfl ?_
      refine zb_gFa 0 dX11_twin_37 fl_X11_11 i_0 hW hF rfl rfl rfl (by decide) rfl 8 rfl (fun i11 l12 => ?_)
      refine zb_iload_n (j := 2) dX11_twin_40 rfl rfl ?_
      refine zb_lA 3 dX11_twin_41 i11 (by decide) l12 hW hF o5.1 o5.2 (fun i13 => ?_)
      refine zb_gI 0 dX11_twin_42 fl_X11_108 i13 rfl rfl ?_
      exact zb_rI dX11_twin_45 rfl hF h
    · have h := h.1 c2
      refine zb_iconst dX11_twin_14 (zb_inIc rfl) ?_
      exact zb_rI dX11_twin_15 rfl hF h
theorem dX11_drop_0 : decode cX11_drop 0 = .ok (.iload_n 1, 1) := by decide +kernel
theorem dX11_drop_1 : decode cX11_drop 1 = .ok (.invokestatic 97, 3) := by decide +kernel
theorem dX11_drop_4 : decode cX11_drop 4 = .ok (.ifCond .ne 5, 3) := by decide +kernel
theorem dX11_drop_7 : decode cX11_drop 7 = .ok (.iconst (-1), 1) := by decide +kernel
theorem dX11_drop_8 : decode cX11_drop 8 = .ok (.ireturn, 1) := by decide +kernel
theorem dX11_drop_9 : decode cX11_drop 9 = .ok (.aload_n 0, 1) := by decide +kernel
theorem dX11_drop_10 : decode cX11_drop 10 = .ok (.iload_n 1, 1) := by decide +kernel
theorem dX11_drop_11 : decode cX11_drop 11 = .ok (.invokevirtual 112, 3) := by decide +kernel
theorem dX11_drop_14 : decode cX11_drop 14 = .ok (.aload_n 0, 1) := by decide +kernel
theorem dX11_drop_15 : decode cX11_drop 15 = .ok (.getfield 11, 3) := by decide +kernel
theorem dX11_drop_18 : decode cX11_drop 18 = .ok (.iload_n 1, 1) := by decide +kernel
theorem dX11_drop_19 : decode cX11_drop 19 = .ok (.aaload, 1) := by decide +kernel
theorem dX11_drop_20 : decode cX11_drop 20 = .ok (.getfield 108, 3) := by decide +kernel
theorem dX11_drop_23 : decode cX11_drop 23 = .ok (.istore_n 2, 1) := by decide +kernel
theorem dX11_drop_24 : decode cX11_drop 24 = .ok (.aload_n 0, 1) := by decide +kernel
theorem dX11_drop_25 : decode cX11_drop 25 = .ok (.getfield 11, 3) := by decide +kernel
theorem dX11_drop_28 : decode cX11_drop 28 = .ok (.iload_n 1, 1) := by decide +kernel
theorem dX11_drop_29 : decode cX11_drop 29 = .ok (.aaload, 1) := by decide +kernel
theorem dX11_drop_30 : decode cX11_drop 30 = .ok (.iconst 0, 1) := by decide +kernel
theorem dX11_drop_31 : decode cX11_drop 31 = .ok (.putfield 108, 3) := by decide +kernel
theorem dX11_drop_34 : decode cX11_drop 34 = .ok (.iload_n 2, 1) := by decide +kernel
theorem dX11_drop_35 : decode cX11_drop 35 = .ok (.ireturn, 1) := by decide +kernel
def PM_X11_drop (d : Nat) (E : zb_E) (x0 : Int) (x1 : Int) (m : zb_M) (Q : Int → zb_M → Prop) : Prop :=
  zb_Tp K_X11_isGraph d [(0, x1)] E m (fun r1 => (r1 = 0 → Q (-1) m) ∧ (¬ r1 = 0 → zb_T K_X11_keep d [(2, x0), (0, x1)] E m (fun r11 m11 => (0 ≤ x1 ∧ x1 < 8) ∧ (∀ m31, m31 = zb_up m11 (E.2 (E.2 x0 0) x1) 0 0 → (Q (m11 (E.2 (E.2 x0 0) x1) 0) m31)))))
set_option maxRecDepth 100000 in
set_option maxHeartbeats 4000000 in
theorem w_X11_drop {d : Nat} {E : zb_E} {x0 x1 : Int} {m : zb_M} {Q : Int → zb_M → Prop} (h : PM_X11_drop d E x0 x1 m Q) : zb_T K_X11_drop (d + 1) [(2, x0), (0, x1)] E m Q := by
  unfold PM_X11_drop at h
  refine zb_T_in gd_X11_drop rfl rfl (fun hW hA G C hF => ?_)
  have i_0 : zb_is E.1 x0 11 := zb_aH hA (by decide)
  show zb_WP _ _ 0 [(0, (2, x0)), (1, (0, x1))] [] _ _ _ _
  refine zb_iload_n (j := 1) dX11_drop_0 rfl rfl ?_
  refine zb_cSp (As := [(0, x1)]) (As' := [(0, x1)]) (st := []) dX11_drop_1 lk_X11_97 gd_X11_isGraph rfl rfl h hW hF (zb_aI zb_a0) (Nat.le_refl _) (Nat.le_of_ble_eq_true rfl) (fun r1 h => ?_)
  show zb_WP _ _ _ _ [(0, r1)] _ _ _ _
  refine zb_if_ne (tgt := 9) dX11_drop_4 (by decide) (fun c1 => ?_) (fun c1 => ?_)
  · have h := h.2 c1
    refine zb_aload_n (j := 0) dX11_drop_9 rfl rfl ?_
    refine zb_iload_n (j := 1) dX11_drop_10 rfl rfl ?_
    refine zb_cV (As := [(0, x1)]) (As' := [(0, x1)]) (st := []) dX11_drop_11 lk_X11_112 gd_X11_keep rfl rfl i_0 ⟨_, rfl, rfl⟩ h hW hF (zb_aR i_0 (zb_aI zb_a0)) (Nat.le_refl _) (Nat.le_of_ble_eq_true rfl) (fun r11 m11 hF h => ?_)
    show zb_WP _ _ _ _ [] _ _ _ _
    refine zb_aload_n (j := 0) dX11_drop_14 rfl rfl ?_
    refine zb_gFa 0 dX11_drop_15 fl_X11_11 i_0 hW hF rfl rfl rfl (by decide) rfl 8 rfl (fun i2 l3 => ?_)
    refine zb_iload_n (j := 1) dX11_drop_18 rfl rfl ?_
    obtain ⟨o4, h⟩ := h
    refine zb_lA 3 dX11_drop_19 i2 (by decide) l3 hW hF o4.1 o4.2 (fun i5 => ?_)
    refine zb_gI 0 dX11_drop_20 fl_X11_108 i5 rfl rfl ?_
    refine zb_istore_n (L' := [(2, (0, (m11 (E.2 (E.2 x0 0) x1) 0))), (0, (2, x0)), (1, (0, x1))]) dX11_drop_23 rfl (by decide) rfl ?_
    refine zb_aload_n (j := 1) dX11_drop_24 rfl rfl ?_
    refine zb_gFa 0 dX11_drop_25 fl_X11_11 i_0 hW hF rfl rfl rfl (by decide) rfl 8 rfl (fun i6 l7 => ?_)
    refine zb_iload_n (j := 2) dX11_drop_28 rfl rfl ?_
    refine zb_lA 3 dX11_drop_29 i6 (by decide) l7 hW hF o4.1 o4.2 (fun i8 => ?_)
    refine zb_iconst dX11_drop_30 (zb_inIc rfl) ?_
    refine zb_pF 0 dX11_drop_31 fl_X11_108 rfl rfl i8 (Or.inl rfl) hF rfl rfl (fun m31 e31 hF => ?_)
    have h := h m31 e31
    refine zb_iload_n (j := 0) dX11_drop_34 rfl rfl ?_
    exact zb_rI dX11_drop_35 rfl hF h
  · have h := h.1 c1
    refine zb_iconst dX11_drop_7 (zb_inIc rfl) ?_
    exact zb_rI dX11_drop_8 rfl hF h
theorem dX11_told_0 : decode cX11_told 0 = .ok (.aload_n 0, 1) := by decide +kernel
theorem dX11_told_1 : decode cX11_told 1 = .ok (.iload_n 1, 1) := by decide +kernel
theorem dX11_told_2 : decode cX11_told 2 = .ok (.iload_n 2, 1) := by decide +kernel
theorem dX11_told_3 : decode cX11_told 3 = .ok (.invokevirtual 120, 3) := by decide +kernel
theorem dX11_told_6 : decode cX11_told 6 = .ok (.ifCond .ne 5, 3) := by decide +kernel
theorem dX11_told_9 : decode cX11_told 9 = .ok (.iconst (-1), 1) := by decide +kernel
theorem dX11_told_10 : decode cX11_told 10 = .ok (.ireturn, 1) := by decide +kernel
theorem dX11_told_11 : decode cX11_told 11 = .ok (.aload_n 0, 1) := by decide +kernel
theorem dX11_told_12 : decode cX11_told 12 = .ok (.getfield 11, 3) := by decide +kernel
theorem dX11_told_15 : decode cX11_told 15 = .ok (.iload_n 1, 1) := by decide +kernel
theorem dX11_told_16 : decode cX11_told 16 = .ok (.aaload, 1) := by decide +kernel
theorem dX11_told_17 : decode cX11_told 17 = .ok (.astore 4, 2) := by decide +kernel
theorem dX11_told_19 : decode cX11_told 19 = .ok (.iload_n 3, 1) := by decide +kernel
theorem dX11_told_20 : decode cX11_told 20 = .ok (.tableswitch 96 0 4 #[36, 44, 52, 59, 81], 36) := by decide +kernel
theorem dX11_told_56 : decode cX11_told 56 = .ok (.aload 4, 2) := by decide +kernel
theorem dX11_told_58 : decode cX11_told 58 = .ok (.getfield 166, 3) := by decide +kernel
theorem dX11_told_61 : decode cX11_told 61 = .ok (.iload_n 2, 1) := by decide +kernel
theorem dX11_told_62 : decode cX11_told 62 = .ok (.iaload, 1) := by decide +kernel
theorem dX11_told_63 : decode cX11_told 63 = .ok (.ireturn, 1) := by decide +kernel
theorem dX11_told_64 : decode cX11_told 64 = .ok (.aload 4, 2) := by decide +kernel
theorem dX11_told_66 : decode cX11_told 66 = .ok (.getfield 123, 3) := by decide +kernel
theorem dX11_told_69 : decode cX11_told 69 = .ok (.iload_n 2, 1) := by decide +kernel
theorem dX11_told_70 : decode cX11_told 70 = .ok (.iaload, 1) := by decide +kernel
theorem dX11_told_71 : decode cX11_told 71 = .ok (.ireturn, 1) := by decide +kernel
theorem dX11_told_72 : decode cX11_told 72 = .ok (.aload 4, 2) := by decide +kernel
theorem dX11_told_74 : decode cX11_told 74 = .ok (.iload_n 2, 1) := by decide +kernel
theorem dX11_told_75 : decode cX11_told 75 = .ok (.invokevirtual 169, 3) := by decide +kernel
theorem dX11_told_78 : decode cX11_told 78 = .ok (.ireturn, 1) := by decide +kernel
theorem dX11_told_79 : decode cX11_told 79 = .ok (.aload 4, 2) := by decide +kernel
theorem dX11_told_81 : decode cX11_told 81 = .ok (.iload_n 2, 1) := by decide +kernel
theorem dX11_told_82 : decode cX11_told 82 = .ok (.invokevirtual 137, 3) := by decide +kernel
theorem dX11_told_85 : decode cX11_told 85 = .ok (.ifCond .eq 13, 3) := by decide +kernel
theorem dX11_told_88 : decode cX11_told 88 = .ok (.aload 4, 2) := by decide +kernel
theorem dX11_told_90 : decode cX11_told 90 = .ok (.getfield 140, 3) := by decide +kernel
theorem dX11_told_93 : decode cX11_told 93 = .ok (.iload_n 2, 1) := by decide +kernel
theorem dX11_told_94 : decode cX11_told 94 = .ok (.iaload, 1) := by decide +kernel
theorem dX11_told_95 : decode cX11_told 95 = .ok (.goto 5, 3) := by decide +kernel
theorem dX11_told_98 : decode cX11_told 98 = .ok (.bipush (-11), 2) := by decide +kernel
theorem dX11_told_100 : decode cX11_told 100 = .ok (.ireturn, 1) := by decide +kernel
theorem dX11_told_101 : decode cX11_told 101 = .ok (.aload 4, 2) := by decide +kernel
theorem dX11_told_103 : decode cX11_told 103 = .ok (.iload_n 2, 1) := by decide +kernel
theorem dX11_told_104 : decode cX11_told 104 = .ok (.invokevirtual 127, 3) := by decide +kernel
theorem dX11_told_107 : decode cX11_told 107 = .ok (.ifCond .eq 7, 3) := by decide +kernel
theorem dX11_told_110 : decode cX11_told 110 = .ok (.iconst 1, 1) := by decide +kernel
theorem dX11_told_111 : decode cX11_told 111 = .ok (.goto 4, 3) := by decide +kernel
theorem dX11_told_114 : decode cX11_told 114 = .ok (.iconst 0, 1) := by decide +kernel
theorem dX11_told_115 : decode cX11_told 115 = .ok (.ireturn, 1) := by decide +kernel
theorem dX11_told_116 : decode cX11_told 116 = .ok (.iconst (-1), 1) := by decide +kernel
theorem dX11_told_117 : decode cX11_told 117 = .ok (.ireturn, 1) := by decide +kernel
def PM_X11_told (d : Nat) (E : zb_E) (x0 : Int) (x1 : Int) (x2 : Int) (x3 : Int) (m : zb_M) (Q : Int → Prop) : Prop :=
  zb_Tp K_X11_isThing d [(2, x0), (0, x1), (0, x2)] E m (fun r3 => (r3 = 0 → Q (-1)) ∧ (¬ r3 = 0 → (0 ≤ x1 ∧ x1 < 8) ∧ ((x3 = 0 → (0 ≤ x2 ∧ x2 < 12) ∧ (Q (m (E.2 (E.2 (E.2 x0 0) x1) 1) x2))) ∧ (x3 = 1 → (0 ≤ x2 ∧ x2 < 12) ∧ (Q (m (E.2 (E.2 (E.2 x0 0) x1) 2) x2))) ∧ (x3 = 2 → zb_Tp K_X4_keyOf d [(2, (E.2 (E.2 x0 0) x1)), (0, x2)] E m (fun r75 => Q r75)) ∧ (x3 = 3 → zb_Tp K_X4_hasRow d [(2, (E.2 (E.2 x0 0) x1)), (0, x2)] E m (fun r82 => (r82 = 0 → Q (-11)) ∧ (¬ r82 = 0 → (0 ≤ x2 ∧ x2 < 12) ∧ (Q (m (E.2 (E.2 (E.2 x0 0) x1) 4) x2))))) ∧ (x3 = 4 → zb_Tp K_X4_isNamed d [(2, (E.2 (E.2 x0 0) x1)), (0, x2)] E m (fun r104 => (r104 = 0 → Q 0) ∧ (¬ r104 = 0 → Q 1))) ∧ ((x3 < 0 ∨ 4 < x3) → Q (-1)))))
set_option maxRecDepth 100000 in
set_option maxHeartbeats 4000000 in
theorem w_X11_told {d : Nat} {E : zb_E} {x0 x1 x2 x3 : Int} {m : zb_M} {Q : Int → Prop} (h : PM_X11_told d E x0 x1 x2 x3 m Q) : zb_Tp K_X11_told (d + 1) [(2, x0), (0, x1), (0, x2), (0, x3)] E m Q := by
  unfold PM_X11_told at h
  refine zb_T_in gd_X11_told rfl rfl (fun hW hA G C hF => ?_)
  have i_0 : zb_is E.1 x0 11 := zb_aH hA (by decide)
  show zb_WP _ _ 0 [(0, (2, x0)), (1, (0, x1)), (2, (0, x2)), (3, (0, x3))] [] _ _ _ _
  refine zb_aload_n (j := 0) dX11_told_0 rfl rfl ?_
  refine zb_iload_n (j := 1) dX11_told_1 rfl rfl ?_
  refine zb_iload_n (j := 2) dX11_told_2 rfl rfl ?_
  refine zb_cVp (As := [(0, x1), (0, x2)]) (As' := [(0, x2), (0, x1)]) (st := []) dX11_told_3 lk_X11_120 gd_X11_isThing rfl rfl i_0 ⟨_, rfl, rfl⟩ h hW hF (zb_aR i_0 (zb_aI (zb_aI zb_a0))) (Nat.le_refl _) (Nat.le_of_ble_eq_true rfl) (fun r3 h => ?_)
  show zb_WP _ _ _ _ [(0, r3)] _ _ _ _
  refine zb_if_ne (tgt := 11) dX11_told_6 (by decide) (fun c1 => ?_) (fun c1 => ?_)
  · have h := h.2 c1
    refine zb_aload_n (j := 0) dX11_told_11 rfl rfl ?_
    refine zb_gFa 0 dX11_told_12 fl_X11_11 i_0 hW hF rfl rfl rfl (by decide) rfl 8 rfl (fun i2 l3 => ?_)
    refine zb_iload_n (j := 1) dX11_told_15 rfl rfl ?_
    obtain ⟨o4, h⟩ := h
    refine zb_lA 3 dX11_told_16 i2 (by decide) l3 hW hF o4.1 o4.2 (fun i5 => ?_)
    refine zb_astore (L' := [(4, (2, (E.2 (E.2 x0 0) x1))), (0, (2, x0)), (1, (0, x1)), (2, (0, x2)), (3, (0, x3))]) dX11_told_17 (by decide) rfl ?_
    refine zb_iload_n (j := 4) dX11_told_19 rfl rfl ?_
    by_cases c9 : x3 = 0
    · refine zb_tableIn (off := 36) (tgt := 56) dX11_told_20 (by omega) (by omega) (by rw [c9]; decide) (by decide) ?_
      have h := h.1 c9
      refine zb_aload (j := 0) dX11_told_56 rfl ?_
      refine zb_gFa 1 dX11_told_58 fl_X11_166 i5 hW hF rfl rfl rfl (by decide) rfl 12 rfl (fun i6 l7 => ?_)
      refine zb_iload_n (j := 3) dX11_told_61 rfl rfl ?_
      obtain ⟨o8, h⟩ := h
      refine zb_lI dX11_told_62 i6 l7 o8.1 o8.2 ?_
      exact zb_rI dX11_told_63 rfl hF ⟨rfl, h⟩
    ·
      by_cases c13 : x3 = 1
      · refine zb_tableIn (off := 44) (tgt := 64) dX11_told_20 (by omega) (by omega) (by rw [c13]; decide) (by decide) ?_
        have h := h.2.1 c13
        refine zb_aload (j := 0) dX11_told_64 rfl ?_
        refine zb_gFa 2 dX11_told_66 fl_X11_123 i5 hW hF rfl rfl rfl (by decide) rfl 12 rfl (fun i10 l11 => ?_)
        refine zb_iload_n (j := 3) dX11_told_69 rfl rfl ?_
        obtain ⟨o12, h⟩ := h
        refine zb_lI dX11_told_70 i10 l11 o12.1 o12.2 ?_
        exact zb_rI dX11_told_71 rfl hF ⟨rfl, h⟩
      ·
        by_cases c14 : x3 = 2
        · refine zb_tableIn (off := 52) (tgt := 72) dX11_told_20 (by omega) (by omega) (by rw [c14]; decide) (by decide) ?_
          have h := h.2.2.1 c14
          refine zb_aload (j := 0) dX11_told_72 rfl ?_
          refine zb_iload_n (j := 3) dX11_told_74 rfl rfl ?_
          refine zb_cVp (As := [(0, x2)]) (As' := [(0, x2)]) (st := []) dX11_told_75 lk_X11_169 gd_X4_keyOf rfl rfl i5 ⟨_, rfl, rfl⟩ h hW hF (zb_aR i5 (zb_aI zb_a0)) (Nat.le_refl _) (Nat.le_of_ble_eq_true rfl) (fun r75 h => ?_)
          show zb_WP _ _ _ _ [(0, r75)] _ _ _ _
          exact zb_rI dX11_told_78 rfl hF ⟨rfl, h⟩
        ·
          by_cases c19 : x3 = 3
          · refine zb_tableIn (off := 59) (tgt := 79) dX11_told_20 (by omega) (by omega) (by rw [c19]; decide) (by decide) ?_
            have h := h.2.2.2.1 c19
            refine zb_aload (j := 0) dX11_told_79 rfl ?_
            refine zb_iload_n (j := 3) dX11_told_81 rfl rfl ?_
            refine zb_cVp (As := [(0, x2)]) (As' := [(0, x2)]) (st := []) dX11_told_82 lk_X11_137 gd_X4_hasRow rfl rfl i5 ⟨_, rfl, rfl⟩ h hW hF (zb_aR i5 (zb_aI zb_a0)) (Nat.le_refl _) (Nat.le_of_ble_eq_true rfl) (fun r82 h => ?_)
            show zb_WP _ _ _ _ [(0, r82)] _ _ _ _
            refine zb_if_eq (tgt := 98) dX11_told_85 (by decide) (fun c15 => ?_) (fun c15 => ?_)
            · have h := h.1 c15
              refine zb_bipush dX11_told_98 (by decide) (zb_inIc rfl) ?_
              exact zb_rI dX11_told_100 rfl hF ⟨rfl, h⟩
            · have h := h.2 c15
              refine zb_aload (j := 0) dX11_told_88 rfl ?_
              refine zb_gFa 4 dX11_told_90 fl_X11_140 i5 hW hF rfl rfl rfl (by decide) rfl 12 rfl (fun i16 l17 => ?_)
              refine zb_iload_n (j := 3) dX11_told_93 rfl rfl ?_
              obtain ⟨o18, h⟩ := h
              refine zb_lI dX11_told_94 i16 l17 o18.1 o18.2 ?_
              refine zb_goto (tgt := 100) dX11_told_95 (by decide) ?_
              exact zb_rI dX11_told_100 rfl hF ⟨rfl, h⟩
          ·
            by_cases c21 : x3 = 4
            · refine zb_tableIn (off := 81) (tgt := 101) dX11_told_20 (by omega) (by omega) (by rw [c21]; decide) (by decide) ?_
              have h := h.2.2.2.2.1 c21
              refine zb_aload (j := 0) dX11_told_101 rfl ?_
              refine zb_iload_n (j := 3) dX11_told_103 rfl rfl ?_
              refine zb_cVp (As := [(0, x2)]) (As' := [(0, x2)]) (st := []) dX11_told_104 lk_X11_127 gd_X4_isNamed rfl rfl i5 ⟨_, rfl, rfl⟩ h hW hF (zb_aR i5 (zb_aI zb_a0)) (Nat.le_refl _) (Nat.le_of_ble_eq_true rfl) (fun r104 h => ?_)
              show zb_WP _ _ _ _ [(0, r104)] _ _ _ _
              refine zb_if_eq (tgt := 114) dX11_told_107 (by decide) (fun c20 => ?_) (fun c20 => ?_)
              · have h := h.1 c20
                refine zb_iconst dX11_told_114 (zb_inIc rfl) ?_
                exact zb_rI dX11_told_115 rfl hF ⟨rfl, h⟩
              · have h := h.2 c20
                refine zb_iconst dX11_told_110 (zb_inIc rfl) ?_
                refine zb_goto (tgt := 115) dX11_told_111 (by decide) ?_
                exact zb_rI dX11_told_115 rfl hF ⟨rfl, h⟩
            ·
              have cc : x3 < 0 ∨ 4 < x3 := by omega
              refine zb_tableOut (tgt := 116) dX11_told_20 cc (by decide) ?_
              have h := h.2.2.2.2.2 cc
              refine zb_iconst dX11_told_116 (zb_inIc rfl) ?_
              exact zb_rI dX11_told_117 rfl hF ⟨rfl, h⟩
  · have h := h.1 c1
    refine zb_iconst dX11_told_9 (zb_inIc rfl) ?_
    exact zb_rI dX11_told_10 rfl hF ⟨rfl, h⟩
theorem dX11_count_0 : decode cX11_count 0 = .ok (.iload_n 1, 1) := by decide +kernel
theorem dX11_count_1 : decode cX11_count 1 = .ok (.invokestatic 97, 3) := by decide +kernel
theorem dX11_count_4 : decode cX11_count 4 = .ok (.ifCond .ne 5, 3) := by decide +kernel
theorem dX11_count_7 : decode cX11_count 7 = .ok (.iconst (-1), 1) := by decide +kernel
theorem dX11_count_8 : decode cX11_count 8 = .ok (.ireturn, 1) := by decide +kernel
theorem dX11_count_9 : decode cX11_count 9 = .ok (.iload_n 2, 1) := by decide +kernel
theorem dX11_count_10 : decode cX11_count 10 = .ok (.tableswitch 76 0 3 #[30, 40, 50, 68], 30) := by decide +kernel
theorem dX11_count_40 : decode cX11_count 40 = .ok (.aload_n 0, 1) := by decide +kernel
theorem dX11_count_41 : decode cX11_count 41 = .ok (.getfield 11, 3) := by decide +kernel
theorem dX11_count_44 : decode cX11_count 44 = .ok (.iload_n 1, 1) := by decide +kernel
theorem dX11_count_45 : decode cX11_count 45 = .ok (.aaload, 1) := by decide +kernel
theorem dX11_count_46 : decode cX11_count 46 = .ok (.getfield 108, 3) := by decide +kernel
theorem dX11_count_49 : decode cX11_count 49 = .ok (.ireturn, 1) := by decide +kernel
theorem dX11_count_50 : decode cX11_count 50 = .ok (.aload_n 0, 1) := by decide +kernel
theorem dX11_count_51 : decode cX11_count 51 = .ok (.getfield 11, 3) := by decide +kernel
theorem dX11_count_54 : decode cX11_count 54 = .ok (.iload_n 1, 1) := by decide +kernel
theorem dX11_count_55 : decode cX11_count 55 = .ok (.aaload, 1) := by decide +kernel
theorem dX11_count_56 : decode cX11_count 56 = .ok (.invokevirtual 173, 3) := by decide +kernel
theorem dX11_count_59 : decode cX11_count 59 = .ok (.ireturn, 1) := by decide +kernel
theorem dX11_count_60 : decode cX11_count 60 = .ok (.aload_n 0, 1) := by decide +kernel
theorem dX11_count_61 : decode cX11_count 61 = .ok (.getfield 11, 3) := by decide +kernel
theorem dX11_count_64 : decode cX11_count 64 = .ok (.iload_n 1, 1) := by decide +kernel
theorem dX11_count_65 : decode cX11_count 65 = .ok (.aaload, 1) := by decide +kernel
theorem dX11_count_66 : decode cX11_count 66 = .ok (.invokevirtual 177, 3) := by decide +kernel
theorem dX11_count_69 : decode cX11_count 69 = .ok (.ifCond .eq 7, 3) := by decide +kernel
theorem dX11_count_72 : decode cX11_count 72 = .ok (.iconst 1, 1) := by decide +kernel
theorem dX11_count_73 : decode cX11_count 73 = .ok (.goto 4, 3) := by decide +kernel
theorem dX11_count_76 : decode cX11_count 76 = .ok (.iconst 0, 1) := by decide +kernel
theorem dX11_count_77 : decode cX11_count 77 = .ok (.ireturn, 1) := by decide +kernel
theorem dX11_count_78 : decode cX11_count 78 = .ok (.aload_n 0, 1) := by decide +kernel
theorem dX11_count_79 : decode cX11_count 79 = .ok (.getfield 18, 3) := by decide +kernel
theorem dX11_count_82 : decode cX11_count 82 = .ok (.getfield 181, 3) := by decide +kernel
theorem dX11_count_85 : decode cX11_count 85 = .ok (.ireturn, 1) := by decide +kernel
theorem dX11_count_86 : decode cX11_count 86 = .ok (.iconst (-1), 1) := by decide +kernel
theorem dX11_count_87 : decode cX11_count 87 = .ok (.ireturn, 1) := by decide +kernel
def PM_X11_count (d : Nat) (E : zb_E) (x0 : Int) (x1 : Int) (x2 : Int) (m : zb_M) (Q : Int → Prop) : Prop :=
  zb_Tp K_X11_isGraph d [(0, x1)] E m (fun r1 => (r1 = 0 → Q (-1)) ∧ (¬ r1 = 0 → (x2 = 0 → (0 ≤ x1 ∧ x1 < 8) ∧ (Q (m (E.2 (E.2 x0 0) x1) 0))) ∧ (x2 = 1 → (0 ≤ x1 ∧ x1 < 8) ∧ (zb_Tp K_X4_countShown d [(2, (E.2 (E.2 x0 0) x1))] E m (fun r56 => Q r56))) ∧ (x2 = 2 → (0 ≤ x1 ∧ x1 < 8) ∧ (zb_Tp K_X4_isRight d [(2, (E.2 (E.2 x0 0) x1))] E m (fun r66 => (r66 = 0 → Q 0) ∧ (¬ r66 = 0 → Q 1)))) ∧ (x2 = 3 → Q (m (E.2 x0 1) 3)) ∧ ((x2 < 0 ∨ 3 < x2) → Q (-1))))
set_option maxRecDepth 100000 in
set_option maxHeartbeats 4000000 in
theorem w_X11_count {d : Nat} {E : zb_E} {x0 x1 x2 : Int} {m : zb_M} {Q : Int → Prop} (h : PM_X11_count d E x0 x1 x2 m Q) : zb_Tp K_X11_count (d + 1) [(2, x0), (0, x1), (0, x2)] E m Q := by
  unfold PM_X11_count at h
  refine zb_T_in gd_X11_count rfl rfl (fun hW hA G C hF => ?_)
  have i_0 : zb_is E.1 x0 11 := zb_aH hA (by decide)
  show zb_WP _ _ 0 [(0, (2, x0)), (1, (0, x1)), (2, (0, x2))] [] _ _ _ _
  refine zb_iload_n (j := 1) dX11_count_0 rfl rfl ?_
  refine zb_cSp (As := [(0, x1)]) (As' := [(0, x1)]) (st := []) dX11_count_1 lk_X11_97 gd_X11_isGraph rfl rfl h hW hF (zb_aI zb_a0) (Nat.le_refl _) (Nat.le_of_ble_eq_true rfl) (fun r1 h => ?_)
  show zb_WP _ _ _ _ [(0, r1)] _ _ _ _
  refine zb_if_ne (tgt := 9) dX11_count_4 (by decide) (fun c1 => ?_) (fun c1 => ?_)
  · have h := h.2 c1
    refine zb_iload_n (j := 2) dX11_count_9 rfl rfl ?_
    by_cases c6 : x2 = 0
    · refine zb_tableIn (off := 30) (tgt := 40) dX11_count_10 (by omega) (by omega) (by rw [c6]; decide) (by decide) ?_
      have h := h.1 c6
      refine zb_aload_n (j := 0) dX11_count_40 rfl rfl ?_
      refine zb_gFa 0 dX11_count_41 fl_X11_11 i_0 hW hF rfl rfl rfl (by decide) rfl 8 rfl (fun i2 l3 => ?_)
      refine zb_iload_n (j := 1) dX11_count_44 rfl rfl ?_
      obtain ⟨o4, h⟩ := h
      refine zb_lA 3 dX11_count_45 i2 (by decide) l3 hW hF o4.1 o4.2 (fun i5 => ?_)
      refine zb_gI 0 dX11_count_46 fl_X11_108 i5 rfl rfl ?_
      exact zb_rI dX11_count_49 rfl hF ⟨rfl, h⟩
    ·
      by_cases c11 : x2 = 1
      · refine zb_tableIn (off := 40) (tgt := 50) dX11_count_10 (by omega) (by omega) (by rw [c11]; decide) (by decide) ?_
        have h := h.2.1 c11
        refine zb_aload_n (j := 0) dX11_count_50 rfl rfl ?_
        refine zb_gFa 0 dX11_count_51 fl_X11_11 i_0 hW hF rfl rfl rfl (by decide) rfl 8 rfl (fun i7 l8 => ?_)
        refine zb_iload_n (j := 1) dX11_count_54 rfl rfl ?_
        obtain ⟨o9, h⟩ := h
        refine zb_lA 3 dX11_count_55 i7 (by decide) l8 hW hF o9.1 o9.2 (fun i10 => ?_)
        refine zb_cVp (As := []) (As' := []) (st := []) dX11_count_56 lk_X11_173 gd_X4_countShown rfl rfl i10 ⟨_, rfl, rfl⟩ h hW hF (zb_aR i10 zb_a0) (Nat.le_refl _) (Nat.le_of_ble_eq_true rfl) (fun r56 h => ?_)
        show zb_WP _ _ _ _ [(0, r56)] _ _ _ _
        exact zb_rI dX11_count_59 rfl hF ⟨rfl, h⟩
      ·
        by_cases c17 : x2 = 2
        · refine zb_tableIn (off := 50) (tgt := 60) dX11_count_10 (by omega) (by omega) (by rw [c17]; decide) (by decide) ?_
          have h := h.2.2.1 c17
          refine zb_aload_n (j := 0) dX11_count_60 rfl rfl ?_
          refine zb_gFa 0 dX11_count_61 fl_X11_11 i_0 hW hF rfl rfl rfl (by decide) rfl 8 rfl (fun i12 l13 => ?_)
          refine zb_iload_n (j := 1) dX11_count_64 rfl rfl ?_
          obtain ⟨o14, h⟩ := h
          refine zb_lA 3 dX11_count_65 i12 (by decide) l13 hW hF o14.1 o14.2 (fun i15 => ?_)
          refine zb_cVp (As := []) (As' := []) (st := []) dX11_count_66 lk_X11_177 gd_X4_isRight rfl rfl i15 ⟨_, rfl, rfl⟩ h hW hF (zb_aR i15 zb_a0) (Nat.le_refl _) (Nat.le_of_ble_eq_true rfl) (fun r66 h => ?_)
          show zb_WP _ _ _ _ [(0, r66)] _ _ _ _
          refine zb_if_eq (tgt := 76) dX11_count_69 (by decide) (fun c16 => ?_) (fun c16 => ?_)
          · have h := h.1 c16
            refine zb_iconst dX11_count_76 (zb_inIc rfl) ?_
            exact zb_rI dX11_count_77 rfl hF ⟨rfl, h⟩
          · have h := h.2 c16
            refine zb_iconst dX11_count_72 (zb_inIc rfl) ?_
            refine zb_goto (tgt := 77) dX11_count_73 (by decide) ?_
            exact zb_rI dX11_count_77 rfl hF ⟨rfl, h⟩
        ·
          by_cases c19 : x2 = 3
          · refine zb_tableIn (off := 68) (tgt := 78) dX11_count_10 (by omega) (by omega) (by rw [c19]; decide) (by decide) ?_
            have h := h.2.2.2.1 c19
            refine zb_aload_n (j := 0) dX11_count_78 rfl rfl ?_
            refine zb_gFo 1 dX11_count_79 fl_X11_18 i_0 hW hF rfl rfl rfl rfl (fun i18 => ?_)
            refine zb_gI 3 dX11_count_82 fl_X11_181 i18 rfl rfl ?_
            exact zb_rI dX11_count_85 rfl hF ⟨rfl, h⟩
          ·
            have cc : x2 < 0 ∨ 3 < x2 := by omega
            refine zb_tableOut (tgt := 86) dX11_count_10 cc (by decide) ?_
            have h := h.2.2.2.2 cc
            refine zb_iconst dX11_count_86 (zb_inIc rfl) ?_
            exact zb_rI dX11_count_87 rfl hF ⟨rfl, h⟩
  · have h := h.1 c1
    refine zb_iconst dX11_count_7 (zb_inIc rfl) ?_
    exact zb_rI dX11_count_8 rfl hF ⟨rfl, h⟩
theorem dX11_undo_0 : decode cX11_undo 0 = .ok (.aload_n 0, 1) := by decide +kernel
theorem dX11_undo_1 : decode cX11_undo 1 = .ok (.getfield 18, 3) := by decide +kernel
theorem dX11_undo_4 : decode cX11_undo 4 = .ok (.getfield 181, 3) := by decide +kernel
theorem dX11_undo_7 : decode cX11_undo 7 = .ok (.ifCond .ne 6, 3) := by decide +kernel
theorem dX11_undo_10 : decode cX11_undo 10 = .ok (.bipush (-2), 2) := by decide +kernel
theorem dX11_undo_12 : decode cX11_undo 12 = .ok (.ireturn, 1) := by decide +kernel
theorem dX11_undo_13 : decode cX11_undo 13 = .ok (.aload_n 0, 1) := by decide +kernel
theorem dX11_undo_14 : decode cX11_undo 14 = .ok (.getfield 18, 3) := by decide +kernel
theorem dX11_undo_17 : decode cX11_undo 17 = .ok (.invokevirtual 184, 3) := by decide +kernel
theorem dX11_undo_20 : decode cX11_undo 20 = .ok (.istore_n 1, 1) := by decide +kernel
theorem dX11_undo_21 : decode cX11_undo 21 = .ok (.aload_n 0, 1) := by decide +kernel
theorem dX11_undo_22 : decode cX11_undo 22 = .ok (.getfield 11, 3) := by decide +kernel
theorem dX11_undo_25 : decode cX11_undo 25 = .ok (.iload_n 1, 1) := by decide +kernel
theorem dX11_undo_26 : decode cX11_undo 26 = .ok (.aaload, 1) := by decide +kernel
theorem dX11_undo_27 : decode cX11_undo 27 = .ok (.aload_n 0, 1) := by decide +kernel
theorem dX11_undo_28 : decode cX11_undo 28 = .ok (.getfield 18, 3) := by decide +kernel
theorem dX11_undo_31 : decode cX11_undo 31 = .ok (.invokevirtual 187, 3) := by decide +kernel
theorem dX11_undo_34 : decode cX11_undo 34 = .ok (.invokevirtual 162, 3) := by decide +kernel
theorem dX11_undo_37 : decode cX11_undo 37 = .ok (.aload_n 0, 1) := by decide +kernel
theorem dX11_undo_38 : decode cX11_undo 38 = .ok (.getfield 18, 3) := by decide +kernel
theorem dX11_undo_41 : decode cX11_undo 41 = .ok (.invokevirtual 191, 3) := by decide +kernel
theorem dX11_undo_44 : decode cX11_undo 44 = .ok (.iload_n 1, 1) := by decide +kernel
theorem dX11_undo_45 : decode cX11_undo 45 = .ok (.ireturn, 1) := by decide +kernel
def PM_X11_undo (d : Nat) (E : zb_E) (x0 : Int) (m : zb_M) (Q : Int → zb_M → Prop) : Prop :=
  ((m (E.2 x0 1) 3) = 0 → Q (-2) m) ∧ (¬ (m (E.2 x0 1) 3) = 0 → zb_Tp K_X1_latestGraph d [(2, (E.2 x0 1))] E m (fun r17 => (0 ≤ r17 ∧ r17 < 8) ∧ (zb_Tp K_X1_latestNet d [(2, (E.2 x0 1))] E m (fun r31 => (zb_is E.1 r31 4) ∧ (zb_T K_X4_become d [(2, (E.2 (E.2 x0 0) r17)), (2, r31)] E m (fun r34 m34 => zb_T K_X1_forgetLatest d [(2, (E.2 x0 1))] E m34 (fun r41 m41 => Q r17 m41)))))))
set_option maxRecDepth 100000 in
set_option maxHeartbeats 4000000 in
theorem w_X11_undo {d : Nat} {E : zb_E} {x0 : Int} {m : zb_M} {Q : Int → zb_M → Prop} (h : PM_X11_undo d E x0 m Q) : zb_T K_X11_undo (d + 1) [(2, x0)] E m Q := by
  unfold PM_X11_undo at h
  refine zb_T_in gd_X11_undo rfl rfl (fun hW hA G C hF => ?_)
  have i_0 : zb_is E.1 x0 11 := zb_aH hA (by decide)
  show zb_WP _ _ 0 [(0, (2, x0))] [] _ _ _ _
  refine zb_aload_n (j := 0) dX11_undo_0 rfl rfl ?_
  refine zb_gFo 1 dX11_undo_1 fl_X11_18 i_0 hW hF rfl rfl rfl rfl (fun i1 => ?_)
  refine zb_gI 3 dX11_undo_4 fl_X11_181 i1 rfl rfl ?_
  refine zb_if_ne (tgt := 13) dX11_undo_7 (by decide) (fun c2 => ?_) (fun c2 => ?_)
  · have h := h.2 c2
    refine zb_aload_n (j := 0) dX11_undo_13 rfl rfl ?_
    refine zb_gFo 1 dX11_undo_14 fl_X11_18 i_0 hW hF rfl rfl rfl rfl (fun i3 => ?_)
    refine zb_cVp (As := []) (As' := []) (st := []) dX11_undo_17 lk_X11_184 gd_X1_latestGraph rfl rfl i3 ⟨_, rfl, rfl⟩ h hW hF (zb_aR i3 zb_a0) (Nat.le_refl _) (Nat.le_of_ble_eq_true rfl) (fun r17 h => ?_)
    show zb_WP _ _ _ _ [(0, r17)] _ _ _ _
    refine zb_istore_n (L' := [(1, (0, r17)), (0, (2, x0))]) dX11_undo_20 rfl (by decide) rfl ?_
    refine zb_aload_n (j := 1) dX11_undo_21 rfl rfl ?_
    refine zb_gFa 0 dX11_undo_22 fl_X11_11 i_0 hW hF rfl rfl rfl (by decide) rfl 8 rfl (fun i4 l5 => ?_)
    refine zb_iload_n (j := 0) dX11_undo_25 rfl rfl ?_
    obtain ⟨o6, h⟩ := h
    refine zb_lA 3 dX11_undo_26 i4 (by decide) l5 hW hF o6.1 o6.2 (fun i7 => ?_)
    refine zb_aload_n (j := 1) dX11_undo_27 rfl rfl ?_
    refine zb_gFo 1 dX11_undo_28 fl_X11_18 i_0 hW hF rfl rfl rfl rfl (fun i8 => ?_)
    refine zb_cVp (As := []) (As' := []) (st := [(2, (E.2 (E.2 x0 0) r17))]) dX11_undo_31 lk_X11_187 gd_X1_latestNet rfl rfl i8 ⟨_, rfl, rfl⟩ h hW hF (zb_aR i8 zb_a0) (Nat.le_refl _) (Nat.le_of_ble_eq_true rfl) (fun r31 h => ?_)
    show zb_WP _ _ _ _ [(2, r31), (2, (E.2 (E.2 x0 0) r17))] _ _ _ _
    obtain ⟨o9, h⟩ := h
    refine zb_cV (As := [(2, r31)]) (As' := [(2, r31)]) (st := []) dX11_undo_34 lk_X11_162 gd_X4_become rfl rfl i7 ⟨_, rfl, rfl⟩ h hW hF (zb_aR i7 (zb_aR o9 zb_a0)) (Nat.le_refl _) (Nat.le_of_ble_eq_true rfl) (fun r34 m34 hF h => ?_)
    show zb_WP _ _ _ _ [] _ _ _ _
    refine zb_aload_n (j := 1) dX11_undo_37 rfl rfl ?_
    refine zb_gFo 1 dX11_undo_38 fl_X11_18 i_0 hW hF rfl rfl rfl rfl (fun i10 => ?_)
    refine zb_cV (As := []) (As' := []) (st := []) dX11_undo_41 lk_X11_191 gd_X1_forgetLatest rfl rfl i10 ⟨_, rfl, rfl⟩ h hW hF (zb_aR i10 zb_a0) (Nat.le_refl _) (Nat.le_of_ble_eq_true rfl) (fun r41 m41 hF h => ?_)
    show zb_WP _ _ _ _ [] _ _ _ _
    refine zb_iload_n (j := 0) dX11_undo_44 rfl rfl ?_
    exact zb_rI dX11_undo_45 rfl hF h
  · have h := h.1 c2
    refine zb_bipush dX11_undo_10 (by decide) (zb_inIc rfl) ?_
    exact zb_rI dX11_undo_12 rfl hF h
theorem dX11_split_0 : decode cX11_split 0 = .ok (.iload_n 1, 1) := by decide +kernel
theorem dX11_split_1 : decode cX11_split 1 = .ok (.invokestatic 97, 3) := by decide +kernel
theorem dX11_split_4 : decode cX11_split 4 = .ok (.ifCond .ne 5, 3) := by decide +kernel
theorem dX11_split_7 : decode cX11_split 7 = .ok (.iconst (-1), 1) := by decide +kernel
theorem dX11_split_8 : decode cX11_split 8 = .ok (.ireturn, 1) := by decide +kernel
theorem dX11_split_9 : decode cX11_split 9 = .ok (.aload_n 0, 1) := by decide +kernel
theorem dX11_split_10 : decode cX11_split 10 = .ok (.getfield 61, 3) := by decide +kernel
theorem dX11_split_13 : decode cX11_split 13 = .ok (.aload_n 0, 1) := by decide +kernel
theorem dX11_split_14 : decode cX11_split 14 = .ok (.getfield 11, 3) := by decide +kernel
theorem dX11_split_17 : decode cX11_split 17 = .ok (.iload_n 1, 1) := by decide +kernel
theorem dX11_split_18 : decode cX11_split 18 = .ok (.aaload, 1) := by decide +kernel
theorem dX11_split_19 : decode cX11_split 19 = .ok (.invokevirtual 194, 3) := by decide +kernel
theorem dX11_split_22 : decode cX11_split 22 = .ok (.aload_n 0, 1) := by decide +kernel
theorem dX11_split_23 : decode cX11_split 23 = .ok (.getfield 32, 3) := by decide +kernel
theorem dX11_split_26 : decode cX11_split 26 = .ok (.aload_n 0, 1) := by decide +kernel
theorem dX11_split_27 : decode cX11_split 27 = .ok (.getfield 67, 3) := by decide +kernel
theorem dX11_split_30 : decode cX11_split 30 = .ok (.aload_n 0, 1) := by decide +kernel
theorem dX11_split_31 : decode cX11_split 31 = .ok (.getfield 61, 3) := by decide +kernel
theorem dX11_split_34 : decode cX11_split 34 = .ok (.invokevirtual 197, 3) := by decide +kernel
theorem dX11_split_37 : decode cX11_split 37 = .ok (.aload_n 0, 1) := by decide +kernel
theorem dX11_split_38 : decode cX11_split 38 = .ok (.iconst 1, 1) := by decide +kernel
theorem dX11_split_39 : decode cX11_split 39 = .ok (.putfield 201, 3) := by decide +kernel
theorem dX11_split_42 : decode cX11_split 42 = .ok (.aload_n 0, 1) := by decide +kernel
theorem dX11_split_43 : decode cX11_split 43 = .ok (.getfield 67, 3) := by decide +kernel
theorem dX11_split_46 : decode cX11_split 46 = .ok (.getfield 205, 3) := by decide +kernel
theorem dX11_split_49 : decode cX11_split 49 = .ok (.ireturn, 1) := by decide +kernel
def PM_X11_split (d : Nat) (E : zb_E) (x0 : Int) (x1 : Int) (m : zb_M) (Q : Int → zb_M → Prop) : Prop :=
  zb_Tp K_X11_isGraph d [(0, x1)] E m (fun r1 => (r1 = 0 → Q (-1) m) ∧ (¬ r1 = 0 → (0 ≤ x1 ∧ x1 < 8) ∧ (zb_T K_X6_take d [(2, (E.2 x0 8)), (2, (E.2 (E.2 x0 0) x1))] E m (fun r19 m19 => zb_T K_X7_begin d [(2, (E.2 x0 3)), (2, (E.2 x0 9)), (2, (E.2 x0 8))] E m19 (fun r34 m34 => ∀ m39, m39 = zb_up m34 x0 7 1 → (Q (m39 (E.2 x0 9) 1) m39))))))
set_option maxRecDepth 100000 in
set_option maxHeartbeats 4000000 in
theorem w_X11_split {d : Nat} {E : zb_E} {x0 x1 : Int} {m : zb_M} {Q : Int → zb_M → Prop} (h : PM_X11_split d E x0 x1 m Q) : zb_T K_X11_split (d + 1) [(2, x0), (0, x1)] E m Q := by
  unfold PM_X11_split at h
  refine zb_T_in gd_X11_split rfl rfl (fun hW hA G C hF => ?_)
  have i_0 : zb_is E.1 x0 11 := zb_aH hA (by decide)
  show zb_WP _ _ 0 [(0, (2, x0)), (1, (0, x1))] [] _ _ _ _
  refine zb_iload_n (j := 1) dX11_split_0 rfl rfl ?_
  refine zb_cSp (As := [(0, x1)]) (As' := [(0, x1)]) (st := []) dX11_split_1 lk_X11_97 gd_X11_isGraph rfl rfl h hW hF (zb_aI zb_a0) (Nat.le_refl _) (Nat.le_of_ble_eq_true rfl) (fun r1 h => ?_)
  show zb_WP _ _ _ _ [(0, r1)] _ _ _ _
  refine zb_if_ne (tgt := 9) dX11_split_4 (by decide) (fun c1 => ?_) (fun c1 => ?_)
  · have h := h.2 c1
    refine zb_aload_n (j := 0) dX11_split_9 rfl rfl ?_
    refine zb_gFo 8 dX11_split_10 fl_X11_61 i_0 hW hF rfl rfl rfl rfl (fun i2 => ?_)
    refine zb_aload_n (j := 0) dX11_split_13 rfl rfl ?_
    refine zb_gFa 0 dX11_split_14 fl_X11_11 i_0 hW hF rfl rfl rfl (by decide) rfl 8 rfl (fun i3 l4 => ?_)
    refine zb_iload_n (j := 1) dX11_split_17 rfl rfl ?_
    obtain ⟨o5, h⟩ := h
    refine zb_lA 3 dX11_split_18 i3 (by decide) l4 hW hF o5.1 o5.2 (fun i6 => ?_)
    refine zb_cV (As := [(2, (E.2 (E.2 x0 0) x1))]) (As' := [(2, (E.2 (E.2 x0 0) x1))]) (st := []) dX11_split_19 lk_X11_194 gd_X6_take rfl rfl i2 ⟨_, rfl, rfl⟩ h hW hF (zb_aR i2 (zb_aR i6 zb_a0)) (Nat.le_refl _) (Nat.le_of_ble_eq_true rfl) (fun r19 m19 hF h => ?_)
    show zb_WP _ _ _ _ [] _ _ _ _
    refine zb_aload_n (j := 0) dX11_split_22 rfl rfl ?_
    refine zb_gFo 3 dX11_split_23 fl_X11_32 i_0 hW hF rfl rfl rfl rfl (fun i7 => ?_)
    refine zb_aload_n (j := 0) dX11_split_26 rfl rfl ?_
    refine zb_gFo 9 dX11_split_27 fl_X11_67 i_0 hW hF rfl rfl rfl rfl (fun i8 => ?_)
    refine zb_aload_n (j := 0) dX11_split_30 rfl rfl ?_
    refine zb_gFo 8 dX11_split_31 fl_X11_61 i_0 hW hF rfl rfl rfl rfl (fun i9 => ?_)
    refine zb_cV (As := [(2, (E.2 x0 9)), (2, (E.2 x0 8))]) (As' := [(2, (E.2 x0 8)), (2, (E.2 x0 9))]) (st := []) dX11_split_34 lk_X11_197 gd_X7_begin rfl rfl i7 ⟨_, rfl, rfl⟩ h hW hF (zb_aR i7 (zb_aR i8 (zb_aR i9 zb_a0))) (Nat.le_refl _) (Nat.le_of_ble_eq_true rfl) (fun r34 m34 hF h => ?_)
    show zb_WP _ _ _ _ [] _ _ _ _
    refine zb_aload_n (j := 0) dX11_split_37 rfl rfl ?_
    refine zb_iconst dX11_split_38 (zb_inIc rfl) ?_
    refine zb_pF 7 dX11_split_39 fl_X11_201 rfl rfl i_0 (Or.inr (Or.inl ⟨rfl, (by decide)⟩)) hF rfl rfl (fun m39 e39 hF => ?_)
    have h := h m39 e39
    refine zb_aload_n (j := 0) dX11_split_42 rfl rfl ?_
    refine zb_gFo 9 dX11_split_43 fl_X11_67 i_0 hW hF rfl rfl rfl rfl (fun i10 => ?_)
    refine zb_gI 1 dX11_split_46 fl_X11_205 i10 rfl rfl ?_
    exact zb_rI dX11_split_49 rfl hF h
  · have h := h.1 c1
    refine zb_iconst dX11_split_7 (zb_inIc rfl) ?_
    exact zb_rI dX11_split_8 rfl hF h
theorem dX11_mark_0 : decode cX11_mark 0 = .ok (.aload_n 0, 1) := by decide +kernel
theorem dX11_mark_1 : decode cX11_mark 1 = .ok (.getfield 201, 3) := by decide +kernel
theorem dX11_mark_4 : decode cX11_mark 4 = .ok (.ifCond .ne 6, 3) := by decide +kernel
theorem dX11_mark_7 : decode cX11_mark 7 = .ok (.bipush (-2), 2) := by decide +kernel
theorem dX11_mark_9 : decode cX11_mark 9 = .ok (.ireturn, 1) := by decide +kernel
theorem dX11_mark_10 : decode cX11_mark 10 = .ok (.aload_n 0, 1) := by decide +kernel
theorem dX11_mark_11 : decode cX11_mark 11 = .ok (.getfield 61, 3) := by decide +kernel
theorem dX11_mark_14 : decode cX11_mark 14 = .ok (.iload_n 1, 1) := by decide +kernel
theorem dX11_mark_15 : decode cX11_mark 15 = .ok (.invokevirtual 208, 3) := by decide +kernel
theorem dX11_mark_18 : decode cX11_mark 18 = .ok (.istore_n 2, 1) := by decide +kernel
theorem dX11_mark_19 : decode cX11_mark 19 = .ok (.iload_n 2, 1) := by decide +kernel
theorem dX11_mark_20 : decode cX11_mark 20 = .ok (.ifCond .ge 5, 3) := by decide +kernel
theorem dX11_mark_23 : decode cX11_mark 23 = .ok (.iconst (-1), 1) := by decide +kernel
theorem dX11_mark_24 : decode cX11_mark 24 = .ok (.ireturn, 1) := by decide +kernel
theorem dX11_mark_25 : decode cX11_mark 25 = .ok (.aload_n 0, 1) := by decide +kernel
theorem dX11_mark_26 : decode cX11_mark 26 = .ok (.getfield 67, 3) := by decide +kernel
theorem dX11_mark_29 : decode cX11_mark 29 = .ok (.iload_n 2, 1) := by decide +kernel
theorem dX11_mark_30 : decode cX11_mark 30 = .ok (.invokevirtual 211, 3) := by decide +kernel
theorem dX11_mark_33 : decode cX11_mark 33 = .ok (.aload_n 0, 1) := by decide +kernel
theorem dX11_mark_34 : decode cX11_mark 34 = .ok (.getfield 32, 3) := by decide +kernel
theorem dX11_mark_37 : decode cX11_mark 37 = .ok (.aload_n 0, 1) := by decide +kernel
theorem dX11_mark_38 : decode cX11_mark 38 = .ok (.getfield 67, 3) := by decide +kernel
theorem dX11_mark_41 : decode cX11_mark 41 = .ok (.aload_n 0, 1) := by decide +kernel
theorem dX11_mark_42 : decode cX11_mark 42 = .ok (.getfield 61, 3) := by decide +kernel
theorem dX11_mark_45 : decode cX11_mark 45 = .ok (.invokevirtual 214, 3) := by decide +kernel
theorem dX11_mark_48 : decode cX11_mark 48 = .ok (.aload_n 0, 1) := by decide +kernel
theorem dX11_mark_49 : decode cX11_mark 49 = .ok (.getfield 67, 3) := by decide +kernel
theorem dX11_mark_52 : decode cX11_mark 52 = .ok (.getfield 205, 3) := by decide +kernel
theorem dX11_mark_55 : decode cX11_mark 55 = .ok (.ireturn, 1) := by decide +kernel
def PM_X11_mark (d : Nat) (E : zb_E) (x0 : Int) (x1 : Int) (m : zb_M) (Q : Int → zb_M → Prop) : Prop :=
  ((m x0 7) = 0 → Q (-2) m) ∧ (¬ (m x0 7) = 0 → zb_Tp K_X6_indexOf d [(2, (E.2 x0 8)), (0, x1)] E m (fun r15 => (0 ≤ r15 → zb_T K_X5_setApart d [(2, (E.2 x0 9)), (0, r15)] E m (fun r30 m30 => zb_T K_X7_settle d [(2, (E.2 x0 3)), (2, (E.2 x0 9)), (2, (E.2 x0 8))] E m30 (fun r45 m45 => Q (m45 (E.2 x0 9) 1) m45))) ∧ (¬ 0 ≤ r15 → Q (-1) m)))
set_option maxRecDepth 100000 in
set_option maxHeartbeats 4000000 in
theorem w_X11_mark {d : Nat} {E : zb_E} {x0 x1 : Int} {m : zb_M} {Q : Int → zb_M → Prop} (h : PM_X11_mark d E x0 x1 m Q) : zb_T K_X11_mark (d + 1) [(2, x0), (0, x1)] E m Q := by
  unfold PM_X11_mark at h
  refine zb_T_in gd_X11_mark rfl rfl (fun hW hA G C hF => ?_)
  have i_0 : zb_is E.1 x0 11 := zb_aH hA (by decide)
  show zb_WP _ _ 0 [(0, (2, x0)), (1, (0, x1))] [] _ _ _ _
  refine zb_aload_n (j := 0) dX11_mark_0 rfl rfl ?_
  refine zb_gI 7 dX11_mark_1 fl_X11_201 i_0 rfl rfl ?_
  refine zb_if_ne (tgt := 10) dX11_mark_4 (by decide) (fun c1 => ?_) (fun c1 => ?_)
  · have h := h.2 c1
    refine zb_aload_n (j := 0) dX11_mark_10 rfl rfl ?_
    refine zb_gFo 8 dX11_mark_11 fl_X11_61 i_0 hW hF rfl rfl rfl rfl (fun i2 => ?_)
    refine zb_iload_n (j := 1) dX11_mark_14 rfl rfl ?_
    refine zb_cVp (As := [(0, x1)]) (As' := [(0, x1)]) (st := []) dX11_mark_15 lk_X11_208 gd_X6_indexOf rfl rfl i2 ⟨_, rfl, rfl⟩ h hW hF (zb_aR i2 (zb_aI zb_a0)) (Nat.le_refl _) (Nat.le_of_ble_eq_true rfl) (fun r15 h => ?_)
    show zb_WP _ _ _ _ [(0, r15)] _ _ _ _
    refine zb_istore_n (L' := [(2, (0, r15)), (0, (2, x0)), (1, (0, x1))]) dX11_mark_18 rfl (by decide) rfl ?_
    refine zb_iload_n (j := 0) dX11_mark_19 rfl rfl ?_
    refine zb_if_ge (tgt := 25) dX11_mark_20 (by decide) (fun c3 => ?_) (fun c3 => ?_)
    · have h := h.1 c3
      refine zb_aload_n (j := 1) dX11_mark_25 rfl rfl ?_
      refine zb_gFo 9 dX11_mark_26 fl_X11_67 i_0 hW hF rfl rfl rfl rfl (fun i4 => ?_)
      refine zb_iload_n (j := 0) dX11_mark_29 rfl rfl ?_
      refine zb_cV (As := [(0, r15)]) (As' := [(0, r15)]) (st := []) dX11_mark_30 lk_X11_211 gd_X5_setApart rfl rfl i4 ⟨_, rfl, rfl⟩ h hW hF (zb_aR i4 (zb_aI zb_a0)) (Nat.le_refl _) (Nat.le_of_ble_eq_true rfl) (fun r30 m30 hF h => ?_)
      show zb_WP _ _ _ _ [] _ _ _ _
      refine zb_aload_n (j := 1) dX11_mark_33 rfl rfl ?_
      refine zb_gFo 3 dX11_mark_34 fl_X11_32 i_0 hW hF rfl rfl rfl rfl (fun i5 => ?_)
      refine zb_aload_n (j := 1) dX11_mark_37 rfl rfl ?_
      refine zb_gFo 9 dX11_mark_38 fl_X11_67 i_0 hW hF rfl rfl rfl rfl (fun i6 => ?_)
      refine zb_aload_n (j := 1) dX11_mark_41 rfl rfl ?_
      refine zb_gFo 8 dX11_mark_42 fl_X11_61 i_0 hW hF rfl rfl rfl rfl (fun i7 => ?_)
      refine zb_cV (As := [(2, (E.2 x0 9)), (2, (E.2 x0 8))]) (As' := [(2, (E.2 x0 8)), (2, (E.2 x0 9))]) (st := []) dX11_mark_45 lk_X11_214 gd_X7_settle rfl rfl i5 ⟨_, rfl, rfl⟩ h hW hF (zb_aR i5 (zb_aR i6 (zb_aR i7 zb_a0))) (Nat.le_refl _) (Nat.le_of_ble_eq_true rfl) (fun r45 m45 hF h => ?_)
      show zb_WP _ _ _ _ [] _ _ _ _
      refine zb_aload_n (j := 1) dX11_mark_48 rfl rfl ?_
      refine zb_gFo 9 dX11_mark_49 fl_X11_67 i_0 hW hF rfl rfl rfl rfl (fun i8 => ?_)
      refine zb_gI 1 dX11_mark_52 fl_X11_205 i8 rfl rfl ?_
      exact zb_rI dX11_mark_55 rfl hF h
    · have h := h.2 c3
      refine zb_iconst dX11_mark_23 (zb_inIc rfl) ?_
      exact zb_rI dX11_mark_24 rfl hF h
  · have h := h.1 c1
    refine zb_bipush dX11_mark_7 (by decide) (zb_inIc rfl) ?_
    exact zb_rI dX11_mark_9 rfl hF h
theorem dX11_heapOf_0 : decode cX11_heapOf 0 = .ok (.aload_n 0, 1) := by decide +kernel
theorem dX11_heapOf_1 : decode cX11_heapOf 1 = .ok (.getfield 201, 3) := by decide +kernel
theorem dX11_heapOf_4 : decode cX11_heapOf 4 = .ok (.ifCond .ne 6, 3) := by decide +kernel
theorem dX11_heapOf_7 : decode cX11_heapOf 7 = .ok (.bipush (-2), 2) := by decide +kernel
theorem dX11_heapOf_9 : decode cX11_heapOf 9 = .ok (.ireturn, 1) := by decide +kernel
theorem dX11_heapOf_10 : decode cX11_heapOf 10 = .ok (.aload_n 0, 1) := by decide +kernel
theorem dX11_heapOf_11 : decode cX11_heapOf 11 = .ok (.getfield 61, 3) := by decide +kernel
theorem dX11_heapOf_14 : decode cX11_heapOf 14 = .ok (.iload_n 1, 1) := by decide +kernel
theorem dX11_heapOf_15 : decode cX11_heapOf 15 = .ok (.invokevirtual 208, 3) := by decide +kernel
theorem dX11_heapOf_18 : decode cX11_heapOf 18 = .ok (.istore_n 2, 1) := by decide +kernel
theorem dX11_heapOf_19 : decode cX11_heapOf 19 = .ok (.iload_n 2, 1) := by decide +kernel
theorem dX11_heapOf_20 : decode cX11_heapOf 20 = .ok (.ifCond .ge 7, 3) := by decide +kernel
theorem dX11_heapOf_23 : decode cX11_heapOf 23 = .ok (.iconst (-1), 1) := by decide +kernel
theorem dX11_heapOf_24 : decode cX11_heapOf 24 = .ok (.goto 12, 3) := by decide +kernel
theorem dX11_heapOf_27 : decode cX11_heapOf 27 = .ok (.aload_n 0, 1) := by decide +kernel
theorem dX11_heapOf_28 : decode cX11_heapOf 28 = .ok (.getfield 67, 3) := by decide +kernel
theorem dX11_heapOf_31 : decode cX11_heapOf 31 = .ok (.getfield 217, 3) := by decide +kernel
theorem dX11_heapOf_34 : decode cX11_heapOf 34 = .ok (.iload_n 2, 1) := by decide +kernel
theorem dX11_heapOf_35 : decode cX11_heapOf 35 = .ok (.iaload, 1) := by decide +kernel
theorem dX11_heapOf_36 : decode cX11_heapOf 36 = .ok (.ireturn, 1) := by decide +kernel
def PM_X11_heapOf (d : Nat) (E : zb_E) (x0 : Int) (x1 : Int) (m : zb_M) (Q : Int → Prop) : Prop :=
  ((m x0 7) = 0 → Q (-2)) ∧ (¬ (m x0 7) = 0 → zb_Tp K_X6_indexOf d [(2, (E.2 x0 8)), (0, x1)] E m (fun r15 => (0 ≤ r15 → (0 ≤ r15 ∧ r15 < 12) ∧ (Q (m (E.2 (E.2 x0 9) 2) r15))) ∧ (¬ 0 ≤ r15 → Q (-1))))
set_option maxRecDepth 100000 in
set_option maxHeartbeats 4000000 in
theorem w_X11_heapOf {d : Nat} {E : zb_E} {x0 x1 : Int} {m : zb_M} {Q : Int → Prop} (h : PM_X11_heapOf d E x0 x1 m Q) : zb_Tp K_X11_heapOf (d + 1) [(2, x0), (0, x1)] E m Q := by
  unfold PM_X11_heapOf at h
  refine zb_T_in gd_X11_heapOf rfl rfl (fun hW hA G C hF => ?_)
  have i_0 : zb_is E.1 x0 11 := zb_aH hA (by decide)
  show zb_WP _ _ 0 [(0, (2, x0)), (1, (0, x1))] [] _ _ _ _
  refine zb_aload_n (j := 0) dX11_heapOf_0 rfl rfl ?_
  refine zb_gI 7 dX11_heapOf_1 fl_X11_201 i_0 rfl rfl ?_
  refine zb_if_ne (tgt := 10) dX11_heapOf_4 (by decide) (fun c1 => ?_) (fun c1 => ?_)
  · have h := h.2 c1
    refine zb_aload_n (j := 0) dX11_heapOf_10 rfl rfl ?_
    refine zb_gFo 8 dX11_heapOf_11 fl_X11_61 i_0 hW hF rfl rfl rfl rfl (fun i2 => ?_)
    refine zb_iload_n (j := 1) dX11_heapOf_14 rfl rfl ?_
    refine zb_cVp (As := [(0, x1)]) (As' := [(0, x1)]) (st := []) dX11_heapOf_15 lk_X11_208 gd_X6_indexOf rfl rfl i2 ⟨_, rfl, rfl⟩ h hW hF (zb_aR i2 (zb_aI zb_a0)) (Nat.le_refl _) (Nat.le_of_ble_eq_true rfl) (fun r15 h => ?_)
    show zb_WP _ _ _ _ [(0, r15)] _ _ _ _
    refine zb_istore_n (L' := [(2, (0, r15)), (0, (2, x0)), (1, (0, x1))]) dX11_heapOf_18 rfl (by decide) rfl ?_
    refine zb_iload_n (j := 0) dX11_heapOf_19 rfl rfl ?_
    refine zb_if_ge (tgt := 27) dX11_heapOf_20 (by decide) (fun c3 => ?_) (fun c3 => ?_)
    · have h := h.1 c3
      refine zb_aload_n (j := 1) dX11_heapOf_27 rfl rfl ?_
      refine zb_gFo 9 dX11_heapOf_28 fl_X11_67 i_0 hW hF rfl rfl rfl rfl (fun i4 => ?_)
      refine zb_gFa 2 dX11_heapOf_31 fl_X11_217 i4 hW hF rfl rfl rfl (by decide) rfl 12 rfl (fun i5 l6 => ?_)
      refine zb_iload_n (j := 0) dX11_heapOf_34 rfl rfl ?_
      obtain ⟨o7, h⟩ := h
      refine zb_lI dX11_heapOf_35 i5 l6 o7.1 o7.2 ?_
      exact zb_rI dX11_heapOf_36 rfl hF ⟨rfl, h⟩
    · have h := h.2 c3
      refine zb_iconst dX11_heapOf_23 (zb_inIc rfl) ?_
      refine zb_goto (tgt := 36) dX11_heapOf_24 (by decide) ?_
      exact zb_rI dX11_heapOf_36 rfl hF ⟨rfl, h⟩
  · have h := h.1 c1
    refine zb_bipush dX11_heapOf_7 (by decide) (zb_inIc rfl) ?_
    exact zb_rI dX11_heapOf_9 rfl hF ⟨rfl, h⟩
theorem dX11_name_0 : decode cX11_name 0 = .ok (.iload_n 1, 1) := by decide +kernel
theorem dX11_name_1 : decode cX11_name 1 = .ok (.invokestatic 97, 3) := by decide +kernel
theorem dX11_name_4 : decode cX11_name 4 = .ok (.ifCond .ne 5, 3) := by decide +kernel
theorem dX11_name_7 : decode cX11_name 7 = .ok (.iconst (-1), 1) := by decide +kernel
theorem dX11_name_8 : decode cX11_name 8 = .ok (.ireturn, 1) := by decide +kernel
theorem dX11_name_9 : decode cX11_name 9 = .ok (.aload_n 0, 1) := by decide +kernel
theorem dX11_name_10 : decode cX11_name 10 = .ok (.getfield 11, 3) := by decide +kernel
theorem dX11_name_13 : decode cX11_name 13 = .ok (.iload_n 1, 1) := by decide +kernel
theorem dX11_name_14 : decode cX11_name 14 = .ok (.aaload, 1) := by decide +kernel
theorem dX11_name_15 : decode cX11_name 15 = .ok (.invokevirtual 177, 3) := by decide +kernel
theorem dX11_name_18 : decode cX11_name 18 = .ok (.ifCond .ne 6, 3) := by decide +kernel
theorem dX11_name_21 : decode cX11_name 21 = .ok (.bipush (-2), 2) := by decide +kernel
theorem dX11_name_23 : decode cX11_name 23 = .ok (.ireturn, 1) := by decide +kernel
theorem dX11_name_24 : decode cX11_name 24 = .ok (.aload_n 0, 1) := by decide +kernel
theorem dX11_name_25 : decode cX11_name 25 = .ok (.getfield 25, 3) := by decide +kernel
theorem dX11_name_28 : decode cX11_name 28 = .ok (.aload_n 0, 1) := by decide +kernel
theorem dX11_name_29 : decode cX11_name 29 = .ok (.getfield 11, 3) := by decide +kernel
theorem dX11_name_32 : decode cX11_name 32 = .ok (.iload_n 1, 1) := by decide +kernel
theorem dX11_name_33 : decode cX11_name 33 = .ok (.aaload, 1) := by decide +kernel
theorem dX11_name_34 : decode cX11_name 34 = .ok (.invokevirtual 194, 3) := by decide +kernel
theorem dX11_name_37 : decode cX11_name 37 = .ok (.aload_n 0, 1) := by decide +kernel
theorem dX11_name_38 : decode cX11_name 38 = .ok (.getfield 41, 3) := by decide +kernel
theorem dX11_name_41 : decode cX11_name 41 = .ok (.aload_n 0, 1) := by decide +kernel
theorem dX11_name_42 : decode cX11_name 42 = .ok (.getfield 25, 3) := by decide +kernel
theorem dX11_name_45 : decode cX11_name 45 = .ok (.aload_n 0, 1) := by decide +kernel
theorem dX11_name_46 : decode cX11_name 46 = .ok (.getfield 74, 3) := by decide +kernel
theorem dX11_name_49 : decode cX11_name 49 = .ok (.invokevirtual 220, 3) := by decide +kernel
theorem dX11_name_52 : decode cX11_name 52 = .ok (.ifCond .eq 13, 3) := by decide +kernel
theorem dX11_name_55 : decode cX11_name 55 = .ok (.aload_n 0, 1) := by decide +kernel
theorem dX11_name_56 : decode cX11_name 56 = .ok (.getfield 74, 3) := by decide +kernel
theorem dX11_name_59 : decode cX11_name 59 = .ok (.getfield 224, 3) := by decide +kernel
theorem dX11_name_62 : decode cX11_name 62 = .ok (.goto 5, 3) := by decide +kernel
theorem dX11_name_65 : decode cX11_name 65 = .ok (.bipush (-3), 2) := by decide +kernel
theorem dX11_name_67 : decode cX11_name 67 = .ok (.ireturn, 1) := by decide +kernel
def PM_X11_name (d : Nat) (E : zb_E) (x0 : Int) (x1 : Int) (m : zb_M) (Q : Int → zb_M → Prop) : Prop :=
  zb_Tp K_X11_isGraph d [(0, x1)] E m (fun r1 => (r1 = 0 → Q (-1) m) ∧ (¬ r1 = 0 → (0 ≤ x1 ∧ x1 < 8) ∧ (zb_Tp K_X4_isRight d [(2, (E.2 (E.2 x0 0) x1))] E m (fun r15 => (r15 = 0 → Q (-2) m) ∧ (¬ r15 = 0 → zb_T K_X6_take d [(2, (E.2 x0 2)), (2, (E.2 (E.2 x0 0) x1))] E m (fun r34 m34 => zb_T K_X8_findName d [(2, (E.2 x0 4)), (2, (E.2 x0 2)), (2, (E.2 x0 10))] E m34 (fun r49 m49 => (r49 = 0 → Q (-3) m49) ∧ (¬ r49 = 0 → Q (m49 (E.2 x0 10) 3) m49))))))))
set_option maxRecDepth 100000 in
set_option maxHeartbeats 4000000 in
theorem w_X11_name {d : Nat} {E : zb_E} {x0 x1 : Int} {m : zb_M} {Q : Int → zb_M → Prop} (h : PM_X11_name d E x0 x1 m Q) : zb_T K_X11_name (d + 1) [(2, x0), (0, x1)] E m Q := by
  unfold PM_X11_name at h
  refine zb_T_in gd_X11_name rfl rfl (fun hW hA G C hF => ?_)
  have i_0 : zb_is E.1 x0 11 := zb_aH hA (by decide)
  show zb_WP _ _ 0 [(0, (2, x0)), (1, (0, x1))] [] _ _ _ _
  refine zb_iload_n (j := 1) dX11_name_0 rfl rfl ?_
  refine zb_cSp (As := [(0, x1)]) (As' := [(0, x1)]) (st := []) dX11_name_1 lk_X11_97 gd_X11_isGraph rfl rfl h hW hF (zb_aI zb_a0) (Nat.le_refl _) (Nat.le_of_ble_eq_true rfl) (fun r1 h => ?_)
  show zb_WP _ _ _ _ [(0, r1)] _ _ _ _
  refine zb_if_ne (tgt := 9) dX11_name_4 (by decide) (fun c1 => ?_) (fun c1 => ?_)
  · have h := h.2 c1
    refine zb_aload_n (j := 0) dX11_name_9 rfl rfl ?_
    refine zb_gFa 0 dX11_name_10 fl_X11_11 i_0 hW hF rfl rfl rfl (by decide) rfl 8 rfl (fun i2 l3 => ?_)
    refine zb_iload_n (j := 1) dX11_name_13 rfl rfl ?_
    obtain ⟨o4, h⟩ := h
    refine zb_lA 3 dX11_name_14 i2 (by decide) l3 hW hF o4.1 o4.2 (fun i5 => ?_)
    refine zb_cVp (As := []) (As' := []) (st := []) dX11_name_15 lk_X11_177 gd_X4_isRight rfl rfl i5 ⟨_, rfl, rfl⟩ h hW hF (zb_aR i5 zb_a0) (Nat.le_refl _) (Nat.le_of_ble_eq_true rfl) (fun r15 h => ?_)
    show zb_WP _ _ _ _ [(0, r15)] _ _ _ _
    refine zb_if_ne (tgt := 24) dX11_name_18 (by decide) (fun c6 => ?_) (fun c6 => ?_)
    · have h := h.2 c6
      refine zb_aload_n (j := 0) dX11_name_24 rfl rfl ?_
      refine zb_gFo 2 dX11_name_25 fl_X11_25 i_0 hW hF rfl rfl rfl rfl (fun i7 => ?_)
      refine zb_aload_n (j := 0) dX11_name_28 rfl rfl ?_
      refine zb_gFa 0 dX11_name_29 fl_X11_11 i_0 hW hF rfl rfl rfl (by decide) rfl 8 rfl (fun i8 l9 => ?_)
      refine zb_iload_n (j := 1) dX11_name_32 rfl rfl ?_
      refine zb_lA 3 dX11_name_33 i8 (by decide) l9 hW hF o4.1 o4.2 (fun i10 => ?_)
      refine zb_cV (As := [(2, (E.2 (E.2 x0 0) x1))]) (As' := [(2, (E.2 (E.2 x0 0) x1))]) (st := []) dX11_name_34 lk_X11_194 gd_X6_take rfl rfl i7 ⟨_, rfl, rfl⟩ h hW hF (zb_aR i7 (zb_aR i10 zb_a0)) (Nat.le_refl _) (Nat.le_of_ble_eq_true rfl) (fun r34 m34 hF h => ?_)
      show zb_WP _ _ _ _ [] _ _ _ _
      refine zb_aload_n (j := 0) dX11_name_37 rfl rfl ?_
      refine zb_gFo 4 dX11_name_38 fl_X11_41 i_0 hW hF rfl rfl rfl rfl (fun i11 => ?_)
      refine zb_aload_n (j := 0) dX11_name_41 rfl rfl ?_
      refine zb_gFo 2 dX11_name_42 fl_X11_25 i_0 hW hF rfl rfl rfl rfl (fun i12 => ?_)
      refine zb_aload_n (j := 0) dX11_name_45 rfl rfl ?_
      refine zb_gFo 10 dX11_name_46 fl_X11_74 i_0 hW hF rfl rfl rfl rfl (fun i13 => ?_)
      refine zb_cV (As := [(2, (E.2 x0 2)), (2, (E.2 x0 10))]) (As' := [(2, (E.2 x0 10)), (2, (E.2 x0 2))]) (st := []) dX11_name_49 lk_X11_220 gd_X8_findName rfl rfl i11 ⟨_, rfl, rfl⟩ h hW hF (zb_aR i11 (zb_aR i12 (zb_aR i13 zb_a0))) (Nat.le_refl _) (Nat.le_of_ble_eq_true rfl) (fun r49 m49 hF h => ?_)
      show zb_WP _ _ _ _ [(0, r49)] _ _ _ _
      refine zb_if_eq (tgt := 65) dX11_name_52 (by decide) (fun c14 => ?_) (fun c14 => ?_)
      · have h := h.1 c14
        refine zb_bipush dX11_name_65 (by decide) (zb_inIc rfl) ?_
        exact zb_rI dX11_name_67 rfl hF h
      · have h := h.2 c14
        refine zb_aload_n (j := 0) dX11_name_55 rfl rfl ?_
        refine zb_gFo 10 dX11_name_56 fl_X11_74 i_0 hW hF rfl rfl rfl rfl (fun i15 => ?_)
        refine zb_gI 3 dX11_name_59 fl_X11_224 i15 rfl rfl ?_
        refine zb_goto (tgt := 67) dX11_name_62 (by decide) ?_
        exact zb_rI dX11_name_67 rfl hF h
    · have h := h.1 c6
      refine zb_bipush dX11_name_21 (by decide) (zb_inIc rfl) ?_
      exact zb_rI dX11_name_23 rfl hF h
  · have h := h.1 c1
    refine zb_iconst dX11_name_7 (zb_inIc rfl) ?_
    exact zb_rI dX11_name_8 rfl hF h
theorem dX11_nameAt_0 : decode cX11_nameAt 0 = .ok (.aload_n 0, 1) := by decide +kernel
theorem dX11_nameAt_1 : decode cX11_nameAt 1 = .ok (.getfield 74, 3) := by decide +kernel
theorem dX11_nameAt_4 : decode cX11_nameAt 4 = .ok (.getfield 227, 3) := by decide +kernel
theorem dX11_nameAt_7 : decode cX11_nameAt 7 = .ok (.ifCond .ne 5, 3) := by decide +kernel
theorem dX11_nameAt_10 : decode cX11_nameAt 10 = .ok (.iconst (-1), 1) := by decide +kernel
theorem dX11_nameAt_11 : decode cX11_nameAt 11 = .ok (.ireturn, 1) := by decide +kernel
theorem dX11_nameAt_12 : decode cX11_nameAt 12 = .ok (.iload_n 1, 1) := by decide +kernel
theorem dX11_nameAt_13 : decode cX11_nameAt 13 = .ok (.iconst (-1), 1) := by decide +kernel
theorem dX11_nameAt_14 : decode cX11_nameAt 14 = .ok (.if_icmp .ne 11, 3) := by decide +kernel
theorem dX11_nameAt_17 : decode cX11_nameAt 17 = .ok (.aload_n 0, 1) := by decide +kernel
theorem dX11_nameAt_18 : decode cX11_nameAt 18 = .ok (.getfield 74, 3) := by decide +kernel
theorem dX11_nameAt_21 : decode cX11_nameAt 21 = .ok (.getfield 230, 3) := by decide +kernel
theorem dX11_nameAt_24 : decode cX11_nameAt 24 = .ok (.ireturn, 1) := by decide +kernel
theorem dX11_nameAt_25 : decode cX11_nameAt 25 = .ok (.iload_n 1, 1) := by decide +kernel
theorem dX11_nameAt_26 : decode cX11_nameAt 26 = .ok (.aload_n 0, 1) := by decide +kernel
theorem dX11_nameAt_27 : decode cX11_nameAt 27 = .ok (.getfield 74, 3) := by decide +kernel
theorem dX11_nameAt_30 : decode cX11_nameAt 30 = .ok (.getfield 230, 3) := by decide +kernel
theorem dX11_nameAt_33 : decode cX11_nameAt 33 = .ok (.invokestatic 101, 3) := by decide +kernel
theorem dX11_nameAt_36 : decode cX11_nameAt 36 = .ok (.ifCond .eq 15, 3) := by decide +kernel
theorem dX11_nameAt_39 : decode cX11_nameAt 39 = .ok (.aload_n 0, 1) := by decide +kernel
theorem dX11_nameAt_40 : decode cX11_nameAt 40 = .ok (.getfield 74, 3) := by decide +kernel
theorem dX11_nameAt_43 : decode cX11_nameAt 43 = .ok (.getfield 233, 3) := by decide +kernel
theorem dX11_nameAt_46 : decode cX11_nameAt 46 = .ok (.iload_n 1, 1) := by decide +kernel
theorem dX11_nameAt_47 : decode cX11_nameAt 47 = .ok (.iaload, 1) := by decide +kernel
theorem dX11_nameAt_48 : decode cX11_nameAt 48 = .ok (.goto 4, 3) := by decide +kernel
theorem dX11_nameAt_51 : decode cX11_nameAt 51 = .ok (.iconst (-1), 1) := by decide +kernel
theorem dX11_nameAt_52 : decode cX11_nameAt 52 = .ok (.ireturn, 1) := by decide +kernel
def PM_X11_nameAt (d : Nat) (E : zb_E) (x0 : Int) (x1 : Int) (m : zb_M) (Q : Int → Prop) : Prop :=
  ((m (E.2 x0 10) 0) = 0 → Q (-1)) ∧ (¬ (m (E.2 x0 10) 0) = 0 → (x1 = (-1) → Q (m (E.2 x0 10) 2)) ∧ (¬ x1 = (-1) → zb_Tp K_X11_isBelow d [(0, x1), (0, (m (E.2 x0 10) 2))] E m (fun r33 => (r33 = 0 → Q (-1)) ∧ (¬ r33 = 0 → (0 ≤ x1 ∧ x1 < 157) ∧ (Q (m (E.2 (E.2 x0 10) 5) x1))))))
set_option maxRecDepth 100000 in
set_option maxHeartbeats 4000000 in
theorem w_X11_nameAt {d : Nat} {E : zb_E} {x0 x1 : Int} {m : zb_M} {Q : Int → Prop} (h : PM_X11_nameAt d E x0 x1 m Q) : zb_Tp K_X11_nameAt (d + 1) [(2, x0), (0, x1)] E m Q := by
  unfold PM_X11_nameAt at h
  refine zb_T_in gd_X11_nameAt rfl rfl (fun hW hA G C hF => ?_)
  have i_0 : zb_is E.1 x0 11 := zb_aH hA (by decide)
  show zb_WP _ _ 0 [(0, (2, x0)), (1, (0, x1))] [] _ _ _ _
  refine zb_aload_n (j := 0) dX11_nameAt_0 rfl rfl ?_
  refine zb_gFo 10 dX11_nameAt_1 fl_X11_74 i_0 hW hF rfl rfl rfl rfl (fun i1 => ?_)
  refine zb_gI 0 dX11_nameAt_4 fl_X11_227 i1 rfl rfl ?_
  refine zb_if_ne (tgt := 12) dX11_nameAt_7 (by decide) (fun c2 => ?_) (fun c2 => ?_)
  · have h := h.2 c2
    refine zb_iload_n (j := 1) dX11_nameAt_12 rfl rfl ?_
    refine zb_iconst dX11_nameAt_13 (zb_inIc rfl) ?_
    refine zb_icmp_ne (tgt := 25) dX11_nameAt_14 (by decide) (fun c3 => ?_) (fun c3 => ?_)
    · have h := h.2 c3
      refine zb_iload_n (j := 1) dX11_nameAt_25 rfl rfl ?_
      refine zb_aload_n (j := 0) dX11_nameAt_26 rfl rfl ?_
      refine zb_gFo 10 dX11_nameAt_27 fl_X11_74 i_0 hW hF rfl rfl rfl rfl (fun i4 => ?_)
      refine zb_gI 2 dX11_nameAt_30 fl_X11_230 i4 rfl rfl ?_
      refine zb_cSp (As := [(0, x1), (0, (m (E.2 x0 10) 2))]) (As' := [(0, (m (E.2 x0 10) 2)), (0, x1)]) (st := []) dX11_nameAt_33 lk_X11_101 gd_X11_isBelow rfl rfl h hW hF (zb_aI (zb_aI zb_a0)) (Nat.le_refl _) (Nat.le_of_ble_eq_true rfl) (fun r33 h => ?_)
      show zb_WP _ _ _ _ [(0, r33)] _ _ _ _
      refine zb_if_eq (tgt := 51) dX11_nameAt_36 (by decide) (fun c5 => ?_) (fun c5 => ?_)
      · have h := h.1 c5
        refine zb_iconst dX11_nameAt_51 (zb_inIc rfl) ?_
        exact zb_rI dX11_nameAt_52 rfl hF ⟨rfl, h⟩
      · have h := h.2 c5
        refine zb_aload_n (j := 0) dX11_nameAt_39 rfl rfl ?_
        refine zb_gFo 10 dX11_nameAt_40 fl_X11_74 i_0 hW hF rfl rfl rfl rfl (fun i6 => ?_)
        refine zb_gFa 5 dX11_nameAt_43 fl_X11_233 i6 hW hF rfl rfl rfl (by decide) rfl 157 rfl (fun i7 l8 => ?_)
        refine zb_iload_n (j := 1) dX11_nameAt_46 rfl rfl ?_
        obtain ⟨o9, h⟩ := h
        refine zb_lI dX11_nameAt_47 i7 l8 o9.1 o9.2 ?_
        refine zb_goto (tgt := 52) dX11_nameAt_48 (by decide) ?_
        exact zb_rI dX11_nameAt_52 rfl hF ⟨rfl, h⟩
    · have h := h.1 c3
      refine zb_aload_n (j := 0) dX11_nameAt_17 rfl rfl ?_
      refine zb_gFo 10 dX11_nameAt_18 fl_X11_74 i_0 hW hF rfl rfl rfl rfl (fun i10 => ?_)
      refine zb_gI 2 dX11_nameAt_21 fl_X11_230 i10 rfl rfl ?_
      exact zb_rI dX11_nameAt_24 rfl hF ⟨rfl, h⟩
  · have h := h.1 c2
    refine zb_iconst dX11_nameAt_10 (zb_inIc rfl) ?_
    exact zb_rI dX11_nameAt_11 rfl hF ⟨rfl, h⟩
theorem dX11_order_0 : decode cX11_order 0 = .ok (.aload_n 0, 1) := by decide +kernel
theorem dX11_order_1 : decode cX11_order 1 = .ok (.getfield 74, 3) := by decide +kernel
theorem dX11_order_4 : decode cX11_order 4 = .ok (.getfield 227, 3) := by decide +kernel
theorem dX11_order_7 : decode cX11_order 7 = .ok (.ifCond .eq 17, 3) := by decide +kernel
theorem dX11_order_10 : decode cX11_order 10 = .ok (.iload_n 1, 1) := by decide +kernel
theorem dX11_order_11 : decode cX11_order 11 = .ok (.aload_n 0, 1) := by decide +kernel
theorem dX11_order_12 : decode cX11_order 12 = .ok (.getfield 74, 3) := by decide +kernel
theorem dX11_order_15 : decode cX11_order 15 = .ok (.getfield 236, 3) := by decide +kernel
theorem dX11_order_18 : decode cX11_order 18 = .ok (.invokestatic 101, 3) := by decide +kernel
theorem dX11_order_21 : decode cX11_order 21 = .ok (.ifCond .ne 5, 3) := by decide +kernel
theorem dX11_order_24 : decode cX11_order 24 = .ok (.iconst (-1), 1) := by decide +kernel
theorem dX11_order_25 : decode cX11_order 25 = .ok (.ireturn, 1) := by decide +kernel
theorem dX11_order_26 : decode cX11_order 26 = .ok (.aload_n 0, 1) := by decide +kernel
theorem dX11_order_27 : decode cX11_order 27 = .ok (.getfield 74, 3) := by decide +kernel
theorem dX11_order_30 : decode cX11_order 30 = .ok (.getfield 237, 3) := by decide +kernel
theorem dX11_order_33 : decode cX11_order 33 = .ok (.iload_n 1, 1) := by decide +kernel
theorem dX11_order_34 : decode cX11_order 34 = .ok (.iaload, 1) := by decide +kernel
theorem dX11_order_35 : decode cX11_order 35 = .ok (.ireturn, 1) := by decide +kernel
def PM_X11_order (d : Nat) (E : zb_E) (x0 : Int) (x1 : Int) (m : zb_M) (Q : Int → Prop) : Prop :=
  ((m (E.2 x0 10) 0) = 0 → Q (-1)) ∧ (¬ (m (E.2 x0 10) 0) = 0 → zb_Tp K_X11_isBelow d [(0, x1), (0, (m (E.2 x0 10) 1))] E m (fun r18 => (r18 = 0 → Q (-1)) ∧ (¬ r18 = 0 → (0 ≤ x1 ∧ x1 < 12) ∧ (Q (m (E.2 (E.2 x0 10) 6) x1)))))
set_option maxRecDepth 100000 in
set_option maxHeartbeats 4000000 in
theorem w_X11_order {d : Nat} {E : zb_E} {x0 x1 : Int} {m : zb_M} {Q : Int → Prop} (h : PM_X11_order d E x0 x1 m Q) : zb_Tp K_X11_order (d + 1) [(2, x0), (0, x1)] E m Q := by
  unfold PM_X11_order at h
  refine zb_T_in gd_X11_order rfl rfl (fun hW hA G C hF => ?_)
  have i_0 : zb_is E.1 x0 11 := zb_aH hA (by decide)
  show zb_WP _ _ 0 [(0, (2, x0)), (1, (0, x1))] [] _ _ _ _
  refine zb_aload_n (j := 0) dX11_order_0 rfl rfl ?_
  refine zb_gFo 10 dX11_order_1 fl_X11_74 i_0 hW hF rfl rfl rfl rfl (fun i1 => ?_)
  refine zb_gI 0 dX11_order_4 fl_X11_227 i1 rfl rfl ?_
  refine zb_if_eq (tgt := 24) dX11_order_7 (by decide) (fun c2 => ?_) (fun c2 => ?_)
  · have h := h.1 c2
    refine zb_iconst dX11_order_24 (zb_inIc rfl) ?_
    exact zb_rI dX11_order_25 rfl hF ⟨rfl, h⟩
  · have h := h.2 c2
    refine zb_iload_n (j := 1) dX11_order_10 rfl rfl ?_
    refine zb_aload_n (j := 0) dX11_order_11 rfl rfl ?_
    refine zb_gFo 10 dX11_order_12 fl_X11_74 i_0 hW hF rfl rfl rfl rfl (fun i3 => ?_)
    refine zb_gI 1 dX11_order_15 fl_X11_236 i3 rfl rfl ?_
    refine zb_cSp (As := [(0, x1), (0, (m (E.2 x0 10) 1))]) (As' := [(0, (m (E.2 x0 10) 1)), (0, x1)]) (st := []) dX11_order_18 lk_X11_101 gd_X11_isBelow rfl rfl h hW hF (zb_aI (zb_aI zb_a0)) (Nat.le_refl _) (Nat.le_of_ble_eq_true rfl) (fun r18 h => ?_)
    show zb_WP _ _ _ _ [(0, r18)] _ _ _ _
    refine zb_if_ne (tgt := 26) dX11_order_21 (by decide) (fun c4 => ?_) (fun c4 => ?_)
    · have h := h.2 c4
      refine zb_aload_n (j := 0) dX11_order_26 rfl rfl ?_
      refine zb_gFo 10 dX11_order_27 fl_X11_74 i_0 hW hF rfl rfl rfl rfl (fun i5 => ?_)
      refine zb_gFa 6 dX11_order_30 fl_X11_237 i5 hW hF rfl rfl rfl (by decide) rfl 12 rfl (fun i6 l7 => ?_)
      refine zb_iload_n (j := 1) dX11_order_33 rfl rfl ?_
      obtain ⟨o8, h⟩ := h
      refine zb_lI dX11_order_34 i6 l7 o8.1 o8.2 ?_
      exact zb_rI dX11_order_35 rfl hF ⟨rfl, h⟩
    · have h := h.1 c4
      refine zb_iconst dX11_order_24 (zb_inIc rfl) ?_
      exact zb_rI dX11_order_25 rfl hF ⟨rfl, h⟩
theorem dX11_nodes_0 : decode cX11_nodes 0 = .ok (.aload_n 0, 1) := by decide +kernel
theorem dX11_nodes_1 : decode cX11_nodes 1 = .ok (.getfield 74, 3) := by decide +kernel
theorem dX11_nodes_4 : decode cX11_nodes 4 = .ok (.getfield 227, 3) := by decide +kernel
theorem dX11_nodes_7 : decode cX11_nodes 7 = .ok (.ifCond .eq 13, 3) := by decide +kernel
theorem dX11_nodes_10 : decode cX11_nodes 10 = .ok (.aload_n 0, 1) := by decide +kernel
theorem dX11_nodes_11 : decode cX11_nodes 11 = .ok (.getfield 74, 3) := by decide +kernel
theorem dX11_nodes_14 : decode cX11_nodes 14 = .ok (.getfield 240, 3) := by decide +kernel
theorem dX11_nodes_17 : decode cX11_nodes 17 = .ok (.goto 4, 3) := by decide +kernel
theorem dX11_nodes_20 : decode cX11_nodes 20 = .ok (.iconst (-1), 1) := by decide +kernel
theorem dX11_nodes_21 : decode cX11_nodes 21 = .ok (.ireturn, 1) := by decide +kernel
def PM_X11_nodes (d : Nat) (E : zb_E) (x0 : Int) (m : zb_M) (Q : Int → Prop) : Prop :=
  ((m (E.2 x0 10) 0) = 0 → Q (-1)) ∧ (¬ (m (E.2 x0 10) 0) = 0 → Q (m (E.2 x0 10) 4))
set_option maxRecDepth 100000 in
set_option maxHeartbeats 4000000 in
theorem w_X11_nodes {d : Nat} {E : zb_E} {x0 : Int} {m : zb_M} {Q : Int → Prop} (h : PM_X11_nodes d E x0 m Q) : zb_Tp K_X11_nodes (d + 1) [(2, x0)] E m Q := by
  unfold PM_X11_nodes at h
  refine zb_T_in gd_X11_nodes rfl rfl (fun hW hA G C hF => ?_)
  have i_0 : zb_is E.1 x0 11 := zb_aH hA (by decide)
  show zb_WP _ _ 0 [(0, (2, x0))] [] _ _ _ _
  refine zb_aload_n (j := 0) dX11_nodes_0 rfl rfl ?_
  refine zb_gFo 10 dX11_nodes_1 fl_X11_74 i_0 hW hF rfl rfl rfl rfl (fun i1 => ?_)
  refine zb_gI 0 dX11_nodes_4 fl_X11_227 i1 rfl rfl ?_
  refine zb_if_eq (tgt := 20) dX11_nodes_7 (by decide) (fun c2 => ?_) (fun c2 => ?_)
  · have h := h.1 c2
    refine zb_iconst dX11_nodes_20 (zb_inIc rfl) ?_
    exact zb_rI dX11_nodes_21 rfl hF ⟨rfl, h⟩
  · have h := h.2 c2
    refine zb_aload_n (j := 0) dX11_nodes_10 rfl rfl ?_
    refine zb_gFo 10 dX11_nodes_11 fl_X11_74 i_0 hW hF rfl rfl rfl rfl (fun i3 => ?_)
    refine zb_gI 4 dX11_nodes_14 fl_X11_240 i3 rfl rfl ?_
    refine zb_goto (tgt := 21) dX11_nodes_17 (by decide) ?_
    exact zb_rI dX11_nodes_21 rfl hF ⟨rfl, h⟩
