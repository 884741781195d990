/-! ===== SameBenchModel: instructions and walks (laid by gen/layout.py) ===== -/
theorem dX12_growBoth_0 : decode cX12_growBoth 0 = .ok (.aload_n 0, 1) := by decide +kernel
theorem dX12_growBoth_1 : decode cX12_growBoth 1 = .ok (.iload_n 1, 1) := by decide +kernel
theorem dX12_growBoth_2 : decode cX12_growBoth 2 = .ok (.invokevirtual 194, 3) := by decide +kernel
theorem dX12_growBoth_5 : decode cX12_growBoth 5 = .ok (.aload_n 0, 1) := by decide +kernel
theorem dX12_growBoth_6 : decode cX12_growBoth 6 = .ok (.invokevirtual 234, 3) := by decide +kernel
theorem dX12_growBoth_9 : decode cX12_growBoth 9 = .ok (.ifCond .ne 5, 3) := by decide +kernel
theorem dX12_growBoth_12 : decode cX12_growBoth 12 = .ok (.iconst 0, 1) := by decide +kernel
theorem dX12_growBoth_13 : decode cX12_growBoth 13 = .ok (.ireturn, 1) := by decide +kernel
theorem dX12_growBoth_14 : decode cX12_growBoth 14 = .ok (.aload_n 0, 1) := by decide +kernel
theorem dX12_growBoth_15 : decode cX12_growBoth 15 = .ok (.invokevirtual 247, 3) := by decide +kernel
theorem dX12_growBoth_18 : decode cX12_growBoth 18 = .ok (.aload_n 0, 1) := by decide +kernel
theorem dX12_growBoth_19 : decode cX12_growBoth 19 = .ok (.iload_n 2, 1) := by decide +kernel
theorem dX12_growBoth_20 : decode cX12_growBoth 20 = .ok (.invokevirtual 194, 3) := by decide +kernel
theorem dX12_growBoth_23 : decode cX12_growBoth 23 = .ok (.aload_n 0, 1) := by decide +kernel
theorem dX12_growBoth_24 : decode cX12_growBoth 24 = .ok (.invokevirtual 234, 3) := by decide +kernel
theorem dX12_growBoth_27 : decode cX12_growBoth 27 = .ok (.ireturn, 1) := by decide +kernel
def PM_X12_growBoth (d : Nat) (E : zb_E) (x0 : Int) (x1 : Int) (x2 : Int) (m : zb_M) (Q : Int → zb_M → Prop) : Prop :=
  zb_T K_X12_layOut d [(2, x0), (0, x1)] E m (fun r2 m2 => zb_T K_X12_grow d [(2, x0)] E m2 (fun r6 m6 => (r6 = 0 → Q 0 m6) ∧ (¬ r6 = 0 → zb_T K_X12_keepOther d [(2, x0)] E m6 (fun r15 m15 => zb_T K_X12_layOut d [(2, x0), (0, x2)] E m15 (fun r20 m20 => zb_T K_X12_grow d [(2, x0)] E m20 (fun r24 m24 => (r24 = 0 ∨ r24 = 1) ∧ (Q r24 m24)))))))
set_option maxRecDepth 100000 in
set_option maxHeartbeats 4000000 in
theorem w_X12_growBoth {d : Nat} {E : zb_E} {x0 x1 x2 : Int} {m : zb_M} {Q : Int → zb_M → Prop} (h : PM_X12_growBoth d E x0 x1 x2 m Q) : zb_T K_X12_growBoth (d + 1) [(2, x0), (0, x1), (0, x2)] E m Q := by
  unfold PM_X12_growBoth at h
  refine zb_T_in gd_X12_growBoth rfl rfl (fun hW hA G C hF => ?_)
  have i_0 : zb_is E.1 x0 12 := zb_aH hA (by decide)
  show zb_WP _ _ 0 [(0, (2, x0)), (1, (0, x1)), (2, (0, x2))] [] _ _ _ _
  refine zb_aload_n (j := 0) dX12_growBoth_0 rfl rfl ?_
  refine zb_iload_n (j := 1) dX12_growBoth_1 rfl rfl ?_
  refine zb_cV (As := [(0, x1)]) (As' := [(0, x1)]) (st := []) dX12_growBoth_2 lk_X12_194 gd_X12_layOut rfl rfl i_0 ⟨_, rfl, rfl⟩ h hW hF (zb_aR i_0 (zb_aI zb_a0)) (Nat.le_refl _) (Nat.le_of_ble_eq_true rfl) (fun r2 m2 hF h => ?_)
  show zb_WP _ _ _ _ [] _ _ _ _
  refine zb_aload_n (j := 0) dX12_growBoth_5 rfl rfl ?_
  refine zb_cV (As := []) (As' := []) (st := []) dX12_growBoth_6 lk_X12_234 gd_X12_grow rfl rfl i_0 ⟨_, rfl, rfl⟩ h hW hF (zb_aR i_0 zb_a0) (Nat.le_refl _) (Nat.le_of_ble_eq_true rfl) (fun r6 m6 hF h => ?_)
  show zb_WP _ _ _ _ [(0, r6)] _ _ _ _
  refine zb_if_ne (tgt := 14) dX12_growBoth_9 (by decide) (fun c1 => ?_) (fun c1 => ?_)
  · have h := h.2 c1
    refine zb_aload_n (j := 0) dX12_growBoth_14 rfl rfl ?_
    refine zb_cV (As := []) (As' := []) (st := []) dX12_growBoth_15 lk_X12_247 gd_X12_keepOther rfl rfl i_0 ⟨_, rfl, rfl⟩ h hW hF (zb_aR i_0 zb_a0) (Nat.le_refl _) (Nat.le_of_ble_eq_true rfl) (fun r15 m15 hF h => ?_)
    show zb_WP _ _ _ _ [] _ _ _ _
    refine zb_aload_n (j := 0) dX12_growBoth_18 rfl rfl ?_
    refine zb_iload_n (j := 2) dX12_growBoth_19 rfl rfl ?_
    refine zb_cV (As := [(0, x2)]) (As' := [(0, x2)]) (st := []) dX12_growBoth_20 lk_X12_194 gd_X12_layOut rfl rfl i_0 ⟨_, rfl, rfl⟩ h hW hF (zb_aR i_0 (zb_aI zb_a0)) (Nat.le_refl _) (Nat.le_of_ble_eq_true rfl) (fun r20 m20 hF h => ?_)
    show zb_WP _ _ _ _ [] _ _ _ _
    refine zb_aload_n (j := 0) dX12_growBoth_23 rfl rfl ?_
    refine zb_cV (As := []) (As' := []) (st := []) dX12_growBoth_24 lk_X12_234 gd_X12_grow rfl rfl i_0 ⟨_, rfl, rfl⟩ h hW hF (zb_aR i_0 zb_a0) (Nat.le_refl _) (Nat.le_of_ble_eq_true rfl) (fun r24 m24 hF h => ?_)
    show zb_WP _ _ _ _ [(0, r24)] _ _ _ _
    obtain ⟨o2, h⟩ := h
    exact zb_rZ dX12_growBoth_27 rfl hF o2 h
  · have h := h.1 c1
    refine zb_iconst dX12_growBoth_12 (zb_inIc rfl) ?_
    exact zb_rZ dX12_growBoth_13 rfl hF (by decide) h
theorem dX12_same_0 : decode cX12_same 0 = .ok (.aload_n 0, 1) := by decide +kernel
theorem dX12_same_1 : decode cX12_same 1 = .ok (.iload_n 1, 1) := by decide +kernel
theorem dX12_same_2 : decode cX12_same 2 = .ok (.invokevirtual 137, 3) := by decide +kernel
theorem dX12_same_5 : decode cX12_same 5 = .ok (.ifCond .eq 11, 3) := by decide +kernel
theorem dX12_same_8 : decode cX12_same 8 = .ok (.aload_n 0, 1) := by decide +kernel
theorem dX12_same_9 : decode cX12_same 9 = .ok (.iload_n 2, 1) := by decide +kernel
theorem dX12_same_10 : decode cX12_same 10 = .ok (.invokevirtual 137, 3) := by decide +kernel
theorem dX12_same_13 : decode cX12_same 13 = .ok (.ifCond .ne 5, 3) := by decide +kernel
theorem dX12_same_16 : decode cX12_same 16 = .ok (.iconst (-1), 1) := by decide +kernel
theorem dX12_same_17 : decode cX12_same 17 = .ok (.ireturn, 1) := by decide +kernel
theorem dX12_same_18 : decode cX12_same 18 = .ok (.aload_n 0, 1) := by decide +kernel
theorem dX12_same_19 : decode cX12_same 19 = .ok (.iload_n 1, 1) := by decide +kernel
theorem dX12_same_20 : decode cX12_same 20 = .ok (.invokevirtual 172, 3) := by decide +kernel
theorem dX12_same_23 : decode cX12_same 23 = .ok (.ifCond .eq 11, 3) := by decide +kernel
theorem dX12_same_26 : decode cX12_same 26 = .ok (.aload_n 0, 1) := by decide +kernel
theorem dX12_same_27 : decode cX12_same 27 = .ok (.iload_n 2, 1) := by decide +kernel
theorem dX12_same_28 : decode cX12_same 28 = .ok (.invokevirtual 172, 3) := by decide +kernel
theorem dX12_same_31 : decode cX12_same 31 = .ok (.ifCond .ne 6, 3) := by decide +kernel
theorem dX12_same_34 : decode cX12_same 34 = .ok (.bipush (-2), 2) := by decide +kernel
theorem dX12_same_36 : decode cX12_same 36 = .ok (.ireturn, 1) := by decide +kernel
theorem dX12_same_37 : decode cX12_same 37 = .ok (.aload_n 0, 1) := by decide +kernel
theorem dX12_same_38 : decode cX12_same 38 = .ok (.iload_n 1, 1) := by decide +kernel
theorem dX12_same_39 : decode cX12_same 39 = .ok (.iload_n 2, 1) := by decide +kernel
theorem dX12_same_40 : decode cX12_same 40 = .ok (.invokevirtual 250, 3) := by decide +kernel
theorem dX12_same_43 : decode cX12_same 43 = .ok (.ifCond .ne 6, 3) := by decide +kernel
theorem dX12_same_46 : decode cX12_same 46 = .ok (.bipush (-3), 2) := by decide +kernel
theorem dX12_same_48 : decode cX12_same 48 = .ok (.ireturn, 1) := by decide +kernel
theorem dX12_same_49 : decode cX12_same 49 = .ok (.aload_n 0, 1) := by decide +kernel
theorem dX12_same_50 : decode cX12_same 50 = .ok (.aload_n 0, 1) := by decide +kernel
theorem dX12_same_51 : decode cX12_same 51 = .ok (.getfield 175, 3) := by decide +kernel
theorem dX12_same_54 : decode cX12_same 54 = .ok (.invokestatic 219, 3) := by decide +kernel
theorem dX12_same_57 : decode cX12_same 57 = .ok (.invokevirtual 253, 3) := by decide +kernel
theorem dX12_same_60 : decode cX12_same 60 = .ok (.ifCond .lt 5, 3) := by decide +kernel
theorem dX12_same_63 : decode cX12_same 63 = .ok (.iconst 0, 1) := by decide +kernel
theorem dX12_same_64 : decode cX12_same 64 = .ok (.ireturn, 1) := by decide +kernel
theorem dX12_same_65 : decode cX12_same 65 = .ok (.aload_n 0, 1) := by decide +kernel
theorem dX12_same_66 : decode cX12_same 66 = .ok (.invokevirtual 256, 3) := by decide +kernel
theorem dX12_same_69 : decode cX12_same 69 = .ok (.iconst 0, 1) := by decide +kernel
theorem dX12_same_70 : decode cX12_same 70 = .ok (.istore_n 3, 1) := by decide +kernel
theorem dX12_same_71 : decode cX12_same 71 = .ok (.iload_n 3, 1) := by decide +kernel
theorem dX12_same_72 : decode cX12_same 72 = .ok (.aload_n 0, 1) := by decide +kernel
theorem dX12_same_73 : decode cX12_same 73 = .ok (.getfield 175, 3) := by decide +kernel
theorem dX12_same_76 : decode cX12_same 76 = .ok (.if_icmp .ge 26, 3) := by decide +kernel
theorem dX12_same_79 : decode cX12_same 79 = .ok (.aload_n 0, 1) := by decide +kernel
theorem dX12_same_80 : decode cX12_same 80 = .ok (.getfield 106, 3) := by decide +kernel
theorem dX12_same_83 : decode cX12_same 83 = .ok (.aload_n 0, 1) := by decide +kernel
theorem dX12_same_84 : decode cX12_same 84 = .ok (.getfield 103, 3) := by decide +kernel
theorem dX12_same_87 : decode cX12_same 87 = .ok (.iload_n 3, 1) := by decide +kernel
theorem dX12_same_88 : decode cX12_same 88 = .ok (.iaload, 1) := by decide +kernel
theorem dX12_same_89 : decode cX12_same 89 = .ok (.aload_n 0, 1) := by decide +kernel
theorem dX12_same_90 : decode cX12_same 90 = .ok (.getfield 85, 3) := by decide +kernel
theorem dX12_same_93 : decode cX12_same 93 = .ok (.iload_n 3, 1) := by decide +kernel
theorem dX12_same_94 : decode cX12_same 94 = .ok (.iaload, 1) := by decide +kernel
theorem dX12_same_95 : decode cX12_same 95 = .ok (.iastore, 1) := by decide +kernel
theorem dX12_same_96 : decode cX12_same 96 = .ok (.iinc 3 1, 3) := by decide +kernel
theorem dX12_same_99 : decode cX12_same 99 = .ok (.goto (-28), 3) := by decide +kernel
theorem dX12_same_102 : decode cX12_same 102 = .ok (.iconst 1, 1) := by decide +kernel
theorem dX12_same_103 : decode cX12_same 103 = .ok (.ireturn, 1) := by decide +kernel
def PL_X12_same_71 (d : Nat) (E : zb_E) (x0 : Int) (Q : Int → zb_M → Prop)  (v3_71 : Int) (m71l : zb_M) : Prop :=
  ∀ X71 : Int → zb_M → Prop, (∀ (v3_71 : Int) (m71l : zb_M), (((m71l x0 15) ≤ v3_71 → Q 1 m71l) ∧ (¬ (m71l x0 15) ≤ v3_71 → (0 ≤ v3_71 ∧ v3_71 < 12) ∧ ((0 ≤ (m71l (E.2 x0 39) v3_71) ∧ (m71l (E.2 x0 39) v3_71) < 12) ∧ (∀ m95, m95 = zb_up m71l (E.2 x0 41) (m71l (E.2 x0 39) v3_71) (m71l (E.2 x0 31) v3_71) → ((zb_inI (v3_71 + 1)) ∧ (X71 (v3_71 + 1) m95)))))) → X71 v3_71 m71l) → X71 v3_71 m71l
def PM_X12_same (d : Nat) (E : zb_E) (x0 : Int) (x1 : Int) (x2 : Int) (m : zb_M) (Q : Int → zb_M → Prop) : Prop :=
  zb_Tp K_X12_isGraph d [(2, x0), (0, x1)] E m (fun r2 => (r2 = 0 → Q (-1) m) ∧ (¬ r2 = 0 → zb_Tp K_X12_isGraph d [(2, x0), (0, x2)] E m (fun r10 => (r10 = 0 → Q (-1) m) ∧ (¬ r10 = 0 → zb_Tp K_X12_isRight d [(2, x0), (0, x1)] E m (fun r20 => (r20 = 0 → Q (-2) m) ∧ (¬ r20 = 0 → zb_Tp K_X12_isRight d [(2, x0), (0, x2)] E m (fun r28 => (r28 = 0 → Q (-2) m) ∧ (¬ r28 = 0 → zb_T K_X12_growBoth d [(2, x0), (0, x1), (0, x2)] E m (fun r40 m40 => (r40 = 0 → Q (-3) m40) ∧ (¬ r40 = 0 → zb_Tp K_X12_sizeOf d [(0, (m40 x0 15))] E m40 (fun r54 => zb_Tp K_X12_differsAt d [(2, x0), (0, r54)] E m40 (fun r57 => (r57 < 0 → zb_T K_X12_clearTurning d [(2, x0)] E m40 (fun r66 m66 => PL_X12_same_71 d E x0 Q 0 m66)) ∧ (¬ r57 < 0 → Q 0 m40)))))))))))))
set_option maxRecDepth 100000 in
set_option maxHeartbeats 4000000 in
theorem w_X12_same {d : Nat} {E : zb_E} {x0 x1 x2 : Int} {m : zb_M} {Q : Int → zb_M → Prop} (h : PM_X12_same d E x0 x1 x2 m Q) : zb_T K_X12_same (d + 1) [(2, x0), (0, x1), (0, x2)] E m Q := by
  unfold PM_X12_same at h
  refine zb_T_in gd_X12_same rfl rfl (fun hW hA G C hF => ?_)
  have i_0 : zb_is E.1 x0 12 := zb_aH hA (by decide)
  show zb_WP _ _ 0 [(0, (2, x0)), (1, (0, x1)), (2, (0, x2))] [] _ _ _ _
  refine zb_aload_n (j := 0) dX12_same_0 rfl rfl ?_
  refine zb_iload_n (j := 1) dX12_same_1 rfl rfl ?_
  refine zb_cVp (As := [(0, x1)]) (As' := [(0, x1)]) (st := []) dX12_same_2 lk_X12_137 gd_X12_isGraph rfl rfl i_0 ⟨_, rfl, rfl⟩ h hW hF (zb_aR i_0 (zb_aI zb_a0)) (Nat.le_refl _) (Nat.le_of_ble_eq_true rfl) (fun r2 h => ?_)
  show zb_WP _ _ _ _ [(0, r2)] _ _ _ _
  refine zb_if_eq (tgt := 16) dX12_same_5 (by decide) (fun c1 => ?_) (fun c1 => ?_)
  · have h := h.1 c1
    refine zb_iconst dX12_same_16 (zb_inIc rfl) ?_
    exact zb_rI dX12_same_17 rfl hF h
  · have h := h.2 c1
    refine zb_aload_n (j := 0) dX12_same_8 rfl rfl ?_
    refine zb_iload_n (j := 2) dX12_same_9 rfl rfl ?_
    refine zb_cVp (As := [(0, x2)]) (As' := [(0, x2)]) (st := []) dX12_same_10 lk_X12_137 gd_X12_isGraph rfl rfl i_0 ⟨_, rfl, rfl⟩ h hW hF (zb_aR i_0 (zb_aI zb_a0)) (Nat.le_refl _) (Nat.le_of_ble_eq_true rfl) (fun r10 h => ?_)
    show zb_WP _ _ _ _ [(0, r10)] _ _ _ _
    refine zb_if_ne (tgt := 18) dX12_same_13 (by decide) (fun c2 => ?_) (fun c2 => ?_)
    · have h := h.2 c2
      refine zb_aload_n (j := 0) dX12_same_18 rfl rfl ?_
      refine zb_iload_n (j := 1) dX12_same_19 rfl rfl ?_
      refine zb_cVp (As := [(0, x1)]) (As' := [(0, x1)]) (st := []) dX12_same_20 lk_X12_172 gd_X12_isRight rfl rfl i_0 ⟨_, rfl, rfl⟩ h hW hF (zb_aR i_0 (zb_aI zb_a0)) (Nat.le_refl _) (Nat.le_of_ble_eq_true rfl) (fun r20 h => ?_)
      show zb_WP _ _ _ _ [(0, r20)] _ _ _ _
      refine zb_if_eq (tgt := 34) dX12_same_23 (by decide) (fun c3 => ?_) (fun c3 => ?_)
      · have h := h.1 c3
        refine zb_bipush dX12_same_34 (by decide) (zb_inIc rfl) ?_
        exact zb_rI dX12_same_36 rfl hF h
      · have h := h.2 c3
        refine zb_aload_n (j := 0) dX12_same_26 rfl rfl ?_
        refine zb_iload_n (j := 2) dX12_same_27 rfl rfl ?_
        refine zb_cVp (As := [(0, x2)]) (As' := [(0, x2)]) (st := []) dX12_same_28 lk_X12_172 gd_X12_isRight rfl rfl i_0 ⟨_, rfl, rfl⟩ h hW hF (zb_aR i_0 (zb_aI zb_a0)) (Nat.le_refl _) (Nat.le_of_ble_eq_true rfl) (fun r28 h => ?_)
        show zb_WP _ _ _ _ [(0, r28)] _ _ _ _
        refine zb_if_ne (tgt := 37) dX12_same_31 (by decide) (fun c4 => ?_) (fun c4 => ?_)
        · have h := h.2 c4
          refine zb_aload_n (j := 0) dX12_same_37 rfl rfl ?_
          refine zb_iload_n (j := 1) dX12_same_38 rfl rfl ?_
          refine zb_iload_n (j := 2) dX12_same_39 rfl rfl ?_
          refine zb_cV (As := [(0, x1), (0, x2)]) (As' := [(0, x2), (0, x1)]) (st := []) dX12_same_40 lk_X12_250 gd_X12_growBoth rfl rfl i_0 ⟨_, rfl, rfl⟩ h hW hF (zb_aR i_0 (zb_aI (zb_aI zb_a0))) (Nat.le_refl _) (Nat.le_of_ble_eq_true rfl) (fun r40 m40 hF h => ?_)
          show zb_WP _ _ _ _ [(0, r40)] _ _ _ _
          refine zb_if_ne (tgt := 49) dX12_same_43 (by decide) (fun c5 => ?_) (fun c5 => ?_)
          · have h := h.2 c5
            refine zb_aload_n (j := 0) dX12_same_49 rfl rfl ?_
            refine zb_aload_n (j := 0) dX12_same_50 rfl rfl ?_
            refine zb_gI 15 dX12_same_51 fl_X12_175 i_0 rfl rfl ?_
            refine zb_cSp (As := [(0, (m40 x0 15))]) (As' := [(0, (m40 x0 15))]) (st := [(2, x0)]) dX12_same_54 lk_X12_219 gd_X12_sizeOf rfl rfl h hW hF (zb_aI zb_a0) (Nat.le_refl _) (Nat.le_of_ble_eq_true rfl) (fun r54 h => ?_)
            show zb_WP _ _ _ _ [(0, r54), (2, x0)] _ _ _ _
            refine zb_cVp (As := [(0, r54)]) (As' := [(0, r54)]) (st := []) dX12_same_57 lk_X12_253 gd_X12_differsAt rfl rfl i_0 ⟨_, rfl, rfl⟩ h hW hF (zb_aR i_0 (zb_aI zb_a0)) (Nat.le_refl _) (Nat.le_of_ble_eq_true rfl) (fun r57 h => ?_)
            show zb_WP _ _ _ _ [(0, r57)] _ _ _ _
            refine zb_if_lt (tgt := 65) dX12_same_60 (by decide) (fun c6 => ?_) (fun c6 => ?_)
            · have h := h.1 c6
              refine zb_aload_n (j := 0) dX12_same_65 rfl rfl ?_
              refine zb_cV (As := []) (As' := []) (st := []) dX12_same_66 lk_X12_256 gd_X12_clearTurning rfl rfl i_0 ⟨_, rfl, rfl⟩ h hW hF (zb_aR i_0 zb_a0) (Nat.le_refl _) (Nat.le_of_ble_eq_true rfl) (fun r66 m66 hF h => ?_)
              show zb_WP _ _ _ _ [] _ _ _ _
              refine zb_iconst dX12_same_69 (zb_inIc rfl) ?_
              refine zb_istore_n (L' := [(3, (0, 0)), (0, (2, x0)), (1, (0, x1)), (2, (0, x2))]) dX12_same_70 rfl (by decide) rfl ?_
              refine zb_sub (L' := [(0, (2, x0)), (3, (0, 0))]) [1, 0] rfl ?_
              unfold PL_X12_same_71 at h
              obtain ⟨X71, hX71⟩ : ∃ X : Int → zb_M → Prop, ∀ (v3_71 : Int) (m71l : zb_M), (X v3_71 m71l ↔ (zb_FIN E m71l → zb_WP (G, C, d + 1, 0, 0, zb_q E Q) F_X12_same 71 [(0, (2, x0)), (3, (0, v3_71))] [] E.1 m71l 0 0)) := ⟨fun v3_71 m71l => zb_FIN E m71l → zb_WP (G, C, d + 1, 0, 0, zb_q E Q) F_X12_same 71 [(0, (2, x0)), (3, (0, v3_71))] [] E.1 m71l 0 0, fun _ _ => Iff.rfl⟩
              refine (hX71 _ _).mp (h X71 (fun v3_71 m71l h => (hX71 _ _).mpr (fun hF => ?_))) hF
              refine zb_iload_n (j := 1) dX12_same_71 rfl rfl ?_
              refine zb_aload_n (j := 0) dX12_same_72 rfl rfl ?_
              refine zb_gI 15 dX12_same_73 fl_X12_175 i_0 rfl rfl ?_
              refine zb_icmp_ge (tgt := 102) dX12_same_76 (by decide) (fun c7 => ?_) (fun c7 => ?_)
              · have h := h.1 c7
                refine zb_iconst dX12_same_102 (zb_inIc rfl) ?_
                exact zb_rI dX12_same_103 rfl hF h
              · have h := h.2 c7
                refine zb_aload_n (j := 0) dX12_same_79 rfl rfl ?_
                refine zb_gFa 41 dX12_same_80 fl_X12_106 i_0 hW hF rfl rfl rfl (by decide) rfl 12 rfl (fun i8 l9 => ?_)
                refine zb_aload_n (j := 0) dX12_same_83 rfl rfl ?_
                refine zb_gFa 39 dX12_same_84 fl_X12_103 i_0 hW hF rfl rfl rfl (by decide) rfl 12 rfl (fun i10 l11 => ?_)
                refine zb_iload_n (j := 1) dX12_same_87 rfl rfl ?_
                obtain ⟨o12, h⟩ := h
                refine zb_lI dX12_same_88 i10 l11 o12.1 o12.2 ?_
                refine zb_aload_n (j := 0) dX12_same_89 rfl rfl ?_
                refine zb_gFa 31 dX12_same_90 fl_X12_85 i_0 hW hF rfl rfl rfl (by decide) rfl 12 rfl (fun i13 l14 => ?_)
                refine zb_iload_n (j := 1) dX12_same_93 rfl rfl ?_
                refine zb_lI dX12_same_94 i13 l14 o12.1 o12.2 ?_
                obtain ⟨o15, h⟩ := h
                refine zb_sI dX12_same_95 i8 l9 o15.1 o15.2 hF (fun m95 e95 hF => ?_)
                have h := h m95 e95
                obtain ⟨o16, h⟩ := h
                refine zb_iinc (j := 1) (L' := [(3, (0, (v3_71 + 1))), (0, (2, x0))]) dX12_same_96 rfl o16 (by decide) rfl ?_
                refine zb_goto (tgt := 71) dX12_same_99 (by decide) ?_
                refine zb_sub (L' := [(0, (2, x0)), (3, (0, (v3_71 + 1)))]) [1, 0] rfl ?_
                exact (hX71 _ _).mp h hF
            · have h := h.2 c6
              refine zb_iconst dX12_same_63 (zb_inIc rfl) ?_
              exact zb_rI dX12_same_64 rfl hF h
          · have h := h.1 c5
            refine zb_bipush dX12_same_46 (by decide) (zb_inIc rfl) ?_
            exact zb_rI dX12_same_48 rfl hF h
        · have h := h.1 c4
          refine zb_bipush dX12_same_34 (by decide) (zb_inIc rfl) ?_
          exact zb_rI dX12_same_36 rfl hF h
    · have h := h.1 c2
      refine zb_iconst dX12_same_16 (zb_inIc rfl) ?_
      exact zb_rI dX12_same_17 rfl hF h
theorem dX12_unlikeBy_0 : decode cX12_unlikeBy 0 = .ok (.aload_n 0, 1) := by decide +kernel
theorem dX12_unlikeBy_1 : decode cX12_unlikeBy 1 = .ok (.iconst 1, 1) := by decide +kernel
theorem dX12_unlikeBy_2 : decode cX12_unlikeBy 2 = .ok (.putfield 259, 3) := by decide +kernel
theorem dX12_unlikeBy_5 : decode cX12_unlikeBy 5 = .ok (.aload_n 0, 1) := by decide +kernel
theorem dX12_unlikeBy_6 : decode cX12_unlikeBy 6 = .ok (.getfield 109, 3) := by decide +kernel
theorem dX12_unlikeBy_9 : decode cX12_unlikeBy 9 = .ok (.iconst 0, 1) := by decide +kernel
theorem dX12_unlikeBy_10 : decode cX12_unlikeBy 10 = .ok (.iload_n 2, 1) := by decide +kernel
theorem dX12_unlikeBy_11 : decode cX12_unlikeBy 11 = .ok (.iastore, 1) := by decide +kernel
theorem dX12_unlikeBy_12 : decode cX12_unlikeBy 12 = .ok (.aload_n 0, 1) := by decide +kernel
theorem dX12_unlikeBy_13 : decode cX12_unlikeBy 13 = .ok (.getfield 109, 3) := by decide +kernel
theorem dX12_unlikeBy_16 : decode cX12_unlikeBy 16 = .ok (.iconst 1, 1) := by decide +kernel
theorem dX12_unlikeBy_17 : decode cX12_unlikeBy 17 = .ok (.iload_n 3, 1) := by decide +kernel
theorem dX12_unlikeBy_18 : decode cX12_unlikeBy 18 = .ok (.iastore, 1) := by decide +kernel
theorem dX12_unlikeBy_19 : decode cX12_unlikeBy 19 = .ok (.aload_n 0, 1) := by decide +kernel
theorem dX12_unlikeBy_20 : decode cX12_unlikeBy 20 = .ok (.getfield 109, 3) := by decide +kernel
theorem dX12_unlikeBy_23 : decode cX12_unlikeBy 23 = .ok (.iconst 2, 1) := by decide +kernel
theorem dX12_unlikeBy_24 : decode cX12_unlikeBy 24 = .ok (.iload 4, 2) := by decide +kernel
theorem dX12_unlikeBy_26 : decode cX12_unlikeBy 26 = .ok (.iastore, 1) := by decide +kernel
theorem dX12_unlikeBy_27 : decode cX12_unlikeBy 27 = .ok (.iload_n 1, 1) := by decide +kernel
theorem dX12_unlikeBy_28 : decode cX12_unlikeBy 28 = .ok (.ireturn, 1) := by decide +kernel
def PM_X12_unlikeBy (d : Nat) (E : zb_E) (x0 : Int) (x1 : Int) (x2 : Int) (x3 : Int) (x4 : Int) (m : zb_M) (Q : Int → zb_M → Prop) : Prop :=
  ∀ m2, m2 = zb_up m x0 42 1 → (∀ m11, m11 = zb_up m2 (E.2 x0 43) 0 x2 → (∀ m18, m18 = zb_up m11 (E.2 x0 43) 1 x3 → (∀ m26, m26 = zb_up m18 (E.2 x0 43) 2 x4 → (Q x1 m26))))
set_option maxRecDepth 100000 in
set_option maxHeartbeats 4000000 in
theorem w_X12_unlikeBy {d : Nat} {E : zb_E} {x0 x1 x2 x3 x4 : Int} {m : zb_M} {Q : Int → zb_M → Prop} (h : PM_X12_unlikeBy d E x0 x1 x2 x3 x4 m Q) : zb_T K_X12_unlikeBy (d + 1) [(2, x0), (0, x1), (0, x2), (0, x3), (0, x4)] E m Q := by
  unfold PM_X12_unlikeBy at h
  refine zb_T_in gd_X12_unlikeBy rfl rfl (fun hW hA G C hF => ?_)
  have i_0 : zb_is E.1 x0 12 := zb_aH hA (by decide)
  show zb_WP _ _ 0 [(0, (2, x0)), (1, (0, x1)), (2, (0, x2)), (3, (0, x3)), (4, (0, x4))] [] _ _ _ _
  refine zb_aload_n (j := 0) dX12_unlikeBy_0 rfl rfl ?_
  refine zb_iconst dX12_unlikeBy_1 (zb_inIc rfl) ?_
  refine zb_pF 42 dX12_unlikeBy_2 fl_X12_259 rfl rfl i_0 (Or.inr (Or.inl ⟨rfl, (by decide)⟩)) hF rfl rfl (fun m2 e2 hF => ?_)
  have h := h m2 e2
  refine zb_aload_n (j := 0) dX12_unlikeBy_5 rfl rfl ?_
  refine zb_gFa 43 dX12_unlikeBy_6 fl_X12_109 i_0 hW hF rfl rfl rfl (by decide) rfl 3 rfl (fun i1 l2 => ?_)
  refine zb_iconst dX12_unlikeBy_9 (zb_inIc rfl) ?_
  refine zb_iload_n (j := 2) dX12_unlikeBy_10 rfl rfl ?_
  refine zb_sI dX12_unlikeBy_11 i1 l2 (by decide) (by decide) hF (fun m11 e11 hF => ?_)
  have h := h m11 e11
  refine zb_aload_n (j := 0) dX12_unlikeBy_12 rfl rfl ?_
  refine zb_gFa 43 dX12_unlikeBy_13 fl_X12_109 i_0 hW hF rfl rfl rfl (by decide) rfl 3 rfl (fun i3 l4 => ?_)
  refine zb_iconst dX12_unlikeBy_16 (zb_inIc rfl) ?_
  refine zb_iload_n (j := 3) dX12_unlikeBy_17 rfl rfl ?_
  refine zb_sI dX12_unlikeBy_18 i3 l4 (by decide) (by decide) hF (fun m18 e18 hF => ?_)
  have h := h m18 e18
  refine zb_aload_n (j := 0) dX12_unlikeBy_19 rfl rfl ?_
  refine zb_gFa 43 dX12_unlikeBy_20 fl_X12_109 i_0 hW hF rfl rfl rfl (by decide) rfl 3 rfl (fun i5 l6 => ?_)
  refine zb_iconst dX12_unlikeBy_23 (zb_inIc rfl) ?_
  refine zb_iload (j := 4) dX12_unlikeBy_24 rfl ?_
  refine zb_sI dX12_unlikeBy_26 i5 l6 (by decide) (by decide) hF (fun m26 e26 hF => ?_)
  have h := h m26 e26
  refine zb_iload_n (j := 1) dX12_unlikeBy_27 rfl rfl ?_
  exact zb_rI dX12_unlikeBy_28 rfl hF h
theorem dX12_sumUp_0 : decode cX12_sumUp 0 = .ok (.iconst 0, 1) := by decide +kernel
theorem dX12_sumUp_1 : decode cX12_sumUp 1 = .ok (.istore_n 3, 1) := by decide +kernel
theorem dX12_sumUp_2 : decode cX12_sumUp 2 = .ok (.iload_n 3, 1) := by decide +kernel
theorem dX12_sumUp_3 : decode cX12_sumUp 3 = .ok (.aload_n 0, 1) := by decide +kernel
theorem dX12_sumUp_4 : decode cX12_sumUp 4 = .ok (.getfield 175, 3) := by decide +kernel
theorem dX12_sumUp_7 : decode cX12_sumUp 7 = .ok (.if_icmp .ge 58, 3) := by decide +kernel
theorem dX12_sumUp_10 : decode cX12_sumUp 10 = .ok (.iload_n 3, 1) := by decide +kernel
theorem dX12_sumUp_11 : decode cX12_sumUp 11 = .ok (.istore 4, 2) := by decide +kernel
theorem dX12_sumUp_13 : decode cX12_sumUp 13 = .ok (.iload 4, 2) := by decide +kernel
theorem dX12_sumUp_15 : decode cX12_sumUp 15 = .ok (.ifCond .le 34, 3) := by decide +kernel
theorem dX12_sumUp_18 : decode cX12_sumUp 18 = .ok (.aload_n 1, 1) := by decide +kernel
theorem dX12_sumUp_19 : decode cX12_sumUp 19 = .ok (.iload 4, 2) := by decide +kernel
theorem dX12_sumUp_21 : decode cX12_sumUp 21 = .ok (.iconst 1, 1) := by decide +kernel
theorem dX12_sumUp_22 : decode cX12_sumUp 22 = .ok (.isub, 1) := by decide +kernel
theorem dX12_sumUp_23 : decode cX12_sumUp 23 = .ok (.iaload, 1) := by decide +kernel
theorem dX12_sumUp_24 : decode cX12_sumUp 24 = .ok (.aload_n 0, 1) := by decide +kernel
theorem dX12_sumUp_25 : decode cX12_sumUp 25 = .ok (.getfield 55, 3) := by decide +kernel
theorem dX12_sumUp_28 : decode cX12_sumUp 28 = .ok (.iload_n 3, 1) := by decide +kernel
theorem dX12_sumUp_29 : decode cX12_sumUp 29 = .ok (.iaload, 1) := by decide +kernel
theorem dX12_sumUp_30 : decode cX12_sumUp 30 = .ok (.if_icmp .le 19, 3) := by decide +kernel
theorem dX12_sumUp_33 : decode cX12_sumUp 33 = .ok (.aload_n 1, 1) := by decide +kernel
theorem dX12_sumUp_34 : decode cX12_sumUp 34 = .ok (.iload 4, 2) := by decide +kernel
theorem dX12_sumUp_36 : decode cX12_sumUp 36 = .ok (.aload_n 1, 1) := by decide +kernel
theorem dX12_sumUp_37 : decode cX12_sumUp 37 = .ok (.iload 4, 2) := by decide +kernel
theorem dX12_sumUp_39 : decode cX12_sumUp 39 = .ok (.iconst 1, 1) := by decide +kernel
theorem dX12_sumUp_40 : decode cX12_sumUp 40 = .ok (.isub, 1) := by decide +kernel
theorem dX12_sumUp_41 : decode cX12_sumUp 41 = .ok (.iaload, 1) := by decide +kernel
theorem dX12_sumUp_42 : decode cX12_sumUp 42 = .ok (.iastore, 1) := by decide +kernel
theorem dX12_sumUp_43 : decode cX12_sumUp 43 = .ok (.iinc 4 (-1), 3) := by decide +kernel
theorem dX12_sumUp_46 : decode cX12_sumUp 46 = .ok (.goto (-33), 3) := by decide +kernel
theorem dX12_sumUp_49 : decode cX12_sumUp 49 = .ok (.aload_n 1, 1) := by decide +kernel
theorem dX12_sumUp_50 : decode cX12_sumUp 50 = .ok (.iload 4, 2) := by decide +kernel
theorem dX12_sumUp_52 : decode cX12_sumUp 52 = .ok (.aload_n 0, 1) := by decide +kernel
theorem dX12_sumUp_53 : decode cX12_sumUp 53 = .ok (.getfield 55, 3) := by decide +kernel
theorem dX12_sumUp_56 : decode cX12_sumUp 56 = .ok (.iload_n 3, 1) := by decide +kernel
theorem dX12_sumUp_57 : decode cX12_sumUp 57 = .ok (.iaload, 1) := by decide +kernel
theorem dX12_sumUp_58 : decode cX12_sumUp 58 = .ok (.iastore, 1) := by decide +kernel
theorem dX12_sumUp_59 : decode cX12_sumUp 59 = .ok (.iinc 3 1, 3) := by decide +kernel
theorem dX12_sumUp_62 : decode cX12_sumUp 62 = .ok (.goto (-60), 3) := by decide +kernel
theorem dX12_sumUp_65 : decode cX12_sumUp 65 = .ok (.aload_n 0, 1) := by decide +kernel
theorem dX12_sumUp_66 : decode cX12_sumUp 66 = .ok (.bipush 14, 2) := by decide +kernel
theorem dX12_sumUp_68 : decode cX12_sumUp 68 = .ok (.invokevirtual 197, 3) := by decide +kernel
theorem dX12_sumUp_71 : decode cX12_sumUp 71 = .ok (.aload_n 0, 1) := by decide +kernel
theorem dX12_sumUp_72 : decode cX12_sumUp 72 = .ok (.bipush 14, 2) := by decide +kernel
theorem dX12_sumUp_74 : decode cX12_sumUp 74 = .ok (.invokevirtual 191, 3) := by decide +kernel
theorem dX12_sumUp_77 : decode cX12_sumUp 77 = .ok (.iconst 0, 1) := by decide +kernel
theorem dX12_sumUp_78 : decode cX12_sumUp 78 = .ok (.istore_n 3, 1) := by decide +kernel
theorem dX12_sumUp_79 : decode cX12_sumUp 79 = .ok (.iload_n 3, 1) := by decide +kernel
theorem dX12_sumUp_80 : decode cX12_sumUp 80 = .ok (.bipush 13, 2) := by decide +kernel
theorem dX12_sumUp_82 : decode cX12_sumUp 82 = .ok (.if_icmp .ge 13, 3) := by decide +kernel
theorem dX12_sumUp_85 : decode cX12_sumUp 85 = .ok (.aload_n 2, 1) := by decide +kernel
theorem dX12_sumUp_86 : decode cX12_sumUp 86 = .ok (.iload_n 3, 1) := by decide +kernel
theorem dX12_sumUp_87 : decode cX12_sumUp 87 = .ok (.iconst 0, 1) := by decide +kernel
theorem dX12_sumUp_88 : decode cX12_sumUp 88 = .ok (.iastore, 1) := by decide +kernel
theorem dX12_sumUp_89 : decode cX12_sumUp 89 = .ok (.iinc 3 1, 3) := by decide +kernel
theorem dX12_sumUp_92 : decode cX12_sumUp 92 = .ok (.goto (-13), 3) := by decide +kernel
theorem dX12_sumUp_95 : decode cX12_sumUp 95 = .ok (.iconst 0, 1) := by decide +kernel
theorem dX12_sumUp_96 : decode cX12_sumUp 96 = .ok (.istore_n 3, 1) := by decide +kernel
theorem dX12_sumUp_97 : decode cX12_sumUp 97 = .ok (.iload_n 3, 1) := by decide +kernel
theorem dX12_sumUp_98 : decode cX12_sumUp 98 = .ok (.aload_n 0, 1) := by decide +kernel
theorem dX12_sumUp_99 : decode cX12_sumUp 99 = .ok (.getfield 175, 3) := by decide +kernel
theorem dX12_sumUp_102 : decode cX12_sumUp 102 = .ok (.if_icmp .ge 25, 3) := by decide +kernel
theorem dX12_sumUp_105 : decode cX12_sumUp 105 = .ok (.aload_n 2, 1) := by decide +kernel
theorem dX12_sumUp_106 : decode cX12_sumUp 106 = .ok (.aload_n 0, 1) := by decide +kernel
theorem dX12_sumUp_107 : decode cX12_sumUp 107 = .ok (.getfield 61, 3) := by decide +kernel
theorem dX12_sumUp_110 : decode cX12_sumUp 110 = .ok (.sipush 168, 3) := by decide +kernel
theorem dX12_sumUp_113 : decode cX12_sumUp 113 = .ok (.iload_n 3, 1) := by decide +kernel
theorem dX12_sumUp_114 : decode cX12_sumUp 114 = .ok (.iadd, 1) := by decide +kernel
theorem dX12_sumUp_115 : decode cX12_sumUp 115 = .ok (.iaload, 1) := by decide +kernel
theorem dX12_sumUp_116 : decode cX12_sumUp 116 = .ok (.dup2, 1) := by decide +kernel
theorem dX12_sumUp_117 : decode cX12_sumUp 117 = .ok (.iaload, 1) := by decide +kernel
theorem dX12_sumUp_118 : decode cX12_sumUp 118 = .ok (.iconst 1, 1) := by decide +kernel
theorem dX12_sumUp_119 : decode cX12_sumUp 119 = .ok (.iadd, 1) := by decide +kernel
theorem dX12_sumUp_120 : decode cX12_sumUp 120 = .ok (.iastore, 1) := by decide +kernel
theorem dX12_sumUp_121 : decode cX12_sumUp 121 = .ok (.iinc 3 1, 3) := by decide +kernel
theorem dX12_sumUp_124 : decode cX12_sumUp 124 = .ok (.goto (-27), 3) := by decide +kernel
theorem dX12_sumUp_127 : decode cX12_sumUp 127 = .ok (.return_, 1) := by decide +kernel
def PL_X12_sumUp_97 (d : Nat) (E : zb_E) (x0 : Int) (x2 : Int) (Q : Int → zb_M → Prop)  (v3_97 : Int) (m97l : zb_M) : Prop :=
  ∀ X97 : Int → zb_M → Prop, (∀ (v3_97 : Int) (m97l : zb_M), (((m97l x0 15) ≤ v3_97 → Q 0 m97l) ∧ (¬ (m97l x0 15) ≤ v3_97 → (zb_inI (168 + v3_97)) ∧ ((0 ≤ (168 + v3_97) ∧ (168 + v3_97) < 180) ∧ ((0 ≤ (m97l (E.2 x0 19) (168 + v3_97)) ∧ (m97l (E.2 x0 19) (168 + v3_97)) < (zb_len E.1 x2)) ∧ ((zb_inI ((m97l x2 (m97l (E.2 x0 19) (168 + v3_97))) + 1)) ∧ (∀ m120, m120 = zb_up m97l x2 (m97l (E.2 x0 19) (168 + v3_97)) ((m97l x2 (m97l (E.2 x0 19) (168 + v3_97))) + 1) → ((zb_inI (v3_97 + 1)) ∧ (X97 (v3_97 + 1) m120)))))))) → X97 v3_97 m97l) → X97 v3_97 m97l
def PJ_X12_sumUp_95 (d : Nat) (E : zb_E) (x0 : Int) (x2 : Int) (Q : Int → zb_M → Prop) (m95j : zb_M) : Prop :=
  PL_X12_sumUp_97 d E x0 x2 Q 0 m95j
def PL_X12_sumUp_79 (d : Nat) (E : zb_E) (x2 : Int) (Q : Int → zb_M → Prop) (K95_79 : zb_M → Prop) (v3_79 : Int) (m79l : zb_M) : Prop :=
  ∀ X79 : Int → zb_M → Prop, (∀ (v3_79 : Int) (m79l : zb_M), ((13 ≤ v3_79 → K95_79 m79l) ∧ (¬ 13 ≤ v3_79 → (0 ≤ v3_79 ∧ v3_79 < (zb_len E.1 x2)) ∧ (∀ m88, m88 = zb_up m79l x2 v3_79 0 → ((zb_inI (v3_79 + 1)) ∧ (X79 (v3_79 + 1) m88))))) → X79 v3_79 m79l) → X79 v3_79 m79l
def PJ_X12_sumUp_65 (d : Nat) (E : zb_E) (x0 : Int) (x2 : Int) (Q : Int → zb_M → Prop) (m65j : zb_M) : Prop :=
  zb_T K_X12_start d [(2, x0), (0, 14)] E m65j (fun r68 m68 => zb_T K_X12_splitIn d [(2, x0), (0, 14)] E m68 (fun r74 m74 => PL_X12_sumUp_79 d E x2 Q (PJ_X12_sumUp_95 d E x0 x2 Q) 0 m74))
def PJ_X12_sumUp_49 (d : Nat) (E : zb_E) (x0 : Int) (x1 : Int) (v3_2 : Int) (X2 : Int → zb_M → Prop) (Q : Int → zb_M → Prop) (v4_49 : Int) (m49j : zb_M) : Prop :=
  (0 ≤ v3_2 ∧ v3_2 < 12) ∧ ((0 ≤ v4_49 ∧ v4_49 < (zb_len E.1 x1)) ∧ (∀ m58, m58 = zb_up m49j x1 v4_49 (m49j (E.2 x0 17) v3_2) → ((zb_inI (v3_2 + 1)) ∧ (X2 (v3_2 + 1) m58))))
def PL_X12_sumUp_13 (d : Nat) (E : zb_E) (x0 : Int) (x1 : Int) (v3_2 : Int) (Q : Int → zb_M → Prop) (K49_13 : Int → zb_M → Prop) (v4_13 : Int) (m13l : zb_M) : Prop :=
  ∀ X13 : Int → zb_M → Prop, (∀ (v4_13 : Int) (m13l : zb_M), ((v4_13 ≤ 0 → K49_13 v4_13 m13l) ∧ (¬ v4_13 ≤ 0 → (zb_inI (v4_13 - 1)) ∧ ((0 ≤ (v4_13 - 1) ∧ (v4_13 - 1) < (zb_len E.1 x1)) ∧ ((0 ≤ v3_2 ∧ v3_2 < 12) ∧ (((m13l x1 (v4_13 - 1)) ≤ (m13l (E.2 x0 17) v3_2) → K49_13 v4_13 m13l) ∧ (¬ (m13l x1 (v4_13 - 1)) ≤ (m13l (E.2 x0 17) v3_2) → (0 ≤ v4_13 ∧ v4_13 < (zb_len E.1 x1)) ∧ (∀ m42, m42 = zb_up m13l x1 v4_13 (m13l x1 (v4_13 - 1)) → ((zb_inI (v4_13 + (-1))) ∧ (X13 (v4_13 + (-1)) m42))))))))) → X13 v4_13 m13l) → X13 v4_13 m13l
def PL_X12_sumUp_2 (d : Nat) (E : zb_E) (x0 : Int) (x1 : Int) (Q : Int → zb_M → Prop) (K65_2 : zb_M → Prop) (v3_2 : Int) (m2l : zb_M) : Prop :=
  ∀ X2 : Int → zb_M → Prop, (∀ (v3_2 : Int) (m2l : zb_M), (((m2l x0 15) ≤ v3_2 → K65_2 m2l) ∧ (¬ (m2l x0 15) ≤ v3_2 → PL_X12_sumUp_13 d E x0 x1 v3_2 Q (PJ_X12_sumUp_49 d E x0 x1 v3_2 X2 Q) v3_2 m2l)) → X2 v3_2 m2l) → X2 v3_2 m2l
def PM_X12_sumUp (d : Nat) (E : zb_E) (x0 : Int) (x1 : Int) (x2 : Int) (m : zb_M) (Q : Int → zb_M → Prop) : Prop :=
  PL_X12_sumUp_2 d E x0 x1 Q (PJ_X12_sumUp_65 d E x0 x2 Q) 0 m
set_option maxRecDepth 100000 in
set_option maxHeartbeats 4000000 in
theorem w_X12_sumUp {d : Nat} {E : zb_E} {x0 x1 x2 : Int} {m : zb_M} {Q : Int → zb_M → Prop} (h : PM_X12_sumUp d E x0 x1 x2 m Q) : zb_T K_X12_sumUp (d + 1) [(2, x0), (2, x1), (2, x2)] E m Q := by
  unfold PM_X12_sumUp at h
  refine zb_T_in gd_X12_sumUp rfl rfl (fun hW hA G C hF => ?_)
  have i_0 : zb_is E.1 x0 12 := zb_aH hA (by decide)
  have i_1 : zb_is E.1 x1 13 := zb_aH (zb_aT hA) (by decide)
  have i_2 : zb_is E.1 x2 13 := zb_aH (zb_aT (zb_aT hA)) (by decide)
  show zb_WP _ _ 0 [(0, (2, x0)), (1, (2, x1)), (2, (2, x2))] [] _ _ _ _
  refine zb_iconst dX12_sumUp_0 (zb_inIc rfl) ?_
  refine zb_istore_n (L' := [(3, (0, 0)), (0, (2, x0)), (1, (2, x1)), (2, (2, x2))]) dX12_sumUp_1 rfl (by decide) rfl ?_
  refine zb_sub (L' := [(0, (2, x0)), (1, (2, x1)), (2, (2, x2)), (3, (0, 0))]) [1, 2, 3, 0] rfl ?_
  have hJ65 : ∀ (m65j : zb_M), zb_FIN E m65j → PJ_X12_sumUp_65 d E x0 x2 Q m65j → zb_WP (G, C, d + 1, 0, 0, zb_q E Q) F_X12_sumUp 65 [(0, (2, x0)), (2, (2, x2))] [] E.1 m65j 0 0 := by
    intro m65j hF h
    unfold PJ_X12_sumUp_65 at h
    refine zb_aload_n (j := 0) dX12_sumUp_65 rfl rfl ?_
    refine zb_bipush dX12_sumUp_66 (by decide) (zb_inIc rfl) ?_
    refine zb_cV (As := [(0, 14)]) (As' := [(0, 14)]) (st := []) dX12_sumUp_68 lk_X12_197 gd_X12_start rfl rfl i_0 ⟨_, rfl, rfl⟩ h hW hF (zb_aR i_0 (zb_aI zb_a0)) (Nat.le_refl _) (Nat.le_of_ble_eq_true rfl) (fun r68 m68 hF h => ?_)
    show zb_WP _ _ _ _ [] _ _ _ _
    refine zb_aload_n (j := 0) dX12_sumUp_71 rfl rfl ?_
    refine zb_bipush dX12_sumUp_72 (by decide) (zb_inIc rfl) ?_
    refine zb_cV (As := [(0, 14)]) (As' := [(0, 14)]) (st := []) dX12_sumUp_74 lk_X12_191 gd_X12_splitIn rfl rfl i_0 ⟨_, rfl, rfl⟩ h hW hF (zb_aR i_0 (zb_aI zb_a0)) (Nat.le_refl _) (Nat.le_of_ble_eq_true rfl) (fun r74 m74 hF h => ?_)
    show zb_WP _ _ _ _ [] _ _ _ _
    refine zb_iconst dX12_sumUp_77 (zb_inIc rfl) ?_
    refine zb_istore_n (L' := [(3, (0, 0)), (0, (2, x0)), (2, (2, x2))]) dX12_sumUp_78 rfl (by decide) rfl ?_
    refine zb_sub (L' := [(0, (2, x0)), (2, (2, x2)), (3, (0, 0))]) [1, 2, 0] rfl ?_
    have hJ95 : ∀ (m95j : zb_M), zb_FIN E m95j → PJ_X12_sumUp_95 d E x0 x2 Q m95j → zb_WP (G, C, d + 1, 0, 0, zb_q E Q) F_X12_sumUp 95 [(0, (2, x0)), (2, (2, x2))] [] E.1 m95j 0 0 := by
      intro m95j hF h
      unfold PJ_X12_sumUp_95 at h
      refine zb_iconst dX12_sumUp_95 (zb_inIc rfl) ?_
      refine zb_istore_n (L' := [(3, (0, 0)), (0, (2, x0)), (2, (2, x2))]) dX12_sumUp_96 rfl (by decide) rfl ?_
      refine zb_sub (L' := [(0, (2, x0)), (2, (2, x2)), (3, (0, 0))]) [1, 2, 0] rfl ?_
      unfold PL_X12_sumUp_97 at h
      obtain ⟨X97, hX97⟩ : ∃ X : Int → zb_M → Prop, ∀ (v3_97 : Int) (m97l : zb_M), (X v3_97 m97l ↔ (zb_FIN E m97l → zb_WP (G, C, d + 1, 0, 0, zb_q E Q) F_X12_sumUp 97 [(0, (2, x0)), (2, (2, x2)), (3, (0, v3_97))] [] E.1 m97l 0 0)) := ⟨fun v3_97 m97l => zb_FIN E m97l → zb_WP (G, C, d + 1, 0, 0, zb_q E Q) F_X12_sumUp 97 [(0, (2, x0)), (2, (2, x2)), (3, (0, v3_97))] [] E.1 m97l 0 0, fun _ _ => Iff.rfl⟩
      refine (hX97 _ _).mp (h X97 (fun v3_97 m97l h => (hX97 _ _).mpr (fun hF => ?_))) hF
      refine zb_iload_n (j := 2) dX12_sumUp_97 rfl rfl ?_
      refine zb_aload_n (j := 0) dX12_sumUp_98 rfl rfl ?_
      refine zb_gI 15 dX12_sumUp_99 fl_X12_175 i_0 rfl rfl ?_
      refine zb_icmp_ge (tgt := 127) dX12_sumUp_102 (by decide) (fun c1 => ?_) (fun c1 => ?_)
      · have h := h.1 c1
        exact zb_rV dX12_sumUp_127 rfl hF h
      · have h := h.2 c1
        refine zb_aload_n (j := 1) dX12_sumUp_105 rfl rfl ?_
        refine zb_aload_n (j := 0) dX12_sumUp_106 rfl rfl ?_
        refine zb_gFa 19 dX12_sumUp_107 fl_X12_61 i_0 hW hF rfl rfl rfl (by decide) rfl 180 rfl (fun i2 l3 => ?_)
        refine zb_sipush dX12_sumUp_110 (by decide) (zb_inIc rfl) ?_
        refine zb_iload_n (j := 2) dX12_sumUp_113 rfl rfl ?_
        obtain ⟨o4, h⟩ := h
        refine zb_iadd dX12_sumUp_114 o4 ?_
        obtain ⟨o5, h⟩ := h
        refine zb_lI dX12_sumUp_115 i2 l3 o5.1 o5.2 ?_
        refine zb_dup2 dX12_sumUp_116 ?_
        obtain ⟨o6, h⟩ := h
        refine zb_lI dX12_sumUp_117 i_2 rfl o6.1 o6.2 ?_
        refine zb_iconst dX12_sumUp_118 (zb_inIc rfl) ?_
        obtain ⟨o7, h⟩ := h
        refine zb_iadd dX12_sumUp_119 o7 ?_
        refine zb_sI dX12_sumUp_120 i_2 rfl o6.1 o6.2 hF (fun m120 e120 hF => ?_)
        have h := h m120 e120
        obtain ⟨o8, h⟩ := h
        refine zb_iinc (j := 2) (L' := [(3, (0, (v3_97 + 1))), (0, (2, x0)), (2, (2, x2))]) dX12_sumUp_121 rfl o8 (by decide) rfl ?_
        refine zb_goto (tgt := 97) dX12_sumUp_124 (by decide) ?_
        refine zb_sub (L' := [(0, (2, x0)), (2, (2, x2)), (3, (0, (v3_97 + 1)))]) [1, 2, 0] rfl ?_
        exact (hX97 _ _).mp h hF
    unfold PL_X12_sumUp_79 at h
    obtain ⟨X79, hX79⟩ : ∃ X : Int → zb_M → Prop, ∀ (v3_79 : Int) (m79l : zb_M), (X v3_79 m79l ↔ (zb_FIN E m79l → zb_WP (G, C, d + 1, 0, 0, zb_q E Q) F_X12_sumUp 79 [(0, (2, x0)), (2, (2, x2)), (3, (0, v3_79))] [] E.1 m79l 0 0)) := ⟨fun v3_79 m79l => zb_FIN E m79l → zb_WP (G, C, d + 1, 0, 0, zb_q E Q) F_X12_sumUp 79 [(0, (2, x0)), (2, (2, x2)), (3, (0, v3_79))] [] E.1 m79l 0 0, fun _ _ => Iff.rfl⟩
    refine (hX79 _ _).mp (h X79 (fun v3_79 m79l h => (hX79 _ _).mpr (fun hF => ?_))) hF
    refine zb_iload_n (j := 2) dX12_sumUp_79 rfl rfl ?_
    refine zb_bipush dX12_sumUp_80 (by decide) (zb_inIc rfl) ?_
    refine zb_icmp_ge (tgt := 95) dX12_sumUp_82 (by decide) (fun c9 => ?_) (fun c9 => ?_)
    · have h := h.1 c9
      refine zb_sub (L' := [(0, (2, x0)), (2, (2, x2))]) [0, 1] rfl ?_
      exact hJ95 _ hF h
    · have h := h.2 c9
      refine zb_aload_n (j := 1) dX12_sumUp_85 rfl rfl ?_
      refine zb_iload_n (j := 2) dX12_sumUp_86 rfl rfl ?_
      refine zb_iconst dX12_sumUp_87 (zb_inIc rfl) ?_
      obtain ⟨o10, h⟩ := h
      refine zb_sI dX12_sumUp_88 i_2 rfl o10.1 o10.2 hF (fun m88 e88 hF => ?_)
      have h := h m88 e88
      obtain ⟨o11, h⟩ := h
      refine zb_iinc (j := 2) (L' := [(3, (0, (v3_79 + 1))), (0, (2, x0)), (2, (2, x2))]) dX12_sumUp_89 rfl o11 (by decide) rfl ?_
      refine zb_goto (tgt := 79) dX12_sumUp_92 (by decide) ?_
      refine zb_sub (L' := [(0, (2, x0)), (2, (2, x2)), (3, (0, (v3_79 + 1)))]) [1, 2, 0] rfl ?_
      exact (hX79 _ _).mp h hF
  unfold PL_X12_sumUp_2 at h
  obtain ⟨X2, hX2⟩ : ∃ X : Int → zb_M → Prop, ∀ (v3_2 : Int) (m2l : zb_M), (X v3_2 m2l ↔ (zb_FIN E m2l → zb_WP (G, C, d + 1, 0, 0, zb_q E Q) F_X12_sumUp 2 [(0, (2, x0)), (1, (2, x1)), (2, (2, x2)), (3, (0, v3_2))] [] E.1 m2l 0 0)) := ⟨fun v3_2 m2l => zb_FIN E m2l → zb_WP (G, C, d + 1, 0, 0, zb_q E Q) F_X12_sumUp 2 [(0, (2, x0)), (1, (2, x1)), (2, (2, x2)), (3, (0, v3_2))] [] E.1 m2l 0 0, fun _ _ => Iff.rfl⟩
  refine (hX2 _ _).mp (h X2 (fun v3_2 m2l h => (hX2 _ _).mpr (fun hF => ?_))) hF
  refine zb_iload_n (j := 3) dX12_sumUp_2 rfl rfl ?_
  refine zb_aload_n (j := 0) dX12_sumUp_3 rfl rfl ?_
  refine zb_gI 15 dX12_sumUp_4 fl_X12_175 i_0 rfl rfl ?_
  refine zb_icmp_ge (tgt := 65) dX12_sumUp_7 (by decide) (fun c12 => ?_) (fun c12 => ?_)
  · have h := h.1 c12
    refine zb_sub (L' := [(0, (2, x0)), (2, (2, x2))]) [0, 2] rfl ?_
    exact hJ65 _ hF h
  · have h := h.2 c12
    refine zb_iload_n (j := 3) dX12_sumUp_10 rfl rfl ?_
    refine zb_istore (L' := [(4, (0, v3_2)), (0, (2, x0)), (1, (2, x1)), (2, (2, x2)), (3, (0, v3_2))]) dX12_sumUp_11 (by decide) rfl ?_
    refine zb_sub (L' := [(0, (2, x0)), (1, (2, x1)), (2, (2, x2)), (3, (0, v3_2)), (4, (0, v3_2))]) [1, 2, 3, 4, 0] rfl ?_
    have hJ49 : ∀ (v4_49 : Int) (m49j : zb_M), zb_FIN E m49j → PJ_X12_sumUp_49 d E x0 x1 v3_2 X2 Q v4_49 m49j → zb_WP (G, C, d + 1, 0, 0, zb_q E Q) F_X12_sumUp 49 [(0, (2, x0)), (1, (2, x1)), (2, (2, x2)), (3, (0, v3_2)), (4, (0, v4_49))] [] E.1 m49j 0 0 := by
      intro v4_49 m49j hF h
      unfold PJ_X12_sumUp_49 at h
      refine zb_aload_n (j := 1) dX12_sumUp_49 rfl rfl ?_
      refine zb_iload (j := 4) dX12_sumUp_50 rfl ?_
      refine zb_aload_n (j := 0) dX12_sumUp_52 rfl rfl ?_
      refine zb_gFa 17 dX12_sumUp_53 fl_X12_55 i_0 hW hF rfl rfl rfl (by decide) rfl 12 rfl (fun i13 l14 => ?_)
      refine zb_iload_n (j := 3) dX12_sumUp_56 rfl rfl ?_
      obtain ⟨o15, h⟩ := h
      refine zb_lI dX12_sumUp_57 i13 l14 o15.1 o15.2 ?_
      obtain ⟨o16, h⟩ := h
      refine zb_sI dX12_sumUp_58 i_1 rfl o16.1 o16.2 hF (fun m58 e58 hF => ?_)
      have h := h m58 e58
      obtain ⟨o17, h⟩ := h
      refine zb_iinc (j := 3) (L' := [(3, (0, (v3_2 + 1))), (0, (2, x0)), (1, (2, x1)), (2, (2, x2)), (4, (0, v4_49))]) dX12_sumUp_59 rfl o17 (by decide) rfl ?_
      refine zb_goto (tgt := 2) dX12_sumUp_62 (by decide) ?_
      refine zb_sub (L' := [(0, (2, x0)), (1, (2, x1)), (2, (2, x2)), (3, (0, (v3_2 + 1)))]) [1, 2, 3, 0] rfl ?_
      exact (hX2 _ _).mp h hF
    unfold PL_X12_sumUp_13 at h
    obtain ⟨X13, hX13⟩ : ∃ X : Int → zb_M → Prop, ∀ (v4_13 : Int) (m13l : zb_M), (X v4_13 m13l ↔ (zb_FIN E m13l → zb_WP (G, C, d + 1, 0, 0, zb_q E Q) F_X12_sumUp 13 [(0, (2, x0)), (1, (2, x1)), (2, (2, x2)), (3, (0, v3_2)), (4, (0, v4_13))] [] E.1 m13l 0 0)) := ⟨fun v4_13 m13l => zb_FIN E m13l → zb_WP (G, C, d + 1, 0, 0, zb_q E Q) F_X12_sumUp 13 [(0, (2, x0)), (1, (2, x1)), (2, (2, x2)), (3, (0, v3_2)), (4, (0, v4_13))] [] E.1 m13l 0 0, fun _ _ => Iff.rfl⟩
    refine (hX13 _ _).mp (h X13 (fun v4_13 m13l h => (hX13 _ _).mpr (fun hF => ?_))) hF
    refine zb_iload (j := 4) dX12_sumUp_13 rfl ?_
    refine zb_if_le (tgt := 49) dX12_sumUp_15 (by decide) (fun c18 => ?_) (fun c18 => ?_)
    · have h := h.1 c18
      exact hJ49 _ _ hF h
    · have h := h.2 c18
      refine zb_aload_n (j := 1) dX12_sumUp_18 rfl rfl ?_
      refine zb_iload (j := 4) dX12_sumUp_19 rfl ?_
      refine zb_iconst dX12_sumUp_21 (zb_inIc rfl) ?_
      obtain ⟨o19, h⟩ := h
      refine zb_isub dX12_sumUp_22 o19 ?_
      obtain ⟨o20, h⟩ := h
      refine zb_lI dX12_sumUp_23 i_1 rfl o20.1 o20.2 ?_
      refine zb_aload_n (j := 0) dX12_sumUp_24 rfl rfl ?_
      refine zb_gFa 17 dX12_sumUp_25 fl_X12_55 i_0 hW hF rfl rfl rfl (by decide) rfl 12 rfl (fun i21 l22 => ?_)
      refine zb_iload_n (j := 3) dX12_sumUp_28 rfl rfl ?_
      obtain ⟨o23, h⟩ := h
      refine zb_lI dX12_sumUp_29 i21 l22 o23.1 o23.2 ?_
      refine zb_icmp_le (tgt := 49) dX12_sumUp_30 (by decide) (fun c24 => ?_) (fun c24 => ?_)
      · have h := h.1 c24
        exact hJ49 _ _ hF h
      · have h := h.2 c24
        refine zb_aload_n (j := 1) dX12_sumUp_33 rfl rfl ?_
        refine zb_iload (j := 4) dX12_sumUp_34 rfl ?_
        refine zb_aload_n (j := 1) dX12_sumUp_36 rfl rfl ?_
        refine zb_iload (j := 4) dX12_sumUp_37 rfl ?_
        refine zb_iconst dX12_sumUp_39 (zb_inIc rfl) ?_
        refine zb_isub dX12_sumUp_40 o19 ?_
        refine zb_lI dX12_sumUp_41 i_1 rfl o20.1 o20.2 ?_
        obtain ⟨o25, h⟩ := h
        refine zb_sI dX12_sumUp_42 i_1 rfl o25.1 o25.2 hF (fun m42 e42 hF => ?_)
        have h := h m42 e42
        obtain ⟨o26, h⟩ := h
        refine zb_iinc (j := 4) (L' := [(4, (0, (v4_13 + (-1)))), (0, (2, x0)), (1, (2, x1)), (2, (2, x2)), (3, (0, v3_2))]) dX12_sumUp_43 rfl o26 (by decide) rfl ?_
        refine zb_goto (tgt := 13) dX12_sumUp_46 (by decide) ?_
        refine zb_sub (L' := [(0, (2, x0)), (1, (2, x1)), (2, (2, x2)), (3, (0, v3_2)), (4, (0, (v4_13 + (-1))))]) [1, 2, 3, 4, 0] rfl ?_
        exact (hX13 _ _).mp h hF
theorem dX12_unlike_0 : decode cX12_unlike 0 = .ok (.aload_n 0, 1) := by decide +kernel
theorem dX12_unlike_1 : decode cX12_unlike 1 = .ok (.iload_n 1, 1) := by decide +kernel
theorem dX12_unlike_2 : decode cX12_unlike 2 = .ok (.invokevirtual 137, 3) := by decide +kernel
theorem dX12_unlike_5 : decode cX12_unlike 5 = .ok (.ifCond .eq 11, 3) := by decide +kernel
theorem dX12_unlike_8 : decode cX12_unlike 8 = .ok (.aload_n 0, 1) := by decide +kernel
theorem dX12_unlike_9 : decode cX12_unlike 9 = .ok (.iload_n 2, 1) := by decide +kernel
theorem dX12_unlike_10 : decode cX12_unlike 10 = .ok (.invokevirtual 137, 3) := by decide +kernel
theorem dX12_unlike_13 : decode cX12_unlike 13 = .ok (.ifCond .ne 5, 3) := by decide +kernel
theorem dX12_unlike_16 : decode cX12_unlike 16 = .ok (.iconst (-1), 1) := by decide +kernel
theorem dX12_unlike_17 : decode cX12_unlike 17 = .ok (.ireturn, 1) := by decide +kernel
theorem dX12_unlike_18 : decode cX12_unlike 18 = .ok (.aload_n 0, 1) := by decide +kernel
theorem dX12_unlike_19 : decode cX12_unlike 19 = .ok (.iload_n 1, 1) := by decide +kernel
theorem dX12_unlike_20 : decode cX12_unlike 20 = .ok (.invokevirtual 172, 3) := by decide +kernel
theorem dX12_unlike_23 : decode cX12_unlike 23 = .ok (.ifCond .eq 11, 3) := by decide +kernel
theorem dX12_unlike_26 : decode cX12_unlike 26 = .ok (.aload_n 0, 1) := by decide +kernel
theorem dX12_unlike_27 : decode cX12_unlike 27 = .ok (.iload_n 2, 1) := by decide +kernel
theorem dX12_unlike_28 : decode cX12_unlike 28 = .ok (.invokevirtual 172, 3) := by decide +kernel
theorem dX12_unlike_31 : decode cX12_unlike 31 = .ok (.ifCond .ne 6, 3) := by decide +kernel
theorem dX12_unlike_34 : decode cX12_unlike 34 = .ok (.bipush (-2), 2) := by decide +kernel
theorem dX12_unlike_36 : decode cX12_unlike 36 = .ok (.ireturn, 1) := by decide +kernel
theorem dX12_unlike_37 : decode cX12_unlike 37 = .ok (.aload_n 0, 1) := by decide +kernel
theorem dX12_unlike_38 : decode cX12_unlike 38 = .ok (.iload_n 1, 1) := by decide +kernel
theorem dX12_unlike_39 : decode cX12_unlike 39 = .ok (.invokevirtual 168, 3) := by decide +kernel
theorem dX12_unlike_42 : decode cX12_unlike 42 = .ok (.istore_n 3, 1) := by decide +kernel
theorem dX12_unlike_43 : decode cX12_unlike 43 = .ok (.aload_n 0, 1) := by decide +kernel
theorem dX12_unlike_44 : decode cX12_unlike 44 = .ok (.iload_n 2, 1) := by decide +kernel
theorem dX12_unlike_45 : decode cX12_unlike 45 = .ok (.invokevirtual 168, 3) := by decide +kernel
theorem dX12_unlike_48 : decode cX12_unlike 48 = .ok (.istore 4, 2) := by decide +kernel
theorem dX12_unlike_50 : decode cX12_unlike 50 = .ok (.iload_n 3, 1) := by decide +kernel
theorem dX12_unlike_51 : decode cX12_unlike 51 = .ok (.iload 4, 2) := by decide +kernel
theorem dX12_unlike_53 : decode cX12_unlike 53 = .ok (.if_icmp .eq 13, 3) := by decide +kernel
theorem dX12_unlike_56 : decode cX12_unlike 56 = .ok (.aload_n 0, 1) := by decide +kernel
theorem dX12_unlike_57 : decode cX12_unlike 57 = .ok (.iconst 1, 1) := by decide +kernel
theorem dX12_unlike_58 : decode cX12_unlike 58 = .ok (.iconst 0, 1) := by decide +kernel
theorem dX12_unlike_59 : decode cX12_unlike 59 = .ok (.iload_n 3, 1) := by decide +kernel
theorem dX12_unlike_60 : decode cX12_unlike 60 = .ok (.iload 4, 2) := by decide +kernel
theorem dX12_unlike_62 : decode cX12_unlike 62 = .ok (.invokevirtual 262, 3) := by decide +kernel
theorem dX12_unlike_65 : decode cX12_unlike 65 = .ok (.ireturn, 1) := by decide +kernel
theorem dX12_unlike_66 : decode cX12_unlike 66 = .ok (.aload_n 0, 1) := by decide +kernel
theorem dX12_unlike_67 : decode cX12_unlike 67 = .ok (.iload_n 1, 1) := by decide +kernel
theorem dX12_unlike_68 : decode cX12_unlike 68 = .ok (.invokevirtual 194, 3) := by decide +kernel
theorem dX12_unlike_71 : decode cX12_unlike 71 = .ok (.aload_n 0, 1) := by decide +kernel
theorem dX12_unlike_72 : decode cX12_unlike 72 = .ok (.aload_n 0, 1) := by decide +kernel
theorem dX12_unlike_73 : decode cX12_unlike 73 = .ok (.getfield 112, 3) := by decide +kernel
theorem dX12_unlike_76 : decode cX12_unlike 76 = .ok (.aload_n 0, 1) := by decide +kernel
theorem dX12_unlike_77 : decode cX12_unlike 77 = .ok (.getfield 115, 3) := by decide +kernel
theorem dX12_unlike_80 : decode cX12_unlike 80 = .ok (.invokevirtual 266, 3) := by decide +kernel
theorem dX12_unlike_83 : decode cX12_unlike 83 = .ok (.aload_n 0, 1) := by decide +kernel
theorem dX12_unlike_84 : decode cX12_unlike 84 = .ok (.iload_n 2, 1) := by decide +kernel
theorem dX12_unlike_85 : decode cX12_unlike 85 = .ok (.invokevirtual 194, 3) := by decide +kernel
theorem dX12_unlike_88 : decode cX12_unlike 88 = .ok (.aload_n 0, 1) := by decide +kernel
theorem dX12_unlike_89 : decode cX12_unlike 89 = .ok (.aload_n 0, 1) := by decide +kernel
theorem dX12_unlike_90 : decode cX12_unlike 90 = .ok (.getfield 118, 3) := by decide +kernel
theorem dX12_unlike_93 : decode cX12_unlike 93 = .ok (.aload_n 0, 1) := by decide +kernel
theorem dX12_unlike_94 : decode cX12_unlike 94 = .ok (.getfield 121, 3) := by decide +kernel
theorem dX12_unlike_97 : decode cX12_unlike 97 = .ok (.invokevirtual 266, 3) := by decide +kernel
theorem dX12_unlike_100 : decode cX12_unlike 100 = .ok (.iconst 0, 1) := by decide +kernel
theorem dX12_unlike_101 : decode cX12_unlike 101 = .ok (.istore 5, 2) := by decide +kernel
theorem dX12_unlike_103 : decode cX12_unlike 103 = .ok (.iload 5, 2) := by decide +kernel
theorem dX12_unlike_105 : decode cX12_unlike 105 = .ok (.aload_n 0, 1) := by decide +kernel
theorem dX12_unlike_106 : decode cX12_unlike 106 = .ok (.getfield 175, 3) := by decide +kernel
theorem dX12_unlike_109 : decode cX12_unlike 109 = .ok (.if_icmp .ge 48, 3) := by decide +kernel
theorem dX12_unlike_112 : decode cX12_unlike 112 = .ok (.aload_n 0, 1) := by decide +kernel
theorem dX12_unlike_113 : decode cX12_unlike 113 = .ok (.getfield 112, 3) := by decide +kernel
theorem dX12_unlike_116 : decode cX12_unlike 116 = .ok (.iload 5, 2) := by decide +kernel
theorem dX12_unlike_118 : decode cX12_unlike 118 = .ok (.iaload, 1) := by decide +kernel
theorem dX12_unlike_119 : decode cX12_unlike 119 = .ok (.aload_n 0, 1) := by decide +kernel
theorem dX12_unlike_120 : decode cX12_unlike 120 = .ok (.getfield 118, 3) := by decide +kernel
theorem dX12_unlike_123 : decode cX12_unlike 123 = .ok (.iload 5, 2) := by decide +kernel
theorem dX12_unlike_125 : decode cX12_unlike 125 = .ok (.iaload, 1) := by decide +kernel
theorem dX12_unlike_126 : decode cX12_unlike 126 = .ok (.if_icmp .eq 25, 3) := by decide +kernel
theorem dX12_unlike_129 : decode cX12_unlike 129 = .ok (.aload_n 0, 1) := by decide +kernel
theorem dX12_unlike_130 : decode cX12_unlike 130 = .ok (.iconst 2, 1) := by decide +kernel
theorem dX12_unlike_131 : decode cX12_unlike 131 = .ok (.iload 5, 2) := by decide +kernel
theorem dX12_unlike_133 : decode cX12_unlike 133 = .ok (.aload_n 0, 1) := by decide +kernel
theorem dX12_unlike_134 : decode cX12_unlike 134 = .ok (.getfield 112, 3) := by decide +kernel
theorem dX12_unlike_137 : decode cX12_unlike 137 = .ok (.iload 5, 2) := by decide +kernel
theorem dX12_unlike_139 : decode cX12_unlike 139 = .ok (.iaload, 1) := by decide +kernel
theorem dX12_unlike_140 : decode cX12_unlike 140 = .ok (.aload_n 0, 1) := by decide +kernel
theorem dX12_unlike_141 : decode cX12_unlike 141 = .ok (.getfield 118, 3) := by decide +kernel
theorem dX12_unlike_144 : decode cX12_unlike 144 = .ok (.iload 5, 2) := by decide +kernel
theorem dX12_unlike_146 : decode cX12_unlike 146 = .ok (.iaload, 1) := by decide +kernel
theorem dX12_unlike_147 : decode cX12_unlike 147 = .ok (.invokevirtual 262, 3) := by decide +kernel
theorem dX12_unlike_150 : decode cX12_unlike 150 = .ok (.ireturn, 1) := by decide +kernel
theorem dX12_unlike_151 : decode cX12_unlike 151 = .ok (.iinc 5 1, 3) := by decide +kernel
theorem dX12_unlike_154 : decode cX12_unlike 154 = .ok (.goto (-51), 3) := by decide +kernel
theorem dX12_unlike_157 : decode cX12_unlike 157 = .ok (.iconst 0, 1) := by decide +kernel
theorem dX12_unlike_158 : decode cX12_unlike 158 = .ok (.istore 5, 2) := by decide +kernel
theorem dX12_unlike_160 : decode cX12_unlike 160 = .ok (.iload 5, 2) := by decide +kernel
theorem dX12_unlike_162 : decode cX12_unlike 162 = .ok (.bipush 13, 2) := by decide +kernel
theorem dX12_unlike_164 : decode cX12_unlike 164 = .ok (.if_icmp .ge 48, 3) := by decide +kernel
theorem dX12_unlike_167 : decode cX12_unlike 167 = .ok (.aload_n 0, 1) := by decide +kernel
theorem dX12_unlike_168 : decode cX12_unlike 168 = .ok (.getfield 115, 3) := by decide +kernel
theorem dX12_unlike_171 : decode cX12_unlike 171 = .ok (.iload 5, 2) := by decide +kernel
theorem dX12_unlike_173 : decode cX12_unlike 173 = .ok (.iaload, 1) := by decide +kernel
theorem dX12_unlike_174 : decode cX12_unlike 174 = .ok (.aload_n 0, 1) := by decide +kernel
theorem dX12_unlike_175 : decode cX12_unlike 175 = .ok (.getfield 121, 3) := by decide +kernel
theorem dX12_unlike_178 : decode cX12_unlike 178 = .ok (.iload 5, 2) := by decide +kernel
theorem dX12_unlike_180 : decode cX12_unlike 180 = .ok (.iaload, 1) := by decide +kernel
theorem dX12_unlike_181 : decode cX12_unlike 181 = .ok (.if_icmp .eq 25, 3) := by decide +kernel
theorem dX12_unlike_184 : decode cX12_unlike 184 = .ok (.aload_n 0, 1) := by decide +kernel
theorem dX12_unlike_185 : decode cX12_unlike 185 = .ok (.iconst 3, 1) := by decide +kernel
theorem dX12_unlike_186 : decode cX12_unlike 186 = .ok (.iload 5, 2) := by decide +kernel
theorem dX12_unlike_188 : decode cX12_unlike 188 = .ok (.aload_n 0, 1) := by decide +kernel
theorem dX12_unlike_189 : decode cX12_unlike 189 = .ok (.getfield 115, 3) := by decide +kernel
theorem dX12_unlike_192 : decode cX12_unlike 192 = .ok (.iload 5, 2) := by decide +kernel
theorem dX12_unlike_194 : decode cX12_unlike 194 = .ok (.iaload, 1) := by decide +kernel
theorem dX12_unlike_195 : decode cX12_unlike 195 = .ok (.aload_n 0, 1) := by decide +kernel
theorem dX12_unlike_196 : decode cX12_unlike 196 = .ok (.getfield 121, 3) := by decide +kernel
theorem dX12_unlike_199 : decode cX12_unlike 199 = .ok (.iload 5, 2) := by decide +kernel
theorem dX12_unlike_201 : decode cX12_unlike 201 = .ok (.iaload, 1) := by decide +kernel
theorem dX12_unlike_202 : decode cX12_unlike 202 = .ok (.invokevirtual 262, 3) := by decide +kernel
theorem dX12_unlike_205 : decode cX12_unlike 205 = .ok (.ireturn, 1) := by decide +kernel
theorem dX12_unlike_206 : decode cX12_unlike 206 = .ok (.iinc 5 1, 3) := by decide +kernel
theorem dX12_unlike_209 : decode cX12_unlike 209 = .ok (.goto (-49), 3) := by decide +kernel
theorem dX12_unlike_212 : decode cX12_unlike 212 = .ok (.aload_n 0, 1) := by decide +kernel
theorem dX12_unlike_213 : decode cX12_unlike 213 = .ok (.iload_n 1, 1) := by decide +kernel
theorem dX12_unlike_214 : decode cX12_unlike 214 = .ok (.iload_n 2, 1) := by decide +kernel
theorem dX12_unlike_215 : decode cX12_unlike 215 = .ok (.invokevirtual 250, 3) := by decide +kernel
theorem dX12_unlike_218 : decode cX12_unlike 218 = .ok (.ifCond .ne 6, 3) := by decide +kernel
theorem dX12_unlike_221 : decode cX12_unlike 221 = .ok (.bipush (-3), 2) := by decide +kernel
theorem dX12_unlike_223 : decode cX12_unlike 223 = .ok (.ireturn, 1) := by decide +kernel
theorem dX12_unlike_224 : decode cX12_unlike 224 = .ok (.aload_n 0, 1) := by decide +kernel
theorem dX12_unlike_225 : decode cX12_unlike 225 = .ok (.aload_n 0, 1) := by decide +kernel
theorem dX12_unlike_226 : decode cX12_unlike 226 = .ok (.getfield 175, 3) := by decide +kernel
theorem dX12_unlike_229 : decode cX12_unlike 229 = .ok (.invokestatic 219, 3) := by decide +kernel
theorem dX12_unlike_232 : decode cX12_unlike 232 = .ok (.invokevirtual 253, 3) := by decide +kernel
theorem dX12_unlike_235 : decode cX12_unlike 235 = .ok (.istore 5, 2) := by decide +kernel
theorem dX12_unlike_237 : decode cX12_unlike 237 = .ok (.iload 5, 2) := by decide +kernel
theorem dX12_unlike_239 : decode cX12_unlike 239 = .ok (.ifCond .ge 7, 3) := by decide +kernel
theorem dX12_unlike_242 : decode cX12_unlike 242 = .ok (.iconst 0, 1) := by decide +kernel
theorem dX12_unlike_243 : decode cX12_unlike 243 = .ok (.goto 24, 3) := by decide +kernel
theorem dX12_unlike_246 : decode cX12_unlike 246 = .ok (.aload_n 0, 1) := by decide +kernel
theorem dX12_unlike_247 : decode cX12_unlike 247 = .ok (.iconst 4, 1) := by decide +kernel
theorem dX12_unlike_248 : decode cX12_unlike 248 = .ok (.iload 5, 2) := by decide +kernel
theorem dX12_unlike_250 : decode cX12_unlike 250 = .ok (.aload_n 0, 1) := by decide +kernel
theorem dX12_unlike_251 : decode cX12_unlike 251 = .ok (.getfield 100, 3) := by decide +kernel
theorem dX12_unlike_254 : decode cX12_unlike 254 = .ok (.iload 5, 2) := by decide +kernel
theorem dX12_unlike_256 : decode cX12_unlike 256 = .ok (.iaload, 1) := by decide +kernel
theorem dX12_unlike_257 : decode cX12_unlike 257 = .ok (.aload_n 0, 1) := by decide +kernel
theorem dX12_unlike_258 : decode cX12_unlike 258 = .ok (.getfield 82, 3) := by decide +kernel
theorem dX12_unlike_261 : decode cX12_unlike 261 = .ok (.iload 5, 2) := by decide +kernel
theorem dX12_unlike_263 : decode cX12_unlike 263 = .ok (.iaload, 1) := by decide +kernel
theorem dX12_unlike_264 : decode cX12_unlike 264 = .ok (.invokevirtual 262, 3) := by decide +kernel
theorem dX12_unlike_267 : decode cX12_unlike 267 = .ok (.ireturn, 1) := by decide +kernel
def PJ_X12_unlike_129 (d : Nat) (E : zb_E) (x0 : Int) (m97 : zb_M) (Q : Int → zb_M → Prop) (v5_129 : Int) : Prop :=
  (0 ≤ v5_129 ∧ v5_129 < 12) ∧ (zb_T K_X12_unlikeBy d [(2, x0), (0, 2), (0, v5_129), (0, (m97 (E.2 x0 44) v5_129)), (0, (m97 (E.2 x0 46) v5_129))] E m97 (fun r147 m147 => Q r147 m147))
def PJ_X12_unlike_184 (d : Nat) (E : zb_E) (x0 : Int) (m97 : zb_M) (Q : Int → zb_M → Prop) (v5_184 : Int) : Prop :=
  (0 ≤ v5_184 ∧ v5_184 < 13) ∧ (zb_T K_X12_unlikeBy d [(2, x0), (0, 3), (0, v5_184), (0, (m97 (E.2 x0 45) v5_184)), (0, (m97 (E.2 x0 47) v5_184))] E m97 (fun r202 m202 => Q r202 m202))
def PJ_X12_unlike_212 (d : Nat) (E : zb_E) (x0 : Int) (x1 : Int) (x2 : Int) (m97 : zb_M) (Q : Int → zb_M → Prop)  : Prop :=
  zb_T K_X12_growBoth d [(2, x0), (0, x1), (0, x2)] E m97 (fun r215 m215 => (r215 = 0 → Q (-3) m215) ∧ (¬ r215 = 0 → zb_Tp K_X12_sizeOf d [(0, (m215 x0 15))] E m215 (fun r229 => zb_Tp K_X12_differsAt d [(2, x0), (0, r229)] E m215 (fun r232 => (0 ≤ r232 → (0 ≤ r232 ∧ r232 < 160) ∧ (zb_T K_X12_unlikeBy d [(2, x0), (0, 4), (0, r232), (0, (m215 (E.2 x0 38) r232)), (0, (m215 (E.2 x0 30) r232))] E m215 (fun r264 m264 => Q r264 m264))) ∧ (¬ 0 ≤ r232 → Q 0 m215)))))
def PL_X12_unlike_160 (d : Nat) (E : zb_E) (x0 : Int) (m97 : zb_M) (Q : Int → zb_M → Prop) (K184_160 : Int → Prop) (K212_160 : Prop) (v5_160 : Int) : Prop :=
  ∀ X160 : Int → Prop, (∀ (v5_160 : Int), ((13 ≤ v5_160 → K212_160) ∧ (¬ 13 ≤ v5_160 → (0 ≤ v5_160 ∧ v5_160 < 13) ∧ (((m97 (E.2 x0 45) v5_160) = (m97 (E.2 x0 47) v5_160) → (zb_inI (v5_160 + 1)) ∧ (X160 (v5_160 + 1))) ∧ (¬ (m97 (E.2 x0 45) v5_160) = (m97 (E.2 x0 47) v5_160) → K184_160 v5_160)))) → X160 v5_160) → X160 v5_160
def PJ_X12_unlike_157 (d : Nat) (E : zb_E) (x0 : Int) (x1 : Int) (x2 : Int) (m97 : zb_M) (Q : Int → zb_M → Prop)  : Prop :=
  PL_X12_unlike_160 d E x0 m97 Q (PJ_X12_unlike_184 d E x0 m97 Q) (PJ_X12_unlike_212 d E x0 x1 x2 m97 Q) 0
def PL_X12_unlike_103 (d : Nat) (E : zb_E) (x0 : Int) (m97 : zb_M) (Q : Int → zb_M → Prop) (K129_103 : Int → Prop) (K157_103 : Prop) (v5_103 : Int) : Prop :=
  ∀ X103 : Int → Prop, (∀ (v5_103 : Int), (((m97 x0 15) ≤ v5_103 → K157_103) ∧ (¬ (m97 x0 15) ≤ v5_103 → (0 ≤ v5_103 ∧ v5_103 < 12) ∧ (((m97 (E.2 x0 44) v5_103) = (m97 (E.2 x0 46) v5_103) → (zb_inI (v5_103 + 1)) ∧ (X103 (v5_103 + 1))) ∧ (¬ (m97 (E.2 x0 44) v5_103) = (m97 (E.2 x0 46) v5_103) → K129_103 v5_103)))) → X103 v5_103) → X103 v5_103
def PM_X12_unlike (d : Nat) (E : zb_E) (x0 : Int) (x1 : Int) (x2 : Int) (m : zb_M) (Q : Int → zb_M → Prop) : Prop :=
  zb_Tp K_X12_isGraph d [(2, x0), (0, x1)] E m (fun r2 => (r2 = 0 → Q (-1) m) ∧ (¬ r2 = 0 → zb_Tp K_X12_isGraph d [(2, x0), (0, x2)] E m (fun r10 => (r10 = 0 → Q (-1) m) ∧ (¬ r10 = 0 → zb_Tp K_X12_isRight d [(2, x0), (0, x1)] E m (fun r20 => (r20 = 0 → Q (-2) m) ∧ (¬ r20 = 0 → zb_Tp K_X12_isRight d [(2, x0), (0, x2)] E m (fun r28 => (r28 = 0 → Q (-2) m) ∧ (¬ r28 = 0 → zb_Tp K_X12_shownOf d [(2, x0), (0, x1)] E m (fun r39 => zb_Tp K_X12_shownOf d [(2, x0), (0, x2)] E m (fun r45 => (r39 = r45 → zb_T K_X12_layOut d [(2, x0), (0, x1)] E m (fun r68 m68 => zb_T K_X12_sumUp d [(2, x0), (2, (E.2 x0 44)), (2, (E.2 x0 45))] E m68 (fun r80 m80 => zb_T K_X12_layOut d [(2, x0), (0, x2)] E m80 (fun r85 m85 => zb_T K_X12_sumUp d [(2, x0), (2, (E.2 x0 46)), (2, (E.2 x0 47))] E m85 (fun r97 m97 => PL_X12_unlike_103 d E x0 m97 Q (PJ_X12_unlike_129 d E x0 m97 Q) (PJ_X12_unlike_157 d E x0 x1 x2 m97 Q) 0))))) ∧ (¬ r39 = r45 → zb_T K_X12_unlikeBy d [(2, x0), (0, 1), (0, 0), (0, r39), (0, r45)] E m (fun r62 m62 => Q r62 m62))))))))))))
set_option maxRecDepth 100000 in
set_option maxHeartbeats 4000000 in
theorem w_X12_unlike {d : Nat} {E : zb_E} {x0 x1 x2 : Int} {m : zb_M} {Q : Int → zb_M → Prop} (h : PM_X12_unlike d E x0 x1 x2 m Q) : zb_T K_X12_unlike (d + 1) [(2, x0), (0, x1), (0, x2)] E m Q := by
  unfold PM_X12_unlike at h
  refine zb_T_in gd_X12_unlike rfl rfl (fun hW hA G C hF => ?_)
  have i_0 : zb_is E.1 x0 12 := zb_aH hA (by decide)
  show zb_WP _ _ 0 [(0, (2, x0)), (1, (0, x1)), (2, (0, x2))] [] _ _ _ _
  refine zb_aload_n (j := 0) dX12_unlike_0 rfl rfl ?_
  refine zb_iload_n (j := 1) dX12_unlike_1 rfl rfl ?_
  refine zb_cVp (As := [(0, x1)]) (As' := [(0, x1)]) (st := []) dX12_unlike_2 lk_X12_137 gd_X12_isGraph rfl rfl i_0 ⟨_, rfl, rfl⟩ h hW hF (zb_aR i_0 (zb_aI zb_a0)) (Nat.le_refl _) (Nat.le_of_ble_eq_true rfl) (fun r2 h => ?_)
  show zb_WP _ _ _ _ [(0, r2)] _ _ _ _
  refine zb_if_eq (tgt := 16) dX12_unlike_5 (by decide) (fun c1 => ?_) (fun c1 => ?_)
  · have h := h.1 c1
    refine zb_iconst dX12_unlike_16 (zb_inIc rfl) ?_
    exact zb_rI dX12_unlike_17 rfl hF h
  · have h := h.2 c1
    refine zb_aload_n (j := 0) dX12_unlike_8 rfl rfl ?_
    refine zb_iload_n (j := 2) dX12_unlike_9 rfl rfl ?_
    refine zb_cVp (As := [(0, x2)]) (As' := [(0, x2)]) (st := []) dX12_unlike_10 lk_X12_137 gd_X12_isGraph rfl rfl i_0 ⟨_, rfl, rfl⟩ h hW hF (zb_aR i_0 (zb_aI zb_a0)) (Nat.le_refl _) (Nat.le_of_ble_eq_true rfl) (fun r10 h => ?_)
    show zb_WP _ _ _ _ [(0, r10)] _ _ _ _
    refine zb_if_ne (tgt := 18) dX12_unlike_13 (by decide) (fun c2 => ?_) (fun c2 => ?_)
    · have h := h.2 c2
      refine zb_aload_n (j := 0) dX12_unlike_18 rfl rfl ?_
      refine zb_iload_n (j := 1) dX12_unlike_19 rfl rfl ?_
      refine zb_cVp (As := [(0, x1)]) (As' := [(0, x1)]) (st := []) dX12_unlike_20 lk_X12_172 gd_X12_isRight rfl rfl i_0 ⟨_, rfl, rfl⟩ h hW hF (zb_aR i_0 (zb_aI zb_a0)) (Nat.le_refl _) (Nat.le_of_ble_eq_true rfl) (fun r20 h => ?_)
      show zb_WP _ _ _ _ [(0, r20)] _ _ _ _
      refine zb_if_eq (tgt := 34) dX12_unlike_23 (by decide) (fun c3 => ?_) (fun c3 => ?_)
      · have h := h.1 c3
        refine zb_bipush dX12_unlike_34 (by decide) (zb_inIc rfl) ?_
        exact zb_rI dX12_unlike_36 rfl hF h
      · have h := h.2 c3
        refine zb_aload_n (j := 0) dX12_unlike_26 rfl rfl ?_
        refine zb_iload_n (j := 2) dX12_unlike_27 rfl rfl ?_
        refine zb_cVp (As := [(0, x2)]) (As' := [(0, x2)]) (st := []) dX12_unlike_28 lk_X12_172 gd_X12_isRight rfl rfl i_0 ⟨_, rfl, rfl⟩ h hW hF (zb_aR i_0 (zb_aI zb_a0)) (Nat.le_refl _) (Nat.le_of_ble_eq_true rfl) (fun r28 h => ?_)
        show zb_WP _ _ _ _ [(0, r28)] _ _ _ _
        refine zb_if_ne (tgt := 37) dX12_unlike_31 (by decide) (fun c4 => ?_) (fun c4 => ?_)
        · have h := h.2 c4
          refine zb_aload_n (j := 0) dX12_unlike_37 rfl rfl ?_
          refine zb_iload_n (j := 1) dX12_unlike_38 rfl rfl ?_
          refine zb_cVp (As := [(0, x1)]) (As' := [(0, x1)]) (st := []) dX12_unlike_39 lk_X12_168 gd_X12_shownOf rfl rfl i_0 ⟨_, rfl, rfl⟩ h hW hF (zb_aR i_0 (zb_aI zb_a0)) (Nat.le_refl _) (Nat.le_of_ble_eq_true rfl) (fun r39 h => ?_)
          show zb_WP _ _ _ _ [(0, r39)] _ _ _ _
          refine zb_istore_n (L' := [(3, (0, r39)), (0, (2, x0)), (1, (0, x1)), (2, (0, x2))]) dX12_unlike_42 rfl (by decide) rfl ?_
          refine zb_aload_n (j := 1) dX12_unlike_43 rfl rfl ?_
          refine zb_iload_n (j := 3) dX12_unlike_44 rfl rfl ?_
          refine zb_cVp (As := [(0, x2)]) (As' := [(0, x2)]) (st := []) dX12_unlike_45 lk_X12_168 gd_X12_shownOf rfl rfl i_0 ⟨_, rfl, rfl⟩ h hW hF (zb_aR i_0 (zb_aI zb_a0)) (Nat.le_refl _) (Nat.le_of_ble_eq_true rfl) (fun r45 h => ?_)
          show zb_WP _ _ _ _ [(0, r45)] _ _ _ _
          refine zb_istore (L' := [(4, (0, r45)), (3, (0, r39)), (0, (2, x0)), (1, (0, x1)), (2, (0, x2))]) dX12_unlike_48 (by decide) rfl ?_
          refine zb_iload_n (j := 1) dX12_unlike_50 rfl rfl ?_
          refine zb_iload (j := 0) dX12_unlike_51 rfl ?_
          refine zb_icmp_eq (tgt := 66) dX12_unlike_53 (by decide) (fun c5 => ?_) (fun c5 => ?_)
          · have h := h.1 c5
            refine zb_aload_n (j := 2) dX12_unlike_66 rfl rfl ?_
            refine zb_iload_n (j := 3) dX12_unlike_67 rfl rfl ?_
            refine zb_cV (As := [(0, x1)]) (As' := [(0, x1)]) (st := []) dX12_unlike_68 lk_X12_194 gd_X12_layOut rfl rfl i_0 ⟨_, rfl, rfl⟩ h hW hF (zb_aR i_0 (zb_aI zb_a0)) (Nat.le_refl _) (Nat.le_of_ble_eq_true rfl) (fun r68 m68 hF h => ?_)
            show zb_WP _ _ _ _ [] _ _ _ _
            refine zb_aload_n (j := 2) dX12_unlike_71 rfl rfl ?_
            refine zb_aload_n (j := 2) dX12_unlike_72 rfl rfl ?_
            refine zb_gFa 44 dX12_unlike_73 fl_X12_112 i_0 hW hF rfl rfl rfl (by decide) rfl 12 rfl (fun i6 l7 => ?_)
            refine zb_aload_n (j := 2) dX12_unlike_76 rfl rfl ?_
            refine zb_gFa 45 dX12_unlike_77 fl_X12_115 i_0 hW hF rfl rfl rfl (by decide) rfl 13 rfl (fun i8 l9 => ?_)
            refine zb_cV (As := [(2, (E.2 x0 44)), (2, (E.2 x0 45))]) (As' := [(2, (E.2 x0 45)), (2, (E.2 x0 44))]) (st := []) dX12_unlike_80 lk_X12_266 gd_X12_sumUp rfl rfl i_0 ⟨_, rfl, rfl⟩ h hW hF (zb_aR i_0 (zb_aR i6 (zb_aR i8 zb_a0))) (Nat.le_refl _) (Nat.le_of_ble_eq_true rfl) (fun r80 m80 hF h => ?_)
            show zb_WP _ _ _ _ [] _ _ _ _
            refine zb_aload_n (j := 2) dX12_unlike_83 rfl rfl ?_
            refine zb_iload_n (j := 4) dX12_unlike_84 rfl rfl ?_
            refine zb_cV (As := [(0, x2)]) (As' := [(0, x2)]) (st := []) dX12_unlike_85 lk_X12_194 gd_X12_layOut rfl rfl i_0 ⟨_, rfl, rfl⟩ h hW hF (zb_aR i_0 (zb_aI zb_a0)) (Nat.le_refl _) (Nat.le_of_ble_eq_true rfl) (fun r85 m85 hF h => ?_)
            show zb_WP _ _ _ _ [] _ _ _ _
            refine zb_aload_n (j := 2) dX12_unlike_88 rfl rfl ?_
            refine zb_aload_n (j := 2) dX12_unlike_89 rfl rfl ?_
            refine zb_gFa 46 dX12_unlike_90 fl_X12_118 i_0 hW hF rfl rfl rfl (by decide) rfl 12 rfl (fun i10 l11 => ?_)
            refine zb_aload_n (j := 2) dX12_unlike_93 rfl rfl ?_
            refine zb_gFa 47 dX12_unlike_94 fl_X12_121 i_0 hW hF rfl rfl rfl (by decide) rfl 13 rfl (fun i12 l13 => ?_)
            refine zb_cV (As := [(2, (E.2 x0 46)), (2, (E.2 x0 47))]) (As' := [(2, (E.2 x0 47)), (2, (E.2 x0 46))]) (st := []) dX12_unlike_97 lk_X12_266 gd_X12_sumUp rfl rfl i_0 ⟨_, rfl, rfl⟩ h hW hF (zb_aR i_0 (zb_aR i10 (zb_aR i12 zb_a0))) (Nat.le_refl _) (Nat.le_of_ble_eq_true rfl) (fun r97 m97 hF h => ?_)
            show zb_WP _ _ _ _ [] _ _ _ _
            refine zb_iconst dX12_unlike_100 (zb_inIc rfl) ?_
            refine zb_istore (L' := [(5, (0, 0)), (4, (0, r45)), (3, (0, r39)), (0, (2, x0)), (1, (0, x1)), (2, (0, x2))]) dX12_unlike_101 (by decide) rfl ?_
            refine zb_sub (L' := [(0, (2, x0)), (1, (0, x1)), (2, (0, x2)), (5, (0, 0))]) [3, 4, 5, 0] rfl ?_
            have hJ129 : ∀ (v5_129 : Int), zb_FIN E m97 → PJ_X12_unlike_129 d E x0 m97 Q v5_129 → zb_WP (G, C, d + 1, 0, 0, zb_q E Q) F_X12_unlike 129 [(0, (2, x0)), (5, (0, v5_129))] [] E.1 m97 0 0 := by
              intro v5_129 hF h
              unfold PJ_X12_unlike_129 at h
              refine zb_aload_n (j := 0) dX12_unlike_129 rfl rfl ?_
              refine zb_iconst dX12_unlike_130 (zb_inIc rfl) ?_
              refine zb_iload (j := 1) dX12_unlike_131 rfl ?_
              refine zb_aload_n (j := 0) dX12_unlike_133 rfl rfl ?_
              refine zb_gFa 44 dX12_unlike_134 fl_X12_112 i_0 hW hF rfl rfl rfl (by decide) rfl 12 rfl (fun i14 l15 => ?_)
              refine zb_iload (j := 1) dX12_unlike_137 rfl ?_
              obtain ⟨o16, h⟩ := h
              refine zb_lI dX12_unlike_139 i14 l15 o16.1 o16.2 ?_
              refine zb_aload_n (j := 0) dX12_unlike_140 rfl rfl ?_
              refine zb_gFa 46 dX12_unlike_141 fl_X12_118 i_0 hW hF rfl rfl rfl (by decide) rfl 12 rfl (fun i17 l18 => ?_)
              refine zb_iload (j := 1) dX12_unlike_144 rfl ?_
              refine zb_lI dX12_unlike_146 i17 l18 o16.1 o16.2 ?_
              refine zb_cV (As := [(0, 2), (0, v5_129), (0, (m97 (E.2 x0 44) v5_129)), (0, (m97 (E.2 x0 46) v5_129))]) (As' := [(0, (m97 (E.2 x0 46) v5_129)), (0, (m97 (E.2 x0 44) v5_129)), (0, v5_129), (0, 2)]) (st := []) dX12_unlike_147 lk_X12_262 gd_X12_unlikeBy rfl rfl i_0 ⟨_, rfl, rfl⟩ h hW hF (zb_aR i_0 (zb_aI (zb_aI (zb_aI (zb_aI zb_a0))))) (Nat.le_refl _) (Nat.le_of_ble_eq_true rfl) (fun r147 m147 hF h => ?_)
              show zb_WP _ _ _ _ [(0, r147)] _ _ _ _
              exact zb_rI dX12_unlike_150 rfl hF h
            have hJ157 : zb_FIN E m97 → PJ_X12_unlike_157 d E x0 x1 x2 m97 Q  → zb_WP (G, C, d + 1, 0, 0, zb_q E Q) F_X12_unlike 157 [(0, (2, x0)), (1, (0, x1)), (2, (0, x2))] [] E.1 m97 0 0 := by
              intro  hF h
              unfold PJ_X12_unlike_157 at h
              refine zb_iconst dX12_unlike_157 (zb_inIc rfl) ?_
              refine zb_istore (L' := [(5, (0, 0)), (0, (2, x0)), (1, (0, x1)), (2, (0, x2))]) dX12_unlike_158 (by decide) rfl ?_
              refine zb_sub (L' := [(0, (2, x0)), (1, (0, x1)), (2, (0, x2)), (5, (0, 0))]) [1, 2, 3, 0] rfl ?_
              have hJ184 : ∀ (v5_184 : Int), zb_FIN E m97 → PJ_X12_unlike_184 d E x0 m97 Q v5_184 → zb_WP (G, C, d + 1, 0, 0, zb_q E Q) F_X12_unlike 184 [(0, (2, x0)), (5, (0, v5_184))] [] E.1 m97 0 0 := by
                intro v5_184 hF h
                unfold PJ_X12_unlike_184 at h
                refine zb_aload_n (j := 0) dX12_unlike_184 rfl rfl ?_
                refine zb_iconst dX12_unlike_185 (zb_inIc rfl) ?_
                refine zb_iload (j := 1) dX12_unlike_186 rfl ?_
                refine zb_aload_n (j := 0) dX12_unlike_188 rfl rfl ?_
                refine zb_gFa 45 dX12_unlike_189 fl_X12_115 i_0 hW hF rfl rfl rfl (by decide) rfl 13 rfl (fun i19 l20 => ?_)
                refine zb_iload (j := 1) dX12_unlike_192 rfl ?_
                obtain ⟨o21, h⟩ := h
                refine zb_lI dX12_unlike_194 i19 l20 o21.1 o21.2 ?_
                refine zb_aload_n (j := 0) dX12_unlike_195 rfl rfl ?_
                refine zb_gFa 47 dX12_unlike_196 fl_X12_121 i_0 hW hF rfl rfl rfl (by decide) rfl 13 rfl (fun i22 l23 => ?_)
                refine zb_iload (j := 1) dX12_unlike_199 rfl ?_
                refine zb_lI dX12_unlike_201 i22 l23 o21.1 o21.2 ?_
                refine zb_cV (As := [(0, 3), (0, v5_184), (0, (m97 (E.2 x0 45) v5_184)), (0, (m97 (E.2 x0 47) v5_184))]) (As' := [(0, (m97 (E.2 x0 47) v5_184)), (0, (m97 (E.2 x0 45) v5_184)), (0, v5_184), (0, 3)]) (st := []) dX12_unlike_202 lk_X12_262 gd_X12_unlikeBy rfl rfl i_0 ⟨_, rfl, rfl⟩ h hW hF (zb_aR i_0 (zb_aI (zb_aI (zb_aI (zb_aI zb_a0))))) (Nat.le_refl _) (Nat.le_of_ble_eq_true rfl) (fun r202 m202 hF h => ?_)
                show zb_WP _ _ _ _ [(0, r202)] _ _ _ _
                exact zb_rI dX12_unlike_205 rfl hF h
              have hJ212 : zb_FIN E m97 → PJ_X12_unlike_212 d E x0 x1 x2 m97 Q  → zb_WP (G, C, d + 1, 0, 0, zb_q E Q) F_X12_unlike 212 [(0, (2, x0)), (1, (0, x1)), (2, (0, x2))] [] E.1 m97 0 0 := by
                intro  hF h
                unfold PJ_X12_unlike_212 at h
                refine zb_aload_n (j := 0) dX12_unlike_212 rfl rfl ?_
                refine zb_iload_n (j := 1) dX12_unlike_213 rfl rfl ?_
                refine zb_iload_n (j := 2) dX12_unlike_214 rfl rfl ?_
                refine zb_cV (As := [(0, x1), (0, x2)]) (As' := [(0, x2), (0, x1)]) (st := []) dX12_unlike_215 lk_X12_250 gd_X12_growBoth rfl rfl i_0 ⟨_, rfl, rfl⟩ h hW hF (zb_aR i_0 (zb_aI (zb_aI zb_a0))) (Nat.le_refl _) (Nat.le_of_ble_eq_true rfl) (fun r215 m215 hF h => ?_)
                show zb_WP _ _ _ _ [(0, r215)] _ _ _ _
                refine zb_if_ne (tgt := 224) dX12_unlike_218 (by decide) (fun c24 => ?_) (fun c24 => ?_)
                · have h := h.2 c24
                  refine zb_aload_n (j := 0) dX12_unlike_224 rfl rfl ?_
                  refine zb_aload_n (j := 0) dX12_unlike_225 rfl rfl ?_
                  refine zb_gI 15 dX12_unlike_226 fl_X12_175 i_0 rfl rfl ?_
                  refine zb_cSp (As := [(0, (m215 x0 15))]) (As' := [(0, (m215 x0 15))]) (st := [(2, x0)]) dX12_unlike_229 lk_X12_219 gd_X12_sizeOf rfl rfl h hW hF (zb_aI zb_a0) (Nat.le_refl _) (Nat.le_of_ble_eq_true rfl) (fun r229 h => ?_)
                  show zb_WP _ _ _ _ [(0, r229), (2, x0)] _ _ _ _
                  refine zb_cVp (As := [(0, r229)]) (As' := [(0, r229)]) (st := []) dX12_unlike_232 lk_X12_253 gd_X12_differsAt rfl rfl i_0 ⟨_, rfl, rfl⟩ h hW hF (zb_aR i_0 (zb_aI zb_a0)) (Nat.le_refl _) (Nat.le_of_ble_eq_true rfl) (fun r232 h => ?_)
                  show zb_WP _ _ _ _ [(0, r232)] _ _ _ _
                  refine zb_istore (L' := [(5, (0, r232)), (0, (2, x0)), (1, (0, x1)), (2, (0, x2))]) dX12_unlike_235 (by decide) rfl ?_
                  refine zb_iload (j := 0) dX12_unlike_237 rfl ?_
                  refine zb_if_ge (tgt := 246) dX12_unlike_239 (by decide) (fun c25 => ?_) (fun c25 => ?_)
                  · have h := h.1 c25
                    refine zb_aload_n (j := 1) dX12_unlike_246 rfl rfl ?_
                    refine zb_iconst dX12_unlike_247 (zb_inIc rfl) ?_
                    refine zb_iload (j := 0) dX12_unlike_248 rfl ?_
                    refine zb_aload_n (j := 1) dX12_unlike_250 rfl rfl ?_
                    refine zb_gFa 38 dX12_unlike_251 fl_X12_100 i_0 hW hF rfl rfl rfl (by decide) rfl 160 rfl (fun i26 l27 => ?_)
                    refine zb_iload (j := 0) dX12_unlike_254 rfl ?_
                    obtain ⟨o28, h⟩ := h
                    refine zb_lI dX12_unlike_256 i26 l27 o28.1 o28.2 ?_
                    refine zb_aload_n (j := 1) dX12_unlike_257 rfl rfl ?_
                    refine zb_gFa 30 dX12_unlike_258 fl_X12_82 i_0 hW hF rfl rfl rfl (by decide) rfl 160 rfl (fun i29 l30 => ?_)
                    refine zb_iload (j := 0) dX12_unlike_261 rfl ?_
                    refine zb_lI dX12_unlike_263 i29 l30 o28.1 o28.2 ?_
                    refine zb_cV (As := [(0, 4), (0, r232), (0, (m215 (E.2 x0 38) r232)), (0, (m215 (E.2 x0 30) r232))]) (As' := [(0, (m215 (E.2 x0 30) r232)), (0, (m215 (E.2 x0 38) r232)), (0, r232), (0, 4)]) (st := []) dX12_unlike_264 lk_X12_262 gd_X12_unlikeBy rfl rfl i_0 ⟨_, rfl, rfl⟩ h hW hF (zb_aR i_0 (zb_aI (zb_aI (zb_aI (zb_aI zb_a0))))) (Nat.le_refl _) (Nat.le_of_ble_eq_true rfl) (fun r264 m264 hF h => ?_)
                    show zb_WP _ _ _ _ [(0, r264)] _ _ _ _
                    exact zb_rI dX12_unlike_267 rfl hF h
                  · have h := h.2 c25
                    refine zb_iconst dX12_unlike_242 (zb_inIc rfl) ?_
                    refine zb_goto (tgt := 267) dX12_unlike_243 (by decide) ?_
                    exact zb_rI dX12_unlike_267 rfl hF h
                · have h := h.1 c24
                  refine zb_bipush dX12_unlike_221 (by decide) (zb_inIc rfl) ?_
                  exact zb_rI dX12_unlike_223 rfl hF h
              unfold PL_X12_unlike_160 at h
              obtain ⟨X160, hX160⟩ : ∃ X : Int → Prop, ∀ (v5_160 : Int), (X v5_160 ↔ (zb_FIN E m97 → zb_WP (G, C, d + 1, 0, 0, zb_q E Q) F_X12_unlike 160 [(0, (2, x0)), (1, (0, x1)), (2, (0, x2)), (5, (0, v5_160))] [] E.1 m97 0 0)) := ⟨fun v5_160 => zb_FIN E m97 → zb_WP (G, C, d + 1, 0, 0, zb_q E Q) F_X12_unlike 160 [(0, (2, x0)), (1, (0, x1)), (2, (0, x2)), (5, (0, v5_160))] [] E.1 m97 0 0, fun _ => Iff.rfl⟩
              refine (hX160 _).mp (h X160 (fun v5_160 h => (hX160 _).mpr (fun hF => ?_))) hF
              refine zb_iload (j := 3) dX12_unlike_160 rfl ?_
              refine zb_bipush dX12_unlike_162 (by decide) (zb_inIc rfl) ?_
              refine zb_icmp_ge (tgt := 212) dX12_unlike_164 (by decide) (fun c31 => ?_) (fun c31 => ?_)
              · have h := h.1 c31
                refine zb_sub (L' := [(0, (2, x0)), (1, (0, x1)), (2, (0, x2))]) [0, 1, 2] rfl ?_
                exact hJ212 hF h
              · have h := h.2 c31
                refine zb_aload_n (j := 0) dX12_unlike_167 rfl rfl ?_
                refine zb_gFa 45 dX12_unlike_168 fl_X12_115 i_0 hW hF rfl rfl rfl (by decide) rfl 13 rfl (fun i32 l33 => ?_)
                refine zb_iload (j := 3) dX12_unlike_171 rfl ?_
                obtain ⟨o34, h⟩ := h
                refine zb_lI dX12_unlike_173 i32 l33 o34.1 o34.2 ?_
                refine zb_aload_n (j := 0) dX12_unlike_174 rfl rfl ?_
                refine zb_gFa 47 dX12_unlike_175 fl_X12_121 i_0 hW hF rfl rfl rfl (by decide) rfl 13 rfl (fun i35 l36 => ?_)
                refine zb_iload (j := 3) dX12_unlike_178 rfl ?_
                refine zb_lI dX12_unlike_180 i35 l36 o34.1 o34.2 ?_
                refine zb_icmp_eq (tgt := 206) dX12_unlike_181 (by decide) (fun c37 => ?_) (fun c37 => ?_)
                · have h := h.1 c37
                  obtain ⟨o38, h⟩ := h
                  refine zb_iinc (j := 3) (L' := [(5, (0, (v5_160 + 1))), (0, (2, x0)), (1, (0, x1)), (2, (0, x2))]) dX12_unlike_206 rfl o38 (by decide) rfl ?_
                  refine zb_goto (tgt := 160) dX12_unlike_209 (by decide) ?_
                  refine zb_sub (L' := [(0, (2, x0)), (1, (0, x1)), (2, (0, x2)), (5, (0, (v5_160 + 1)))]) [1, 2, 3, 0] rfl ?_
                  exact (hX160 _).mp h hF
                · have h := h.2 c37
                  refine zb_sub (L' := [(0, (2, x0)), (5, (0, v5_160))]) [0, 3] rfl ?_
                  exact hJ184 _ hF h
            unfold PL_X12_unlike_103 at h
            obtain ⟨X103, hX103⟩ : ∃ X : Int → Prop, ∀ (v5_103 : Int), (X v5_103 ↔ (zb_FIN E m97 → zb_WP (G, C, d + 1, 0, 0, zb_q E Q) F_X12_unlike 103 [(0, (2, x0)), (1, (0, x1)), (2, (0, x2)), (5, (0, v5_103))] [] E.1 m97 0 0)) := ⟨fun v5_103 => zb_FIN E m97 → zb_WP (G, C, d + 1, 0, 0, zb_q E Q) F_X12_unlike 103 [(0, (2, x0)), (1, (0, x1)), (2, (0, x2)), (5, (0, v5_103))] [] E.1 m97 0 0, fun _ => Iff.rfl⟩
            refine (hX103 _).mp (h X103 (fun v5_103 h => (hX103 _).mpr (fun hF => ?_))) hF
            refine zb_iload (j := 3) dX12_unlike_103 rfl ?_
            refine zb_aload_n (j := 0) dX12_unlike_105 rfl rfl ?_
            refine zb_gI 15 dX12_unlike_106 fl_X12_175 i_0 rfl rfl ?_
            refine zb_icmp_ge (tgt := 157) dX12_unlike_109 (by decide) (fun c39 => ?_) (fun c39 => ?_)
            · have h := h.1 c39
              refine zb_sub (L' := [(0, (2, x0)), (1, (0, x1)), (2, (0, x2))]) [0, 1, 2] rfl ?_
              exact hJ157 hF h
            · have h := h.2 c39
              refine zb_aload_n (j := 0) dX12_unlike_112 rfl rfl ?_
              refine zb_gFa 44 dX12_unlike_113 fl_X12_112 i_0 hW hF rfl rfl rfl (by decide) rfl 12 rfl (fun i40 l41 => ?_)
              refine zb_iload (j := 3) dX12_unlike_116 rfl ?_
              obtain ⟨o42, h⟩ := h
              refine zb_lI dX12_unlike_118 i40 l41 o42.1 o42.2 ?_
              refine zb_aload_n (j := 0) dX12_unlike_119 rfl rfl ?_
              refine zb_gFa 46 dX12_unlike_120 fl_X12_118 i_0 hW hF rfl rfl rfl (by decide) rfl 12 rfl (fun i43 l44 => ?_)
              refine zb_iload (j := 3) dX12_unlike_123 rfl ?_
              refine zb_lI dX12_unlike_125 i43 l44 o42.1 o42.2 ?_
              refine zb_icmp_eq (tgt := 151) dX12_unlike_126 (by decide) (fun c45 => ?_) (fun c45 => ?_)
              · have h := h.1 c45
                obtain ⟨o46, h⟩ := h
                refine zb_iinc (j := 3) (L' := [(5, (0, (v5_103 + 1))), (0, (2, x0)), (1, (0, x1)), (2, (0, x2))]) dX12_unlike_151 rfl o46 (by decide) rfl ?_
                refine zb_goto (tgt := 103) dX12_unlike_154 (by decide) ?_
                refine zb_sub (L' := [(0, (2, x0)), (1, (0, x1)), (2, (0, x2)), (5, (0, (v5_103 + 1)))]) [1, 2, 3, 0] rfl ?_
                exact (hX103 _).mp h hF
              · have h := h.2 c45
                refine zb_sub (L' := [(0, (2, x0)), (5, (0, v5_103))]) [0, 3] rfl ?_
                exact hJ129 _ hF h
          · have h := h.2 c5
            refine zb_aload_n (j := 2) dX12_unlike_56 rfl rfl ?_
            refine zb_iconst dX12_unlike_57 (zb_inIc rfl) ?_
            refine zb_iconst dX12_unlike_58 (zb_inIc rfl) ?_
            refine zb_iload_n (j := 1) dX12_unlike_59 rfl rfl ?_
            refine zb_iload (j := 0) dX12_unlike_60 rfl ?_
            refine zb_cV (As := [(0, 1), (0, 0), (0, r39), (0, r45)]) (As' := [(0, r45), (0, r39), (0, 0), (0, 1)]) (st := []) dX12_unlike_62 lk_X12_262 gd_X12_unlikeBy rfl rfl i_0 ⟨_, rfl, rfl⟩ h hW hF (zb_aR i_0 (zb_aI (zb_aI (zb_aI (zb_aI zb_a0))))) (Nat.le_refl _) (Nat.le_of_ble_eq_true rfl) (fun r62 m62 hF h => ?_)
            show zb_WP _ _ _ _ [(0, r62)] _ _ _ _
            exact zb_rI dX12_unlike_65 rfl hF h
        · have h := h.1 c4
          refine zb_bipush dX12_unlike_34 (by decide) (zb_inIc rfl) ?_
          exact zb_rI dX12_unlike_36 rfl hF h
    · have h := h.1 c2
      refine zb_iconst dX12_unlike_16 (zb_inIc rfl) ?_
      exact zb_rI dX12_unlike_17 rfl hF h
theorem dX12_why_0 : decode cX12_why 0 = .ok (.aload_n 0, 1) := by decide +kernel
theorem dX12_why_1 : decode cX12_why 1 = .ok (.getfield 259, 3) := by decide +kernel
theorem dX12_why_4 : decode cX12_why 4 = .ok (.ifCond .eq 21, 3) := by decide +kernel
theorem dX12_why_7 : decode cX12_why 7 = .ok (.iload_n 1, 1) := by decide +kernel
theorem dX12_why_8 : decode cX12_why 8 = .ok (.iconst 0, 1) := by decide +kernel
theorem dX12_why_9 : decode cX12_why 9 = .ok (.iconst 2, 1) := by decide +kernel
theorem dX12_why_10 : decode cX12_why 10 = .ok (.invokestatic 133, 3) := by decide +kernel
theorem dX12_why_13 : decode cX12_why 13 = .ok (.ifCond .eq 12, 3) := by decide +kernel
theorem dX12_why_16 : decode cX12_why 16 = .ok (.aload_n 0, 1) := by decide +kernel
theorem dX12_why_17 : decode cX12_why 17 = .ok (.getfield 109, 3) := by decide +kernel
theorem dX12_why_20 : decode cX12_why 20 = .ok (.iload_n 1, 1) := by decide +kernel
theorem dX12_why_21 : decode cX12_why 21 = .ok (.iaload, 1) := by decide +kernel
theorem dX12_why_22 : decode cX12_why 22 = .ok (.goto 4, 3) := by decide +kernel
theorem dX12_why_25 : decode cX12_why 25 = .ok (.iconst (-1), 1) := by decide +kernel
theorem dX12_why_26 : decode cX12_why 26 = .ok (.ireturn, 1) := by decide +kernel
def PM_X12_why (d : Nat) (E : zb_E) (x0 : Int) (x1 : Int) (m : zb_M) (Q : Int → Prop) : Prop :=
  ((m x0 42) = 0 → Q (-1)) ∧ (¬ (m x0 42) = 0 → zb_Tp K_X12_in d [(0, x1), (0, 0), (0, 2)] E m (fun r10 => (r10 = 0 → Q (-1)) ∧ (¬ r10 = 0 → (0 ≤ x1 ∧ x1 < 3) ∧ (Q (m (E.2 x0 43) x1)))))
set_option maxRecDepth 100000 in
set_option maxHeartbeats 4000000 in
theorem w_X12_why {d : Nat} {E : zb_E} {x0 x1 : Int} {m : zb_M} {Q : Int → Prop} (h : PM_X12_why d E x0 x1 m Q) : zb_Tp K_X12_why (d + 1) [(2, x0), (0, x1)] E m Q := by
  unfold PM_X12_why at h
  refine zb_T_in gd_X12_why rfl rfl (fun hW hA G C hF => ?_)
  have i_0 : zb_is E.1 x0 12 := zb_aH hA (by decide)
  show zb_WP _ _ 0 [(0, (2, x0)), (1, (0, x1))] [] _ _ _ _
  refine zb_aload_n (j := 0) dX12_why_0 rfl rfl ?_
  refine zb_gI 42 dX12_why_1 fl_X12_259 i_0 rfl rfl ?_
  refine zb_if_eq (tgt := 25) dX12_why_4 (by decide) (fun c1 => ?_) (fun c1 => ?_)
  · have h := h.1 c1
    refine zb_iconst dX12_why_25 (zb_inIc rfl) ?_
    exact zb_rI dX12_why_26 rfl hF ⟨rfl, h⟩
  · have h := h.2 c1
    refine zb_iload_n (j := 1) dX12_why_7 rfl rfl ?_
    refine zb_iconst dX12_why_8 (zb_inIc rfl) ?_
    refine zb_iconst dX12_why_9 (zb_inIc rfl) ?_
    refine zb_cSp (As := [(0, x1), (0, 0), (0, 2)]) (As' := [(0, 2), (0, 0), (0, x1)]) (st := []) dX12_why_10 lk_X12_133 gd_X12_in rfl rfl h hW hF (zb_aI (zb_aI (zb_aI zb_a0))) (Nat.le_refl _) (Nat.le_of_ble_eq_true rfl) (fun r10 h => ?_)
    show zb_WP _ _ _ _ [(0, r10)] _ _ _ _
    refine zb_if_eq (tgt := 25) dX12_why_13 (by decide) (fun c2 => ?_) (fun c2 => ?_)
    · have h := h.1 c2
      refine zb_iconst dX12_why_25 (zb_inIc rfl) ?_
      exact zb_rI dX12_why_26 rfl hF ⟨rfl, h⟩
    · have h := h.2 c2
      refine zb_aload_n (j := 0) dX12_why_16 rfl rfl ?_
      refine zb_gFa 43 dX12_why_17 fl_X12_109 i_0 hW hF rfl rfl rfl (by decide) rfl 3 rfl (fun i3 l4 => ?_)
      refine zb_iload_n (j := 1) dX12_why_20 rfl rfl ?_
      obtain ⟨o5, h⟩ := h
      refine zb_lI dX12_why_21 i3 l4 o5.1 o5.2 ?_
      refine zb_goto (tgt := 26) dX12_why_22 (by decide) ?_
      exact zb_rI dX12_why_26 rfl hF ⟨rfl, h⟩
theorem dX12_mayGo_0 : decode cX12_mayGo 0 = .ok (.aload_n 0, 1) := by decide +kernel
theorem dX12_mayGo_1 : decode cX12_mayGo 1 = .ok (.getfield 55, 3) := by decide +kernel
theorem dX12_mayGo_4 : decode cX12_mayGo 4 = .ok (.iload_n 1, 1) := by decide +kernel
theorem dX12_mayGo_5 : decode cX12_mayGo 5 = .ok (.iaload, 1) := by decide +kernel
theorem dX12_mayGo_6 : decode cX12_mayGo 6 = .ok (.aload_n 0, 1) := by decide +kernel
theorem dX12_mayGo_7 : decode cX12_mayGo 7 = .ok (.getfield 55, 3) := by decide +kernel
theorem dX12_mayGo_10 : decode cX12_mayGo 10 = .ok (.iload_n 2, 1) := by decide +kernel
theorem dX12_mayGo_11 : decode cX12_mayGo 11 = .ok (.iaload, 1) := by decide +kernel
theorem dX12_mayGo_12 : decode cX12_mayGo 12 = .ok (.if_icmp .ne 32, 3) := by decide +kernel
theorem dX12_mayGo_15 : decode cX12_mayGo 15 = .ok (.aload_n 0, 1) := by decide +kernel
theorem dX12_mayGo_16 : decode cX12_mayGo 16 = .ok (.getfield 58, 3) := by decide +kernel
theorem dX12_mayGo_19 : decode cX12_mayGo 19 = .ok (.bipush 12, 2) := by decide +kernel
theorem dX12_mayGo_21 : decode cX12_mayGo 21 = .ok (.iload_n 1, 1) := by decide +kernel
theorem dX12_mayGo_22 : decode cX12_mayGo 22 = .ok (.imul, 1) := by decide +kernel
theorem dX12_mayGo_23 : decode cX12_mayGo 23 = .ok (.iload_n 1, 1) := by decide +kernel
theorem dX12_mayGo_24 : decode cX12_mayGo 24 = .ok (.iadd, 1) := by decide +kernel
theorem dX12_mayGo_25 : decode cX12_mayGo 25 = .ok (.iaload, 1) := by decide +kernel
theorem dX12_mayGo_26 : decode cX12_mayGo 26 = .ok (.aload_n 0, 1) := by decide +kernel
theorem dX12_mayGo_27 : decode cX12_mayGo 27 = .ok (.getfield 58, 3) := by decide +kernel
theorem dX12_mayGo_30 : decode cX12_mayGo 30 = .ok (.bipush 12, 2) := by decide +kernel
theorem dX12_mayGo_32 : decode cX12_mayGo 32 = .ok (.iload_n 2, 1) := by decide +kernel
theorem dX12_mayGo_33 : decode cX12_mayGo 33 = .ok (.imul, 1) := by decide +kernel
theorem dX12_mayGo_34 : decode cX12_mayGo 34 = .ok (.iload_n 2, 1) := by decide +kernel
theorem dX12_mayGo_35 : decode cX12_mayGo 35 = .ok (.iadd, 1) := by decide +kernel
theorem dX12_mayGo_36 : decode cX12_mayGo 36 = .ok (.iaload, 1) := by decide +kernel
theorem dX12_mayGo_37 : decode cX12_mayGo 37 = .ok (.if_icmp .ne 7, 3) := by decide +kernel
theorem dX12_mayGo_40 : decode cX12_mayGo 40 = .ok (.iconst 1, 1) := by decide +kernel
theorem dX12_mayGo_41 : decode cX12_mayGo 41 = .ok (.goto 4, 3) := by decide +kernel
theorem dX12_mayGo_44 : decode cX12_mayGo 44 = .ok (.iconst 0, 1) := by decide +kernel
theorem dX12_mayGo_45 : decode cX12_mayGo 45 = .ok (.istore_n 3, 1) := by decide +kernel
theorem dX12_mayGo_46 : decode cX12_mayGo 46 = .ok (.iconst 0, 1) := by decide +kernel
theorem dX12_mayGo_47 : decode cX12_mayGo 47 = .ok (.istore 4, 2) := by decide +kernel
theorem dX12_mayGo_49 : decode cX12_mayGo 49 = .ok (.iload 4, 2) := by decide +kernel
theorem dX12_mayGo_51 : decode cX12_mayGo 51 = .ok (.iload_n 1, 1) := by decide +kernel
theorem dX12_mayGo_52 : decode cX12_mayGo 52 = .ok (.if_icmp .ge 88, 3) := by decide +kernel
theorem dX12_mayGo_55 : decode cX12_mayGo 55 = .ok (.iload_n 3, 1) := by decide +kernel
theorem dX12_mayGo_56 : decode cX12_mayGo 56 = .ok (.ifCond .eq 84, 3) := by decide +kernel
theorem dX12_mayGo_59 : decode cX12_mayGo 59 = .ok (.aload_n 0, 1) := by decide +kernel
theorem dX12_mayGo_60 : decode cX12_mayGo 60 = .ok (.getfield 124, 3) := by decide +kernel
theorem dX12_mayGo_63 : decode cX12_mayGo 63 = .ok (.iload 4, 2) := by decide +kernel
theorem dX12_mayGo_65 : decode cX12_mayGo 65 = .ok (.iaload, 1) := by decide +kernel
theorem dX12_mayGo_66 : decode cX12_mayGo 66 = .ok (.istore 5, 2) := by decide +kernel
theorem dX12_mayGo_68 : decode cX12_mayGo 68 = .ok (.iload 5, 2) := by decide +kernel
theorem dX12_mayGo_70 : decode cX12_mayGo 70 = .ok (.iload_n 2, 1) := by decide +kernel
theorem dX12_mayGo_71 : decode cX12_mayGo 71 = .ok (.if_icmp .eq 61, 3) := by decide +kernel
theorem dX12_mayGo_74 : decode cX12_mayGo 74 = .ok (.aload_n 0, 1) := by decide +kernel
theorem dX12_mayGo_75 : decode cX12_mayGo 75 = .ok (.getfield 58, 3) := by decide +kernel
theorem dX12_mayGo_78 : decode cX12_mayGo 78 = .ok (.bipush 12, 2) := by decide +kernel
theorem dX12_mayGo_80 : decode cX12_mayGo 80 = .ok (.iload_n 1, 1) := by decide +kernel
theorem dX12_mayGo_81 : decode cX12_mayGo 81 = .ok (.imul, 1) := by decide +kernel
theorem dX12_mayGo_82 : decode cX12_mayGo 82 = .ok (.iload 4, 2) := by decide +kernel
theorem dX12_mayGo_84 : decode cX12_mayGo 84 = .ok (.iadd, 1) := by decide +kernel
theorem dX12_mayGo_85 : decode cX12_mayGo 85 = .ok (.iaload, 1) := by decide +kernel
theorem dX12_mayGo_86 : decode cX12_mayGo 86 = .ok (.aload_n 0, 1) := by decide +kernel
theorem dX12_mayGo_87 : decode cX12_mayGo 87 = .ok (.getfield 58, 3) := by decide +kernel
theorem dX12_mayGo_90 : decode cX12_mayGo 90 = .ok (.bipush 12, 2) := by decide +kernel
theorem dX12_mayGo_92 : decode cX12_mayGo 92 = .ok (.iload_n 2, 1) := by decide +kernel
theorem dX12_mayGo_93 : decode cX12_mayGo 93 = .ok (.imul, 1) := by decide +kernel
theorem dX12_mayGo_94 : decode cX12_mayGo 94 = .ok (.iload 5, 2) := by decide +kernel
theorem dX12_mayGo_96 : decode cX12_mayGo 96 = .ok (.iadd, 1) := by decide +kernel
theorem dX12_mayGo_97 : decode cX12_mayGo 97 = .ok (.iaload, 1) := by decide +kernel
theorem dX12_mayGo_98 : decode cX12_mayGo 98 = .ok (.if_icmp .ne 34, 3) := by decide +kernel
theorem dX12_mayGo_101 : decode cX12_mayGo 101 = .ok (.aload_n 0, 1) := by decide +kernel
theorem dX12_mayGo_102 : decode cX12_mayGo 102 = .ok (.getfield 58, 3) := by decide +kernel
theorem dX12_mayGo_105 : decode cX12_mayGo 105 = .ok (.bipush 12, 2) := by decide +kernel
theorem dX12_mayGo_107 : decode cX12_mayGo 107 = .ok (.iload 4, 2) := by decide +kernel
theorem dX12_mayGo_109 : decode cX12_mayGo 109 = .ok (.imul, 1) := by decide +kernel
theorem dX12_mayGo_110 : decode cX12_mayGo 110 = .ok (.iload_n 1, 1) := by decide +kernel
theorem dX12_mayGo_111 : decode cX12_mayGo 111 = .ok (.iadd, 1) := by decide +kernel
theorem dX12_mayGo_112 : decode cX12_mayGo 112 = .ok (.iaload, 1) := by decide +kernel
theorem dX12_mayGo_113 : decode cX12_mayGo 113 = .ok (.aload_n 0, 1) := by decide +kernel
theorem dX12_mayGo_114 : decode cX12_mayGo 114 = .ok (.getfield 58, 3) := by decide +kernel
theorem dX12_mayGo_117 : decode cX12_mayGo 117 = .ok (.bipush 12, 2) := by decide +kernel
theorem dX12_mayGo_119 : decode cX12_mayGo 119 = .ok (.iload 5, 2) := by decide +kernel
theorem dX12_mayGo_121 : decode cX12_mayGo 121 = .ok (.imul, 1) := by decide +kernel
theorem dX12_mayGo_122 : decode cX12_mayGo 122 = .ok (.iload_n 2, 1) := by decide +kernel
theorem dX12_mayGo_123 : decode cX12_mayGo 123 = .ok (.iadd, 1) := by decide +kernel
theorem dX12_mayGo_124 : decode cX12_mayGo 124 = .ok (.iaload, 1) := by decide +kernel
theorem dX12_mayGo_125 : decode cX12_mayGo 125 = .ok (.if_icmp .ne 7, 3) := by decide +kernel
theorem dX12_mayGo_128 : decode cX12_mayGo 128 = .ok (.iconst 1, 1) := by decide +kernel
theorem dX12_mayGo_129 : decode cX12_mayGo 129 = .ok (.goto 4, 3) := by decide +kernel
theorem dX12_mayGo_132 : decode cX12_mayGo 132 = .ok (.iconst 0, 1) := by decide +kernel
theorem dX12_mayGo_133 : decode cX12_mayGo 133 = .ok (.istore_n 3, 1) := by decide +kernel
theorem dX12_mayGo_134 : decode cX12_mayGo 134 = .ok (.iinc 4 1, 3) := by decide +kernel
theorem dX12_mayGo_137 : decode cX12_mayGo 137 = .ok (.goto (-88), 3) := by decide +kernel
theorem dX12_mayGo_140 : decode cX12_mayGo 140 = .ok (.iload_n 3, 1) := by decide +kernel
theorem dX12_mayGo_141 : decode cX12_mayGo 141 = .ok (.ireturn, 1) := by decide +kernel
def PL_X12_mayGo_49 (d : Nat) (E : zb_E) (x0 : Int) (x1 : Int) (x2 : Int) (m : zb_M) (Q : Int → Prop)  (v3_49 : Int) (v4_49 : Int) : Prop :=
  ∀ X49 : Int → Int → Prop, (∀ (v3_49 : Int) (v4_49 : Int), ((x1 ≤ v4_49 → (v3_49 = 0 ∨ v3_49 = 1) ∧ (Q v3_49)) ∧ (¬ x1 ≤ v4_49 → (v3_49 = 0 → (v3_49 = 0 ∨ v3_49 = 1) ∧ (Q v3_49)) ∧ (¬ v3_49 = 0 → (0 ≤ v4_49 ∧ v4_49 < 12) ∧ (((m (E.2 x0 48) v4_49) = x2 → (zb_inI (v4_49 + 1)) ∧ (X49 0 (v4_49 + 1))) ∧ (¬ (m (E.2 x0 48) v4_49) = x2 → (zb_inI (12 * x1)) ∧ ((zb_inI ((12 * x1) + v4_49)) ∧ ((0 ≤ ((12 * x1) + v4_49) ∧ ((12 * x1) + v4_49) < 144) ∧ ((zb_inI (12 * x2)) ∧ ((zb_inI ((12 * x2) + (m (E.2 x0 48) v4_49))) ∧ ((0 ≤ ((12 * x2) + (m (E.2 x0 48) v4_49)) ∧ ((12 * x2) + (m (E.2 x0 48) v4_49)) < 144) ∧ (((m (E.2 x0 18) ((12 * x1) + v4_49)) = (m (E.2 x0 18) ((12 * x2) + (m (E.2 x0 48) v4_49))) → (zb_inI (12 * v4_49)) ∧ ((zb_inI ((12 * v4_49) + x1)) ∧ ((0 ≤ ((12 * v4_49) + x1) ∧ ((12 * v4_49) + x1) < 144) ∧ ((zb_inI (12 * (m (E.2 x0 48) v4_49))) ∧ ((zb_inI ((12 * (m (E.2 x0 48) v4_49)) + x2)) ∧ ((0 ≤ ((12 * (m (E.2 x0 48) v4_49)) + x2) ∧ ((12 * (m (E.2 x0 48) v4_49)) + x2) < 144) ∧ (((m (E.2 x0 18) ((12 * v4_49) + x1)) = (m (E.2 x0 18) ((12 * (m (E.2 x0 48) v4_49)) + x2)) → (zb_inI (v4_49 + 1)) ∧ (X49 1 (v4_49 + 1))) ∧ (¬ (m (E.2 x0 18) ((12 * v4_49) + x1)) = (m (E.2 x0 18) ((12 * (m (E.2 x0 48) v4_49)) + x2)) → (zb_inI (v4_49 + 1)) ∧ (X49 0 (v4_49 + 1)))))))))) ∧ (¬ (m (E.2 x0 18) ((12 * x1) + v4_49)) = (m (E.2 x0 18) ((12 * x2) + (m (E.2 x0 48) v4_49))) → (zb_inI (v4_49 + 1)) ∧ (X49 0 (v4_49 + 1)))))))))))))) → X49 v3_49 v4_49) → X49 v3_49 v4_49
def PJ_X12_mayGo_45 (d : Nat) (E : zb_E) (x0 : Int) (x1 : Int) (x2 : Int) (m : zb_M) (Q : Int → Prop) (s0_45 : Int) : Prop :=
  PL_X12_mayGo_49 d E x0 x1 x2 m Q s0_45 0
def PJ_X12_mayGo_44 (d : Nat) (E : zb_E) (x0 : Int) (x1 : Int) (x2 : Int) (m : zb_M) (Q : Int → Prop)  : Prop :=
  PJ_X12_mayGo_45 d E x0 x1 x2 m Q 0
def PM_X12_mayGo (d : Nat) (E : zb_E) (x0 : Int) (x1 : Int) (x2 : Int) (m : zb_M) (Q : Int → Prop) : Prop :=
  (0 ≤ x1 ∧ x1 < 12) ∧ ((0 ≤ x2 ∧ x2 < 12) ∧ (((m (E.2 x0 17) x1) = (m (E.2 x0 17) x2) → (zb_inI (12 * x1)) ∧ ((zb_inI ((12 * x1) + x1)) ∧ ((0 ≤ ((12 * x1) + x1) ∧ ((12 * x1) + x1) < 144) ∧ ((zb_inI (12 * x2)) ∧ ((zb_inI ((12 * x2) + x2)) ∧ ((0 ≤ ((12 * x2) + x2) ∧ ((12 * x2) + x2) < 144) ∧ (((m (E.2 x0 18) ((12 * x1) + x1)) = (m (E.2 x0 18) ((12 * x2) + x2)) → PJ_X12_mayGo_45 d E x0 x1 x2 m Q 1) ∧ (¬ (m (E.2 x0 18) ((12 * x1) + x1)) = (m (E.2 x0 18) ((12 * x2) + x2)) → PJ_X12_mayGo_44 d E x0 x1 x2 m Q)))))))) ∧ (¬ (m (E.2 x0 17) x1) = (m (E.2 x0 17) x2) → PJ_X12_mayGo_44 d E x0 x1 x2 m Q)))
set_option maxRecDepth 100000 in
set_option maxHeartbeats 4000000 in
theorem w_X12_mayGo {d : Nat} {E : zb_E} {x0 x1 x2 : Int} {m : zb_M} {Q : Int → Prop} (h : PM_X12_mayGo d E x0 x1 x2 m Q) : zb_Tp K_X12_mayGo (d + 1) [(2, x0), (0, x1), (0, x2)] E m Q := by
  unfold PM_X12_mayGo at h
  refine zb_T_in gd_X12_mayGo rfl rfl (fun hW hA G C hF => ?_)
  have i_0 : zb_is E.1 x0 12 := zb_aH hA (by decide)
  show zb_WP _ _ 0 [(0, (2, x0)), (1, (0, x1)), (2, (0, x2))] [] _ _ _ _
  refine zb_aload_n (j := 0) dX12_mayGo_0 rfl rfl ?_
  refine zb_gFa 17 dX12_mayGo_1 fl_X12_55 i_0 hW hF rfl rfl rfl (by decide) rfl 12 rfl (fun i1 l2 => ?_)
  refine zb_iload_n (j := 1) dX12_mayGo_4 rfl rfl ?_
  obtain ⟨o3, h⟩ := h
  refine zb_lI dX12_mayGo_5 i1 l2 o3.1 o3.2 ?_
  refine zb_aload_n (j := 0) dX12_mayGo_6 rfl rfl ?_
  refine zb_gFa 17 dX12_mayGo_7 fl_X12_55 i_0 hW hF rfl rfl rfl (by decide) rfl 12 rfl (fun i4 l5 => ?_)
  refine zb_iload_n (j := 2) dX12_mayGo_10 rfl rfl ?_
  obtain ⟨o6, h⟩ := h
  refine zb_lI dX12_mayGo_11 i4 l5 o6.1 o6.2 ?_
  have hJ45 : ∀ (s0_45 : Int), zb_FIN E m → PJ_X12_mayGo_45 d E x0 x1 x2 m Q s0_45 → zb_WP (G, C, d + 1, 0, 0, zb_q E (fun r m' => m' = m ∧ Q r)) F_X12_mayGo 45 [(0, (2, x0)), (1, (0, x1)), (2, (0, x2))] [(0, s0_45)] E.1 m 0 0 := by
    intro s0_45 hF h
    unfold PJ_X12_mayGo_45 at h
    refine zb_istore_n (L' := [(3, (0, s0_45)), (0, (2, x0)), (1, (0, x1)), (2, (0, x2))]) dX12_mayGo_45 rfl (by decide) rfl ?_
    refine zb_iconst dX12_mayGo_46 (zb_inIc rfl) ?_
    refine zb_istore (L' := [(4, (0, 0)), (3, (0, s0_45)), (0, (2, x0)), (1, (0, x1)), (2, (0, x2))]) dX12_mayGo_47 (by decide) rfl ?_
    refine zb_sub (L' := [(0, (2, x0)), (1, (0, x1)), (2, (0, x2)), (3, (0, s0_45)), (4, (0, 0))]) [2, 3, 4, 1, 0] rfl ?_
    unfold PL_X12_mayGo_49 at h
    obtain ⟨X49, hX49⟩ : ∃ X : Int → Int → Prop, ∀ (v3_49 : Int) (v4_49 : Int), (X v3_49 v4_49 ↔ (zb_FIN E m → zb_WP (G, C, d + 1, 0, 0, zb_q E (fun r m' => m' = m ∧ Q r)) F_X12_mayGo 49 [(0, (2, x0)), (1, (0, x1)), (2, (0, x2)), (3, (0, v3_49)), (4, (0, v4_49))] [] E.1 m 0 0)) := ⟨fun v3_49 v4_49 => zb_FIN E m → zb_WP (G, C, d + 1, 0, 0, zb_q E (fun r m' => m' = m ∧ Q r)) F_X12_mayGo 49 [(0, (2, x0)), (1, (0, x1)), (2, (0, x2)), (3, (0, v3_49)), (4, (0, v4_49))] [] E.1 m 0 0, fun _ _ => Iff.rfl⟩
    refine (hX49 _ _).mp (h X49 (fun v3_49 v4_49 h => (hX49 _ _).mpr (fun hF => ?_))) hF
    refine zb_iload (j := 4) dX12_mayGo_49 rfl ?_
    refine zb_iload_n (j := 1) dX12_mayGo_51 rfl rfl ?_
    refine zb_icmp_ge (tgt := 140) dX12_mayGo_52 (by decide) (fun c7 => ?_) (fun c7 => ?_)
    · have h := h.1 c7
      refine zb_iload_n (j := 3) dX12_mayGo_140 rfl rfl ?_
      obtain ⟨o8, h⟩ := h
      exact zb_rZ dX12_mayGo_141 rfl hF o8 ⟨rfl, h⟩
    · have h := h.2 c7
      refine zb_iload_n (j := 3) dX12_mayGo_55 rfl rfl ?_
      refine zb_if_eq (tgt := 140) dX12_mayGo_56 (by decide) (fun c9 => ?_) (fun c9 => ?_)
      · have h := h.1 c9
        refine zb_iload_n (j := 3) dX12_mayGo_140 rfl rfl ?_
        obtain ⟨o10, h⟩ := h
        exact zb_rZ dX12_mayGo_141 rfl hF o10 ⟨rfl, h⟩
      · have h := h.2 c9
        refine zb_aload_n (j := 0) dX12_mayGo_59 rfl rfl ?_
        refine zb_gFa 48 dX12_mayGo_60 fl_X12_124 i_0 hW hF rfl rfl rfl (by decide) rfl 12 rfl (fun i11 l12 => ?_)
        refine zb_iload (j := 4) dX12_mayGo_63 rfl ?_
        obtain ⟨o13, h⟩ := h
        refine zb_lI dX12_mayGo_65 i11 l12 o13.1 o13.2 ?_
        refine zb_istore (L' := [(5, (0, (m (E.2 x0 48) v4_49))), (0, (2, x0)), (1, (0, x1)), (2, (0, x2)), (3, (0, v3_49)), (4, (0, v4_49))]) dX12_mayGo_66 (by decide) rfl ?_
        refine zb_iload (j := 0) dX12_mayGo_68 rfl ?_
        refine zb_iload_n (j := 3) dX12_mayGo_70 rfl rfl ?_
        refine zb_icmp_eq (tgt := 132) dX12_mayGo_71 (by decide) (fun c14 => ?_) (fun c14 => ?_)
        · have h := h.1 c14
          refine zb_iconst dX12_mayGo_132 (zb_inIc rfl) ?_
          refine zb_istore_n (L' := [(3, (0, 0)), (5, (0, (m (E.2 x0 48) v4_49))), (0, (2, x0)), (1, (0, x1)), (2, (0, x2)), (4, (0, v4_49))]) dX12_mayGo_133 rfl (by decide) rfl ?_
          obtain ⟨o15, h⟩ := h
          refine zb_iinc (j := 5) (L' := [(4, (0, (v4_49 + 1))), (3, (0, 0)), (5, (0, (m (E.2 x0 48) v4_49))), (0, (2, x0)), (1, (0, x1)), (2, (0, x2))]) dX12_mayGo_134 rfl o15 (by decide) rfl ?_
          refine zb_goto (tgt := 49) dX12_mayGo_137 (by decide) ?_
          refine zb_sub (L' := [(0, (2, x0)), (1, (0, x1)), (2, (0, x2)), (3, (0, 0)), (4, (0, (v4_49 + 1)))]) [3, 4, 5, 1, 0] rfl ?_
          exact (hX49 _ _).mp h hF
        · have h := h.2 c14
          refine zb_aload_n (j := 1) dX12_mayGo_74 rfl rfl ?_
          refine zb_gFa 18 dX12_mayGo_75 fl_X12_58 i_0 hW hF rfl rfl rfl (by decide) rfl 144 rfl (fun i16 l17 => ?_)
          refine zb_bipush dX12_mayGo_78 (by decide) (zb_inIc rfl) ?_
          refine zb_iload_n (j := 2) dX12_mayGo_80 rfl rfl ?_
          obtain ⟨o18, h⟩ := h
          refine zb_imul dX12_mayGo_81 o18 ?_
          refine zb_iload (j := 5) dX12_mayGo_82 rfl ?_
          obtain ⟨o19, h⟩ := h
          refine zb_iadd dX12_mayGo_84 o19 ?_
          obtain ⟨o20, h⟩ := h
          refine zb_lI dX12_mayGo_85 i16 l17 o20.1 o20.2 ?_
          refine zb_aload_n (j := 1) dX12_mayGo_86 rfl rfl ?_
          refine zb_gFa 18 dX12_mayGo_87 fl_X12_58 i_0 hW hF rfl rfl rfl (by decide) rfl 144 rfl (fun i21 l22 => ?_)
          refine zb_bipush dX12_mayGo_90 (by decide) (zb_inIc rfl) ?_
          refine zb_iload_n (j := 3) dX12_mayGo_92 rfl rfl ?_
          obtain ⟨o23, h⟩ := h
          refine zb_imul dX12_mayGo_93 o23 ?_
          refine zb_iload (j := 0) dX12_mayGo_94 rfl ?_
          obtain ⟨o24, h⟩ := h
          refine zb_iadd dX12_mayGo_96 o24 ?_
          obtain ⟨o25, h⟩ := h
          refine zb_lI dX12_mayGo_97 i21 l22 o25.1 o25.2 ?_
          refine zb_icmp_ne (tgt := 132) dX12_mayGo_98 (by decide) (fun c26 => ?_) (fun c26 => ?_)
          · have h := h.2 c26
            refine zb_iconst dX12_mayGo_132 (zb_inIc rfl) ?_
            refine zb_istore_n (L' := [(3, (0, 0)), (5, (0, (m (E.2 x0 48) v4_49))), (0, (2, x0)), (1, (0, x1)), (2, (0, x2)), (4, (0, v4_49))]) dX12_mayGo_133 rfl (by decide) rfl ?_
            obtain ⟨o27, h⟩ := h
            refine zb_iinc (j := 5) (L' := [(4, (0, (v4_49 + 1))), (3, (0, 0)), (5, (0, (m (E.2 x0 48) v4_49))), (0, (2, x0)), (1, (0, x1)), (2, (0, x2))]) dX12_mayGo_134 rfl o27 (by decide) rfl ?_
            refine zb_goto (tgt := 49) dX12_mayGo_137 (by decide) ?_
            refine zb_sub (L' := [(0, (2, x0)), (1, (0, x1)), (2, (0, x2)), (3, (0, 0)), (4, (0, (v4_49 + 1)))]) [3, 4, 5, 1, 0] rfl ?_
            exact (hX49 _ _).mp h hF
          · have h := h.1 c26
            refine zb_aload_n (j := 1) dX12_mayGo_101 rfl rfl ?_
            refine zb_gFa 18 dX12_mayGo_102 fl_X12_58 i_0 hW hF rfl rfl rfl (by decide) rfl 144 rfl (fun i28 l29 => ?_)
            refine zb_bipush dX12_mayGo_105 (by decide) (zb_inIc rfl) ?_
            refine zb_iload (j := 5) dX12_mayGo_107 rfl ?_
            obtain ⟨o30, h⟩ := h
            refine zb_imul dX12_mayGo_109 o30 ?_
            refine zb_iload_n (j := 2) dX12_mayGo_110 rfl rfl ?_
            obtain ⟨o31, h⟩ := h
            refine zb_iadd dX12_mayGo_111 o31 ?_
            obtain ⟨o32, h⟩ := h
            refine zb_lI dX12_mayGo_112 i28 l29 o32.1 o32.2 ?_
            refine zb_aload_n (j := 1) dX12_mayGo_113 rfl rfl ?_
            refine zb_gFa 18 dX12_mayGo_114 fl_X12_58 i_0 hW hF rfl rfl rfl (by decide) rfl 144 rfl (fun i33 l34 => ?_)
            refine zb_bipush dX12_mayGo_117 (by decide) (zb_inIc rfl) ?_
            refine zb_iload (j := 0) dX12_mayGo_119 rfl ?_
            obtain ⟨o35, h⟩ := h
            refine zb_imul dX12_mayGo_121 o35 ?_
            refine zb_iload_n (j := 3) dX12_mayGo_122 rfl rfl ?_
            obtain ⟨o36, h⟩ := h
            refine zb_iadd dX12_mayGo_123 o36 ?_
            obtain ⟨o37, h⟩ := h
            refine zb_lI dX12_mayGo_124 i33 l34 o37.1 o37.2 ?_
            refine zb_icmp_ne (tgt := 132) dX12_mayGo_125 (by decide) (fun c38 => ?_) (fun c38 => ?_)
            · have h := h.2 c38
              refine zb_iconst dX12_mayGo_132 (zb_inIc rfl) ?_
              refine zb_istore_n (L' := [(3, (0, 0)), (5, (0, (m (E.2 x0 48) v4_49))), (0, (2, x0)), (1, (0, x1)), (2, (0, x2)), (4, (0, v4_49))]) dX12_mayGo_133 rfl (by decide) rfl ?_
              obtain ⟨o39, h⟩ := h
              refine zb_iinc (j := 5) (L' := [(4, (0, (v4_49 + 1))), (3, (0, 0)), (5, (0, (m (E.2 x0 48) v4_49))), (0, (2, x0)), (1, (0, x1)), (2, (0, x2))]) dX12_mayGo_134 rfl o39 (by decide) rfl ?_
              refine zb_goto (tgt := 49) dX12_mayGo_137 (by decide) ?_
              refine zb_sub (L' := [(0, (2, x0)), (1, (0, x1)), (2, (0, x2)), (3, (0, 0)), (4, (0, (v4_49 + 1)))]) [3, 4, 5, 1, 0] rfl ?_
              exact (hX49 _ _).mp h hF
            · have h := h.1 c38
              refine zb_iconst dX12_mayGo_128 (zb_inIc rfl) ?_
              refine zb_goto (tgt := 133) dX12_mayGo_129 (by decide) ?_
              refine zb_istore_n (L' := [(3, (0, 1)), (5, (0, (m (E.2 x0 48) v4_49))), (0, (2, x0)), (1, (0, x1)), (2, (0, x2)), (4, (0, v4_49))]) dX12_mayGo_133 rfl (by decide) rfl ?_
              obtain ⟨o40, h⟩ := h
              refine zb_iinc (j := 5) (L' := [(4, (0, (v4_49 + 1))), (3, (0, 1)), (5, (0, (m (E.2 x0 48) v4_49))), (0, (2, x0)), (1, (0, x1)), (2, (0, x2))]) dX12_mayGo_134 rfl o40 (by decide) rfl ?_
              refine zb_goto (tgt := 49) dX12_mayGo_137 (by decide) ?_
              refine zb_sub (L' := [(0, (2, x0)), (1, (0, x1)), (2, (0, x2)), (3, (0, 1)), (4, (0, (v4_49 + 1)))]) [3, 4, 5, 1, 0] rfl ?_
              exact (hX49 _ _).mp h hF
  have hJ44 : zb_FIN E m → PJ_X12_mayGo_44 d E x0 x1 x2 m Q  → zb_WP (G, C, d + 1, 0, 0, zb_q E (fun r m' => m' = m ∧ Q r)) F_X12_mayGo 44 [(0, (2, x0)), (1, (0, x1)), (2, (0, x2))] [] E.1 m 0 0 := by
    intro  hF h
    unfold PJ_X12_mayGo_44 at h
    refine zb_iconst dX12_mayGo_44 (zb_inIc rfl) ?_
    exact hJ45 _ hF h
  refine zb_icmp_ne (tgt := 44) dX12_mayGo_12 (by decide) (fun c41 => ?_) (fun c41 => ?_)
  · have h := h.2 c41
    exact hJ44 hF h
  · have h := h.1 c41
    refine zb_aload_n (j := 0) dX12_mayGo_15 rfl rfl ?_
    refine zb_gFa 18 dX12_mayGo_16 fl_X12_58 i_0 hW hF rfl rfl rfl (by decide) rfl 144 rfl (fun i42 l43 => ?_)
    refine zb_bipush dX12_mayGo_19 (by decide) (zb_inIc rfl) ?_
    refine zb_iload_n (j := 1) dX12_mayGo_21 rfl rfl ?_
    obtain ⟨o44, h⟩ := h
    refine zb_imul dX12_mayGo_22 o44 ?_
    refine zb_iload_n (j := 1) dX12_mayGo_23 rfl rfl ?_
    obtain ⟨o45, h⟩ := h
    refine zb_iadd dX12_mayGo_24 o45 ?_
    obtain ⟨o46, h⟩ := h
    refine zb_lI dX12_mayGo_25 i42 l43 o46.1 o46.2 ?_
    refine zb_aload_n (j := 0) dX12_mayGo_26 rfl rfl ?_
    refine zb_gFa 18 dX12_mayGo_27 fl_X12_58 i_0 hW hF rfl rfl rfl (by decide) rfl 144 rfl (fun i47 l48 => ?_)
    refine zb_bipush dX12_mayGo_30 (by decide) (zb_inIc rfl) ?_
    refine zb_iload_n (j := 2) dX12_mayGo_32 rfl rfl ?_
    obtain ⟨o49, h⟩ := h
    refine zb_imul dX12_mayGo_33 o49 ?_
    refine zb_iload_n (j := 2) dX12_mayGo_34 rfl rfl ?_
    obtain ⟨o50, h⟩ := h
    refine zb_iadd dX12_mayGo_35 o50 ?_
    obtain ⟨o51, h⟩ := h
    refine zb_lI dX12_mayGo_36 i47 l48 o51.1 o51.2 ?_
    refine zb_icmp_ne (tgt := 44) dX12_mayGo_37 (by decide) (fun c52 => ?_) (fun c52 => ?_)
    · have h := h.2 c52
      exact hJ44 hF h
    · have h := h.1 c52
      refine zb_iconst dX12_mayGo_40 (zb_inIc rfl) ?_
      refine zb_goto (tgt := 45) dX12_mayGo_41 (by decide) ?_
      exact hJ45 _ hF h
theorem dX12_find_0 : decode cX12_find 0 = .ok (.iconst 0, 1) := by decide +kernel
theorem dX12_find_1 : decode cX12_find 1 = .ok (.istore 4, 2) := by decide +kernel
theorem dX12_find_3 : decode cX12_find 3 = .ok (.aload_n 0, 1) := by decide +kernel
theorem dX12_find_4 : decode cX12_find 4 = .ok (.getfield 124, 3) := by decide +kernel
theorem dX12_find_7 : decode cX12_find 7 = .ok (.iconst 0, 1) := by decide +kernel
theorem dX12_find_8 : decode cX12_find 8 = .ok (.iconst (-1), 1) := by decide +kernel
theorem dX12_find_9 : decode cX12_find 9 = .ok (.iastore, 1) := by decide +kernel
theorem dX12_find_10 : decode cX12_find 10 = .ok (.iload 4, 2) := by decide +kernel
theorem dX12_find_12 : decode cX12_find 12 = .ok (.ifCond .lt 167, 3) := by decide +kernel
theorem dX12_find_15 : decode cX12_find 15 = .ok (.iload 4, 2) := by decide +kernel
theorem dX12_find_17 : decode cX12_find 17 = .ok (.aload_n 0, 1) := by decide +kernel
theorem dX12_find_18 : decode cX12_find 18 = .ok (.getfield 175, 3) := by decide +kernel
theorem dX12_find_21 : decode cX12_find 21 = .ok (.if_icmp .ge 158, 3) := by decide +kernel
theorem dX12_find_24 : decode cX12_find 24 = .ok (.aload_n 0, 1) := by decide +kernel
theorem dX12_find_25 : decode cX12_find 25 = .ok (.getfield 124, 3) := by decide +kernel
theorem dX12_find_28 : decode cX12_find 28 = .ok (.iload 4, 2) := by decide +kernel
theorem dX12_find_30 : decode cX12_find 30 = .ok (.iaload, 1) := by decide +kernel
theorem dX12_find_31 : decode cX12_find 31 = .ok (.iconst 1, 1) := by decide +kernel
theorem dX12_find_32 : decode cX12_find 32 = .ok (.iadd, 1) := by decide +kernel
theorem dX12_find_33 : decode cX12_find 33 = .ok (.istore 5, 2) := by decide +kernel
theorem dX12_find_35 : decode cX12_find 35 = .ok (.iload 4, 2) := by decide +kernel
theorem dX12_find_37 : decode cX12_find 37 = .ok (.iload_n 1, 1) := by decide +kernel
theorem dX12_find_38 : decode cX12_find 38 = .ok (.if_icmp .lt 9, 3) := by decide +kernel
theorem dX12_find_41 : decode cX12_find 41 = .ok (.iload 4, 2) := by decide +kernel
theorem dX12_find_43 : decode cX12_find 43 = .ok (.iload_n 2, 1) := by decide +kernel
theorem dX12_find_44 : decode cX12_find 44 = .ok (.if_icmp .ne 7, 3) := by decide +kernel
theorem dX12_find_47 : decode cX12_find 47 = .ok (.iconst 1, 1) := by decide +kernel
theorem dX12_find_48 : decode cX12_find 48 = .ok (.goto 4, 3) := by decide +kernel
theorem dX12_find_51 : decode cX12_find 51 = .ok (.iconst 0, 1) := by decide +kernel
theorem dX12_find_52 : decode cX12_find 52 = .ok (.istore 6, 2) := by decide +kernel
theorem dX12_find_54 : decode cX12_find 54 = .ok (.iload 4, 2) := by decide +kernel
theorem dX12_find_56 : decode cX12_find 56 = .ok (.iload_n 1, 1) := by decide +kernel
theorem dX12_find_57 : decode cX12_find 57 = .ok (.if_icmp .ge 8, 3) := by decide +kernel
theorem dX12_find_60 : decode cX12_find 60 = .ok (.iload 4, 2) := by decide +kernel
theorem dX12_find_62 : decode cX12_find 62 = .ok (.goto 4, 3) := by decide +kernel
theorem dX12_find_65 : decode cX12_find 65 = .ok (.iload_n 3, 1) := by decide +kernel
theorem dX12_find_66 : decode cX12_find 66 = .ok (.istore 7, 2) := by decide +kernel
theorem dX12_find_68 : decode cX12_find 68 = .ok (.iload 6, 2) := by decide +kernel
theorem dX12_find_70 : decode cX12_find 70 = .ok (.ifCond .eq 21, 3) := by decide +kernel
theorem dX12_find_73 : decode cX12_find 73 = .ok (.iload 5, 2) := by decide +kernel
theorem dX12_find_75 : decode cX12_find 75 = .ok (.iload 7, 2) := by decide +kernel
theorem dX12_find_77 : decode cX12_find 77 = .ok (.if_icmp .gt 8, 3) := by decide +kernel
theorem dX12_find_80 : decode cX12_find 80 = .ok (.iload 7, 2) := by decide +kernel
theorem dX12_find_82 : decode cX12_find 82 = .ok (.goto 7, 3) := by decide +kernel
theorem dX12_find_85 : decode cX12_find 85 = .ok (.aload_n 0, 1) := by decide +kernel
theorem dX12_find_86 : decode cX12_find 86 = .ok (.getfield 175, 3) := by decide +kernel
theorem dX12_find_89 : decode cX12_find 89 = .ok (.istore 5, 2) := by decide +kernel
theorem dX12_find_91 : decode cX12_find 91 = .ok (.iload 5, 2) := by decide +kernel
theorem dX12_find_93 : decode cX12_find 93 = .ok (.aload_n 0, 1) := by decide +kernel
theorem dX12_find_94 : decode cX12_find 94 = .ok (.getfield 175, 3) := by decide +kernel
theorem dX12_find_97 : decode cX12_find 97 = .ok (.if_icmp .ge 35, 3) := by decide +kernel
theorem dX12_find_100 : decode cX12_find 100 = .ok (.aload_n 0, 1) := by decide +kernel
theorem dX12_find_101 : decode cX12_find 101 = .ok (.iload 4, 2) := by decide +kernel
theorem dX12_find_103 : decode cX12_find 103 = .ok (.iload 5, 2) := by decide +kernel
theorem dX12_find_105 : decode cX12_find 105 = .ok (.invokevirtual 270, 3) := by decide +kernel
theorem dX12_find_108 : decode cX12_find 108 = .ok (.ifCond .ne 24, 3) := by decide +kernel
theorem dX12_find_111 : decode cX12_find 111 = .ok (.iload 6, 2) := by decide +kernel
theorem dX12_find_113 : decode cX12_find 113 = .ok (.ifCond .eq 10, 3) := by decide +kernel
theorem dX12_find_116 : decode cX12_find 116 = .ok (.aload_n 0, 1) := by decide +kernel
theorem dX12_find_117 : decode cX12_find 117 = .ok (.getfield 175, 3) := by decide +kernel
theorem dX12_find_120 : decode cX12_find 120 = .ok (.goto 7, 3) := by decide +kernel
theorem dX12_find_123 : decode cX12_find 123 = .ok (.iload 5, 2) := by decide +kernel
theorem dX12_find_125 : decode cX12_find 125 = .ok (.iconst 1, 1) := by decide +kernel
theorem dX12_find_126 : decode cX12_find 126 = .ok (.iadd, 1) := by decide +kernel
theorem dX12_find_127 : decode cX12_find 127 = .ok (.istore 5, 2) := by decide +kernel
theorem dX12_find_129 : decode cX12_find 129 = .ok (.goto (-38), 3) := by decide +kernel
theorem dX12_find_132 : decode cX12_find 132 = .ok (.iload 5, 2) := by decide +kernel
theorem dX12_find_134 : decode cX12_find 134 = .ok (.aload_n 0, 1) := by decide +kernel
theorem dX12_find_135 : decode cX12_find 135 = .ok (.getfield 175, 3) := by decide +kernel
theorem dX12_find_138 : decode cX12_find 138 = .ok (.if_icmp .lt 9, 3) := by decide +kernel
theorem dX12_find_141 : decode cX12_find 141 = .ok (.iinc 4 (-1), 3) := by decide +kernel
theorem dX12_find_144 : decode cX12_find 144 = .ok (.goto 32, 3) := by decide +kernel
theorem dX12_find_147 : decode cX12_find 147 = .ok (.aload_n 0, 1) := by decide +kernel
theorem dX12_find_148 : decode cX12_find 148 = .ok (.getfield 124, 3) := by decide +kernel
theorem dX12_find_151 : decode cX12_find 151 = .ok (.iload 4, 2) := by decide +kernel
theorem dX12_find_153 : decode cX12_find 153 = .ok (.iload 5, 2) := by decide +kernel
theorem dX12_find_155 : decode cX12_find 155 = .ok (.iastore, 1) := by decide +kernel
theorem dX12_find_156 : decode cX12_find 156 = .ok (.iinc 4 1, 3) := by decide +kernel
theorem dX12_find_159 : decode cX12_find 159 = .ok (.iload 4, 2) := by decide +kernel
theorem dX12_find_161 : decode cX12_find 161 = .ok (.aload_n 0, 1) := by decide +kernel
theorem dX12_find_162 : decode cX12_find 162 = .ok (.getfield 175, 3) := by decide +kernel
theorem dX12_find_165 : decode cX12_find 165 = .ok (.if_icmp .ge 11, 3) := by decide +kernel
theorem dX12_find_168 : decode cX12_find 168 = .ok (.aload_n 0, 1) := by decide +kernel
theorem dX12_find_169 : decode cX12_find 169 = .ok (.getfield 124, 3) := by decide +kernel
theorem dX12_find_172 : decode cX12_find 172 = .ok (.iload 4, 2) := by decide +kernel
theorem dX12_find_174 : decode cX12_find 174 = .ok (.iconst (-1), 1) := by decide +kernel
theorem dX12_find_175 : decode cX12_find 175 = .ok (.iastore, 1) := by decide +kernel
theorem dX12_find_176 : decode cX12_find 176 = .ok (.goto (-166), 3) := by decide +kernel
theorem dX12_find_179 : decode cX12_find 179 = .ok (.iload 4, 2) := by decide +kernel
theorem dX12_find_181 : decode cX12_find 181 = .ok (.aload_n 0, 1) := by decide +kernel
theorem dX12_find_182 : decode cX12_find 182 = .ok (.getfield 175, 3) := by decide +kernel
theorem dX12_find_185 : decode cX12_find 185 = .ok (.if_icmp .ne 7, 3) := by decide +kernel
theorem dX12_find_188 : decode cX12_find 188 = .ok (.iconst 1, 1) := by decide +kernel
theorem dX12_find_189 : decode cX12_find 189 = .ok (.goto 4, 3) := by decide +kernel
theorem dX12_find_192 : decode cX12_find 192 = .ok (.iconst 0, 1) := by decide +kernel
theorem dX12_find_193 : decode cX12_find 193 = .ok (.ireturn, 1) := by decide +kernel
def PJ_X12_find_179 (d : Nat) (E : zb_E) (x0 : Int) (Q : Int → zb_M → Prop) (v4_179 : Int) (m179j : zb_M) : Prop :=
  (v4_179 = (m179j x0 15) → Q 1 m179j) ∧ (¬ v4_179 = (m179j x0 15) → Q 0 m179j)
def PJ_X12_find_132 (d : Nat) (E : zb_E) (x0 : Int) (v4_10 : Int) (m10l : zb_M) (X10 : Int → zb_M → Prop) (Q : Int → zb_M → Prop) (v5_132 : Int) : Prop :=
  (v5_132 < (m10l x0 15) → ∀ m155, m155 = zb_up m10l (E.2 x0 48) v4_10 v5_132 → ((zb_inI (v4_10 + 1)) ∧ (((m155 x0 15) ≤ (v4_10 + 1) → X10 (v4_10 + 1) m155) ∧ (¬ (m155 x0 15) ≤ (v4_10 + 1) → (0 ≤ (v4_10 + 1) ∧ (v4_10 + 1) < 12) ∧ (∀ m175, m175 = zb_up m155 (E.2 x0 48) (v4_10 + 1) (-1) → (X10 (v4_10 + 1) m175)))))) ∧ (¬ v5_132 < (m10l x0 15) → (zb_inI (v4_10 + (-1))) ∧ (X10 (v4_10 + (-1)) m10l))
def PL_X12_find_91 (d : Nat) (E : zb_E) (x0 : Int) (v4_10 : Int) (m10l : zb_M) (s0_52 : Int) (Q : Int → zb_M → Prop) (K132_91 : Int → Prop) (v5_91 : Int) : Prop :=
  ∀ X91 : Int → Prop, (∀ (v5_91 : Int), (((m10l x0 15) ≤ v5_91 → K132_91 v5_91) ∧ (¬ (m10l x0 15) ≤ v5_91 → zb_Tp K_X12_mayGo d [(2, x0), (0, v4_10), (0, v5_91)] E m10l (fun r105 => (r105 = 0 → (s0_52 = 0 → (zb_inI (v5_91 + 1)) ∧ (X91 (v5_91 + 1))) ∧ (¬ s0_52 = 0 → X91 (m10l x0 15))) ∧ (¬ r105 = 0 → K132_91 v5_91)))) → X91 v5_91) → X91 v5_91
def PJ_X12_find_91 (d : Nat) (E : zb_E) (x0 : Int) (v4_10 : Int) (m10l : zb_M) (s0_52 : Int) (X10 : Int → zb_M → Prop) (Q : Int → zb_M → Prop) (v5_91 : Int) : Prop :=
  PL_X12_find_91 d E x0 v4_10 m10l s0_52 Q (PJ_X12_find_132 d E x0 v4_10 m10l X10 Q) v5_91
def PJ_X12_find_89 (d : Nat) (E : zb_E) (x0 : Int) (v4_10 : Int) (m10l : zb_M) (s0_52 : Int) (X10 : Int → zb_M → Prop) (Q : Int → zb_M → Prop) (s0_89 : Int) : Prop :=
  PJ_X12_find_91 d E x0 v4_10 m10l s0_52 X10 Q s0_89
def PJ_X12_find_66 (d : Nat) (E : zb_E) (x0 : Int) (v4_10 : Int) (m10l : zb_M) (s0_52 : Int) (X10 : Int → zb_M → Prop) (Q : Int → zb_M → Prop) (s0_66 : Int) : Prop :=
  (s0_52 = 0 → PJ_X12_find_91 d E x0 v4_10 m10l s0_52 X10 Q ((m10l (E.2 x0 48) v4_10) + 1)) ∧ (¬ s0_52 = 0 → (s0_66 < ((m10l (E.2 x0 48) v4_10) + 1) → PJ_X12_find_89 d E x0 v4_10 m10l s0_52 X10 Q (m10l x0 15)) ∧ (¬ s0_66 < ((m10l (E.2 x0 48) v4_10) + 1) → PJ_X12_find_89 d E x0 v4_10 m10l s0_52 X10 Q s0_66))
def PJ_X12_find_52 (d : Nat) (E : zb_E) (x0 : Int) (x1 : Int) (x3 : Int) (v4_10 : Int) (m10l : zb_M) (X10 : Int → zb_M → Prop) (Q : Int → zb_M → Prop) (s0_52 : Int) : Prop :=
  (x1 ≤ v4_10 → PJ_X12_find_66 d E x0 v4_10 m10l s0_52 X10 Q x3) ∧ (¬ x1 ≤ v4_10 → PJ_X12_find_66 d E x0 v4_10 m10l s0_52 X10 Q v4_10)
def PJ_X12_find_47 (d : Nat) (E : zb_E) (x0 : Int) (x1 : Int) (x3 : Int) (v4_10 : Int) (m10l : zb_M) (X10 : Int → zb_M → Prop) (Q : Int → zb_M → Prop)  : Prop :=
  PJ_X12_find_52 d E x0 x1 x3 v4_10 m10l X10 Q 1
def PL_X12_find_10 (d : Nat) (E : zb_E) (x0 : Int) (x1 : Int) (x2 : Int) (x3 : Int) (Q : Int → zb_M → Prop) (K179_10 : Int → zb_M → Prop) (v4_10 : Int) (m10l : zb_M) : Prop :=
  ∀ X10 : Int → zb_M → Prop, (∀ (v4_10 : Int) (m10l : zb_M), ((v4_10 < 0 → K179_10 v4_10 m10l) ∧ (¬ v4_10 < 0 → ((m10l x0 15) ≤ v4_10 → K179_10 v4_10 m10l) ∧ (¬ (m10l x0 15) ≤ v4_10 → (0 ≤ v4_10 ∧ v4_10 < 12) ∧ ((zb_inI ((m10l (E.2 x0 48) v4_10) + 1)) ∧ ((v4_10 < x1 → PJ_X12_find_47 d E x0 x1 x3 v4_10 m10l X10 Q) ∧ (¬ v4_10 < x1 → (v4_10 = x2 → PJ_X12_find_47 d E x0 x1 x3 v4_10 m10l X10 Q) ∧ (¬ v4_10 = x2 → PJ_X12_find_52 d E x0 x1 x3 v4_10 m10l X10 Q 0))))))) → X10 v4_10 m10l) → X10 v4_10 m10l
def PM_X12_find (d : Nat) (E : zb_E) (x0 : Int) (x1 : Int) (x2 : Int) (x3 : Int) (m : zb_M) (Q : Int → zb_M → Prop) : Prop :=
  ∀ m9, m9 = zb_up m (E.2 x0 48) 0 (-1) → (PL_X12_find_10 d E x0 x1 x2 x3 Q (PJ_X12_find_179 d E x0 Q) 0 m9)
set_option maxRecDepth 100000 in
set_option maxHeartbeats 4000000 in
theorem w_X12_find {d : Nat} {E : zb_E} {x0 x1 x2 x3 : Int} {m : zb_M} {Q : Int → zb_M → Prop} (h : PM_X12_find d E x0 x1 x2 x3 m Q) : zb_T K_X12_find (d + 1) [(2, x0), (0, x1), (0, x2), (0, x3)] E m Q := by
  unfold PM_X12_find at h
  refine zb_T_in gd_X12_find rfl rfl (fun hW hA G C hF => ?_)
  have i_0 : zb_is E.1 x0 12 := zb_aH hA (by decide)
  show zb_WP _ _ 0 [(0, (2, x0)), (1, (0, x1)), (2, (0, x2)), (3, (0, x3))] [] _ _ _ _
  refine zb_iconst dX12_find_0 (zb_inIc rfl) ?_
  refine zb_istore (L' := [(4, (0, 0)), (0, (2, x0)), (1, (0, x1)), (2, (0, x2)), (3, (0, x3))]) dX12_find_1 (by decide) rfl ?_
  refine zb_aload_n (j := 1) dX12_find_3 rfl rfl ?_
  refine zb_gFa 48 dX12_find_4 fl_X12_124 i_0 hW hF rfl rfl rfl (by decide) rfl 12 rfl (fun i1 l2 => ?_)
  refine zb_iconst dX12_find_7 (zb_inIc rfl) ?_
  refine zb_iconst dX12_find_8 (zb_inIc rfl) ?_
  refine zb_sI dX12_find_9 i1 l2 (by decide) (by decide) hF (fun m9 e9 hF => ?_)
  have h := h m9 e9
  refine zb_sub (L' := [(0, (2, x0)), (1, (0, x1)), (2, (0, x2)), (3, (0, x3)), (4, (0, 0))]) [1, 2, 3, 4, 0] rfl ?_
  have hJ179 : ∀ (v4_179 : Int) (m179j : zb_M), zb_FIN E m179j → PJ_X12_find_179 d E x0 Q v4_179 m179j → zb_WP (G, C, d + 1, 0, 0, zb_q E Q) F_X12_find 179 [(0, (2, x0)), (4, (0, v4_179))] [] E.1 m179j 0 0 := by
    intro v4_179 m179j hF h
    unfold PJ_X12_find_179 at h
    refine zb_iload (j := 1) dX12_find_179 rfl ?_
    refine zb_aload_n (j := 0) dX12_find_181 rfl rfl ?_
    refine zb_gI 15 dX12_find_182 fl_X12_175 i_0 rfl rfl ?_
    refine zb_icmp_ne (tgt := 192) dX12_find_185 (by decide) (fun c3 => ?_) (fun c3 => ?_)
    · have h := h.2 c3
      refine zb_iconst dX12_find_192 (zb_inIc rfl) ?_
      exact zb_rZ dX12_find_193 rfl hF (by decide) h
    · have h := h.1 c3
      refine zb_iconst dX12_find_188 (zb_inIc rfl) ?_
      refine zb_goto (tgt := 193) dX12_find_189 (by decide) ?_
      exact zb_rZ dX12_find_193 rfl hF (by decide) h
  unfold PL_X12_find_10 at h
  obtain ⟨X10, hX10⟩ : ∃ X : Int → zb_M → Prop, ∀ (v4_10 : Int) (m10l : zb_M), (X v4_10 m10l ↔ (zb_FIN E m10l → zb_WP (G, C, d + 1, 0, 0, zb_q E Q) F_X12_find 10 [(0, (2, x0)), (1, (0, x1)), (2, (0, x2)), (3, (0, x3)), (4, (0, v4_10))] [] E.1 m10l 0 0)) := ⟨fun v4_10 m10l => zb_FIN E m10l → zb_WP (G, C, d + 1, 0, 0, zb_q E Q) F_X12_find 10 [(0, (2, x0)), (1, (0, x1)), (2, (0, x2)), (3, (0, x3)), (4, (0, v4_10))] [] E.1 m10l 0 0, fun _ _ => Iff.rfl⟩
  refine (hX10 _ _).mp (h X10 (fun v4_10 m10l h => (hX10 _ _).mpr (fun hF => ?_))) hF
  refine zb_iload (j := 4) dX12_find_10 rfl ?_
  refine zb_if_lt (tgt := 179) dX12_find_12 (by decide) (fun c4 => ?_) (fun c4 => ?_)
  · have h := h.1 c4
    refine zb_sub (L' := [(0, (2, x0)), (4, (0, v4_10))]) [0, 4] rfl ?_
    exact hJ179 _ _ hF h
  · have h := h.2 c4
    refine zb_iload (j := 4) dX12_find_15 rfl ?_
    refine zb_aload_n (j := 0) dX12_find_17 rfl rfl ?_
    refine zb_gI 15 dX12_find_18 fl_X12_175 i_0 rfl rfl ?_
    refine zb_icmp_ge (tgt := 179) dX12_find_21 (by decide) (fun c5 => ?_) (fun c5 => ?_)
    · have h := h.1 c5
      refine zb_sub (L' := [(0, (2, x0)), (4, (0, v4_10))]) [0, 4] rfl ?_
      exact hJ179 _ _ hF h
    · have h := h.2 c5
      refine zb_aload_n (j := 0) dX12_find_24 rfl rfl ?_
      refine zb_gFa 48 dX12_find_25 fl_X12_124 i_0 hW hF rfl rfl rfl (by decide) rfl 12 rfl (fun i6 l7 => ?_)
      refine zb_iload (j := 4) dX12_find_28 rfl ?_
      obtain ⟨o8, h⟩ := h
      refine zb_lI dX12_find_30 i6 l7 o8.1 o8.2 ?_
      refine zb_iconst dX12_find_31 (zb_inIc rfl) ?_
      obtain ⟨o9, h⟩ := h
      refine zb_iadd dX12_find_32 o9 ?_
      refine zb_istore (L' := [(5, (0, ((m10l (E.2 x0 48) v4_10) + 1))), (0, (2, x0)), (1, (0, x1)), (2, (0, x2)), (3, (0, x3)), (4, (0, v4_10))]) dX12_find_33 (by decide) rfl ?_
      refine zb_iload (j := 5) dX12_find_35 rfl ?_
      refine zb_iload_n (j := 2) dX12_find_37 rfl rfl ?_
      have hJ52 : ∀ (s0_52 : Int), zb_FIN E m10l → PJ_X12_find_52 d E x0 x1 x3 v4_10 m10l X10 Q s0_52 → zb_WP (G, C, d + 1, 0, 0, zb_q E Q) F_X12_find 52 [(0, (2, x0)), (1, (0, x1)), (2, (0, x2)), (3, (0, x3)), (4, (0, v4_10)), (5, (0, ((m10l (E.2 x0 48) v4_10) + 1)))] [(0, s0_52)] E.1 m10l 0 0 := by
        intro s0_52 hF h
        unfold PJ_X12_find_52 at h
        refine zb_istore (L' := [(6, (0, s0_52)), (0, (2, x0)), (1, (0, x1)), (2, (0, x2)), (3, (0, x3)), (4, (0, v4_10)), (5, (0, ((m10l (E.2 x0 48) v4_10) + 1)))]) dX12_find_52 (by decide) rfl ?_
        refine zb_iload (j := 5) dX12_find_54 rfl ?_
        refine zb_iload_n (j := 2) dX12_find_56 rfl rfl ?_
        have hJ66 : ∀ (s0_66 : Int), zb_FIN E m10l → PJ_X12_find_66 d E x0 v4_10 m10l s0_52 X10 Q s0_66 → zb_WP (G, C, d + 1, 0, 0, zb_q E Q) F_X12_find 66 [(0, (2, x0)), (1, (0, x1)), (2, (0, x2)), (3, (0, x3)), (4, (0, v4_10)), (5, (0, ((m10l (E.2 x0 48) v4_10) + 1))), (6, (0, s0_52))] [(0, s0_66)] E.1 m10l 0 0 := by
          intro s0_66 hF h
          unfold PJ_X12_find_66 at h
          refine zb_istore (L' := [(7, (0, s0_66)), (0, (2, x0)), (1, (0, x1)), (2, (0, x2)), (3, (0, x3)), (4, (0, v4_10)), (5, (0, ((m10l (E.2 x0 48) v4_10) + 1))), (6, (0, s0_52))]) dX12_find_66 (by decide) rfl ?_
          refine zb_iload (j := 7) dX12_find_68 rfl ?_
          have hJ91 : ∀ (v5_91 : Int), zb_FIN E m10l → PJ_X12_find_91 d E x0 v4_10 m10l s0_52 X10 Q v5_91 → zb_WP (G, C, d + 1, 0, 0, zb_q E Q) F_X12_find 91 [(0, (2, x0)), (1, (0, x1)), (2, (0, x2)), (3, (0, x3)), (4, (0, v4_10)), (5, (0, v5_91)), (6, (0, s0_52))] [] E.1 m10l 0 0 := by
            intro v5_91 hF h
            unfold PJ_X12_find_91 at h
            have hJ132 : ∀ (v5_132 : Int), zb_FIN E m10l → PJ_X12_find_132 d E x0 v4_10 m10l X10 Q v5_132 → zb_WP (G, C, d + 1, 0, 0, zb_q E Q) F_X12_find 132 [(0, (2, x0)), (1, (0, x1)), (2, (0, x2)), (3, (0, x3)), (4, (0, v4_10)), (5, (0, v5_132))] [] E.1 m10l 0 0 := by
              intro v5_132 hF h
              unfold PJ_X12_find_132 at h
              refine zb_iload (j := 5) dX12_find_132 rfl ?_
              refine zb_aload_n (j := 0) dX12_find_134 rfl rfl ?_
              refine zb_gI 15 dX12_find_135 fl_X12_175 i_0 rfl rfl ?_
              refine zb_icmp_lt (tgt := 147) dX12_find_138 (by decide) (fun c10 => ?_) (fun c10 => ?_)
              · have h := h.1 c10
                refine zb_aload_n (j := 0) dX12_find_147 rfl rfl ?_
                refine zb_gFa 48 dX12_find_148 fl_X12_124 i_0 hW hF rfl rfl rfl (by decide) rfl 12 rfl (fun i11 l12 => ?_)
                refine zb_iload (j := 4) dX12_find_151 rfl ?_
                refine zb_iload (j := 5) dX12_find_153 rfl ?_
                refine zb_sI dX12_find_155 i11 l12 o8.1 o8.2 hF (fun m155 e155 hF => ?_)
                have h := h m155 e155
                obtain ⟨o13, h⟩ := h
                refine zb_iinc (j := 4) (L' := [(4, (0, (v4_10 + 1))), (0, (2, x0)), (1, (0, x1)), (2, (0, x2)), (3, (0, x3)), (5, (0, v5_132))]) dX12_find_156 rfl o13 (by decide) rfl ?_
                refine zb_iload (j := 0) dX12_find_159 rfl ?_
                refine zb_aload_n (j := 1) dX12_find_161 rfl rfl ?_
                refine zb_gI 15 dX12_find_162 fl_X12_175 i_0 rfl rfl ?_
                refine zb_icmp_ge (tgt := 176) dX12_find_165 (by decide) (fun c14 => ?_) (fun c14 => ?_)
                · have h := h.1 c14
                  refine zb_goto (tgt := 10) dX12_find_176 (by decide) ?_
                  refine zb_sub (L' := [(0, (2, x0)), (1, (0, x1)), (2, (0, x2)), (3, (0, x3)), (4, (0, (v4_10 + 1)))]) [1, 2, 3, 4, 0] rfl ?_
                  exact (hX10 _ _).mp h hF
                · have h := h.2 c14
                  refine zb_aload_n (j := 1) dX12_find_168 rfl rfl ?_
                  refine zb_gFa 48 dX12_find_169 fl_X12_124 i_0 hW hF rfl rfl rfl (by decide) rfl 12 rfl (fun i15 l16 => ?_)
                  refine zb_iload (j := 0) dX12_find_172 rfl ?_
                  refine zb_iconst dX12_find_174 (zb_inIc rfl) ?_
                  obtain ⟨o17, h⟩ := h
                  refine zb_sI dX12_find_175 i15 l16 o17.1 o17.2 hF (fun m175 e175 hF => ?_)
                  have h := h m175 e175
                  refine zb_goto (tgt := 10) dX12_find_176 (by decide) ?_
                  refine zb_sub (L' := [(0, (2, x0)), (1, (0, x1)), (2, (0, x2)), (3, (0, x3)), (4, (0, (v4_10 + 1)))]) [1, 2, 3, 4, 0] rfl ?_
                  exact (hX10 _ _).mp h hF
              · have h := h.2 c10
                obtain ⟨o18, h⟩ := h
                refine zb_iinc (j := 4) (L' := [(4, (0, (v4_10 + (-1)))), (0, (2, x0)), (1, (0, x1)), (2, (0, x2)), (3, (0, x3)), (5, (0, v5_132))]) dX12_find_141 rfl o18 (by decide) rfl ?_
                refine zb_goto (tgt := 176) dX12_find_144 (by decide) ?_
                refine zb_goto (tgt := 10) dX12_find_176 (by decide) ?_
                refine zb_sub (L' := [(0, (2, x0)), (1, (0, x1)), (2, (0, x2)), (3, (0, x3)), (4, (0, (v4_10 + (-1))))]) [1, 2, 3, 4, 0] rfl ?_
                exact (hX10 _ _).mp h hF
            unfold PL_X12_find_91 at h
            obtain ⟨X91, hX91⟩ : ∃ X : Int → Prop, ∀ (v5_91 : Int), (X v5_91 ↔ (zb_FIN E m10l → zb_WP (G, C, d + 1, 0, 0, zb_q E Q) F_X12_find 91 [(0, (2, x0)), (1, (0, x1)), (2, (0, x2)), (3, (0, x3)), (4, (0, v4_10)), (5, (0, v5_91)), (6, (0, s0_52))] [] E.1 m10l 0 0)) := ⟨fun v5_91 => zb_FIN E m10l → zb_WP (G, C, d + 1, 0, 0, zb_q E Q) F_X12_find 91 [(0, (2, x0)), (1, (0, x1)), (2, (0, x2)), (3, (0, x3)), (4, (0, v4_10)), (5, (0, v5_91)), (6, (0, s0_52))] [] E.1 m10l 0 0, fun _ => Iff.rfl⟩
            refine (hX91 _).mp (h X91 (fun v5_91 h => (hX91 _).mpr (fun hF => ?_))) hF
            refine zb_iload (j := 5) dX12_find_91 rfl ?_
            refine zb_aload_n (j := 0) dX12_find_93 rfl rfl ?_
            refine zb_gI 15 dX12_find_94 fl_X12_175 i_0 rfl rfl ?_
            refine zb_icmp_ge (tgt := 132) dX12_find_97 (by decide) (fun c19 => ?_) (fun c19 => ?_)
            · have h := h.1 c19
              refine zb_sub (L' := [(0, (2, x0)), (1, (0, x1)), (2, (0, x2)), (3, (0, x3)), (4, (0, v4_10)), (5, (0, v5_91))]) [0, 1, 2, 3, 4, 5] rfl ?_
              exact hJ132 _ hF h
            · have h := h.2 c19
              refine zb_aload_n (j := 0) dX12_find_100 rfl rfl ?_
              refine zb_iload (j := 4) dX12_find_101 rfl ?_
              refine zb_iload (j := 5) dX12_find_103 rfl ?_
              refine zb_cVp (As := [(0, v4_10), (0, v5_91)]) (As' := [(0, v5_91), (0, v4_10)]) (st := []) dX12_find_105 lk_X12_270 gd_X12_mayGo rfl rfl i_0 ⟨_, rfl, rfl⟩ h hW hF (zb_aR i_0 (zb_aI (zb_aI zb_a0))) (Nat.le_refl _) (Nat.le_of_ble_eq_true rfl) (fun r105 h => ?_)
              show zb_WP _ _ _ _ [(0, r105)] _ _ _ _
              refine zb_if_ne (tgt := 132) dX12_find_108 (by decide) (fun c20 => ?_) (fun c20 => ?_)
              · have h := h.2 c20
                refine zb_sub (L' := [(0, (2, x0)), (1, (0, x1)), (2, (0, x2)), (3, (0, x3)), (4, (0, v4_10)), (5, (0, v5_91))]) [0, 1, 2, 3, 4, 5] rfl ?_
                exact hJ132 _ hF h
              · have h := h.1 c20
                refine zb_iload (j := 6) dX12_find_111 rfl ?_
                refine zb_if_eq (tgt := 123) dX12_find_113 (by decide) (fun c21 => ?_) (fun c21 => ?_)
                · have h := h.1 c21
                  refine zb_iload (j := 5) dX12_find_123 rfl ?_
                  refine zb_iconst dX12_find_125 (zb_inIc rfl) ?_
                  obtain ⟨o22, h⟩ := h
                  refine zb_iadd dX12_find_126 o22 ?_
                  refine zb_istore (L' := [(5, (0, (v5_91 + 1))), (0, (2, x0)), (1, (0, x1)), (2, (0, x2)), (3, (0, x3)), (4, (0, v4_10)), (6, (0, s0_52))]) dX12_find_127 (by decide) rfl ?_
                  refine zb_goto (tgt := 91) dX12_find_129 (by decide) ?_
                  refine zb_sub (L' := [(0, (2, x0)), (1, (0, x1)), (2, (0, x2)), (3, (0, x3)), (4, (0, v4_10)), (5, (0, (v5_91 + 1))), (6, (0, s0_52))]) [1, 2, 3, 4, 5, 0, 6] rfl ?_
                  exact (hX91 _).mp h hF
                · have h := h.2 c21
                  refine zb_aload_n (j := 0) dX12_find_116 rfl rfl ?_
                  refine zb_gI 15 dX12_find_117 fl_X12_175 i_0 rfl rfl ?_
                  refine zb_goto (tgt := 127) dX12_find_120 (by decide) ?_
                  refine zb_istore (L' := [(5, (0, (m10l x0 15))), (0, (2, x0)), (1, (0, x1)), (2, (0, x2)), (3, (0, x3)), (4, (0, v4_10)), (6, (0, s0_52))]) dX12_find_127 (by decide) rfl ?_
                  refine zb_goto (tgt := 91) dX12_find_129 (by decide) ?_
                  refine zb_sub (L' := [(0, (2, x0)), (1, (0, x1)), (2, (0, x2)), (3, (0, x3)), (4, (0, v4_10)), (5, (0, (m10l x0 15))), (6, (0, s0_52))]) [1, 2, 3, 4, 5, 0, 6] rfl ?_
                  exact (hX91 _).mp h hF
          refine zb_if_eq (tgt := 91) dX12_find_70 (by decide) (fun c23 => ?_) (fun c23 => ?_)
          · have h := h.1 c23
            refine zb_sub (L' := [(0, (2, x0)), (1, (0, x1)), (2, (0, x2)), (3, (0, x3)), (4, (0, v4_10)), (5, (0, ((m10l (E.2 x0 48) v4_10) + 1))), (6, (0, s0_52))]) [1, 2, 3, 4, 5, 6, 7] rfl ?_
            exact hJ91 _ hF h
          · have h := h.2 c23
            refine zb_iload (j := 6) dX12_find_73 rfl ?_
            refine zb_iload (j := 0) dX12_find_75 rfl ?_
            have hJ89 : ∀ (s0_89 : Int), zb_FIN E m10l → PJ_X12_find_89 d E x0 v4_10 m10l s0_52 X10 Q s0_89 → zb_WP (G, C, d + 1, 0, 0, zb_q E Q) F_X12_find 89 [(0, (2, x0)), (1, (0, x1)), (2, (0, x2)), (3, (0, x3)), (4, (0, v4_10)), (6, (0, s0_52))] [(0, s0_89)] E.1 m10l 0 0 := by
              intro s0_89 hF h
              unfold PJ_X12_find_89 at h
              refine zb_istore (L' := [(5, (0, s0_89)), (0, (2, x0)), (1, (0, x1)), (2, (0, x2)), (3, (0, x3)), (4, (0, v4_10)), (6, (0, s0_52))]) dX12_find_89 (by decide) rfl ?_
              refine zb_sub (L' := [(0, (2, x0)), (1, (0, x1)), (2, (0, x2)), (3, (0, x3)), (4, (0, v4_10)), (5, (0, s0_89)), (6, (0, s0_52))]) [1, 2, 3, 4, 5, 0, 6] rfl ?_
              exact hJ91 _ hF h
            refine zb_icmp_gt (tgt := 85) dX12_find_77 (by decide) (fun c24 => ?_) (fun c24 => ?_)
            · have h := h.1 c24
              refine zb_aload_n (j := 1) dX12_find_85 rfl rfl ?_
              refine zb_gI 15 dX12_find_86 fl_X12_175 i_0 rfl rfl ?_
              refine zb_sub (L' := [(0, (2, x0)), (1, (0, x1)), (2, (0, x2)), (3, (0, x3)), (4, (0, v4_10)), (6, (0, s0_52))]) [1, 2, 3, 4, 5, 7] rfl ?_
              exact hJ89 _ hF h
            · have h := h.2 c24
              refine zb_iload (j := 0) dX12_find_80 rfl ?_
              refine zb_goto (tgt := 89) dX12_find_82 (by decide) ?_
              refine zb_sub (L' := [(0, (2, x0)), (1, (0, x1)), (2, (0, x2)), (3, (0, x3)), (4, (0, v4_10)), (6, (0, s0_52))]) [1, 2, 3, 4, 5, 7] rfl ?_
              exact hJ89 _ hF h
        refine zb_icmp_ge (tgt := 65) dX12_find_57 (by decide) (fun c25 => ?_) (fun c25 => ?_)
        · have h := h.1 c25
          refine zb_iload_n (j := 4) dX12_find_65 rfl rfl ?_
          refine zb_sub (L' := [(0, (2, x0)), (1, (0, x1)), (2, (0, x2)), (3, (0, x3)), (4, (0, v4_10)), (5, (0, ((m10l (E.2 x0 48) v4_10) + 1))), (6, (0, s0_52))]) [1, 2, 3, 4, 5, 6, 0] rfl ?_
          exact hJ66 _ hF h
        · have h := h.2 c25
          refine zb_iload (j := 5) dX12_find_60 rfl ?_
          refine zb_goto (tgt := 66) dX12_find_62 (by decide) ?_
          refine zb_sub (L' := [(0, (2, x0)), (1, (0, x1)), (2, (0, x2)), (3, (0, x3)), (4, (0, v4_10)), (5, (0, ((m10l (E.2 x0 48) v4_10) + 1))), (6, (0, s0_52))]) [1, 2, 3, 4, 5, 6, 0] rfl ?_
          exact hJ66 _ hF h
      have hJ47 : zb_FIN E m10l → PJ_X12_find_47 d E x0 x1 x3 v4_10 m10l X10 Q  → zb_WP (G, C, d + 1, 0, 0, zb_q E Q) F_X12_find 47 [(0, (2, x0)), (1, (0, x1)), (2, (0, x2)), (3, (0, x3)), (4, (0, v4_10)), (5, (0, ((m10l (E.2 x0 48) v4_10) + 1)))] [] E.1 m10l 0 0 := by
        intro  hF h
        unfold PJ_X12_find_47 at h
        refine zb_iconst dX12_find_47 (zb_inIc rfl) ?_
        refine zb_goto (tgt := 52) dX12_find_48 (by decide) ?_
        exact hJ52 _ hF h
      refine zb_icmp_lt (tgt := 47) dX12_find_38 (by decide) (fun c26 => ?_) (fun c26 => ?_)
      · have h := h.1 c26
        refine zb_sub (L' := [(0, (2, x0)), (1, (0, x1)), (2, (0, x2)), (3, (0, x3)), (4, (0, v4_10)), (5, (0, ((m10l (E.2 x0 48) v4_10) + 1)))]) [1, 2, 3, 4, 5, 0] rfl ?_
        exact hJ47 hF h
      · have h := h.2 c26
        refine zb_iload (j := 5) dX12_find_41 rfl ?_
        refine zb_iload_n (j := 3) dX12_find_43 rfl rfl ?_
        refine zb_icmp_ne (tgt := 51) dX12_find_44 (by decide) (fun c27 => ?_) (fun c27 => ?_)
        · have h := h.2 c27
          refine zb_iconst dX12_find_51 (zb_inIc rfl) ?_
          refine zb_sub (L' := [(0, (2, x0)), (1, (0, x1)), (2, (0, x2)), (3, (0, x3)), (4, (0, v4_10)), (5, (0, ((m10l (E.2 x0 48) v4_10) + 1)))]) [1, 2, 3, 4, 5, 0] rfl ?_
          exact hJ52 _ hF h
        · have h := h.1 c27
          refine zb_sub (L' := [(0, (2, x0)), (1, (0, x1)), (2, (0, x2)), (3, (0, x3)), (4, (0, v4_10)), (5, (0, ((m10l (E.2 x0 48) v4_10) + 1)))]) [1, 2, 3, 4, 5, 0] rfl ?_
          exact hJ47 hF h
theorem dX12_chainOf_0 : decode cX12_chainOf 0 = .ok (.iconst 0, 1) := by decide +kernel
theorem dX12_chainOf_1 : decode cX12_chainOf 1 = .ok (.istore_n 2, 1) := by decide +kernel
theorem dX12_chainOf_2 : decode cX12_chainOf 2 = .ok (.iload_n 1, 1) := by decide +kernel
theorem dX12_chainOf_3 : decode cX12_chainOf 3 = .ok (.istore_n 3, 1) := by decide +kernel
theorem dX12_chainOf_4 : decode cX12_chainOf 4 = .ok (.iload_n 3, 1) := by decide +kernel
theorem dX12_chainOf_5 : decode cX12_chainOf 5 = .ok (.aload_n 0, 1) := by decide +kernel
theorem dX12_chainOf_6 : decode cX12_chainOf 6 = .ok (.getfield 175, 3) := by decide +kernel
theorem dX12_chainOf_9 : decode cX12_chainOf 9 = .ok (.if_icmp .ge 27, 3) := by decide +kernel
theorem dX12_chainOf_12 : decode cX12_chainOf 12 = .ok (.iload_n 2, 1) := by decide +kernel
theorem dX12_chainOf_13 : decode cX12_chainOf 13 = .ok (.aload_n 0, 1) := by decide +kernel
theorem dX12_chainOf_14 : decode cX12_chainOf 14 = .ok (.iload_n 1, 1) := by decide +kernel
theorem dX12_chainOf_15 : decode cX12_chainOf 15 = .ok (.iload_n 1, 1) := by decide +kernel
theorem dX12_chainOf_16 : decode cX12_chainOf 16 = .ok (.iload_n 3, 1) := by decide +kernel
theorem dX12_chainOf_17 : decode cX12_chainOf 17 = .ok (.invokevirtual 273, 3) := by decide +kernel
theorem dX12_chainOf_20 : decode cX12_chainOf 20 = .ok (.ifCond .eq 7, 3) := by decide +kernel
theorem dX12_chainOf_23 : decode cX12_chainOf 23 = .ok (.iconst 1, 1) := by decide +kernel
theorem dX12_chainOf_24 : decode cX12_chainOf 24 = .ok (.goto 4, 3) := by decide +kernel
theorem dX12_chainOf_27 : decode cX12_chainOf 27 = .ok (.iconst 0, 1) := by decide +kernel
theorem dX12_chainOf_28 : decode cX12_chainOf 28 = .ok (.iadd, 1) := by decide +kernel
theorem dX12_chainOf_29 : decode cX12_chainOf 29 = .ok (.istore_n 2, 1) := by decide +kernel
theorem dX12_chainOf_30 : decode cX12_chainOf 30 = .ok (.iinc 3 1, 3) := by decide +kernel
theorem dX12_chainOf_33 : decode cX12_chainOf 33 = .ok (.goto (-29), 3) := by decide +kernel
theorem dX12_chainOf_36 : decode cX12_chainOf 36 = .ok (.iload_n 2, 1) := by decide +kernel
theorem dX12_chainOf_37 : decode cX12_chainOf 37 = .ok (.ireturn, 1) := by decide +kernel
def PL_X12_chainOf_4 (d : Nat) (E : zb_E) (x0 : Int) (x1 : Int) (Q : Int → zb_M → Prop)  (v2_4 : Int) (v3_4 : Int) (m4l : zb_M) : Prop :=
  ∀ X4 : Int → Int → zb_M → Prop, (∀ (v2_4 : Int) (v3_4 : Int) (m4l : zb_M), (((m4l x0 15) ≤ v3_4 → Q v2_4 m4l) ∧ (¬ (m4l x0 15) ≤ v3_4 → zb_T K_X12_find d [(2, x0), (0, x1), (0, x1), (0, v3_4)] E m4l (fun r17 m17 => (r17 = 0 → (zb_inI (v2_4 + 0)) ∧ ((zb_inI (v3_4 + 1)) ∧ (X4 (v2_4 + 0) (v3_4 + 1) m17))) ∧ (¬ r17 = 0 → (zb_inI (v2_4 + 1)) ∧ ((zb_inI (v3_4 + 1)) ∧ (X4 (v2_4 + 1) (v3_4 + 1) m17)))))) → X4 v2_4 v3_4 m4l) → X4 v2_4 v3_4 m4l
def PM_X12_chainOf (d : Nat) (E : zb_E) (x0 : Int) (x1 : Int) (m : zb_M) (Q : Int → zb_M → Prop) : Prop :=
  PL_X12_chainOf_4 d E x0 x1 Q 0 x1 m
set_option maxRecDepth 100000 in
set_option maxHeartbeats 4000000 in
theorem w_X12_chainOf {d : Nat} {E : zb_E} {x0 x1 : Int} {m : zb_M} {Q : Int → zb_M → Prop} (h : PM_X12_chainOf d E x0 x1 m Q) : zb_T K_X12_chainOf (d + 1) [(2, x0), (0, x1)] E m Q := by
  unfold PM_X12_chainOf at h
  refine zb_T_in gd_X12_chainOf rfl rfl (fun hW hA G C hF => ?_)
  have i_0 : zb_is E.1 x0 12 := zb_aH hA (by decide)
  show zb_WP _ _ 0 [(0, (2, x0)), (1, (0, x1))] [] _ _ _ _
  refine zb_iconst dX12_chainOf_0 (zb_inIc rfl) ?_
  refine zb_istore_n (L' := [(2, (0, 0)), (0, (2, x0)), (1, (0, x1))]) dX12_chainOf_1 rfl (by decide) rfl ?_
  refine zb_iload_n (j := 2) dX12_chainOf_2 rfl rfl ?_
  refine zb_istore_n (L' := [(3, (0, x1)), (2, (0, 0)), (0, (2, x0)), (1, (0, x1))]) dX12_chainOf_3 rfl (by decide) rfl ?_
  refine zb_sub (L' := [(0, (2, x0)), (1, (0, x1)), (2, (0, 0)), (3, (0, x1))]) [2, 3, 1, 0] rfl ?_
  unfold PL_X12_chainOf_4 at h
  obtain ⟨X4, hX4⟩ : ∃ X : Int → Int → zb_M → Prop, ∀ (v2_4 : Int) (v3_4 : Int) (m4l : zb_M), (X v2_4 v3_4 m4l ↔ (zb_FIN E m4l → zb_WP (G, C, d + 1, 0, 0, zb_q E Q) F_X12_chainOf 4 [(0, (2, x0)), (1, (0, x1)), (2, (0, v2_4)), (3, (0, v3_4))] [] E.1 m4l 0 0)) := ⟨fun v2_4 v3_4 m4l => zb_FIN E m4l → zb_WP (G, C, d + 1, 0, 0, zb_q E Q) F_X12_chainOf 4 [(0, (2, x0)), (1, (0, x1)), (2, (0, v2_4)), (3, (0, v3_4))] [] E.1 m4l 0 0, fun _ _ _ => Iff.rfl⟩
  refine (hX4 _ _ _).mp (h X4 (fun v2_4 v3_4 m4l h => (hX4 _ _ _).mpr (fun hF => ?_))) hF
  refine zb_iload_n (j := 3) dX12_chainOf_4 rfl rfl ?_
  refine zb_aload_n (j := 0) dX12_chainOf_5 rfl rfl ?_
  refine zb_gI 15 dX12_chainOf_6 fl_X12_175 i_0 rfl rfl ?_
  refine zb_icmp_ge (tgt := 36) dX12_chainOf_9 (by decide) (fun c1 => ?_) (fun c1 => ?_)
  · have h := h.1 c1
    refine zb_iload_n (j := 2) dX12_chainOf_36 rfl rfl ?_
    exact zb_rI dX12_chainOf_37 rfl hF h
  · have h := h.2 c1
    refine zb_iload_n (j := 2) dX12_chainOf_12 rfl rfl ?_
    refine zb_aload_n (j := 0) dX12_chainOf_13 rfl rfl ?_
    refine zb_iload_n (j := 1) dX12_chainOf_14 rfl rfl ?_
    refine zb_iload_n (j := 1) dX12_chainOf_15 rfl rfl ?_
    refine zb_iload_n (j := 3) dX12_chainOf_16 rfl rfl ?_
    refine zb_cV (As := [(0, x1), (0, x1), (0, v3_4)]) (As' := [(0, v3_4), (0, x1), (0, x1)]) (st := [(0, v2_4)]) dX12_chainOf_17 lk_X12_273 gd_X12_find rfl rfl i_0 ⟨_, rfl, rfl⟩ h hW hF (zb_aR i_0 (zb_aI (zb_aI (zb_aI zb_a0)))) (Nat.le_refl _) (Nat.le_of_ble_eq_true rfl) (fun r17 m17 hF h => ?_)
    show zb_WP _ _ _ _ [(0, r17), (0, v2_4)] _ _ _ _
    refine zb_if_eq (tgt := 27) dX12_chainOf_20 (by decide) (fun c2 => ?_) (fun c2 => ?_)
    · have h := h.1 c2
      refine zb_iconst dX12_chainOf_27 (zb_inIc rfl) ?_
      obtain ⟨o3, h⟩ := h
      refine zb_iadd dX12_chainOf_28 o3 ?_
      refine zb_istore_n (L' := [(2, (0, (v2_4 + 0))), (0, (2, x0)), (1, (0, x1)), (3, (0, v3_4))]) dX12_chainOf_29 rfl (by decide) rfl ?_
      obtain ⟨o4, h⟩ := h
      refine zb_iinc (j := 3) (L' := [(3, (0, (v3_4 + 1))), (2, (0, (v2_4 + 0))), (0, (2, x0)), (1, (0, x1))]) dX12_chainOf_30 rfl o4 (by decide) rfl ?_
      refine zb_goto (tgt := 4) dX12_chainOf_33 (by decide) ?_
      refine zb_sub (L' := [(0, (2, x0)), (1, (0, x1)), (2, (0, (v2_4 + 0))), (3, (0, (v3_4 + 1)))]) [2, 3, 1, 0] rfl ?_
      exact (hX4 _ _ _).mp h hF
    · have h := h.2 c2
      refine zb_iconst dX12_chainOf_23 (zb_inIc rfl) ?_
      refine zb_goto (tgt := 28) dX12_chainOf_24 (by decide) ?_
      obtain ⟨o5, h⟩ := h
      refine zb_iadd dX12_chainOf_28 o5 ?_
      refine zb_istore_n (L' := [(2, (0, (v2_4 + 1))), (0, (2, x0)), (1, (0, x1)), (3, (0, v3_4))]) dX12_chainOf_29 rfl (by decide) rfl ?_
      obtain ⟨o6, h⟩ := h
      refine zb_iinc (j := 3) (L' := [(3, (0, (v3_4 + 1))), (2, (0, (v2_4 + 1))), (0, (2, x0)), (1, (0, x1))]) dX12_chainOf_30 rfl o6 (by decide) rfl ?_
      refine zb_goto (tgt := 4) dX12_chainOf_33 (by decide) ?_
      refine zb_sub (L' := [(0, (2, x0)), (1, (0, x1)), (2, (0, (v2_4 + 1))), (3, (0, (v3_4 + 1)))]) [2, 3, 1, 0] rfl ?_
      exact (hX4 _ _ _).mp h hF
theorem dX12_turnings_0 : decode cX12_turnings 0 = .ok (.aload_n 0, 1) := by decide +kernel
theorem dX12_turnings_1 : decode cX12_turnings 1 = .ok (.iload_n 1, 1) := by decide +kernel
theorem dX12_turnings_2 : decode cX12_turnings 2 = .ok (.invokevirtual 137, 3) := by decide +kernel
theorem dX12_turnings_5 : decode cX12_turnings 5 = .ok (.ifCond .ne 7, 3) := by decide +kernel
theorem dX12_turnings_8 : decode cX12_turnings 8 = .ok (.ldc2_w 276, 3) := by decide +kernel
theorem dX12_turnings_11 : decode cX12_turnings 11 = .ok (.lreturn, 1) := by decide +kernel
theorem dX12_turnings_12 : decode cX12_turnings 12 = .ok (.aload_n 0, 1) := by decide +kernel
theorem dX12_turnings_13 : decode cX12_turnings 13 = .ok (.iload_n 1, 1) := by decide +kernel
theorem dX12_turnings_14 : decode cX12_turnings 14 = .ok (.invokevirtual 172, 3) := by decide +kernel
theorem dX12_turnings_17 : decode cX12_turnings 17 = .ok (.ifCond .ne 7, 3) := by decide +kernel
theorem dX12_turnings_20 : decode cX12_turnings 20 = .ok (.ldc2_w 278, 3) := by decide +kernel
theorem dX12_turnings_23 : decode cX12_turnings 23 = .ok (.lreturn, 1) := by decide +kernel
theorem dX12_turnings_24 : decode cX12_turnings 24 = .ok (.aload_n 0, 1) := by decide +kernel
theorem dX12_turnings_25 : decode cX12_turnings 25 = .ok (.iload_n 1, 1) := by decide +kernel
theorem dX12_turnings_26 : decode cX12_turnings 26 = .ok (.invokevirtual 194, 3) := by decide +kernel
theorem dX12_turnings_29 : decode cX12_turnings 29 = .ok (.lconst 1, 1) := by decide +kernel
theorem dX12_turnings_30 : decode cX12_turnings 30 = .ok (.lstore_n 2, 1) := by decide +kernel
theorem dX12_turnings_31 : decode cX12_turnings 31 = .ok (.iconst 0, 1) := by decide +kernel
theorem dX12_turnings_32 : decode cX12_turnings 32 = .ok (.istore 4, 2) := by decide +kernel
theorem dX12_turnings_34 : decode cX12_turnings 34 = .ok (.iload 4, 2) := by decide +kernel
theorem dX12_turnings_36 : decode cX12_turnings 36 = .ok (.aload_n 0, 1) := by decide +kernel
theorem dX12_turnings_37 : decode cX12_turnings 37 = .ok (.getfield 175, 3) := by decide +kernel
theorem dX12_turnings_40 : decode cX12_turnings 40 = .ok (.if_icmp .ge 19, 3) := by decide +kernel
theorem dX12_turnings_43 : decode cX12_turnings 43 = .ok (.lload_n 2, 1) := by decide +kernel
theorem dX12_turnings_44 : decode cX12_turnings 44 = .ok (.aload_n 0, 1) := by decide +kernel
theorem dX12_turnings_45 : decode cX12_turnings 45 = .ok (.iload 4, 2) := by decide +kernel
theorem dX12_turnings_47 : decode cX12_turnings 47 = .ok (.invokevirtual 280, 3) := by decide +kernel
theorem dX12_turnings_50 : decode cX12_turnings 50 = .ok (.i2l, 1) := by decide +kernel
theorem dX12_turnings_51 : decode cX12_turnings 51 = .ok (.lmul, 1) := by decide +kernel
theorem dX12_turnings_52 : decode cX12_turnings 52 = .ok (.lstore_n 2, 1) := by decide +kernel
theorem dX12_turnings_53 : decode cX12_turnings 53 = .ok (.iinc 4 1, 3) := by decide +kernel
theorem dX12_turnings_56 : decode cX12_turnings 56 = .ok (.goto (-22), 3) := by decide +kernel
theorem dX12_turnings_59 : decode cX12_turnings 59 = .ok (.lload_n 2, 1) := by decide +kernel
theorem dX12_turnings_60 : decode cX12_turnings 60 = .ok (.lreturn, 1) := by decide +kernel
def PL_X12_turnings_34 (d : Nat) (E : zb_E) (x0 : Int) (Q : Int → zb_M → Prop)  (v2_34 : Int) (v4_34 : Int) (m34l : zb_M) : Prop :=
  ∀ X34 : Int → Int → zb_M → Prop, (∀ (v2_34 : Int) (v4_34 : Int) (m34l : zb_M), (((m34l x0 15) ≤ v4_34 → Q v2_34 m34l) ∧ (¬ (m34l x0 15) ≤ v4_34 → zb_T K_X12_chainOf d [(2, x0), (0, v4_34)] E m34l (fun r47 m47 => (zb_inL (v2_34 * r47)) ∧ ((zb_inI (v4_34 + 1)) ∧ (X34 (v2_34 * r47) (v4_34 + 1) m47))))) → X34 v2_34 v4_34 m34l) → X34 v2_34 v4_34 m34l
def PM_X12_turnings (d : Nat) (E : zb_E) (x0 : Int) (x1 : Int) (m : zb_M) (Q : Int → zb_M → Prop) : Prop :=
  zb_Tp K_X12_isGraph d [(2, x0), (0, x1)] E m (fun r2 => (r2 = 0 → Q (-1) m) ∧ (¬ r2 = 0 → zb_Tp K_X12_isRight d [(2, x0), (0, x1)] E m (fun r14 => (r14 = 0 → Q (-2) m) ∧ (¬ r14 = 0 → zb_T K_X12_layOut d [(2, x0), (0, x1)] E m (fun r26 m26 => PL_X12_turnings_34 d E x0 Q 1 0 m26)))))
set_option maxRecDepth 100000 in
set_option maxHeartbeats 4000000 in
theorem w_X12_turnings {d : Nat} {E : zb_E} {x0 x1 : Int} {m : zb_M} {Q : Int → zb_M → Prop} (h : PM_X12_turnings d E x0 x1 m Q) : zb_T K_X12_turnings (d + 1) [(2, x0), (0, x1)] E m Q := by
  unfold PM_X12_turnings at h
  refine zb_T_in gd_X12_turnings rfl rfl (fun hW hA G C hF => ?_)
  have i_0 : zb_is E.1 x0 12 := zb_aH hA (by decide)
  show zb_WP _ _ 0 [(0, (2, x0)), (1, (0, x1))] [] _ _ _ _
  refine zb_aload_n (j := 0) dX12_turnings_0 rfl rfl ?_
  refine zb_iload_n (j := 1) dX12_turnings_1 rfl rfl ?_
  refine zb_cVp (As := [(0, x1)]) (As' := [(0, x1)]) (st := []) dX12_turnings_2 lk_X12_137 gd_X12_isGraph rfl rfl i_0 ⟨_, rfl, rfl⟩ h hW hF (zb_aR i_0 (zb_aI zb_a0)) (Nat.le_refl _) (Nat.le_of_ble_eq_true rfl) (fun r2 h => ?_)
  show zb_WP _ _ _ _ [(0, r2)] _ _ _ _
  refine zb_if_ne (tgt := 12) dX12_turnings_5 (by decide) (fun c1 => ?_) (fun c1 => ?_)
  · have h := h.2 c1
    refine zb_aload_n (j := 0) dX12_turnings_12 rfl rfl ?_
    refine zb_iload_n (j := 1) dX12_turnings_13 rfl rfl ?_
    refine zb_cVp (As := [(0, x1)]) (As' := [(0, x1)]) (st := []) dX12_turnings_14 lk_X12_172 gd_X12_isRight rfl rfl i_0 ⟨_, rfl, rfl⟩ h hW hF (zb_aR i_0 (zb_aI zb_a0)) (Nat.le_refl _) (Nat.le_of_ble_eq_true rfl) (fun r14 h => ?_)
    show zb_WP _ _ _ _ [(0, r14)] _ _ _ _
    refine zb_if_ne (tgt := 24) dX12_turnings_17 (by decide) (fun c2 => ?_) (fun c2 => ?_)
    · have h := h.2 c2
      refine zb_aload_n (j := 0) dX12_turnings_24 rfl rfl ?_
      refine zb_iload_n (j := 1) dX12_turnings_25 rfl rfl ?_
      refine zb_cV (As := [(0, x1)]) (As' := [(0, x1)]) (st := []) dX12_turnings_26 lk_X12_194 gd_X12_layOut rfl rfl i_0 ⟨_, rfl, rfl⟩ h hW hF (zb_aR i_0 (zb_aI zb_a0)) (Nat.le_refl _) (Nat.le_of_ble_eq_true rfl) (fun r26 m26 hF h => ?_)
      show zb_WP _ _ _ _ [] _ _ _ _
      refine zb_lconst dX12_turnings_29 rfl ?_
      refine zb_lstore_n (L' := [(2, (1, 1)), (0, (2, x0)), (1, (0, x1))]) dX12_turnings_30 rfl (by decide) rfl ?_
      refine zb_iconst dX12_turnings_31 (zb_inIc rfl) ?_
      refine zb_istore (L' := [(4, (0, 0)), (2, (1, 1)), (0, (2, x0)), (1, (0, x1))]) dX12_turnings_32 (by decide) rfl ?_
      refine zb_sub (L' := [(0, (2, x0)), (2, (1, 1)), (4, (0, 0))]) [2, 1, 0] rfl ?_
      unfold PL_X12_turnings_34 at h
      obtain ⟨X34, hX34⟩ : ∃ X : Int → Int → zb_M → Prop, ∀ (v2_34 : Int) (v4_34 : Int) (m34l : zb_M), (X v2_34 v4_34 m34l ↔ (zb_FIN E m34l → zb_WP (G, C, d + 1, 0, 0, zb_q E Q) F_X12_turnings 34 [(0, (2, x0)), (2, (1, v2_34)), (4, (0, v4_34))] [] E.1 m34l 0 0)) := ⟨fun v2_34 v4_34 m34l => zb_FIN E m34l → zb_WP (G, C, d + 1, 0, 0, zb_q E Q) F_X12_turnings 34 [(0, (2, x0)), (2, (1, v2_34)), (4, (0, v4_34))] [] E.1 m34l 0 0, fun _ _ _ => Iff.rfl⟩
      refine (hX34 _ _ _).mp (h X34 (fun v2_34 v4_34 m34l h => (hX34 _ _ _).mpr (fun hF => ?_))) hF
      refine zb_iload (j := 2) dX12_turnings_34 rfl ?_
      refine zb_aload_n (j := 0) dX12_turnings_36 rfl rfl ?_
      refine zb_gI 15 dX12_turnings_37 fl_X12_175 i_0 rfl rfl ?_
      refine zb_icmp_ge (tgt := 59) dX12_turnings_40 (by decide) (fun c3 => ?_) (fun c3 => ?_)
      · have h := h.1 c3
        refine zb_lload_n (j := 1) dX12_turnings_59 rfl rfl ?_
        exact zb_rL dX12_turnings_60 rfl hF h
      · have h := h.2 c3
        refine zb_lload_n (j := 1) dX12_turnings_43 rfl rfl ?_
        refine zb_aload_n (j := 0) dX12_turnings_44 rfl rfl ?_
        refine zb_iload (j := 2) dX12_turnings_45 rfl ?_
        refine zb_cV (As := [(0, v4_34)]) (As' := [(0, v4_34)]) (st := [(1, v2_34)]) dX12_turnings_47 lk_X12_280 gd_X12_chainOf rfl rfl i_0 ⟨_, rfl, rfl⟩ h hW hF (zb_aR i_0 (zb_aI zb_a0)) (Nat.le_refl _) (Nat.le_of_ble_eq_true rfl) (fun r47 m47 hF h => ?_)
        show zb_WP _ _ _ _ [(0, r47), (1, v2_34)] _ _ _ _
        refine zb_i2l dX12_turnings_50 ?_
        obtain ⟨o4, h⟩ := h
        refine zb_lmul dX12_turnings_51 o4 ?_
        refine zb_lstore_n (L' := [(2, (1, (v2_34 * r47))), (0, (2, x0)), (4, (0, v4_34))]) dX12_turnings_52 rfl (by decide) rfl ?_
        obtain ⟨o5, h⟩ := h
        refine zb_iinc (j := 2) (L' := [(4, (0, (v4_34 + 1))), (2, (1, (v2_34 * r47))), (0, (2, x0))]) dX12_turnings_53 rfl o5 (by decide) rfl ?_
        refine zb_goto (tgt := 34) dX12_turnings_56 (by decide) ?_
        refine zb_sub (L' := [(0, (2, x0)), (2, (1, (v2_34 * r47))), (4, (0, (v4_34 + 1)))]) [2, 1, 0] rfl ?_
        exact (hX34 _ _ _).mp h hF
    · have h := h.1 c2
      refine zb_ldc2 dX12_turnings_20 co_X12_278 (by unfold zb_inL; omega) ?_
      exact zb_rL dX12_turnings_23 rfl hF h
  · have h := h.1 c1
    refine zb_ldc2 dX12_turnings_8 co_X12_276 (by unfold zb_inL; omega) ?_
    exact zb_rL dX12_turnings_11 rfl hF h
theorem dX12_chain_0 : decode cX12_chain 0 = .ok (.aload_n 0, 1) := by decide +kernel
theorem dX12_chain_1 : decode cX12_chain 1 = .ok (.iload_n 1, 1) := by decide +kernel
theorem dX12_chain_2 : decode cX12_chain 2 = .ok (.invokevirtual 137, 3) := by decide +kernel
theorem dX12_chain_5 : decode cX12_chain 5 = .ok (.ifCond .ne 5, 3) := by decide +kernel
theorem dX12_chain_8 : decode cX12_chain 8 = .ok (.iconst (-1), 1) := by decide +kernel
theorem dX12_chain_9 : decode cX12_chain 9 = .ok (.ireturn, 1) := by decide +kernel
theorem dX12_chain_10 : decode cX12_chain 10 = .ok (.aload_n 0, 1) := by decide +kernel
theorem dX12_chain_11 : decode cX12_chain 11 = .ok (.iload_n 1, 1) := by decide +kernel
theorem dX12_chain_12 : decode cX12_chain 12 = .ok (.invokevirtual 172, 3) := by decide +kernel
theorem dX12_chain_15 : decode cX12_chain 15 = .ok (.ifCond .ne 6, 3) := by decide +kernel
theorem dX12_chain_18 : decode cX12_chain 18 = .ok (.bipush (-2), 2) := by decide +kernel
theorem dX12_chain_20 : decode cX12_chain 20 = .ok (.ireturn, 1) := by decide +kernel
theorem dX12_chain_21 : decode cX12_chain 21 = .ok (.aload_n 0, 1) := by decide +kernel
theorem dX12_chain_22 : decode cX12_chain 22 = .ok (.iload_n 1, 1) := by decide +kernel
theorem dX12_chain_23 : decode cX12_chain 23 = .ok (.invokevirtual 194, 3) := by decide +kernel
theorem dX12_chain_26 : decode cX12_chain 26 = .ok (.iload_n 2, 1) := by decide +kernel
theorem dX12_chain_27 : decode cX12_chain 27 = .ok (.iconst 0, 1) := by decide +kernel
theorem dX12_chain_28 : decode cX12_chain 28 = .ok (.aload_n 0, 1) := by decide +kernel
theorem dX12_chain_29 : decode cX12_chain 29 = .ok (.getfield 175, 3) := by decide +kernel
theorem dX12_chain_32 : decode cX12_chain 32 = .ok (.iconst 1, 1) := by decide +kernel
theorem dX12_chain_33 : decode cX12_chain 33 = .ok (.isub, 1) := by decide +kernel
theorem dX12_chain_34 : decode cX12_chain 34 = .ok (.invokestatic 133, 3) := by decide +kernel
theorem dX12_chain_37 : decode cX12_chain 37 = .ok (.ifCond .eq 11, 3) := by decide +kernel
theorem dX12_chain_40 : decode cX12_chain 40 = .ok (.aload_n 0, 1) := by decide +kernel
theorem dX12_chain_41 : decode cX12_chain 41 = .ok (.iload_n 2, 1) := by decide +kernel
theorem dX12_chain_42 : decode cX12_chain 42 = .ok (.invokevirtual 280, 3) := by decide +kernel
theorem dX12_chain_45 : decode cX12_chain 45 = .ok (.goto 4, 3) := by decide +kernel
theorem dX12_chain_48 : decode cX12_chain 48 = .ok (.iconst (-1), 1) := by decide +kernel
theorem dX12_chain_49 : decode cX12_chain 49 = .ok (.ireturn, 1) := by decide +kernel
def PM_X12_chain (d : Nat) (E : zb_E) (x0 : Int) (x1 : Int) (x2 : Int) (m : zb_M) (Q : Int → zb_M → Prop) : Prop :=
  zb_Tp K_X12_isGraph d [(2, x0), (0, x1)] E m (fun r2 => (r2 = 0 → Q (-1) m) ∧ (¬ r2 = 0 → zb_Tp K_X12_isRight d [(2, x0), (0, x1)] E m (fun r12 => (r12 = 0 → Q (-2) m) ∧ (¬ r12 = 0 → zb_T K_X12_layOut d [(2, x0), (0, x1)] E m (fun r23 m23 => (zb_inI ((m23 x0 15) - 1)) ∧ (zb_Tp K_X12_in d [(0, x2), (0, 0), (0, ((m23 x0 15) - 1))] E m23 (fun r34 => (r34 = 0 → Q (-1) m23) ∧ (¬ r34 = 0 → zb_T K_X12_chainOf d [(2, x0), (0, x2)] E m23 (fun r42 m42 => Q r42 m42)))))))))
set_option maxRecDepth 100000 in
set_option maxHeartbeats 4000000 in
theorem w_X12_chain {d : Nat} {E : zb_E} {x0 x1 x2 : Int} {m : zb_M} {Q : Int → zb_M → Prop} (h : PM_X12_chain d E x0 x1 x2 m Q) : zb_T K_X12_chain (d + 1) [(2, x0), (0, x1), (0, x2)] E m Q := by
  unfold PM_X12_chain at h
  refine zb_T_in gd_X12_chain rfl rfl (fun hW hA G C hF => ?_)
  have i_0 : zb_is E.1 x0 12 := zb_aH hA (by decide)
  show zb_WP _ _ 0 [(0, (2, x0)), (1, (0, x1)), (2, (0, x2))] [] _ _ _ _
  refine zb_aload_n (j := 0) dX12_chain_0 rfl rfl ?_
  refine zb_iload_n (j := 1) dX12_chain_1 rfl rfl ?_
  refine zb_cVp (As := [(0, x1)]) (As' := [(0, x1)]) (st := []) dX12_chain_2 lk_X12_137 gd_X12_isGraph rfl rfl i_0 ⟨_, rfl, rfl⟩ h hW hF (zb_aR i_0 (zb_aI zb_a0)) (Nat.le_refl _) (Nat.le_of_ble_eq_true rfl) (fun r2 h => ?_)
  show zb_WP _ _ _ _ [(0, r2)] _ _ _ _
  refine zb_if_ne (tgt := 10) dX12_chain_5 (by decide) (fun c1 => ?_) (fun c1 => ?_)
  · have h := h.2 c1
    refine zb_aload_n (j := 0) dX12_chain_10 rfl rfl ?_
    refine zb_iload_n (j := 1) dX12_chain_11 rfl rfl ?_
    refine zb_cVp (As := [(0, x1)]) (As' := [(0, x1)]) (st := []) dX12_chain_12 lk_X12_172 gd_X12_isRight rfl rfl i_0 ⟨_, rfl, rfl⟩ h hW hF (zb_aR i_0 (zb_aI zb_a0)) (Nat.le_refl _) (Nat.le_of_ble_eq_true rfl) (fun r12 h => ?_)
    show zb_WP _ _ _ _ [(0, r12)] _ _ _ _
    refine zb_if_ne (tgt := 21) dX12_chain_15 (by decide) (fun c2 => ?_) (fun c2 => ?_)
    · have h := h.2 c2
      refine zb_aload_n (j := 0) dX12_chain_21 rfl rfl ?_
      refine zb_iload_n (j := 1) dX12_chain_22 rfl rfl ?_
      refine zb_cV (As := [(0, x1)]) (As' := [(0, x1)]) (st := []) dX12_chain_23 lk_X12_194 gd_X12_layOut rfl rfl i_0 ⟨_, rfl, rfl⟩ h hW hF (zb_aR i_0 (zb_aI zb_a0)) (Nat.le_refl _) (Nat.le_of_ble_eq_true rfl) (fun r23 m23 hF h => ?_)
      show zb_WP _ _ _ _ [] _ _ _ _
      refine zb_iload_n (j := 2) dX12_chain_26 rfl rfl ?_
      refine zb_iconst dX12_chain_27 (zb_inIc rfl) ?_
      refine zb_aload_n (j := 0) dX12_chain_28 rfl rfl ?_
      refine zb_gI 15 dX12_chain_29 fl_X12_175 i_0 rfl rfl ?_
      refine zb_iconst dX12_chain_32 (zb_inIc rfl) ?_
      obtain ⟨o3, h⟩ := h
      refine zb_isub dX12_chain_33 o3 ?_
      refine zb_cSp (As := [(0, x2), (0, 0), (0, ((m23 x0 15) - 1))]) (As' := [(0, ((m23 x0 15) - 1)), (0, 0), (0, x2)]) (st := []) dX12_chain_34 lk_X12_133 gd_X12_in rfl rfl h hW hF (zb_aI (zb_aI (zb_aI zb_a0))) (Nat.le_refl _) (Nat.le_of_ble_eq_true rfl) (fun r34 h => ?_)
      show zb_WP _ _ _ _ [(0, r34)] _ _ _ _
      refine zb_if_eq (tgt := 48) dX12_chain_37 (by decide) (fun c4 => ?_) (fun c4 => ?_)
      · have h := h.1 c4
        refine zb_iconst dX12_chain_48 (zb_inIc rfl) ?_
        exact zb_rI dX12_chain_49 rfl hF h
      · have h := h.2 c4
        refine zb_aload_n (j := 0) dX12_chain_40 rfl rfl ?_
        refine zb_iload_n (j := 2) dX12_chain_41 rfl rfl ?_
        refine zb_cV (As := [(0, x2)]) (As' := [(0, x2)]) (st := []) dX12_chain_42 lk_X12_280 gd_X12_chainOf rfl rfl i_0 ⟨_, rfl, rfl⟩ h hW hF (zb_aR i_0 (zb_aI zb_a0)) (Nat.le_refl _) (Nat.le_of_ble_eq_true rfl) (fun r42 m42 hF h => ?_)
        show zb_WP _ _ _ _ [(0, r42)] _ _ _ _
        refine zb_goto (tgt := 49) dX12_chain_45 (by decide) ?_
        exact zb_rI dX12_chain_49 rfl hF h
    · have h := h.1 c2
      refine zb_bipush dX12_chain_18 (by decide) (zb_inIc rfl) ?_
      exact zb_rI dX12_chain_20 rfl hF h
  · have h := h.1 c1
    refine zb_iconst dX12_chain_8 (zb_inIc rfl) ?_
    exact zb_rI dX12_chain_9 rfl hF h
theorem dX12_shownPlace_0 : decode cX12_shownPlace 0 = .ok (.iconst 0, 1) := by decide +kernel
theorem dX12_shownPlace_1 : decode cX12_shownPlace 1 = .ok (.istore_n 2, 1) := by decide +kernel
theorem dX12_shownPlace_2 : decode cX12_shownPlace 2 = .ok (.iload_n 2, 1) := by decide +kernel
theorem dX12_shownPlace_3 : decode cX12_shownPlace 3 = .ok (.aload_n 0, 1) := by decide +kernel
theorem dX12_shownPlace_4 : decode cX12_shownPlace 4 = .ok (.getfield 175, 3) := by decide +kernel
theorem dX12_shownPlace_7 : decode cX12_shownPlace 7 = .ok (.if_icmp .ge 21, 3) := by decide +kernel
theorem dX12_shownPlace_10 : decode cX12_shownPlace 10 = .ok (.aload_n 0, 1) := by decide +kernel
theorem dX12_shownPlace_11 : decode cX12_shownPlace 11 = .ok (.getfield 52, 3) := by decide +kernel
theorem dX12_shownPlace_14 : decode cX12_shownPlace 14 = .ok (.iload_n 2, 1) := by decide +kernel
theorem dX12_shownPlace_15 : decode cX12_shownPlace 15 = .ok (.iaload, 1) := by decide +kernel
theorem dX12_shownPlace_16 : decode cX12_shownPlace 16 = .ok (.iload_n 1, 1) := by decide +kernel
theorem dX12_shownPlace_17 : decode cX12_shownPlace 17 = .ok (.if_icmp .ne 5, 3) := by decide +kernel
theorem dX12_shownPlace_20 : decode cX12_shownPlace 20 = .ok (.iload_n 2, 1) := by decide +kernel
theorem dX12_shownPlace_21 : decode cX12_shownPlace 21 = .ok (.ireturn, 1) := by decide +kernel
theorem dX12_shownPlace_22 : decode cX12_shownPlace 22 = .ok (.iinc 2 1, 3) := by decide +kernel
theorem dX12_shownPlace_25 : decode cX12_shownPlace 25 = .ok (.goto (-23), 3) := by decide +kernel
theorem dX12_shownPlace_28 : decode cX12_shownPlace 28 = .ok (.iconst (-1), 1) := by decide +kernel
theorem dX12_shownPlace_29 : decode cX12_shownPlace 29 = .ok (.ireturn, 1) := by decide +kernel
def PL_X12_shownPlace_2 (d : Nat) (E : zb_E) (x0 : Int) (x1 : Int) (m : zb_M) (Q : Int → Prop)  (v2_2 : Int) : Prop :=
  ∀ X2 : Int → Prop, (∀ (v2_2 : Int), (((m x0 15) ≤ v2_2 → Q (-1)) ∧ (¬ (m x0 15) ≤ v2_2 → (0 ≤ v2_2 ∧ v2_2 < 12) ∧ (((m (E.2 x0 16) v2_2) = x1 → Q v2_2) ∧ (¬ (m (E.2 x0 16) v2_2) = x1 → (zb_inI (v2_2 + 1)) ∧ (X2 (v2_2 + 1)))))) → X2 v2_2) → X2 v2_2
def PM_X12_shownPlace (d : Nat) (E : zb_E) (x0 : Int) (x1 : Int) (m : zb_M) (Q : Int → Prop) : Prop :=
  PL_X12_shownPlace_2 d E x0 x1 m Q 0
set_option maxRecDepth 100000 in
set_option maxHeartbeats 4000000 in
theorem w_X12_shownPlace {d : Nat} {E : zb_E} {x0 x1 : Int} {m : zb_M} {Q : Int → Prop} (h : PM_X12_shownPlace d E x0 x1 m Q) : zb_Tp K_X12_shownPlace (d + 1) [(2, x0), (0, x1)] E m Q := by
  unfold PM_X12_shownPlace at h
  refine zb_T_in gd_X12_shownPlace rfl rfl (fun hW hA G C hF => ?_)
  have i_0 : zb_is E.1 x0 12 := zb_aH hA (by decide)
  show zb_WP _ _ 0 [(0, (2, x0)), (1, (0, x1))] [] _ _ _ _
  refine zb_iconst dX12_shownPlace_0 (zb_inIc rfl) ?_
  refine zb_istore_n (L' := [(2, (0, 0)), (0, (2, x0)), (1, (0, x1))]) dX12_shownPlace_1 rfl (by decide) rfl ?_
  refine zb_sub (L' := [(0, (2, x0)), (1, (0, x1)), (2, (0, 0))]) [1, 2, 0] rfl ?_
  unfold PL_X12_shownPlace_2 at h
  obtain ⟨X2, hX2⟩ : ∃ X : Int → Prop, ∀ (v2_2 : Int), (X v2_2 ↔ (zb_FIN E m → zb_WP (G, C, d + 1, 0, 0, zb_q E (fun r m' => m' = m ∧ Q r)) F_X12_shownPlace 2 [(0, (2, x0)), (1, (0, x1)), (2, (0, v2_2))] [] E.1 m 0 0)) := ⟨fun v2_2 => zb_FIN E m → zb_WP (G, C, d + 1, 0, 0, zb_q E (fun r m' => m' = m ∧ Q r)) F_X12_shownPlace 2 [(0, (2, x0)), (1, (0, x1)), (2, (0, v2_2))] [] E.1 m 0 0, fun _ => Iff.rfl⟩
  refine (hX2 _).mp (h X2 (fun v2_2 h => (hX2 _).mpr (fun hF => ?_))) hF
  refine zb_iload_n (j := 2) dX12_shownPlace_2 rfl rfl ?_
  refine zb_aload_n (j := 0) dX12_shownPlace_3 rfl rfl ?_
  refine zb_gI 15 dX12_shownPlace_4 fl_X12_175 i_0 rfl rfl ?_
  refine zb_icmp_ge (tgt := 28) dX12_shownPlace_7 (by decide) (fun c1 => ?_) (fun c1 => ?_)
  · have h := h.1 c1
    refine zb_iconst dX12_shownPlace_28 (zb_inIc rfl) ?_
    exact zb_rI dX12_shownPlace_29 rfl hF ⟨rfl, h⟩
  · have h := h.2 c1
    refine zb_aload_n (j := 0) dX12_shownPlace_10 rfl rfl ?_
    refine zb_gFa 16 dX12_shownPlace_11 fl_X12_52 i_0 hW hF rfl rfl rfl (by decide) rfl 12 rfl (fun i2 l3 => ?_)
    refine zb_iload_n (j := 2) dX12_shownPlace_14 rfl rfl ?_
    obtain ⟨o4, h⟩ := h
    refine zb_lI dX12_shownPlace_15 i2 l3 o4.1 o4.2 ?_
    refine zb_iload_n (j := 1) dX12_shownPlace_16 rfl rfl ?_
    refine zb_icmp_ne (tgt := 22) dX12_shownPlace_17 (by decide) (fun c5 => ?_) (fun c5 => ?_)
    · have h := h.2 c5
      obtain ⟨o6, h⟩ := h
      refine zb_iinc (j := 2) (L' := [(2, (0, (v2_2 + 1))), (0, (2, x0)), (1, (0, x1))]) dX12_shownPlace_22 rfl o6 (by decide) rfl ?_
      refine zb_goto (tgt := 2) dX12_shownPlace_25 (by decide) ?_
      refine zb_sub (L' := [(0, (2, x0)), (1, (0, x1)), (2, (0, (v2_2 + 1)))]) [1, 2, 0] rfl ?_
      exact (hX2 _).mp h hF
    · have h := h.1 c5
      refine zb_iload_n (j := 2) dX12_shownPlace_20 rfl rfl ?_
      exact zb_rI dX12_shownPlace_21 rfl hF ⟨rfl, h⟩
theorem dX12_where_0 : decode cX12_where 0 = .ok (.aload_n 0, 1) := by decide +kernel
theorem dX12_where_1 : decode cX12_where 1 = .ok (.iload_n 1, 1) := by decide +kernel
theorem dX12_where_2 : decode cX12_where 2 = .ok (.invokevirtual 137, 3) := by decide +kernel
theorem dX12_where_5 : decode cX12_where 5 = .ok (.ifCond .ne 5, 3) := by decide +kernel
theorem dX12_where_8 : decode cX12_where 8 = .ok (.iconst (-1), 1) := by decide +kernel
theorem dX12_where_9 : decode cX12_where 9 = .ok (.ireturn, 1) := by decide +kernel
theorem dX12_where_10 : decode cX12_where 10 = .ok (.aload_n 0, 1) := by decide +kernel
theorem dX12_where_11 : decode cX12_where 11 = .ok (.iload_n 1, 1) := by decide +kernel
theorem dX12_where_12 : decode cX12_where 12 = .ok (.invokevirtual 172, 3) := by decide +kernel
theorem dX12_where_15 : decode cX12_where 15 = .ok (.ifCond .ne 6, 3) := by decide +kernel
theorem dX12_where_18 : decode cX12_where 18 = .ok (.bipush (-2), 2) := by decide +kernel
theorem dX12_where_20 : decode cX12_where 20 = .ok (.ireturn, 1) := by decide +kernel
theorem dX12_where_21 : decode cX12_where 21 = .ok (.aload_n 0, 1) := by decide +kernel
theorem dX12_where_22 : decode cX12_where 22 = .ok (.iload_n 1, 1) := by decide +kernel
theorem dX12_where_23 : decode cX12_where 23 = .ok (.invokevirtual 194, 3) := by decide +kernel
theorem dX12_where_26 : decode cX12_where 26 = .ok (.aload_n 0, 1) := by decide +kernel
theorem dX12_where_27 : decode cX12_where 27 = .ok (.iload_n 2, 1) := by decide +kernel
theorem dX12_where_28 : decode cX12_where 28 = .ok (.invokevirtual 283, 3) := by decide +kernel
theorem dX12_where_31 : decode cX12_where 31 = .ok (.istore 4, 2) := by decide +kernel
theorem dX12_where_33 : decode cX12_where 33 = .ok (.aload_n 0, 1) := by decide +kernel
theorem dX12_where_34 : decode cX12_where 34 = .ok (.iload_n 3, 1) := by decide +kernel
theorem dX12_where_35 : decode cX12_where 35 = .ok (.invokevirtual 283, 3) := by decide +kernel
theorem dX12_where_38 : decode cX12_where 38 = .ok (.istore 5, 2) := by decide +kernel
theorem dX12_where_40 : decode cX12_where 40 = .ok (.iload 4, 2) := by decide +kernel
theorem dX12_where_42 : decode cX12_where 42 = .ok (.ifCond .lt 8, 3) := by decide +kernel
theorem dX12_where_45 : decode cX12_where 45 = .ok (.iload 5, 2) := by decide +kernel
theorem dX12_where_47 : decode cX12_where 47 = .ok (.ifCond .ge 5, 3) := by decide +kernel
theorem dX12_where_50 : decode cX12_where 50 = .ok (.iconst (-1), 1) := by decide +kernel
theorem dX12_where_51 : decode cX12_where 51 = .ok (.ireturn, 1) := by decide +kernel
theorem dX12_where_52 : decode cX12_where 52 = .ok (.aload_n 0, 1) := by decide +kernel
theorem dX12_where_53 : decode cX12_where 53 = .ok (.iconst 0, 1) := by decide +kernel
theorem dX12_where_54 : decode cX12_where 54 = .ok (.iload 4, 2) := by decide +kernel
theorem dX12_where_56 : decode cX12_where 56 = .ok (.iload 5, 2) := by decide +kernel
theorem dX12_where_58 : decode cX12_where 58 = .ok (.invokevirtual 273, 3) := by decide +kernel
theorem dX12_where_61 : decode cX12_where 61 = .ok (.ifCond .ne 5, 3) := by decide +kernel
theorem dX12_where_64 : decode cX12_where 64 = .ok (.iconst 0, 1) := by decide +kernel
theorem dX12_where_65 : decode cX12_where 65 = .ok (.ireturn, 1) := by decide +kernel
theorem dX12_where_66 : decode cX12_where 66 = .ok (.aload_n 0, 1) := by decide +kernel
theorem dX12_where_67 : decode cX12_where 67 = .ok (.invokevirtual 256, 3) := by decide +kernel
theorem dX12_where_70 : decode cX12_where 70 = .ok (.iconst 0, 1) := by decide +kernel
theorem dX12_where_71 : decode cX12_where 71 = .ok (.istore 6, 2) := by decide +kernel
theorem dX12_where_73 : decode cX12_where 73 = .ok (.iload 6, 2) := by decide +kernel
theorem dX12_where_75 : decode cX12_where 75 = .ok (.aload_n 0, 1) := by decide +kernel
theorem dX12_where_76 : decode cX12_where 76 = .ok (.getfield 175, 3) := by decide +kernel
theorem dX12_where_79 : decode cX12_where 79 = .ok (.if_icmp .ge 33, 3) := by decide +kernel
theorem dX12_where_82 : decode cX12_where 82 = .ok (.aload_n 0, 1) := by decide +kernel
theorem dX12_where_83 : decode cX12_where 83 = .ok (.getfield 106, 3) := by decide +kernel
theorem dX12_where_86 : decode cX12_where 86 = .ok (.aload_n 0, 1) := by decide +kernel
theorem dX12_where_87 : decode cX12_where 87 = .ok (.getfield 52, 3) := by decide +kernel
theorem dX12_where_90 : decode cX12_where 90 = .ok (.iload 6, 2) := by decide +kernel
theorem dX12_where_92 : decode cX12_where 92 = .ok (.iaload, 1) := by decide +kernel
theorem dX12_where_93 : decode cX12_where 93 = .ok (.aload_n 0, 1) := by decide +kernel
theorem dX12_where_94 : decode cX12_where 94 = .ok (.getfield 52, 3) := by decide +kernel
theorem dX12_where_97 : decode cX12_where 97 = .ok (.aload_n 0, 1) := by decide +kernel
theorem dX12_where_98 : decode cX12_where 98 = .ok (.getfield 124, 3) := by decide +kernel
theorem dX12_where_101 : decode cX12_where 101 = .ok (.iload 6, 2) := by decide +kernel
theorem dX12_where_103 : decode cX12_where 103 = .ok (.iaload, 1) := by decide +kernel
theorem dX12_where_104 : decode cX12_where 104 = .ok (.iaload, 1) := by decide +kernel
theorem dX12_where_105 : decode cX12_where 105 = .ok (.iastore, 1) := by decide +kernel
theorem dX12_where_106 : decode cX12_where 106 = .ok (.iinc 6 1, 3) := by decide +kernel
theorem dX12_where_109 : decode cX12_where 109 = .ok (.goto (-36), 3) := by decide +kernel
theorem dX12_where_112 : decode cX12_where 112 = .ok (.iconst 1, 1) := by decide +kernel
theorem dX12_where_113 : decode cX12_where 113 = .ok (.ireturn, 1) := by decide +kernel
def PL_X12_where_73 (d : Nat) (E : zb_E) (x0 : Int) (Q : Int → zb_M → Prop)  (v6_73 : Int) (m73l : zb_M) : Prop :=
  ∀ X73 : Int → zb_M → Prop, (∀ (v6_73 : Int) (m73l : zb_M), (((m73l x0 15) ≤ v6_73 → Q 1 m73l) ∧ (¬ (m73l x0 15) ≤ v6_73 → (0 ≤ v6_73 ∧ v6_73 < 12) ∧ ((0 ≤ (m73l (E.2 x0 48) v6_73) ∧ (m73l (E.2 x0 48) v6_73) < 12) ∧ ((0 ≤ (m73l (E.2 x0 16) v6_73) ∧ (m73l (E.2 x0 16) v6_73) < 12) ∧ (∀ m105, m105 = zb_up m73l (E.2 x0 41) (m73l (E.2 x0 16) v6_73) (m73l (E.2 x0 16) (m73l (E.2 x0 48) v6_73)) → ((zb_inI (v6_73 + 1)) ∧ (X73 (v6_73 + 1) m105))))))) → X73 v6_73 m73l) → X73 v6_73 m73l
def PM_X12_where (d : Nat) (E : zb_E) (x0 : Int) (x1 : Int) (x2 : Int) (x3 : Int) (m : zb_M) (Q : Int → zb_M → Prop) : Prop :=
  zb_Tp K_X12_isGraph d [(2, x0), (0, x1)] E m (fun r2 => (r2 = 0 → Q (-1) m) ∧ (¬ r2 = 0 → zb_Tp K_X12_isRight d [(2, x0), (0, x1)] E m (fun r12 => (r12 = 0 → Q (-2) m) ∧ (¬ r12 = 0 → zb_T K_X12_layOut d [(2, x0), (0, x1)] E m (fun r23 m23 => zb_Tp K_X12_shownPlace d [(2, x0), (0, x2)] E m23 (fun r28 => zb_Tp K_X12_shownPlace d [(2, x0), (0, x3)] E m23 (fun r35 => (r28 < 0 → Q (-1) m23) ∧ (¬ r28 < 0 → (0 ≤ r35 → zb_T K_X12_find d [(2, x0), (0, 0), (0, r28), (0, r35)] E m23 (fun r58 m58 => (r58 = 0 → Q 0 m58) ∧ (¬ r58 = 0 → zb_T K_X12_clearTurning d [(2, x0)] E m58 (fun r67 m67 => PL_X12_where_73 d E x0 Q 0 m67)))) ∧ (¬ 0 ≤ r35 → Q (-1) m23)))))))))
set_option maxRecDepth 100000 in
set_option maxHeartbeats 4000000 in
theorem w_X12_where {d : Nat} {E : zb_E} {x0 x1 x2 x3 : Int} {m : zb_M} {Q : Int → zb_M → Prop} (h : PM_X12_where d E x0 x1 x2 x3 m Q) : zb_T K_X12_where (d + 1) [(2, x0), (0, x1), (0, x2), (0, x3)] E m Q := by
  unfold PM_X12_where at h
  refine zb_T_in gd_X12_where rfl rfl (fun hW hA G C hF => ?_)
  have i_0 : zb_is E.1 x0 12 := zb_aH hA (by decide)
  show zb_WP _ _ 0 [(0, (2, x0)), (1, (0, x1)), (2, (0, x2)), (3, (0, x3))] [] _ _ _ _
  refine zb_aload_n (j := 0) dX12_where_0 rfl rfl ?_
  refine zb_iload_n (j := 1) dX12_where_1 rfl rfl ?_
  refine zb_cVp (As := [(0, x1)]) (As' := [(0, x1)]) (st := []) dX12_where_2 lk_X12_137 gd_X12_isGraph rfl rfl i_0 ⟨_, rfl, rfl⟩ h hW hF (zb_aR i_0 (zb_aI zb_a0)) (Nat.le_refl _) (Nat.le_of_ble_eq_true rfl) (fun r2 h => ?_)
  show zb_WP _ _ _ _ [(0, r2)] _ _ _ _
  refine zb_if_ne (tgt := 10) dX12_where_5 (by decide) (fun c1 => ?_) (fun c1 => ?_)
  · have h := h.2 c1
    refine zb_aload_n (j := 0) dX12_where_10 rfl rfl ?_
    refine zb_iload_n (j := 1) dX12_where_11 rfl rfl ?_
    refine zb_cVp (As := [(0, x1)]) (As' := [(0, x1)]) (st := []) dX12_where_12 lk_X12_172 gd_X12_isRight rfl rfl i_0 ⟨_, rfl, rfl⟩ h hW hF (zb_aR i_0 (zb_aI zb_a0)) (Nat.le_refl _) (Nat.le_of_ble_eq_true rfl) (fun r12 h => ?_)
    show zb_WP _ _ _ _ [(0, r12)] _ _ _ _
    refine zb_if_ne (tgt := 21) dX12_where_15 (by decide) (fun c2 => ?_) (fun c2 => ?_)
    · have h := h.2 c2
      refine zb_aload_n (j := 0) dX12_where_21 rfl rfl ?_
      refine zb_iload_n (j := 1) dX12_where_22 rfl rfl ?_
      refine zb_cV (As := [(0, x1)]) (As' := [(0, x1)]) (st := []) dX12_where_23 lk_X12_194 gd_X12_layOut rfl rfl i_0 ⟨_, rfl, rfl⟩ h hW hF (zb_aR i_0 (zb_aI zb_a0)) (Nat.le_refl _) (Nat.le_of_ble_eq_true rfl) (fun r23 m23 hF h => ?_)
      show zb_WP _ _ _ _ [] _ _ _ _
      refine zb_aload_n (j := 0) dX12_where_26 rfl rfl ?_
      refine zb_iload_n (j := 2) dX12_where_27 rfl rfl ?_
      refine zb_cVp (As := [(0, x2)]) (As' := [(0, x2)]) (st := []) dX12_where_28 lk_X12_283 gd_X12_shownPlace rfl rfl i_0 ⟨_, rfl, rfl⟩ h hW hF (zb_aR i_0 (zb_aI zb_a0)) (Nat.le_refl _) (Nat.le_of_ble_eq_true rfl) (fun r28 h => ?_)
      show zb_WP _ _ _ _ [(0, r28)] _ _ _ _
      refine zb_istore (L' := [(4, (0, r28)), (0, (2, x0)), (1, (0, x1)), (2, (0, x2)), (3, (0, x3))]) dX12_where_31 (by decide) rfl ?_
      refine zb_aload_n (j := 1) dX12_where_33 rfl rfl ?_
      refine zb_iload_n (j := 4) dX12_where_34 rfl rfl ?_
      refine zb_cVp (As := [(0, x3)]) (As' := [(0, x3)]) (st := []) dX12_where_35 lk_X12_283 gd_X12_shownPlace rfl rfl i_0 ⟨_, rfl, rfl⟩ h hW hF (zb_aR i_0 (zb_aI zb_a0)) (Nat.le_refl _) (Nat.le_of_ble_eq_true rfl) (fun r35 h => ?_)
      show zb_WP _ _ _ _ [(0, r35)] _ _ _ _
      refine zb_istore (L' := [(5, (0, r35)), (4, (0, r28)), (0, (2, x0)), (1, (0, x1)), (2, (0, x2)), (3, (0, x3))]) dX12_where_38 (by decide) rfl ?_
      refine zb_iload (j := 1) dX12_where_40 rfl ?_
      refine zb_if_lt (tgt := 50) dX12_where_42 (by decide) (fun c3 => ?_) (fun c3 => ?_)
      · have h := h.1 c3
        refine zb_iconst dX12_where_50 (zb_inIc rfl) ?_
        exact zb_rI dX12_where_51 rfl hF h
      · have h := h.2 c3
        refine zb_iload (j := 0) dX12_where_45 rfl ?_
        refine zb_if_ge (tgt := 52) dX12_where_47 (by decide) (fun c4 => ?_) (fun c4 => ?_)
        · have h := h.1 c4
          refine zb_aload_n (j := 2) dX12_where_52 rfl rfl ?_
          refine zb_iconst dX12_where_53 (zb_inIc rfl) ?_
          refine zb_iload (j := 1) dX12_where_54 rfl ?_
          refine zb_iload (j := 0) dX12_where_56 rfl ?_
          refine zb_cV (As := [(0, 0), (0, r28), (0, r35)]) (As' := [(0, r35), (0, r28), (0, 0)]) (st := []) dX12_where_58 lk_X12_273 gd_X12_find rfl rfl i_0 ⟨_, rfl, rfl⟩ h hW hF (zb_aR i_0 (zb_aI (zb_aI (zb_aI zb_a0)))) (Nat.le_refl _) (Nat.le_of_ble_eq_true rfl) (fun r58 m58 hF h => ?_)
          show zb_WP _ _ _ _ [(0, r58)] _ _ _ _
          refine zb_if_ne (tgt := 66) dX12_where_61 (by decide) (fun c5 => ?_) (fun c5 => ?_)
          · have h := h.2 c5
            refine zb_aload_n (j := 2) dX12_where_66 rfl rfl ?_
            refine zb_cV (As := []) (As' := []) (st := []) dX12_where_67 lk_X12_256 gd_X12_clearTurning rfl rfl i_0 ⟨_, rfl, rfl⟩ h hW hF (zb_aR i_0 zb_a0) (Nat.le_refl _) (Nat.le_of_ble_eq_true rfl) (fun r67 m67 hF h => ?_)
            show zb_WP _ _ _ _ [] _ _ _ _
            refine zb_iconst dX12_where_70 (zb_inIc rfl) ?_
            refine zb_istore (L' := [(6, (0, 0)), (5, (0, r35)), (4, (0, r28)), (0, (2, x0)), (1, (0, x1)), (2, (0, x2)), (3, (0, x3))]) dX12_where_71 (by decide) rfl ?_
            refine zb_sub (L' := [(0, (2, x0)), (6, (0, 0))]) [3, 0] rfl ?_
            unfold PL_X12_where_73 at h
            obtain ⟨X73, hX73⟩ : ∃ X : Int → zb_M → Prop, ∀ (v6_73 : Int) (m73l : zb_M), (X v6_73 m73l ↔ (zb_FIN E m73l → zb_WP (G, C, d + 1, 0, 0, zb_q E Q) F_X12_where 73 [(0, (2, x0)), (6, (0, v6_73))] [] E.1 m73l 0 0)) := ⟨fun v6_73 m73l => zb_FIN E m73l → zb_WP (G, C, d + 1, 0, 0, zb_q E Q) F_X12_where 73 [(0, (2, x0)), (6, (0, v6_73))] [] E.1 m73l 0 0, fun _ _ => Iff.rfl⟩
            refine (hX73 _ _).mp (h X73 (fun v6_73 m73l h => (hX73 _ _).mpr (fun hF => ?_))) hF
            refine zb_iload (j := 1) dX12_where_73 rfl ?_
            refine zb_aload_n (j := 0) dX12_where_75 rfl rfl ?_
            refine zb_gI 15 dX12_where_76 fl_X12_175 i_0 rfl rfl ?_
            refine zb_icmp_ge (tgt := 112) dX12_where_79 (by decide) (fun c6 => ?_) (fun c6 => ?_)
            · have h := h.1 c6
              refine zb_iconst dX12_where_112 (zb_inIc rfl) ?_
              exact zb_rI dX12_where_113 rfl hF h
            · have h := h.2 c6
              refine zb_aload_n (j := 0) dX12_where_82 rfl rfl ?_
              refine zb_gFa 41 dX12_where_83 fl_X12_106 i_0 hW hF rfl rfl rfl (by decide) rfl 12 rfl (fun i7 l8 => ?_)
              refine zb_aload_n (j := 0) dX12_where_86 rfl rfl ?_
              refine zb_gFa 16 dX12_where_87 fl_X12_52 i_0 hW hF rfl rfl rfl (by decide) rfl 12 rfl (fun i9 l10 => ?_)
              refine zb_iload (j := 1) dX12_where_90 rfl ?_
              obtain ⟨o11, h⟩ := h
              refine zb_lI dX12_where_92 i9 l10 o11.1 o11.2 ?_
              refine zb_aload_n (j := 0) dX12_where_93 rfl rfl ?_
              refine zb_gFa 16 dX12_where_94 fl_X12_52 i_0 hW hF rfl rfl rfl (by decide) rfl 12 rfl (fun i12 l13 => ?_)
              refine zb_aload_n (j := 0) dX12_where_97 rfl rfl ?_
              refine zb_gFa 48 dX12_where_98 fl_X12_124 i_0 hW hF rfl rfl rfl (by decide) rfl 12 rfl (fun i14 l15 => ?_)
              refine zb_iload (j := 1) dX12_where_101 rfl ?_
              refine zb_lI dX12_where_103 i14 l15 o11.1 o11.2 ?_
              obtain ⟨o16, h⟩ := h
              refine zb_lI dX12_where_104 i12 l13 o16.1 o16.2 ?_
              obtain ⟨o17, h⟩ := h
              refine zb_sI dX12_where_105 i7 l8 o17.1 o17.2 hF (fun m105 e105 hF => ?_)
              have h := h m105 e105
              obtain ⟨o18, h⟩ := h
              refine zb_iinc (j := 1) (L' := [(6, (0, (v6_73 + 1))), (0, (2, x0))]) dX12_where_106 rfl o18 (by decide) rfl ?_
              refine zb_goto (tgt := 73) dX12_where_109 (by decide) ?_
              refine zb_sub (L' := [(0, (2, x0)), (6, (0, (v6_73 + 1)))]) [1, 0] rfl ?_
              exact (hX73 _ _).mp h hF
          · have h := h.1 c5
            refine zb_iconst dX12_where_64 (zb_inIc rfl) ?_
            exact zb_rI dX12_where_65 rfl hF h
        · have h := h.2 c4
          refine zb_iconst dX12_where_50 (zb_inIc rfl) ?_
          exact zb_rI dX12_where_51 rfl hF h
    · have h := h.1 c2
      refine zb_bipush dX12_where_18 (by decide) (zb_inIc rfl) ?_
      exact zb_rI dX12_where_20 rfl hF h
  · have h := h.1 c1
    refine zb_iconst dX12_where_8 (zb_inIc rfl) ?_
    exact zb_rI dX12_where_9 rfl hF h
