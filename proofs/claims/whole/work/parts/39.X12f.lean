/-! ===== SameBenchModel: instructions and walks (laid by gen/layout.py) ===== -/
theorem dX12_orbit_0 : decode cX12_orbit 0 = .ok (.aload_n 0, 1) := by decide +kernel
theorem dX12_orbit_1 : decode cX12_orbit 1 = .ok (.iload_n 1, 1) := by decide +kernel
theorem dX12_orbit_2 : decode cX12_orbit 2 = .ok (.invokevirtual 137, 3) := by decide +kernel
theorem dX12_orbit_5 : decode cX12_orbit 5 = .ok (.ifCond .ne 5, 3) := by decide +kernel
theorem dX12_orbit_8 : decode cX12_orbit 8 = .ok (.iconst (-1), 1) := by decide +kernel
theorem dX12_orbit_9 : decode cX12_orbit 9 = .ok (.ireturn, 1) := by decide +kernel
theorem dX12_orbit_10 : decode cX12_orbit 10 = .ok (.aload_n 0, 1) := by decide +kernel
theorem dX12_orbit_11 : decode cX12_orbit 11 = .ok (.iload_n 1, 1) := by decide +kernel
theorem dX12_orbit_12 : decode cX12_orbit 12 = .ok (.invokevirtual 172, 3) := by decide +kernel
theorem dX12_orbit_15 : decode cX12_orbit 15 = .ok (.ifCond .ne 6, 3) := by decide +kernel
theorem dX12_orbit_18 : decode cX12_orbit 18 = .ok (.bipush (-2), 2) := by decide +kernel
theorem dX12_orbit_20 : decode cX12_orbit 20 = .ok (.ireturn, 1) := by decide +kernel
theorem dX12_orbit_21 : decode cX12_orbit 21 = .ok (.aload_n 0, 1) := by decide +kernel
theorem dX12_orbit_22 : decode cX12_orbit 22 = .ok (.iload_n 1, 1) := by decide +kernel
theorem dX12_orbit_23 : decode cX12_orbit 23 = .ok (.invokevirtual 194, 3) := by decide +kernel
theorem dX12_orbit_26 : decode cX12_orbit 26 = .ok (.aload_n 0, 1) := by decide +kernel
theorem dX12_orbit_27 : decode cX12_orbit 27 = .ok (.iload_n 2, 1) := by decide +kernel
theorem dX12_orbit_28 : decode cX12_orbit 28 = .ok (.invokevirtual 283, 3) := by decide +kernel
theorem dX12_orbit_31 : decode cX12_orbit 31 = .ok (.istore_n 3, 1) := by decide +kernel
theorem dX12_orbit_32 : decode cX12_orbit 32 = .ok (.iload_n 3, 1) := by decide +kernel
theorem dX12_orbit_33 : decode cX12_orbit 33 = .ok (.ifCond .ge 5, 3) := by decide +kernel
theorem dX12_orbit_36 : decode cX12_orbit 36 = .ok (.iconst (-1), 1) := by decide +kernel
theorem dX12_orbit_37 : decode cX12_orbit 37 = .ok (.ireturn, 1) := by decide +kernel
theorem dX12_orbit_38 : decode cX12_orbit 38 = .ok (.iconst 0, 1) := by decide +kernel
theorem dX12_orbit_39 : decode cX12_orbit 39 = .ok (.istore 4, 2) := by decide +kernel
theorem dX12_orbit_41 : decode cX12_orbit 41 = .ok (.iconst 0, 1) := by decide +kernel
theorem dX12_orbit_42 : decode cX12_orbit 42 = .ok (.istore 5, 2) := by decide +kernel
theorem dX12_orbit_44 : decode cX12_orbit 44 = .ok (.iload 5, 2) := by decide +kernel
theorem dX12_orbit_46 : decode cX12_orbit 46 = .ok (.aload_n 0, 1) := by decide +kernel
theorem dX12_orbit_47 : decode cX12_orbit 47 = .ok (.getfield 175, 3) := by decide +kernel
theorem dX12_orbit_50 : decode cX12_orbit 50 = .ok (.if_icmp .ge 30, 3) := by decide +kernel
theorem dX12_orbit_53 : decode cX12_orbit 53 = .ok (.iload 4, 2) := by decide +kernel
theorem dX12_orbit_55 : decode cX12_orbit 55 = .ok (.aload_n 0, 1) := by decide +kernel
theorem dX12_orbit_56 : decode cX12_orbit 56 = .ok (.iconst 0, 1) := by decide +kernel
theorem dX12_orbit_57 : decode cX12_orbit 57 = .ok (.iload_n 3, 1) := by decide +kernel
theorem dX12_orbit_58 : decode cX12_orbit 58 = .ok (.iload 5, 2) := by decide +kernel
theorem dX12_orbit_60 : decode cX12_orbit 60 = .ok (.invokevirtual 273, 3) := by decide +kernel
theorem dX12_orbit_63 : decode cX12_orbit 63 = .ok (.ifCond .eq 7, 3) := by decide +kernel
theorem dX12_orbit_66 : decode cX12_orbit 66 = .ok (.iconst 1, 1) := by decide +kernel
theorem dX12_orbit_67 : decode cX12_orbit 67 = .ok (.goto 4, 3) := by decide +kernel
theorem dX12_orbit_70 : decode cX12_orbit 70 = .ok (.iconst 0, 1) := by decide +kernel
theorem dX12_orbit_71 : decode cX12_orbit 71 = .ok (.iadd, 1) := by decide +kernel
theorem dX12_orbit_72 : decode cX12_orbit 72 = .ok (.istore 4, 2) := by decide +kernel
theorem dX12_orbit_74 : decode cX12_orbit 74 = .ok (.iinc 5 1, 3) := by decide +kernel
theorem dX12_orbit_77 : decode cX12_orbit 77 = .ok (.goto (-33), 3) := by decide +kernel
theorem dX12_orbit_80 : decode cX12_orbit 80 = .ok (.iload 4, 2) := by decide +kernel
theorem dX12_orbit_82 : decode cX12_orbit 82 = .ok (.ireturn, 1) := by decide +kernel
def PL_X12_orbit_44 (d : Nat) (E : zb_E) (x0 : Int) (r28 : Int) (Q : Int → zb_M → Prop)  (v4_44 : Int) (v5_44 : Int) (m44l : zb_M) : Prop :=
  ∀ X44 : Int → Int → zb_M → Prop, (∀ (v4_44 : Int) (v5_44 : Int) (m44l : zb_M), (((m44l x0 15) ≤ v5_44 → Q v4_44 m44l) ∧ (¬ (m44l x0 15) ≤ v5_44 → zb_T K_X12_find d [(2, x0), (0, 0), (0, r28), (0, v5_44)] E m44l (fun r60 m60 => (r60 = 0 → (zb_inI (v4_44 + 0)) ∧ ((zb_inI (v5_44 + 1)) ∧ (X44 (v4_44 + 0) (v5_44 + 1) m60))) ∧ (¬ r60 = 0 → (zb_inI (v4_44 + 1)) ∧ ((zb_inI (v5_44 + 1)) ∧ (X44 (v4_44 + 1) (v5_44 + 1) m60)))))) → X44 v4_44 v5_44 m44l) → X44 v4_44 v5_44 m44l
def PM_X12_orbit (d : Nat) (E : zb_E) (x0 : Int) (x1 : Int) (x2 : Int) (m : zb_M) (Q : Int → zb_M → Prop) : Prop :=
  zb_Tp K_X12_isGraph d [(2, x0), (0, x1)] E m (fun r2 => (r2 = 0 → Q (-1) m) ∧ (¬ r2 = 0 → zb_Tp K_X12_isRight d [(2, x0), (0, x1)] E m (fun r12 => (r12 = 0 → Q (-2) m) ∧ (¬ r12 = 0 → zb_T K_X12_layOut d [(2, x0), (0, x1)] E m (fun r23 m23 => zb_Tp K_X12_shownPlace d [(2, x0), (0, x2)] E m23 (fun r28 => (0 ≤ r28 → PL_X12_orbit_44 d E x0 r28 Q 0 0 m23) ∧ (¬ 0 ≤ r28 → Q (-1) m23)))))))
set_option maxRecDepth 100000 in
set_option maxHeartbeats 4000000 in
theorem w_X12_orbit {d : Nat} {E : zb_E} {x0 x1 x2 : Int} {m : zb_M} {Q : Int → zb_M → Prop} (h : PM_X12_orbit d E x0 x1 x2 m Q) : zb_T K_X12_orbit (d + 1) [(2, x0), (0, x1), (0, x2)] E m Q := by
  unfold PM_X12_orbit at h
  refine zb_T_in gd_X12_orbit rfl rfl (fun hW hA G C hF => ?_)
  have i_0 : zb_is E.1 x0 12 := zb_aH hA (by decide)
  show zb_WP _ _ 0 [(0, (2, x0)), (1, (0, x1)), (2, (0, x2))] [] _ _ _ _
  refine zb_aload_n (j := 0) dX12_orbit_0 rfl rfl ?_
  refine zb_iload_n (j := 1) dX12_orbit_1 rfl rfl ?_
  refine zb_cVp (As := [(0, x1)]) (As' := [(0, x1)]) (st := []) dX12_orbit_2 lk_X12_137 gd_X12_isGraph rfl rfl i_0 ⟨_, rfl, rfl⟩ h hW hF (zb_aR i_0 (zb_aI zb_a0)) (Nat.le_refl _) (Nat.le_of_ble_eq_true rfl) (fun r2 h => ?_)
  show zb_WP _ _ _ _ [(0, r2)] _ _ _ _
  refine zb_if_ne (tgt := 10) dX12_orbit_5 (by decide) (fun c1 => ?_) (fun c1 => ?_)
  · have h := h.2 c1
    refine zb_aload_n (j := 0) dX12_orbit_10 rfl rfl ?_
    refine zb_iload_n (j := 1) dX12_orbit_11 rfl rfl ?_
    refine zb_cVp (As := [(0, x1)]) (As' := [(0, x1)]) (st := []) dX12_orbit_12 lk_X12_172 gd_X12_isRight rfl rfl i_0 ⟨_, rfl, rfl⟩ h hW hF (zb_aR i_0 (zb_aI zb_a0)) (Nat.le_refl _) (Nat.le_of_ble_eq_true rfl) (fun r12 h => ?_)
    show zb_WP _ _ _ _ [(0, r12)] _ _ _ _
    refine zb_if_ne (tgt := 21) dX12_orbit_15 (by decide) (fun c2 => ?_) (fun c2 => ?_)
    · have h := h.2 c2
      refine zb_aload_n (j := 0) dX12_orbit_21 rfl rfl ?_
      refine zb_iload_n (j := 1) dX12_orbit_22 rfl rfl ?_
      refine zb_cV (As := [(0, x1)]) (As' := [(0, x1)]) (st := []) dX12_orbit_23 lk_X12_194 gd_X12_layOut rfl rfl i_0 ⟨_, rfl, rfl⟩ h hW hF (zb_aR i_0 (zb_aI zb_a0)) (Nat.le_refl _) (Nat.le_of_ble_eq_true rfl) (fun r23 m23 hF h => ?_)
      show zb_WP _ _ _ _ [] _ _ _ _
      refine zb_aload_n (j := 0) dX12_orbit_26 rfl rfl ?_
      refine zb_iload_n (j := 2) dX12_orbit_27 rfl rfl ?_
      refine zb_cVp (As := [(0, x2)]) (As' := [(0, x2)]) (st := []) dX12_orbit_28 lk_X12_283 gd_X12_shownPlace rfl rfl i_0 ⟨_, rfl, rfl⟩ h hW hF (zb_aR i_0 (zb_aI zb_a0)) (Nat.le_refl _) (Nat.le_of_ble_eq_true rfl) (fun r28 h => ?_)
      show zb_WP _ _ _ _ [(0, r28)] _ _ _ _
      refine zb_istore_n (L' := [(3, (0, r28)), (0, (2, x0)), (1, (0, x1)), (2, (0, x2))]) dX12_orbit_31 rfl (by decide) rfl ?_
      refine zb_iload_n (j := 0) dX12_orbit_32 rfl rfl ?_
      refine zb_if_ge (tgt := 38) dX12_orbit_33 (by decide) (fun c3 => ?_) (fun c3 => ?_)
      · have h := h.1 c3
        refine zb_iconst dX12_orbit_38 (zb_inIc rfl) ?_
        refine zb_istore (L' := [(4, (0, 0)), (3, (0, r28)), (0, (2, x0)), (1, (0, x1)), (2, (0, x2))]) dX12_orbit_39 (by decide) rfl ?_
        refine zb_iconst dX12_orbit_41 (zb_inIc rfl) ?_
        refine zb_istore (L' := [(5, (0, 0)), (4, (0, 0)), (3, (0, r28)), (0, (2, x0)), (1, (0, x1)), (2, (0, x2))]) dX12_orbit_42 (by decide) rfl ?_
        refine zb_sub (L' := [(0, (2, x0)), (3, (0, r28)), (4, (0, 0)), (5, (0, 0))]) [3, 2, 1, 0] rfl ?_
        unfold PL_X12_orbit_44 at h
        obtain ⟨X44, hX44⟩ : ∃ X : Int → Int → zb_M → Prop, ∀ (v4_44 : Int) (v5_44 : Int) (m44l : zb_M), (X v4_44 v5_44 m44l ↔ (zb_FIN E m44l → zb_WP (G, C, d + 1, 0, 0, zb_q E Q) F_X12_orbit 44 [(0, (2, x0)), (3, (0, r28)), (4, (0, v4_44)), (5, (0, v5_44))] [] E.1 m44l 0 0)) := ⟨fun v4_44 v5_44 m44l => zb_FIN E m44l → zb_WP (G, C, d + 1, 0, 0, zb_q E Q) F_X12_orbit 44 [(0, (2, x0)), (3, (0, r28)), (4, (0, v4_44)), (5, (0, v5_44))] [] E.1 m44l 0 0, fun _ _ _ => Iff.rfl⟩
        refine (hX44 _ _ _).mp (h X44 (fun v4_44 v5_44 m44l h => (hX44 _ _ _).mpr (fun hF => ?_))) hF
        refine zb_iload (j := 3) dX12_orbit_44 rfl ?_
        refine zb_aload_n (j := 0) dX12_orbit_46 rfl rfl ?_
        refine zb_gI 15 dX12_orbit_47 fl_X12_175 i_0 rfl rfl ?_
        refine zb_icmp_ge (tgt := 80) dX12_orbit_50 (by decide) (fun c4 => ?_) (fun c4 => ?_)
        · have h := h.1 c4
          refine zb_iload (j := 2) dX12_orbit_80 rfl ?_
          exact zb_rI dX12_orbit_82 rfl hF h
        · have h := h.2 c4
          refine zb_iload (j := 2) dX12_orbit_53 rfl ?_
          refine zb_aload_n (j := 0) dX12_orbit_55 rfl rfl ?_
          refine zb_iconst dX12_orbit_56 (zb_inIc rfl) ?_
          refine zb_iload_n (j := 1) dX12_orbit_57 rfl rfl ?_
          refine zb_iload (j := 3) dX12_orbit_58 rfl ?_
          refine zb_cV (As := [(0, 0), (0, r28), (0, v5_44)]) (As' := [(0, v5_44), (0, r28), (0, 0)]) (st := [(0, v4_44)]) dX12_orbit_60 lk_X12_273 gd_X12_find rfl rfl i_0 ⟨_, rfl, rfl⟩ h hW hF (zb_aR i_0 (zb_aI (zb_aI (zb_aI zb_a0)))) (Nat.le_refl _) (Nat.le_of_ble_eq_true rfl) (fun r60 m60 hF h => ?_)
          show zb_WP _ _ _ _ [(0, r60), (0, v4_44)] _ _ _ _
          refine zb_if_eq (tgt := 70) dX12_orbit_63 (by decide) (fun c5 => ?_) (fun c5 => ?_)
          · have h := h.1 c5
            refine zb_iconst dX12_orbit_70 (zb_inIc rfl) ?_
            obtain ⟨o6, h⟩ := h
            refine zb_iadd dX12_orbit_71 o6 ?_
            refine zb_istore (L' := [(4, (0, (v4_44 + 0))), (0, (2, x0)), (3, (0, r28)), (5, (0, v5_44))]) dX12_orbit_72 (by decide) rfl ?_
            obtain ⟨o7, h⟩ := h
            refine zb_iinc (j := 3) (L' := [(5, (0, (v5_44 + 1))), (4, (0, (v4_44 + 0))), (0, (2, x0)), (3, (0, r28))]) dX12_orbit_74 rfl o7 (by decide) rfl ?_
            refine zb_goto (tgt := 44) dX12_orbit_77 (by decide) ?_
            refine zb_sub (L' := [(0, (2, x0)), (3, (0, r28)), (4, (0, (v4_44 + 0))), (5, (0, (v5_44 + 1)))]) [2, 3, 1, 0] rfl ?_
            exact (hX44 _ _ _).mp h hF
          · have h := h.2 c5
            refine zb_iconst dX12_orbit_66 (zb_inIc rfl) ?_
            refine zb_goto (tgt := 71) dX12_orbit_67 (by decide) ?_
            obtain ⟨o8, h⟩ := h
            refine zb_iadd dX12_orbit_71 o8 ?_
            refine zb_istore (L' := [(4, (0, (v4_44 + 1))), (0, (2, x0)), (3, (0, r28)), (5, (0, v5_44))]) dX12_orbit_72 (by decide) rfl ?_
            obtain ⟨o9, h⟩ := h
            refine zb_iinc (j := 3) (L' := [(5, (0, (v5_44 + 1))), (4, (0, (v4_44 + 1))), (0, (2, x0)), (3, (0, r28))]) dX12_orbit_74 rfl o9 (by decide) rfl ?_
            refine zb_goto (tgt := 44) dX12_orbit_77 (by decide) ?_
            refine zb_sub (L' := [(0, (2, x0)), (3, (0, r28)), (4, (0, (v4_44 + 1))), (5, (0, (v5_44 + 1)))]) [2, 3, 1, 0] rfl ?_
            exact (hX44 _ _ _).mp h hF
      · have h := h.2 c3
        refine zb_iconst dX12_orbit_36 (zb_inIc rfl) ?_
        exact zb_rI dX12_orbit_37 rfl hF h
    · have h := h.1 c2
      refine zb_bipush dX12_orbit_18 (by decide) (zb_inIc rfl) ?_
      exact zb_rI dX12_orbit_20 rfl hF h
  · have h := h.1 c1
    refine zb_iconst dX12_orbit_8 (zb_inIc rfl) ?_
    exact zb_rI dX12_orbit_9 rfl hF h
theorem dX12_by_0 : decode cX12_by 0 = .ok (.aload_n 0, 1) := by decide +kernel
theorem dX12_by_1 : decode cX12_by 1 = .ok (.getfield 244, 3) := by decide +kernel
theorem dX12_by_4 : decode cX12_by 4 = .ok (.ifCond .eq 31, 3) := by decide +kernel
theorem dX12_by_7 : decode cX12_by 7 = .ok (.iload_n 1, 1) := by decide +kernel
theorem dX12_by_8 : decode cX12_by 8 = .ok (.iconst 0, 1) := by decide +kernel
theorem dX12_by_9 : decode cX12_by 9 = .ok (.bipush 11, 2) := by decide +kernel
theorem dX12_by_11 : decode cX12_by 11 = .ok (.invokestatic 133, 3) := by decide +kernel
theorem dX12_by_14 : decode cX12_by 14 = .ok (.ifCond .eq 21, 3) := by decide +kernel
theorem dX12_by_17 : decode cX12_by 17 = .ok (.aload_n 0, 1) := by decide +kernel
theorem dX12_by_18 : decode cX12_by 18 = .ok (.getfield 106, 3) := by decide +kernel
theorem dX12_by_21 : decode cX12_by 21 = .ok (.iload_n 1, 1) := by decide +kernel
theorem dX12_by_22 : decode cX12_by 22 = .ok (.iaload, 1) := by decide +kernel
theorem dX12_by_23 : decode cX12_by 23 = .ok (.ifCond .lt 12, 3) := by decide +kernel
theorem dX12_by_26 : decode cX12_by 26 = .ok (.aload_n 0, 1) := by decide +kernel
theorem dX12_by_27 : decode cX12_by 27 = .ok (.getfield 106, 3) := by decide +kernel
theorem dX12_by_30 : decode cX12_by 30 = .ok (.iload_n 1, 1) := by decide +kernel
theorem dX12_by_31 : decode cX12_by 31 = .ok (.iaload, 1) := by decide +kernel
theorem dX12_by_32 : decode cX12_by 32 = .ok (.goto 4, 3) := by decide +kernel
theorem dX12_by_35 : decode cX12_by 35 = .ok (.iconst (-1), 1) := by decide +kernel
theorem dX12_by_36 : decode cX12_by 36 = .ok (.ireturn, 1) := by decide +kernel
def PM_X12_by (d : Nat) (E : zb_E) (x0 : Int) (x1 : Int) (m : zb_M) (Q : Int → Prop) : Prop :=
  ((m x0 40) = 0 → Q (-1)) ∧ (¬ (m x0 40) = 0 → zb_Tp K_X12_in d [(0, x1), (0, 0), (0, 11)] E m (fun r11 => (r11 = 0 → Q (-1)) ∧ (¬ r11 = 0 → (0 ≤ x1 ∧ x1 < 12) ∧ (((m (E.2 x0 41) x1) < 0 → Q (-1)) ∧ (¬ (m (E.2 x0 41) x1) < 0 → Q (m (E.2 x0 41) x1))))))
set_option maxRecDepth 100000 in
set_option maxHeartbeats 4000000 in
theorem w_X12_by {d : Nat} {E : zb_E} {x0 x1 : Int} {m : zb_M} {Q : Int → Prop} (h : PM_X12_by d E x0 x1 m Q) : zb_Tp K_X12_by (d + 1) [(2, x0), (0, x1)] E m Q := by
  unfold PM_X12_by at h
  refine zb_T_in gd_X12_by rfl rfl (fun hW hA G C hF => ?_)
  have i_0 : zb_is E.1 x0 12 := zb_aH hA (by decide)
  show zb_WP _ _ 0 [(0, (2, x0)), (1, (0, x1))] [] _ _ _ _
  refine zb_aload_n (j := 0) dX12_by_0 rfl rfl ?_
  refine zb_gI 40 dX12_by_1 fl_X12_244 i_0 rfl rfl ?_
  refine zb_if_eq (tgt := 35) dX12_by_4 (by decide) (fun c1 => ?_) (fun c1 => ?_)
  · have h := h.1 c1
    refine zb_iconst dX12_by_35 (zb_inIc rfl) ?_
    exact zb_rI dX12_by_36 rfl hF ⟨rfl, h⟩
  · have h := h.2 c1
    refine zb_iload_n (j := 1) dX12_by_7 rfl rfl ?_
    refine zb_iconst dX12_by_8 (zb_inIc rfl) ?_
    refine zb_bipush dX12_by_9 (by decide) (zb_inIc rfl) ?_
    refine zb_cSp (As := [(0, x1), (0, 0), (0, 11)]) (As' := [(0, 11), (0, 0), (0, x1)]) (st := []) dX12_by_11 lk_X12_133 gd_X12_in rfl rfl h hW hF (zb_aI (zb_aI (zb_aI zb_a0))) (Nat.le_refl _) (Nat.le_of_ble_eq_true rfl) (fun r11 h => ?_)
    show zb_WP _ _ _ _ [(0, r11)] _ _ _ _
    refine zb_if_eq (tgt := 35) dX12_by_14 (by decide) (fun c2 => ?_) (fun c2 => ?_)
    · have h := h.1 c2
      refine zb_iconst dX12_by_35 (zb_inIc rfl) ?_
      exact zb_rI dX12_by_36 rfl hF ⟨rfl, h⟩
    · have h := h.2 c2
      refine zb_aload_n (j := 0) dX12_by_17 rfl rfl ?_
      refine zb_gFa 41 dX12_by_18 fl_X12_106 i_0 hW hF rfl rfl rfl (by decide) rfl 12 rfl (fun i3 l4 => ?_)
      refine zb_iload_n (j := 1) dX12_by_21 rfl rfl ?_
      obtain ⟨o5, h⟩ := h
      refine zb_lI dX12_by_22 i3 l4 o5.1 o5.2 ?_
      refine zb_if_lt (tgt := 35) dX12_by_23 (by decide) (fun c6 => ?_) (fun c6 => ?_)
      · have h := h.1 c6
        refine zb_iconst dX12_by_35 (zb_inIc rfl) ?_
        exact zb_rI dX12_by_36 rfl hF ⟨rfl, h⟩
      · have h := h.2 c6
        refine zb_aload_n (j := 0) dX12_by_26 rfl rfl ?_
        refine zb_gFa 41 dX12_by_27 fl_X12_106 i_0 hW hF rfl rfl rfl (by decide) rfl 12 rfl (fun i7 l8 => ?_)
        refine zb_iload_n (j := 1) dX12_by_30 rfl rfl ?_
        refine zb_lI dX12_by_31 i7 l8 o5.1 o5.2 ?_
        refine zb_goto (tgt := 36) dX12_by_32 (by decide) ?_
        exact zb_rI dX12_by_36 rfl hF ⟨rfl, h⟩
theorem dX12_leads_0 : decode cX12_leads 0 = .ok (.iconst 1, 1) := by decide +kernel
theorem dX12_leads_1 : decode cX12_leads 1 = .ok (.iload_n 1, 1) := by decide +kernel
theorem dX12_leads_2 : decode cX12_leads 2 = .ok (.ishl, 1) := by decide +kernel
theorem dX12_leads_3 : decode cX12_leads 3 = .ok (.istore_n 3, 1) := by decide +kernel
theorem dX12_leads_4 : decode cX12_leads 4 = .ok (.iconst 0, 1) := by decide +kernel
theorem dX12_leads_5 : decode cX12_leads 5 = .ok (.istore 4, 2) := by decide +kernel
theorem dX12_leads_7 : decode cX12_leads 7 = .ok (.iload_n 3, 1) := by decide +kernel
theorem dX12_leads_8 : decode cX12_leads 8 = .ok (.iload 4, 2) := by decide +kernel
theorem dX12_leads_10 : decode cX12_leads 10 = .ok (.if_icmp .eq 75, 3) := by decide +kernel
theorem dX12_leads_13 : decode cX12_leads 13 = .ok (.iload_n 3, 1) := by decide +kernel
theorem dX12_leads_14 : decode cX12_leads 14 = .ok (.istore 4, 2) := by decide +kernel
theorem dX12_leads_16 : decode cX12_leads 16 = .ok (.iconst 0, 1) := by decide +kernel
theorem dX12_leads_17 : decode cX12_leads 17 = .ok (.istore 5, 2) := by decide +kernel
theorem dX12_leads_19 : decode cX12_leads 19 = .ok (.iload 5, 2) := by decide +kernel
theorem dX12_leads_21 : decode cX12_leads 21 = .ok (.aload_n 0, 1) := by decide +kernel
theorem dX12_leads_22 : decode cX12_leads 22 = .ok (.getfield 286, 3) := by decide +kernel
theorem dX12_leads_25 : decode cX12_leads 25 = .ok (.if_icmp .ge 57, 3) := by decide +kernel
theorem dX12_leads_28 : decode cX12_leads 28 = .ok (.iconst 0, 1) := by decide +kernel
theorem dX12_leads_29 : decode cX12_leads 29 = .ok (.istore 6, 2) := by decide +kernel
theorem dX12_leads_31 : decode cX12_leads 31 = .ok (.iload 6, 2) := by decide +kernel
theorem dX12_leads_33 : decode cX12_leads 33 = .ok (.bipush 12, 2) := by decide +kernel
theorem dX12_leads_35 : decode cX12_leads 35 = .ok (.if_icmp .ge 41, 3) := by decide +kernel
theorem dX12_leads_38 : decode cX12_leads 38 = .ok (.iload_n 3, 1) := by decide +kernel
theorem dX12_leads_39 : decode cX12_leads 39 = .ok (.iload_n 3, 1) := by decide +kernel
theorem dX12_leads_40 : decode cX12_leads 40 = .ok (.iload 6, 2) := by decide +kernel
theorem dX12_leads_42 : decode cX12_leads 42 = .ok (.ishr, 1) := by decide +kernel
theorem dX12_leads_43 : decode cX12_leads 43 = .ok (.iconst 1, 1) := by decide +kernel
theorem dX12_leads_44 : decode cX12_leads 44 = .ok (.iand, 1) := by decide +kernel
theorem dX12_leads_45 : decode cX12_leads 45 = .ok (.iconst 1, 1) := by decide +kernel
theorem dX12_leads_46 : decode cX12_leads 46 = .ok (.if_icmp .ne 21, 3) := by decide +kernel
theorem dX12_leads_49 : decode cX12_leads 49 = .ok (.iconst 1, 1) := by decide +kernel
theorem dX12_leads_50 : decode cX12_leads 50 = .ok (.aload_n 0, 1) := by decide +kernel
theorem dX12_leads_51 : decode cX12_leads 51 = .ok (.getfield 127, 3) := by decide +kernel
theorem dX12_leads_54 : decode cX12_leads 54 = .ok (.bipush 12, 2) := by decide +kernel
theorem dX12_leads_56 : decode cX12_leads 56 = .ok (.iload 5, 2) := by decide +kernel
theorem dX12_leads_58 : decode cX12_leads 58 = .ok (.imul, 1) := by decide +kernel
theorem dX12_leads_59 : decode cX12_leads 59 = .ok (.iload 6, 2) := by decide +kernel
theorem dX12_leads_61 : decode cX12_leads 61 = .ok (.iadd, 1) := by decide +kernel
theorem dX12_leads_62 : decode cX12_leads 62 = .ok (.iaload, 1) := by decide +kernel
theorem dX12_leads_63 : decode cX12_leads 63 = .ok (.ishl, 1) := by decide +kernel
theorem dX12_leads_64 : decode cX12_leads 64 = .ok (.goto 4, 3) := by decide +kernel
theorem dX12_leads_67 : decode cX12_leads 67 = .ok (.iconst 0, 1) := by decide +kernel
theorem dX12_leads_68 : decode cX12_leads 68 = .ok (.ior, 1) := by decide +kernel
theorem dX12_leads_69 : decode cX12_leads 69 = .ok (.istore_n 3, 1) := by decide +kernel
theorem dX12_leads_70 : decode cX12_leads 70 = .ok (.iinc 6 1, 3) := by decide +kernel
theorem dX12_leads_73 : decode cX12_leads 73 = .ok (.goto (-42), 3) := by decide +kernel
theorem dX12_leads_76 : decode cX12_leads 76 = .ok (.iinc 5 1, 3) := by decide +kernel
theorem dX12_leads_79 : decode cX12_leads 79 = .ok (.goto (-60), 3) := by decide +kernel
theorem dX12_leads_82 : decode cX12_leads 82 = .ok (.goto (-75), 3) := by decide +kernel
theorem dX12_leads_85 : decode cX12_leads 85 = .ok (.iload_n 3, 1) := by decide +kernel
theorem dX12_leads_86 : decode cX12_leads 86 = .ok (.iload_n 2, 1) := by decide +kernel
theorem dX12_leads_87 : decode cX12_leads 87 = .ok (.ishr, 1) := by decide +kernel
theorem dX12_leads_88 : decode cX12_leads 88 = .ok (.iconst 1, 1) := by decide +kernel
theorem dX12_leads_89 : decode cX12_leads 89 = .ok (.iand, 1) := by decide +kernel
theorem dX12_leads_90 : decode cX12_leads 90 = .ok (.iconst 1, 1) := by decide +kernel
theorem dX12_leads_91 : decode cX12_leads 91 = .ok (.if_icmp .ne 7, 3) := by decide +kernel
theorem dX12_leads_94 : decode cX12_leads 94 = .ok (.iconst 1, 1) := by decide +kernel
theorem dX12_leads_95 : decode cX12_leads 95 = .ok (.goto 4, 3) := by decide +kernel
theorem dX12_leads_98 : decode cX12_leads 98 = .ok (.iconst 0, 1) := by decide +kernel
theorem dX12_leads_99 : decode cX12_leads 99 = .ok (.ireturn, 1) := by decide +kernel
def PJ_X12_leads_85 (d : Nat) (E : zb_E) (x2 : Int) (Q : Int → Prop) (v3_85 : Int) : Prop :=
  ((zb_and (zb_shr v3_85 x2) 1) = 1 → Q 1) ∧ (¬ (zb_and (zb_shr v3_85 x2) 1) = 1 → Q 0)
def PJ_X12_leads_82 (d : Nat) (E : zb_E) (v3_7 : Int) (X7 : Int → Int → Prop) (Q : Int → Prop) (v3_82 : Int) : Prop :=
  X7 v3_82 v3_7
def PJ_X12_leads_76 (d : Nat) (E : zb_E) (v5_19 : Int) (X19 : Int → Int → Prop) (Q : Int → Prop) (v3_76 : Int) : Prop :=
  (zb_inI (v5_19 + 1)) ∧ (X19 v3_76 (v5_19 + 1))
def PL_X12_leads_31 (d : Nat) (E : zb_E) (x0 : Int) (m : zb_M) (v5_19 : Int) (Q : Int → Prop) (K76_31 : Int → Prop) (v3_31 : Int) (v6_31 : Int) : Prop :=
  ∀ X31 : Int → Int → Prop, (∀ (v3_31 : Int) (v6_31 : Int), ((12 ≤ v6_31 → K76_31 v3_31) ∧ (¬ 12 ≤ v6_31 → ((zb_and (zb_shr v3_31 v6_31) 1) = 1 → (zb_inI (12 * v5_19)) ∧ ((zb_inI ((12 * v5_19) + v6_31)) ∧ ((0 ≤ ((12 * v5_19) + v6_31) ∧ ((12 * v5_19) + v6_31) < 1200) ∧ ((zb_inI (v6_31 + 1)) ∧ (X31 (zb_or v3_31 (zb_shl 1 (m (E.2 x0 50) ((12 * v5_19) + v6_31)))) (v6_31 + 1)))))) ∧ (¬ (zb_and (zb_shr v3_31 v6_31) 1) = 1 → (zb_inI (v6_31 + 1)) ∧ (X31 (zb_or v3_31 0) (v6_31 + 1))))) → X31 v3_31 v6_31) → X31 v3_31 v6_31
def PL_X12_leads_19 (d : Nat) (E : zb_E) (x0 : Int) (m : zb_M) (Q : Int → Prop) (K82_19 : Int → Prop) (v3_19 : Int) (v5_19 : Int) : Prop :=
  ∀ X19 : Int → Int → Prop, (∀ (v3_19 : Int) (v5_19 : Int), (((m x0 49) ≤ v5_19 → K82_19 v3_19) ∧ (¬ (m x0 49) ≤ v5_19 → PL_X12_leads_31 d E x0 m v5_19 Q (PJ_X12_leads_76 d E v5_19 X19 Q) v3_19 0)) → X19 v3_19 v5_19) → X19 v3_19 v5_19
def PL_X12_leads_7 (d : Nat) (E : zb_E) (x0 : Int) (m : zb_M) (Q : Int → Prop) (K85_7 : Int → Prop) (v3_7 : Int) (v4_7 : Int) : Prop :=
  ∀ X7 : Int → Int → Prop, (∀ (v3_7 : Int) (v4_7 : Int), ((v3_7 = v4_7 → K85_7 v3_7) ∧ (¬ v3_7 = v4_7 → PL_X12_leads_19 d E x0 m Q (PJ_X12_leads_82 d E v3_7 X7 Q) v3_7 0)) → X7 v3_7 v4_7) → X7 v3_7 v4_7
def PM_X12_leads (d : Nat) (E : zb_E) (x0 : Int) (x1 : Int) (x2 : Int) (m : zb_M) (Q : Int → Prop) : Prop :=
  PL_X12_leads_7 d E x0 m Q (PJ_X12_leads_85 d E x2 Q) (zb_shl 1 x1) 0
set_option maxRecDepth 100000 in
set_option maxHeartbeats 4000000 in
theorem w_X12_leads {d : Nat} {E : zb_E} {x0 x1 x2 : Int} {m : zb_M} {Q : Int → Prop} (h : PM_X12_leads d E x0 x1 x2 m Q) : zb_Tp K_X12_leads (d + 1) [(2, x0), (0, x1), (0, x2)] E m Q := by
  unfold PM_X12_leads at h
  refine zb_T_in gd_X12_leads rfl rfl (fun hW hA G C hF => ?_)
  have i_0 : zb_is E.1 x0 12 := zb_aH hA (by decide)
  show zb_WP _ _ 0 [(0, (2, x0)), (1, (0, x1)), (2, (0, x2))] [] _ _ _ _
  refine zb_iconst dX12_leads_0 (zb_inIc rfl) ?_
  refine zb_iload_n (j := 1) dX12_leads_1 rfl rfl ?_
  refine zb_ishl dX12_leads_2 ?_
  refine zb_istore_n (L' := [(3, (0, (zb_shl 1 x1))), (0, (2, x0)), (1, (0, x1)), (2, (0, x2))]) dX12_leads_3 rfl (by decide) rfl ?_
  refine zb_iconst dX12_leads_4 (zb_inIc rfl) ?_
  refine zb_istore (L' := [(4, (0, 0)), (3, (0, (zb_shl 1 x1))), (0, (2, x0)), (1, (0, x1)), (2, (0, x2))]) dX12_leads_5 (by decide) rfl ?_
  refine zb_sub (L' := [(0, (2, x0)), (2, (0, x2)), (3, (0, (zb_shl 1 x1))), (4, (0, 0))]) [2, 4, 1, 0] rfl ?_
  have hJ85 : ∀ (v3_85 : Int), zb_FIN E m → PJ_X12_leads_85 d E x2 Q v3_85 → zb_WP (G, C, d + 1, 0, 0, zb_q E (fun r m' => m' = m ∧ Q r)) F_X12_leads 85 [(2, (0, x2)), (3, (0, v3_85))] [] E.1 m 0 0 := by
    intro v3_85 hF h
    unfold PJ_X12_leads_85 at h
    refine zb_iload_n (j := 1) dX12_leads_85 rfl rfl ?_
    refine zb_iload_n (j := 0) dX12_leads_86 rfl rfl ?_
    refine zb_ishr dX12_leads_87 ?_
    refine zb_iconst dX12_leads_88 (zb_inIc rfl) ?_
    refine zb_iand dX12_leads_89 ?_
    refine zb_iconst dX12_leads_90 (zb_inIc rfl) ?_
    refine zb_icmp_ne (tgt := 98) dX12_leads_91 (by decide) (fun c1 => ?_) (fun c1 => ?_)
    · have h := h.2 c1
      refine zb_iconst dX12_leads_98 (zb_inIc rfl) ?_
      exact zb_rZ dX12_leads_99 rfl hF (by decide) ⟨rfl, h⟩
    · have h := h.1 c1
      refine zb_iconst dX12_leads_94 (zb_inIc rfl) ?_
      refine zb_goto (tgt := 99) dX12_leads_95 (by decide) ?_
      exact zb_rZ dX12_leads_99 rfl hF (by decide) ⟨rfl, h⟩
  unfold PL_X12_leads_7 at h
  obtain ⟨X7, hX7⟩ : ∃ X : Int → Int → Prop, ∀ (v3_7 : Int) (v4_7 : Int), (X v3_7 v4_7 ↔ (zb_FIN E m → zb_WP (G, C, d + 1, 0, 0, zb_q E (fun r m' => m' = m ∧ Q r)) F_X12_leads 7 [(0, (2, x0)), (2, (0, x2)), (3, (0, v3_7)), (4, (0, v4_7))] [] E.1 m 0 0)) := ⟨fun v3_7 v4_7 => zb_FIN E m → zb_WP (G, C, d + 1, 0, 0, zb_q E (fun r m' => m' = m ∧ Q r)) F_X12_leads 7 [(0, (2, x0)), (2, (0, x2)), (3, (0, v3_7)), (4, (0, v4_7))] [] E.1 m 0 0, fun _ _ => Iff.rfl⟩
  refine (hX7 _ _).mp (h X7 (fun v3_7 v4_7 h => (hX7 _ _).mpr (fun hF => ?_))) hF
  refine zb_iload_n (j := 2) dX12_leads_7 rfl rfl ?_
  refine zb_iload (j := 3) dX12_leads_8 rfl ?_
  refine zb_icmp_eq (tgt := 85) dX12_leads_10 (by decide) (fun c2 => ?_) (fun c2 => ?_)
  · have h := h.1 c2
    refine zb_sub (L' := [(2, (0, x2)), (3, (0, v3_7))]) [1, 2] rfl ?_
    exact hJ85 _ hF h
  · have h := h.2 c2
    refine zb_iload_n (j := 2) dX12_leads_13 rfl rfl ?_
    refine zb_istore (L' := [(4, (0, v3_7)), (0, (2, x0)), (2, (0, x2)), (3, (0, v3_7))]) dX12_leads_14 (by decide) rfl ?_
    refine zb_iconst dX12_leads_16 (zb_inIc rfl) ?_
    refine zb_istore (L' := [(5, (0, 0)), (4, (0, v3_7)), (0, (2, x0)), (2, (0, x2)), (3, (0, v3_7))]) dX12_leads_17 (by decide) rfl ?_
    refine zb_sub (L' := [(0, (2, x0)), (2, (0, x2)), (3, (0, v3_7)), (4, (0, v3_7)), (5, (0, 0))]) [2, 3, 4, 1, 0] rfl ?_
    have hJ82 : ∀ (v3_82 : Int), zb_FIN E m → PJ_X12_leads_82 d E v3_7 X7 Q v3_82 → zb_WP (G, C, d + 1, 0, 0, zb_q E (fun r m' => m' = m ∧ Q r)) F_X12_leads 82 [(0, (2, x0)), (2, (0, x2)), (3, (0, v3_82)), (4, (0, v3_7))] [] E.1 m 0 0 := by
      intro v3_82 hF h
      unfold PJ_X12_leads_82 at h
      refine zb_goto (tgt := 7) dX12_leads_82 (by decide) ?_
      exact (hX7 _ _).mp h hF
    unfold PL_X12_leads_19 at h
    obtain ⟨X19, hX19⟩ : ∃ X : Int → Int → Prop, ∀ (v3_19 : Int) (v5_19 : Int), (X v3_19 v5_19 ↔ (zb_FIN E m → zb_WP (G, C, d + 1, 0, 0, zb_q E (fun r m' => m' = m ∧ Q r)) F_X12_leads 19 [(0, (2, x0)), (2, (0, x2)), (3, (0, v3_19)), (4, (0, v3_7)), (5, (0, v5_19))] [] E.1 m 0 0)) := ⟨fun v3_19 v5_19 => zb_FIN E m → zb_WP (G, C, d + 1, 0, 0, zb_q E (fun r m' => m' = m ∧ Q r)) F_X12_leads 19 [(0, (2, x0)), (2, (0, x2)), (3, (0, v3_19)), (4, (0, v3_7)), (5, (0, v5_19))] [] E.1 m 0 0, fun _ _ => Iff.rfl⟩
    refine (hX19 _ _).mp (h X19 (fun v3_19 v5_19 h => (hX19 _ _).mpr (fun hF => ?_))) hF
    refine zb_iload (j := 4) dX12_leads_19 rfl ?_
    refine zb_aload_n (j := 0) dX12_leads_21 rfl rfl ?_
    refine zb_gI 49 dX12_leads_22 fl_X12_286 i_0 rfl rfl ?_
    refine zb_icmp_ge (tgt := 82) dX12_leads_25 (by decide) (fun c3 => ?_) (fun c3 => ?_)
    · have h := h.1 c3
      refine zb_sub (L' := [(0, (2, x0)), (2, (0, x2)), (3, (0, v3_19)), (4, (0, v3_7))]) [0, 1, 2, 3] rfl ?_
      exact hJ82 _ hF h
    · have h := h.2 c3
      refine zb_iconst dX12_leads_28 (zb_inIc rfl) ?_
      refine zb_istore (L' := [(6, (0, 0)), (0, (2, x0)), (2, (0, x2)), (3, (0, v3_19)), (4, (0, v3_7)), (5, (0, v5_19))]) dX12_leads_29 (by decide) rfl ?_
      refine zb_sub (L' := [(0, (2, x0)), (2, (0, x2)), (3, (0, v3_19)), (4, (0, v3_7)), (5, (0, v5_19)), (6, (0, 0))]) [1, 2, 3, 4, 5, 0] rfl ?_
      have hJ76 : ∀ (v3_76 : Int), zb_FIN E m → PJ_X12_leads_76 d E v5_19 X19 Q v3_76 → zb_WP (G, C, d + 1, 0, 0, zb_q E (fun r m' => m' = m ∧ Q r)) F_X12_leads 76 [(0, (2, x0)), (2, (0, x2)), (3, (0, v3_76)), (4, (0, v3_7)), (5, (0, v5_19))] [] E.1 m 0 0 := by
        intro v3_76 hF h
        unfold PJ_X12_leads_76 at h
        obtain ⟨o4, h⟩ := h
        refine zb_iinc (j := 4) (L' := [(5, (0, (v5_19 + 1))), (0, (2, x0)), (2, (0, x2)), (3, (0, v3_76)), (4, (0, v3_7))]) dX12_leads_76 rfl o4 (by decide) rfl ?_
        refine zb_goto (tgt := 19) dX12_leads_79 (by decide) ?_
        refine zb_sub (L' := [(0, (2, x0)), (2, (0, x2)), (3, (0, v3_76)), (4, (0, v3_7)), (5, (0, (v5_19 + 1)))]) [1, 2, 3, 4, 0] rfl ?_
        exact (hX19 _ _).mp h hF
      unfold PL_X12_leads_31 at h
      obtain ⟨X31, hX31⟩ : ∃ X : Int → Int → Prop, ∀ (v3_31 : Int) (v6_31 : Int), (X v3_31 v6_31 ↔ (zb_FIN E m → zb_WP (G, C, d + 1, 0, 0, zb_q E (fun r m' => m' = m ∧ Q r)) F_X12_leads 31 [(0, (2, x0)), (2, (0, x2)), (3, (0, v3_31)), (4, (0, v3_7)), (5, (0, v5_19)), (6, (0, v6_31))] [] E.1 m 0 0)) := ⟨fun v3_31 v6_31 => zb_FIN E m → zb_WP (G, C, d + 1, 0, 0, zb_q E (fun r m' => m' = m ∧ Q r)) F_X12_leads 31 [(0, (2, x0)), (2, (0, x2)), (3, (0, v3_31)), (4, (0, v3_7)), (5, (0, v5_19)), (6, (0, v6_31))] [] E.1 m 0 0, fun _ _ => Iff.rfl⟩
      refine (hX31 _ _).mp (h X31 (fun v3_31 v6_31 h => (hX31 _ _).mpr (fun hF => ?_))) hF
      refine zb_iload (j := 5) dX12_leads_31 rfl ?_
      refine zb_bipush dX12_leads_33 (by decide) (zb_inIc rfl) ?_
      refine zb_icmp_ge (tgt := 76) dX12_leads_35 (by decide) (fun c5 => ?_) (fun c5 => ?_)
      · have h := h.1 c5
        refine zb_sub (L' := [(0, (2, x0)), (2, (0, x2)), (3, (0, v3_31)), (4, (0, v3_7)), (5, (0, v5_19))]) [0, 1, 2, 3, 4] rfl ?_
        exact hJ76 _ hF h
      · have h := h.2 c5
        refine zb_iload_n (j := 2) dX12_leads_38 rfl rfl ?_
        refine zb_iload_n (j := 2) dX12_leads_39 rfl rfl ?_
        refine zb_iload (j := 5) dX12_leads_40 rfl ?_
        refine zb_ishr dX12_leads_42 ?_
        refine zb_iconst dX12_leads_43 (zb_inIc rfl) ?_
        refine zb_iand dX12_leads_44 ?_
        refine zb_iconst dX12_leads_45 (zb_inIc rfl) ?_
        refine zb_icmp_ne (tgt := 67) dX12_leads_46 (by decide) (fun c6 => ?_) (fun c6 => ?_)
        · have h := h.2 c6
          refine zb_iconst dX12_leads_67 (zb_inIc rfl) ?_
          refine zb_ior dX12_leads_68 ?_
          refine zb_istore_n (L' := [(3, (0, (zb_or v3_31 0))), (0, (2, x0)), (2, (0, x2)), (4, (0, v3_7)), (5, (0, v5_19)), (6, (0, v6_31))]) dX12_leads_69 rfl (by decide) rfl ?_
          obtain ⟨o7, h⟩ := h
          refine zb_iinc (j := 5) (L' := [(6, (0, (v6_31 + 1))), (3, (0, (zb_or v3_31 0))), (0, (2, x0)), (2, (0, x2)), (4, (0, v3_7)), (5, (0, v5_19))]) dX12_leads_70 rfl o7 (by decide) rfl ?_
          refine zb_goto (tgt := 31) dX12_leads_73 (by decide) ?_
          refine zb_sub (L' := [(0, (2, x0)), (2, (0, x2)), (3, (0, (zb_or v3_31 0))), (4, (0, v3_7)), (5, (0, v5_19)), (6, (0, (v6_31 + 1)))]) [2, 3, 1, 4, 5, 0] rfl ?_
          exact (hX31 _ _).mp h hF
        · have h := h.1 c6
          refine zb_iconst dX12_leads_49 (zb_inIc rfl) ?_
          refine zb_aload_n (j := 0) dX12_leads_50 rfl rfl ?_
          refine zb_gFa 50 dX12_leads_51 fl_X12_127 i_0 hW hF rfl rfl rfl (by decide) rfl 1200 rfl (fun i8 l9 => ?_)
          refine zb_bipush dX12_leads_54 (by decide) (zb_inIc rfl) ?_
          refine zb_iload (j := 4) dX12_leads_56 rfl ?_
          obtain ⟨o10, h⟩ := h
          refine zb_imul dX12_leads_58 o10 ?_
          refine zb_iload (j := 5) dX12_leads_59 rfl ?_
          obtain ⟨o11, h⟩ := h
          refine zb_iadd dX12_leads_61 o11 ?_
          obtain ⟨o12, h⟩ := h
          refine zb_lI dX12_leads_62 i8 l9 o12.1 o12.2 ?_
          refine zb_ishl dX12_leads_63 ?_
          refine zb_goto (tgt := 68) dX12_leads_64 (by decide) ?_
          refine zb_ior dX12_leads_68 ?_
          refine zb_istore_n (L' := [(3, (0, (zb_or v3_31 (zb_shl 1 (m (E.2 x0 50) ((12 * v5_19) + v6_31)))))), (0, (2, x0)), (2, (0, x2)), (4, (0, v3_7)), (5, (0, v5_19)), (6, (0, v6_31))]) dX12_leads_69 rfl (by decide) rfl ?_
          obtain ⟨o13, h⟩ := h
          refine zb_iinc (j := 5) (L' := [(6, (0, (v6_31 + 1))), (3, (0, (zb_or v3_31 (zb_shl 1 (m (E.2 x0 50) ((12 * v5_19) + v6_31)))))), (0, (2, x0)), (2, (0, x2)), (4, (0, v3_7)), (5, (0, v5_19))]) dX12_leads_70 rfl o13 (by decide) rfl ?_
          refine zb_goto (tgt := 31) dX12_leads_73 (by decide) ?_
          refine zb_sub (L' := [(0, (2, x0)), (2, (0, x2)), (3, (0, (zb_or v3_31 (zb_shl 1 (m (E.2 x0 50) ((12 * v5_19) + v6_31)))))), (4, (0, v3_7)), (5, (0, v5_19)), (6, (0, (v6_31 + 1)))]) [2, 3, 1, 4, 5, 0] rfl ?_
          exact (hX31 _ _).mp h hF
theorem dX12_makers_0 : decode cX12_makers 0 = .ok (.aload_n 0, 1) := by decide +kernel
theorem dX12_makers_1 : decode cX12_makers 1 = .ok (.iload_n 1, 1) := by decide +kernel
theorem dX12_makers_2 : decode cX12_makers 2 = .ok (.invokevirtual 137, 3) := by decide +kernel
theorem dX12_makers_5 : decode cX12_makers 5 = .ok (.ifCond .ne 5, 3) := by decide +kernel
theorem dX12_makers_8 : decode cX12_makers 8 = .ok (.iconst (-1), 1) := by decide +kernel
theorem dX12_makers_9 : decode cX12_makers 9 = .ok (.ireturn, 1) := by decide +kernel
theorem dX12_makers_10 : decode cX12_makers 10 = .ok (.aload_n 0, 1) := by decide +kernel
theorem dX12_makers_11 : decode cX12_makers 11 = .ok (.iload_n 1, 1) := by decide +kernel
theorem dX12_makers_12 : decode cX12_makers 12 = .ok (.invokevirtual 172, 3) := by decide +kernel
theorem dX12_makers_15 : decode cX12_makers 15 = .ok (.ifCond .ne 6, 3) := by decide +kernel
theorem dX12_makers_18 : decode cX12_makers 18 = .ok (.bipush (-2), 2) := by decide +kernel
theorem dX12_makers_20 : decode cX12_makers 20 = .ok (.ireturn, 1) := by decide +kernel
theorem dX12_makers_21 : decode cX12_makers 21 = .ok (.aload_n 0, 1) := by decide +kernel
theorem dX12_makers_22 : decode cX12_makers 22 = .ok (.iload_n 1, 1) := by decide +kernel
theorem dX12_makers_23 : decode cX12_makers 23 = .ok (.invokevirtual 194, 3) := by decide +kernel
theorem dX12_makers_26 : decode cX12_makers 26 = .ok (.aload_n 0, 1) := by decide +kernel
theorem dX12_makers_27 : decode cX12_makers 27 = .ok (.iconst 0, 1) := by decide +kernel
theorem dX12_makers_28 : decode cX12_makers 28 = .ok (.putfield 286, 3) := by decide +kernel
theorem dX12_makers_31 : decode cX12_makers 31 = .ok (.aload_n 0, 1) := by decide +kernel
theorem dX12_makers_32 : decode cX12_makers 32 = .ok (.iconst 0, 1) := by decide +kernel
theorem dX12_makers_33 : decode cX12_makers 33 = .ok (.putfield 289, 3) := by decide +kernel
theorem dX12_makers_36 : decode cX12_makers 36 = .ok (.iconst 0, 1) := by decide +kernel
theorem dX12_makers_37 : decode cX12_makers 37 = .ok (.istore_n 2, 1) := by decide +kernel
theorem dX12_makers_38 : decode cX12_makers 38 = .ok (.iload_n 2, 1) := by decide +kernel
theorem dX12_makers_39 : decode cX12_makers 39 = .ok (.aload_n 0, 1) := by decide +kernel
theorem dX12_makers_40 : decode cX12_makers 40 = .ok (.getfield 175, 3) := by decide +kernel
theorem dX12_makers_43 : decode cX12_makers 43 = .ok (.if_icmp .ge 26, 3) := by decide +kernel
theorem dX12_makers_46 : decode cX12_makers 46 = .ok (.aload_n 0, 1) := by decide +kernel
theorem dX12_makers_47 : decode cX12_makers 47 = .ok (.dup, 1) := by decide +kernel
theorem dX12_makers_48 : decode cX12_makers 48 = .ok (.getfield 289, 3) := by decide +kernel
theorem dX12_makers_51 : decode cX12_makers 51 = .ok (.iconst 1, 1) := by decide +kernel
theorem dX12_makers_52 : decode cX12_makers 52 = .ok (.aload_n 0, 1) := by decide +kernel
theorem dX12_makers_53 : decode cX12_makers 53 = .ok (.getfield 52, 3) := by decide +kernel
theorem dX12_makers_56 : decode cX12_makers 56 = .ok (.iload_n 2, 1) := by decide +kernel
theorem dX12_makers_57 : decode cX12_makers 57 = .ok (.iaload, 1) := by decide +kernel
theorem dX12_makers_58 : decode cX12_makers 58 = .ok (.ishl, 1) := by decide +kernel
theorem dX12_makers_59 : decode cX12_makers 59 = .ok (.ior, 1) := by decide +kernel
theorem dX12_makers_60 : decode cX12_makers 60 = .ok (.putfield 289, 3) := by decide +kernel
theorem dX12_makers_63 : decode cX12_makers 63 = .ok (.iinc 2 1, 3) := by decide +kernel
theorem dX12_makers_66 : decode cX12_makers 66 = .ok (.goto (-28), 3) := by decide +kernel
theorem dX12_makers_69 : decode cX12_makers 69 = .ok (.aload_n 0, 1) := by decide +kernel
theorem dX12_makers_70 : decode cX12_makers 70 = .ok (.getfield 175, 3) := by decide +kernel
theorem dX12_makers_73 : decode cX12_makers 73 = .ok (.iconst 1, 1) := by decide +kernel
theorem dX12_makers_74 : decode cX12_makers 74 = .ok (.isub, 1) := by decide +kernel
theorem dX12_makers_75 : decode cX12_makers 75 = .ok (.istore_n 2, 1) := by decide +kernel
theorem dX12_makers_76 : decode cX12_makers 76 = .ok (.iload_n 2, 1) := by decide +kernel
theorem dX12_makers_77 : decode cX12_makers 77 = .ok (.ifCond .lt 147, 3) := by decide +kernel
theorem dX12_makers_80 : decode cX12_makers 80 = .ok (.iload_n 2, 1) := by decide +kernel
theorem dX12_makers_81 : decode cX12_makers 81 = .ok (.istore_n 3, 1) := by decide +kernel
theorem dX12_makers_82 : decode cX12_makers 82 = .ok (.iload_n 3, 1) := by decide +kernel
theorem dX12_makers_83 : decode cX12_makers 83 = .ok (.aload_n 0, 1) := by decide +kernel
theorem dX12_makers_84 : decode cX12_makers 84 = .ok (.getfield 175, 3) := by decide +kernel
theorem dX12_makers_87 : decode cX12_makers 87 = .ok (.if_icmp .ge 131, 3) := by decide +kernel
theorem dX12_makers_90 : decode cX12_makers 90 = .ok (.aload_n 0, 1) := by decide +kernel
theorem dX12_makers_91 : decode cX12_makers 91 = .ok (.aload_n 0, 1) := by decide +kernel
theorem dX12_makers_92 : decode cX12_makers 92 = .ok (.getfield 52, 3) := by decide +kernel
theorem dX12_makers_95 : decode cX12_makers 95 = .ok (.iload_n 2, 1) := by decide +kernel
theorem dX12_makers_96 : decode cX12_makers 96 = .ok (.iaload, 1) := by decide +kernel
theorem dX12_makers_97 : decode cX12_makers 97 = .ok (.aload_n 0, 1) := by decide +kernel
theorem dX12_makers_98 : decode cX12_makers 98 = .ok (.getfield 52, 3) := by decide +kernel
theorem dX12_makers_101 : decode cX12_makers 101 = .ok (.iload_n 3, 1) := by decide +kernel
theorem dX12_makers_102 : decode cX12_makers 102 = .ok (.iaload, 1) := by decide +kernel
theorem dX12_makers_103 : decode cX12_makers 103 = .ok (.invokevirtual 292, 3) := by decide +kernel
theorem dX12_makers_106 : decode cX12_makers 106 = .ok (.ifCond .ne 106, 3) := by decide +kernel
theorem dX12_makers_109 : decode cX12_makers 109 = .ok (.aload_n 0, 1) := by decide +kernel
theorem dX12_makers_110 : decode cX12_makers 110 = .ok (.iload_n 2, 1) := by decide +kernel
theorem dX12_makers_111 : decode cX12_makers 111 = .ok (.iload_n 2, 1) := by decide +kernel
theorem dX12_makers_112 : decode cX12_makers 112 = .ok (.iload_n 3, 1) := by decide +kernel
theorem dX12_makers_113 : decode cX12_makers 113 = .ok (.invokevirtual 273, 3) := by decide +kernel
theorem dX12_makers_116 : decode cX12_makers 116 = .ok (.ifCond .eq 96, 3) := by decide +kernel
theorem dX12_makers_119 : decode cX12_makers 119 = .ok (.iconst 0, 1) := by decide +kernel
theorem dX12_makers_120 : decode cX12_makers 120 = .ok (.istore 4, 2) := by decide +kernel
theorem dX12_makers_122 : decode cX12_makers 122 = .ok (.iload 4, 2) := by decide +kernel
theorem dX12_makers_124 : decode cX12_makers 124 = .ok (.bipush 12, 2) := by decide +kernel
theorem dX12_makers_126 : decode cX12_makers 126 = .ok (.if_icmp .ge 26, 3) := by decide +kernel
theorem dX12_makers_129 : decode cX12_makers 129 = .ok (.aload_n 0, 1) := by decide +kernel
theorem dX12_makers_130 : decode cX12_makers 130 = .ok (.getfield 127, 3) := by decide +kernel
theorem dX12_makers_133 : decode cX12_makers 133 = .ok (.bipush 12, 2) := by decide +kernel
theorem dX12_makers_135 : decode cX12_makers 135 = .ok (.aload_n 0, 1) := by decide +kernel
theorem dX12_makers_136 : decode cX12_makers 136 = .ok (.getfield 286, 3) := by decide +kernel
theorem dX12_makers_139 : decode cX12_makers 139 = .ok (.imul, 1) := by decide +kernel
theorem dX12_makers_140 : decode cX12_makers 140 = .ok (.iload 4, 2) := by decide +kernel
theorem dX12_makers_142 : decode cX12_makers 142 = .ok (.iadd, 1) := by decide +kernel
theorem dX12_makers_143 : decode cX12_makers 143 = .ok (.iload 4, 2) := by decide +kernel
theorem dX12_makers_145 : decode cX12_makers 145 = .ok (.iastore, 1) := by decide +kernel
theorem dX12_makers_146 : decode cX12_makers 146 = .ok (.iinc 4 1, 3) := by decide +kernel
theorem dX12_makers_149 : decode cX12_makers 149 = .ok (.goto (-27), 3) := by decide +kernel
theorem dX12_makers_152 : decode cX12_makers 152 = .ok (.iconst 0, 1) := by decide +kernel
theorem dX12_makers_153 : decode cX12_makers 153 = .ok (.istore 4, 2) := by decide +kernel
theorem dX12_makers_155 : decode cX12_makers 155 = .ok (.iload 4, 2) := by decide +kernel
theorem dX12_makers_157 : decode cX12_makers 157 = .ok (.aload_n 0, 1) := by decide +kernel
theorem dX12_makers_158 : decode cX12_makers 158 = .ok (.getfield 175, 3) := by decide +kernel
theorem dX12_makers_161 : decode cX12_makers 161 = .ok (.if_icmp .ge 41, 3) := by decide +kernel
theorem dX12_makers_164 : decode cX12_makers 164 = .ok (.aload_n 0, 1) := by decide +kernel
theorem dX12_makers_165 : decode cX12_makers 165 = .ok (.getfield 127, 3) := by decide +kernel
theorem dX12_makers_168 : decode cX12_makers 168 = .ok (.bipush 12, 2) := by decide +kernel
theorem dX12_makers_170 : decode cX12_makers 170 = .ok (.aload_n 0, 1) := by decide +kernel
theorem dX12_makers_171 : decode cX12_makers 171 = .ok (.getfield 286, 3) := by decide +kernel
theorem dX12_makers_174 : decode cX12_makers 174 = .ok (.imul, 1) := by decide +kernel
theorem dX12_makers_175 : decode cX12_makers 175 = .ok (.aload_n 0, 1) := by decide +kernel
theorem dX12_makers_176 : decode cX12_makers 176 = .ok (.getfield 52, 3) := by decide +kernel
theorem dX12_makers_179 : decode cX12_makers 179 = .ok (.iload 4, 2) := by decide +kernel
theorem dX12_makers_181 : decode cX12_makers 181 = .ok (.iaload, 1) := by decide +kernel
theorem dX12_makers_182 : decode cX12_makers 182 = .ok (.iadd, 1) := by decide +kernel
theorem dX12_makers_183 : decode cX12_makers 183 = .ok (.aload_n 0, 1) := by decide +kernel
theorem dX12_makers_184 : decode cX12_makers 184 = .ok (.getfield 52, 3) := by decide +kernel
theorem dX12_makers_187 : decode cX12_makers 187 = .ok (.aload_n 0, 1) := by decide +kernel
theorem dX12_makers_188 : decode cX12_makers 188 = .ok (.getfield 124, 3) := by decide +kernel
theorem dX12_makers_191 : decode cX12_makers 191 = .ok (.iload 4, 2) := by decide +kernel
theorem dX12_makers_193 : decode cX12_makers 193 = .ok (.iaload, 1) := by decide +kernel
theorem dX12_makers_194 : decode cX12_makers 194 = .ok (.iaload, 1) := by decide +kernel
theorem dX12_makers_195 : decode cX12_makers 195 = .ok (.iastore, 1) := by decide +kernel
theorem dX12_makers_196 : decode cX12_makers 196 = .ok (.iinc 4 1, 3) := by decide +kernel
theorem dX12_makers_199 : decode cX12_makers 199 = .ok (.goto (-44), 3) := by decide +kernel
theorem dX12_makers_202 : decode cX12_makers 202 = .ok (.aload_n 0, 1) := by decide +kernel
theorem dX12_makers_203 : decode cX12_makers 203 = .ok (.dup, 1) := by decide +kernel
theorem dX12_makers_204 : decode cX12_makers 204 = .ok (.getfield 286, 3) := by decide +kernel
theorem dX12_makers_207 : decode cX12_makers 207 = .ok (.iconst 1, 1) := by decide +kernel
theorem dX12_makers_208 : decode cX12_makers 208 = .ok (.iadd, 1) := by decide +kernel
theorem dX12_makers_209 : decode cX12_makers 209 = .ok (.putfield 286, 3) := by decide +kernel
theorem dX12_makers_212 : decode cX12_makers 212 = .ok (.iinc 3 1, 3) := by decide +kernel
theorem dX12_makers_215 : decode cX12_makers 215 = .ok (.goto (-133), 3) := by decide +kernel
theorem dX12_makers_218 : decode cX12_makers 218 = .ok (.iinc 2 (-1), 3) := by decide +kernel
theorem dX12_makers_221 : decode cX12_makers 221 = .ok (.goto (-145), 3) := by decide +kernel
theorem dX12_makers_224 : decode cX12_makers 224 = .ok (.aload_n 0, 1) := by decide +kernel
theorem dX12_makers_225 : decode cX12_makers 225 = .ok (.getfield 286, 3) := by decide +kernel
theorem dX12_makers_228 : decode cX12_makers 228 = .ok (.ireturn, 1) := by decide +kernel
def PJ_X12_makers_224 (d : Nat) (E : zb_E) (x0 : Int) (Q : Int → zb_M → Prop) (m224j : zb_M) : Prop :=
  Q (m224j x0 49) m224j
def PJ_X12_makers_218 (d : Nat) (E : zb_E) (v2_76 : Int) (X76 : Int → zb_M → Prop) (Q : Int → zb_M → Prop) (m218j : zb_M) : Prop :=
  (zb_inI (v2_76 + (-1))) ∧ (X76 (v2_76 + (-1)) m218j)
def PJ_X12_makers_202 (d : Nat) (E : zb_E) (x0 : Int) (v3_82 : Int) (X82 : Int → zb_M → Prop) (Q : Int → zb_M → Prop) (m202j : zb_M) : Prop :=
  (zb_inI ((m202j x0 49) + 1)) ∧ (∀ m209, m209 = zb_up m202j x0 49 ((m202j x0 49) + 1) → ((zb_inI (v3_82 + 1)) ∧ (X82 (v3_82 + 1) m209)))
def PL_X12_makers_155 (d : Nat) (E : zb_E) (x0 : Int) (Q : Int → zb_M → Prop) (K202_155 : zb_M → Prop) (v4_155 : Int) (m155l : zb_M) : Prop :=
  ∀ X155 : Int → zb_M → Prop, (∀ (v4_155 : Int) (m155l : zb_M), (((m155l x0 15) ≤ v4_155 → K202_155 m155l) ∧ (¬ (m155l x0 15) ≤ v4_155 → (zb_inI (12 * (m155l x0 49))) ∧ ((0 ≤ v4_155 ∧ v4_155 < 12) ∧ ((zb_inI ((12 * (m155l x0 49)) + (m155l (E.2 x0 16) v4_155))) ∧ ((0 ≤ (m155l (E.2 x0 48) v4_155) ∧ (m155l (E.2 x0 48) v4_155) < 12) ∧ ((0 ≤ ((12 * (m155l x0 49)) + (m155l (E.2 x0 16) v4_155)) ∧ ((12 * (m155l x0 49)) + (m155l (E.2 x0 16) v4_155)) < 1200) ∧ (∀ m195, m195 = zb_up m155l (E.2 x0 50) ((12 * (m155l x0 49)) + (m155l (E.2 x0 16) v4_155)) (m155l (E.2 x0 16) (m155l (E.2 x0 48) v4_155)) → ((zb_inI (v4_155 + 1)) ∧ (X155 (v4_155 + 1) m195))))))))) → X155 v4_155 m155l) → X155 v4_155 m155l
def PJ_X12_makers_152 (d : Nat) (E : zb_E) (x0 : Int) (v3_82 : Int) (X82 : Int → zb_M → Prop) (Q : Int → zb_M → Prop) (m152j : zb_M) : Prop :=
  PL_X12_makers_155 d E x0 Q (PJ_X12_makers_202 d E x0 v3_82 X82 Q) 0 m152j
def PL_X12_makers_122 (d : Nat) (E : zb_E) (x0 : Int) (Q : Int → zb_M → Prop) (K152_122 : zb_M → Prop) (v4_122 : Int) (m122l : zb_M) : Prop :=
  ∀ X122 : Int → zb_M → Prop, (∀ (v4_122 : Int) (m122l : zb_M), ((12 ≤ v4_122 → K152_122 m122l) ∧ (¬ 12 ≤ v4_122 → (zb_inI (12 * (m122l x0 49))) ∧ ((zb_inI ((12 * (m122l x0 49)) + v4_122)) ∧ ((0 ≤ ((12 * (m122l x0 49)) + v4_122) ∧ ((12 * (m122l x0 49)) + v4_122) < 1200) ∧ (∀ m145, m145 = zb_up m122l (E.2 x0 50) ((12 * (m122l x0 49)) + v4_122) v4_122 → ((zb_inI (v4_122 + 1)) ∧ (X122 (v4_122 + 1) m145))))))) → X122 v4_122 m122l) → X122 v4_122 m122l
def PL_X12_makers_82 (d : Nat) (E : zb_E) (x0 : Int) (v2_76 : Int) (Q : Int → zb_M → Prop) (K218_82 : zb_M → Prop) (v3_82 : Int) (m82l : zb_M) : Prop :=
  ∀ X82 : Int → zb_M → Prop, (∀ (v3_82 : Int) (m82l : zb_M), (((m82l x0 15) ≤ v3_82 → K218_82 m82l) ∧ (¬ (m82l x0 15) ≤ v3_82 → (0 ≤ v2_76 ∧ v2_76 < 12) ∧ ((0 ≤ v3_82 ∧ v3_82 < 12) ∧ (zb_Tp K_X12_leads d [(2, x0), (0, (m82l (E.2 x0 16) v2_76)), (0, (m82l (E.2 x0 16) v3_82))] E m82l (fun r103 => (r103 = 0 → zb_T K_X12_find d [(2, x0), (0, v2_76), (0, v2_76), (0, v3_82)] E m82l (fun r113 m113 => (r113 = 0 → (zb_inI (v3_82 + 1)) ∧ (X82 (v3_82 + 1) m113)) ∧ (¬ r113 = 0 → PL_X12_makers_122 d E x0 Q (PJ_X12_makers_152 d E x0 v3_82 X82 Q) 0 m113))) ∧ (¬ r103 = 0 → (zb_inI (v3_82 + 1)) ∧ (X82 (v3_82 + 1) m82l))))))) → X82 v3_82 m82l) → X82 v3_82 m82l
def PL_X12_makers_76 (d : Nat) (E : zb_E) (x0 : Int) (Q : Int → zb_M → Prop) (K224_76 : zb_M → Prop) (v2_76 : Int) (m76l : zb_M) : Prop :=
  ∀ X76 : Int → zb_M → Prop, (∀ (v2_76 : Int) (m76l : zb_M), ((v2_76 < 0 → K224_76 m76l) ∧ (¬ v2_76 < 0 → PL_X12_makers_82 d E x0 v2_76 Q (PJ_X12_makers_218 d E v2_76 X76 Q) v2_76 m76l)) → X76 v2_76 m76l) → X76 v2_76 m76l
def PJ_X12_makers_69 (d : Nat) (E : zb_E) (x0 : Int) (Q : Int → zb_M → Prop) (m69j : zb_M) : Prop :=
  (zb_inI ((m69j x0 15) - 1)) ∧ (PL_X12_makers_76 d E x0 Q (PJ_X12_makers_224 d E x0 Q) ((m69j x0 15) - 1) m69j)
def PL_X12_makers_38 (d : Nat) (E : zb_E) (x0 : Int) (Q : Int → zb_M → Prop) (K69_38 : zb_M → Prop) (v2_38 : Int) (m38l : zb_M) : Prop :=
  ∀ X38 : Int → zb_M → Prop, (∀ (v2_38 : Int) (m38l : zb_M), (((m38l x0 15) ≤ v2_38 → K69_38 m38l) ∧ (¬ (m38l x0 15) ≤ v2_38 → (0 ≤ v2_38 ∧ v2_38 < 12) ∧ (∀ m60, m60 = zb_up m38l x0 51 (zb_or (m38l x0 51) (zb_shl 1 (m38l (E.2 x0 16) v2_38))) → ((zb_inI (v2_38 + 1)) ∧ (X38 (v2_38 + 1) m60))))) → X38 v2_38 m38l) → X38 v2_38 m38l
def PM_X12_makers (d : Nat) (E : zb_E) (x0 : Int) (x1 : Int) (m : zb_M) (Q : Int → zb_M → Prop) : Prop :=
  zb_Tp K_X12_isGraph d [(2, x0), (0, x1)] E m (fun r2 => (r2 = 0 → Q (-1) m) ∧ (¬ r2 = 0 → zb_Tp K_X12_isRight d [(2, x0), (0, x1)] E m (fun r12 => (r12 = 0 → Q (-2) m) ∧ (¬ r12 = 0 → zb_T K_X12_layOut d [(2, x0), (0, x1)] E m (fun r23 m23 => ∀ m28, m28 = zb_up m23 x0 49 0 → (∀ m33, m33 = zb_up m28 x0 51 0 → (PL_X12_makers_38 d E x0 Q (PJ_X12_makers_69 d E x0 Q) 0 m33)))))))
set_option maxRecDepth 100000 in
set_option maxHeartbeats 4000000 in
theorem w_X12_makers {d : Nat} {E : zb_E} {x0 x1 : Int} {m : zb_M} {Q : Int → zb_M → Prop} (h : PM_X12_makers d E x0 x1 m Q) : zb_T K_X12_makers (d + 1) [(2, x0), (0, x1)] E m Q := by
  unfold PM_X12_makers at h
  refine zb_T_in gd_X12_makers rfl rfl (fun hW hA G C hF => ?_)
  have i_0 : zb_is E.1 x0 12 := zb_aH hA (by decide)
  show zb_WP _ _ 0 [(0, (2, x0)), (1, (0, x1))] [] _ _ _ _
  refine zb_aload_n (j := 0) dX12_makers_0 rfl rfl ?_
  refine zb_iload_n (j := 1) dX12_makers_1 rfl rfl ?_
  refine zb_cVp (As := [(0, x1)]) (As' := [(0, x1)]) (st := []) dX12_makers_2 lk_X12_137 gd_X12_isGraph rfl rfl i_0 ⟨_, rfl, rfl⟩ h hW hF (zb_aR i_0 (zb_aI zb_a0)) (Nat.le_refl _) (Nat.le_of_ble_eq_true rfl) (fun r2 h => ?_)
  show zb_WP _ _ _ _ [(0, r2)] _ _ _ _
  refine zb_if_ne (tgt := 10) dX12_makers_5 (by decide) (fun c1 => ?_) (fun c1 => ?_)
  · have h := h.2 c1
    refine zb_aload_n (j := 0) dX12_makers_10 rfl rfl ?_
    refine zb_iload_n (j := 1) dX12_makers_11 rfl rfl ?_
    refine zb_cVp (As := [(0, x1)]) (As' := [(0, x1)]) (st := []) dX12_makers_12 lk_X12_172 gd_X12_isRight rfl rfl i_0 ⟨_, rfl, rfl⟩ h hW hF (zb_aR i_0 (zb_aI zb_a0)) (Nat.le_refl _) (Nat.le_of_ble_eq_true rfl) (fun r12 h => ?_)
    show zb_WP _ _ _ _ [(0, r12)] _ _ _ _
    refine zb_if_ne (tgt := 21) dX12_makers_15 (by decide) (fun c2 => ?_) (fun c2 => ?_)
    · have h := h.2 c2
      refine zb_aload_n (j := 0) dX12_makers_21 rfl rfl ?_
      refine zb_iload_n (j := 1) dX12_makers_22 rfl rfl ?_
      refine zb_cV (As := [(0, x1)]) (As' := [(0, x1)]) (st := []) dX12_makers_23 lk_X12_194 gd_X12_layOut rfl rfl i_0 ⟨_, rfl, rfl⟩ h hW hF (zb_aR i_0 (zb_aI zb_a0)) (Nat.le_refl _) (Nat.le_of_ble_eq_true rfl) (fun r23 m23 hF h => ?_)
      show zb_WP _ _ _ _ [] _ _ _ _
      refine zb_aload_n (j := 0) dX12_makers_26 rfl rfl ?_
      refine zb_iconst dX12_makers_27 (zb_inIc rfl) ?_
      refine zb_pF 49 dX12_makers_28 fl_X12_286 rfl rfl i_0 (Or.inl rfl) hF rfl rfl (fun m28 e28 hF => ?_)
      have h := h m28 e28
      refine zb_aload_n (j := 0) dX12_makers_31 rfl rfl ?_
      refine zb_iconst dX12_makers_32 (zb_inIc rfl) ?_
      refine zb_pF 51 dX12_makers_33 fl_X12_289 rfl rfl i_0 (Or.inl rfl) hF rfl rfl (fun m33 e33 hF => ?_)
      have h := h m33 e33
      refine zb_iconst dX12_makers_36 (zb_inIc rfl) ?_
      refine zb_istore_n (L' := [(2, (0, 0)), (0, (2, x0)), (1, (0, x1))]) dX12_makers_37 rfl (by decide) rfl ?_
      refine zb_sub (L' := [(0, (2, x0)), (2, (0, 0))]) [1, 0] rfl ?_
      have hJ69 : ∀ (m69j : zb_M), zb_FIN E m69j → PJ_X12_makers_69 d E x0 Q m69j → zb_WP (G, C, d + 1, 0, 0, zb_q E Q) F_X12_makers 69 [(0, (2, x0))] [] E.1 m69j 0 0 := by
        intro m69j hF h
        unfold PJ_X12_makers_69 at h
        refine zb_aload_n (j := 0) dX12_makers_69 rfl rfl ?_
        refine zb_gI 15 dX12_makers_70 fl_X12_175 i_0 rfl rfl ?_
        refine zb_iconst dX12_makers_73 (zb_inIc rfl) ?_
        obtain ⟨o3, h⟩ := h
        refine zb_isub dX12_makers_74 o3 ?_
        refine zb_istore_n (L' := [(2, (0, ((m69j x0 15) - 1))), (0, (2, x0))]) dX12_makers_75 rfl (by decide) rfl ?_
        refine zb_sub (L' := [(0, (2, x0)), (2, (0, ((m69j x0 15) - 1)))]) [1, 0] rfl ?_
        have hJ224 : ∀ (m224j : zb_M), zb_FIN E m224j → PJ_X12_makers_224 d E x0 Q m224j → zb_WP (G, C, d + 1, 0, 0, zb_q E Q) F_X12_makers 224 [(0, (2, x0))] [] E.1 m224j 0 0 := by
          intro m224j hF h
          unfold PJ_X12_makers_224 at h
          refine zb_aload_n (j := 0) dX12_makers_224 rfl rfl ?_
          refine zb_gI 49 dX12_makers_225 fl_X12_286 i_0 rfl rfl ?_
          exact zb_rI dX12_makers_228 rfl hF h
        unfold PL_X12_makers_76 at h
        obtain ⟨X76, hX76⟩ : ∃ X : Int → zb_M → Prop, ∀ (v2_76 : Int) (m76l : zb_M), (X v2_76 m76l ↔ (zb_FIN E m76l → zb_WP (G, C, d + 1, 0, 0, zb_q E Q) F_X12_makers 76 [(0, (2, x0)), (2, (0, v2_76))] [] E.1 m76l 0 0)) := ⟨fun v2_76 m76l => zb_FIN E m76l → zb_WP (G, C, d + 1, 0, 0, zb_q E Q) F_X12_makers 76 [(0, (2, x0)), (2, (0, v2_76))] [] E.1 m76l 0 0, fun _ _ => Iff.rfl⟩
        refine (hX76 _ _).mp (h X76 (fun v2_76 m76l h => (hX76 _ _).mpr (fun hF => ?_))) hF
        refine zb_iload_n (j := 1) dX12_makers_76 rfl rfl ?_
        refine zb_if_lt (tgt := 224) dX12_makers_77 (by decide) (fun c4 => ?_) (fun c4 => ?_)
        · have h := h.1 c4
          refine zb_sub (L' := [(0, (2, x0))]) [0] rfl ?_
          exact hJ224 _ hF h
        · have h := h.2 c4
          refine zb_iload_n (j := 1) dX12_makers_80 rfl rfl ?_
          refine zb_istore_n (L' := [(3, (0, v2_76)), (0, (2, x0)), (2, (0, v2_76))]) dX12_makers_81 rfl (by decide) rfl ?_
          refine zb_sub (L' := [(0, (2, x0)), (2, (0, v2_76)), (3, (0, v2_76))]) [1, 2, 0] rfl ?_
          have hJ218 : ∀ (m218j : zb_M), zb_FIN E m218j → PJ_X12_makers_218 d E v2_76 X76 Q m218j → zb_WP (G, C, d + 1, 0, 0, zb_q E Q) F_X12_makers 218 [(0, (2, x0)), (2, (0, v2_76))] [] E.1 m218j 0 0 := by
            intro m218j hF h
            unfold PJ_X12_makers_218 at h
            obtain ⟨o5, h⟩ := h
            refine zb_iinc (j := 1) (L' := [(2, (0, (v2_76 + (-1)))), (0, (2, x0))]) dX12_makers_218 rfl o5 (by decide) rfl ?_
            refine zb_goto (tgt := 76) dX12_makers_221 (by decide) ?_
            refine zb_sub (L' := [(0, (2, x0)), (2, (0, (v2_76 + (-1))))]) [1, 0] rfl ?_
            exact (hX76 _ _).mp h hF
          unfold PL_X12_makers_82 at h
          obtain ⟨X82, hX82⟩ : ∃ X : Int → zb_M → Prop, ∀ (v3_82 : Int) (m82l : zb_M), (X v3_82 m82l ↔ (zb_FIN E m82l → zb_WP (G, C, d + 1, 0, 0, zb_q E Q) F_X12_makers 82 [(0, (2, x0)), (2, (0, v2_76)), (3, (0, v3_82))] [] E.1 m82l 0 0)) := ⟨fun v3_82 m82l => zb_FIN E m82l → zb_WP (G, C, d + 1, 0, 0, zb_q E Q) F_X12_makers 82 [(0, (2, x0)), (2, (0, v2_76)), (3, (0, v3_82))] [] E.1 m82l 0 0, fun _ _ => Iff.rfl⟩
          refine (hX82 _ _).mp (h X82 (fun v3_82 m82l h => (hX82 _ _).mpr (fun hF => ?_))) hF
          refine zb_iload_n (j := 2) dX12_makers_82 rfl rfl ?_
          refine zb_aload_n (j := 0) dX12_makers_83 rfl rfl ?_
          refine zb_gI 15 dX12_makers_84 fl_X12_175 i_0 rfl rfl ?_
          refine zb_icmp_ge (tgt := 218) dX12_makers_87 (by decide) (fun c6 => ?_) (fun c6 => ?_)
          · have h := h.1 c6
            refine zb_sub (L' := [(0, (2, x0)), (2, (0, v2_76))]) [0, 1] rfl ?_
            exact hJ218 _ hF h
          · have h := h.2 c6
            refine zb_aload_n (j := 0) dX12_makers_90 rfl rfl ?_
            refine zb_aload_n (j := 0) dX12_makers_91 rfl rfl ?_
            refine zb_gFa 16 dX12_makers_92 fl_X12_52 i_0 hW hF rfl rfl rfl (by decide) rfl 12 rfl (fun i7 l8 => ?_)
            refine zb_iload_n (j := 1) dX12_makers_95 rfl rfl ?_
            obtain ⟨o9, h⟩ := h
            refine zb_lI dX12_makers_96 i7 l8 o9.1 o9.2 ?_
            refine zb_aload_n (j := 0) dX12_makers_97 rfl rfl ?_
            refine zb_gFa 16 dX12_makers_98 fl_X12_52 i_0 hW hF rfl rfl rfl (by decide) rfl 12 rfl (fun i10 l11 => ?_)
            refine zb_iload_n (j := 2) dX12_makers_101 rfl rfl ?_
            obtain ⟨o12, h⟩ := h
            refine zb_lI dX12_makers_102 i10 l11 o12.1 o12.2 ?_
            refine zb_cVp (As := [(0, (m82l (E.2 x0 16) v2_76)), (0, (m82l (E.2 x0 16) v3_82))]) (As' := [(0, (m82l (E.2 x0 16) v3_82)), (0, (m82l (E.2 x0 16) v2_76))]) (st := []) dX12_makers_103 lk_X12_292 gd_X12_leads rfl rfl i_0 ⟨_, rfl, rfl⟩ h hW hF (zb_aR i_0 (zb_aI (zb_aI zb_a0))) (Nat.le_refl _) (Nat.le_of_ble_eq_true rfl) (fun r103 h => ?_)
            show zb_WP _ _ _ _ [(0, r103)] _ _ _ _
            refine zb_if_ne (tgt := 212) dX12_makers_106 (by decide) (fun c13 => ?_) (fun c13 => ?_)
            · have h := h.2 c13
              obtain ⟨o14, h⟩ := h
              refine zb_iinc (j := 2) (L' := [(3, (0, (v3_82 + 1))), (0, (2, x0)), (2, (0, v2_76))]) dX12_makers_212 rfl o14 (by decide) rfl ?_
              refine zb_goto (tgt := 82) dX12_makers_215 (by decide) ?_
              refine zb_sub (L' := [(0, (2, x0)), (2, (0, v2_76)), (3, (0, (v3_82 + 1)))]) [1, 2, 0] rfl ?_
              exact (hX82 _ _).mp h hF
            · have h := h.1 c13
              refine zb_aload_n (j := 0) dX12_makers_109 rfl rfl ?_
              refine zb_iload_n (j := 1) dX12_makers_110 rfl rfl ?_
              refine zb_iload_n (j := 1) dX12_makers_111 rfl rfl ?_
              refine zb_iload_n (j := 2) dX12_makers_112 rfl rfl ?_
              refine zb_cV (As := [(0, v2_76), (0, v2_76), (0, v3_82)]) (As' := [(0, v3_82), (0, v2_76), (0, v2_76)]) (st := []) dX12_makers_113 lk_X12_273 gd_X12_find rfl rfl i_0 ⟨_, rfl, rfl⟩ h hW hF (zb_aR i_0 (zb_aI (zb_aI (zb_aI zb_a0)))) (Nat.le_refl _) (Nat.le_of_ble_eq_true rfl) (fun r113 m113 hF h => ?_)
              show zb_WP _ _ _ _ [(0, r113)] _ _ _ _
              refine zb_if_eq (tgt := 212) dX12_makers_116 (by decide) (fun c15 => ?_) (fun c15 => ?_)
              · have h := h.1 c15
                obtain ⟨o16, h⟩ := h
                refine zb_iinc (j := 2) (L' := [(3, (0, (v3_82 + 1))), (0, (2, x0)), (2, (0, v2_76))]) dX12_makers_212 rfl o16 (by decide) rfl ?_
                refine zb_goto (tgt := 82) dX12_makers_215 (by decide) ?_
                refine zb_sub (L' := [(0, (2, x0)), (2, (0, v2_76)), (3, (0, (v3_82 + 1)))]) [1, 2, 0] rfl ?_
                exact (hX82 _ _).mp h hF
              · have h := h.2 c15
                refine zb_iconst dX12_makers_119 (zb_inIc rfl) ?_
                refine zb_istore (L' := [(4, (0, 0)), (0, (2, x0)), (2, (0, v2_76)), (3, (0, v3_82))]) dX12_makers_120 (by decide) rfl ?_
                refine zb_sub (L' := [(0, (2, x0)), (2, (0, v2_76)), (3, (0, v3_82)), (4, (0, 0))]) [1, 2, 3, 0] rfl ?_
                have hJ152 : ∀ (m152j : zb_M), zb_FIN E m152j → PJ_X12_makers_152 d E x0 v3_82 X82 Q m152j → zb_WP (G, C, d + 1, 0, 0, zb_q E Q) F_X12_makers 152 [(0, (2, x0)), (2, (0, v2_76)), (3, (0, v3_82))] [] E.1 m152j 0 0 := by
                  intro m152j hF h
                  unfold PJ_X12_makers_152 at h
                  refine zb_iconst dX12_makers_152 (zb_inIc rfl) ?_
                  refine zb_istore (L' := [(4, (0, 0)), (0, (2, x0)), (2, (0, v2_76)), (3, (0, v3_82))]) dX12_makers_153 (by decide) rfl ?_
                  refine zb_sub (L' := [(0, (2, x0)), (2, (0, v2_76)), (3, (0, v3_82)), (4, (0, 0))]) [1, 2, 3, 0] rfl ?_
                  have hJ202 : ∀ (m202j : zb_M), zb_FIN E m202j → PJ_X12_makers_202 d E x0 v3_82 X82 Q m202j → zb_WP (G, C, d + 1, 0, 0, zb_q E Q) F_X12_makers 202 [(0, (2, x0)), (2, (0, v2_76)), (3, (0, v3_82))] [] E.1 m202j 0 0 := by
                    intro m202j hF h
                    unfold PJ_X12_makers_202 at h
                    refine zb_aload_n (j := 0) dX12_makers_202 rfl rfl ?_
                    refine zb_dup dX12_makers_203 rfl ?_
                    refine zb_gI 49 dX12_makers_204 fl_X12_286 i_0 rfl rfl ?_
                    refine zb_iconst dX12_makers_207 (zb_inIc rfl) ?_
                    obtain ⟨o17, h⟩ := h
                    refine zb_iadd dX12_makers_208 o17 ?_
                    refine zb_pF 49 dX12_makers_209 fl_X12_286 rfl rfl i_0 (Or.inl rfl) hF rfl rfl (fun m209 e209 hF => ?_)
                    have h := h m209 e209
                    obtain ⟨o18, h⟩ := h
                    refine zb_iinc (j := 2) (L' := [(3, (0, (v3_82 + 1))), (0, (2, x0)), (2, (0, v2_76))]) dX12_makers_212 rfl o18 (by decide) rfl ?_
                    refine zb_goto (tgt := 82) dX12_makers_215 (by decide) ?_
                    refine zb_sub (L' := [(0, (2, x0)), (2, (0, v2_76)), (3, (0, (v3_82 + 1)))]) [1, 2, 0] rfl ?_
                    exact (hX82 _ _).mp h hF
                  unfold PL_X12_makers_155 at h
                  obtain ⟨X155, hX155⟩ : ∃ X : Int → zb_M → Prop, ∀ (v4_155 : Int) (m155l : zb_M), (X v4_155 m155l ↔ (zb_FIN E m155l → zb_WP (G, C, d + 1, 0, 0, zb_q E Q) F_X12_makers 155 [(0, (2, x0)), (2, (0, v2_76)), (3, (0, v3_82)), (4, (0, v4_155))] [] E.1 m155l 0 0)) := ⟨fun v4_155 m155l => zb_FIN E m155l → zb_WP (G, C, d + 1, 0, 0, zb_q E Q) F_X12_makers 155 [(0, (2, x0)), (2, (0, v2_76)), (3, (0, v3_82)), (4, (0, v4_155))] [] E.1 m155l 0 0, fun _ _ => Iff.rfl⟩
                  refine (hX155 _ _).mp (h X155 (fun v4_155 m155l h => (hX155 _ _).mpr (fun hF => ?_))) hF
                  refine zb_iload (j := 3) dX12_makers_155 rfl ?_
                  refine zb_aload_n (j := 0) dX12_makers_157 rfl rfl ?_
                  refine zb_gI 15 dX12_makers_158 fl_X12_175 i_0 rfl rfl ?_
                  refine zb_icmp_ge (tgt := 202) dX12_makers_161 (by decide) (fun c19 => ?_) (fun c19 => ?_)
                  · have h := h.1 c19
                    refine zb_sub (L' := [(0, (2, x0)), (2, (0, v2_76)), (3, (0, v3_82))]) [0, 1, 2] rfl ?_
                    exact hJ202 _ hF h
                  · have h := h.2 c19
                    refine zb_aload_n (j := 0) dX12_makers_164 rfl rfl ?_
                    refine zb_gFa 50 dX12_makers_165 fl_X12_127 i_0 hW hF rfl rfl rfl (by decide) rfl 1200 rfl (fun i20 l21 => ?_)
                    refine zb_bipush dX12_makers_168 (by decide) (zb_inIc rfl) ?_
                    refine zb_aload_n (j := 0) dX12_makers_170 rfl rfl ?_
                    refine zb_gI 49 dX12_makers_171 fl_X12_286 i_0 rfl rfl ?_
                    obtain ⟨o22, h⟩ := h
                    refine zb_imul dX12_makers_174 o22 ?_
                    refine zb_aload_n (j := 0) dX12_makers_175 rfl rfl ?_
                    refine zb_gFa 16 dX12_makers_176 fl_X12_52 i_0 hW hF rfl rfl rfl (by decide) rfl 12 rfl (fun i23 l24 => ?_)
                    refine zb_iload (j := 3) dX12_makers_179 rfl ?_
                    obtain ⟨o25, h⟩ := h
                    refine zb_lI dX12_makers_181 i23 l24 o25.1 o25.2 ?_
                    obtain ⟨o26, h⟩ := h
                    refine zb_iadd dX12_makers_182 o26 ?_
                    refine zb_aload_n (j := 0) dX12_makers_183 rfl rfl ?_
                    refine zb_gFa 16 dX12_makers_184 fl_X12_52 i_0 hW hF rfl rfl rfl (by decide) rfl 12 rfl (fun i27 l28 => ?_)
                    refine zb_aload_n (j := 0) dX12_makers_187 rfl rfl ?_
                    refine zb_gFa 48 dX12_makers_188 fl_X12_124 i_0 hW hF rfl rfl rfl (by decide) rfl 12 rfl (fun i29 l30 => ?_)
                    refine zb_iload (j := 3) dX12_makers_191 rfl ?_
                    refine zb_lI dX12_makers_193 i29 l30 o25.1 o25.2 ?_
                    obtain ⟨o31, h⟩ := h
                    refine zb_lI dX12_makers_194 i27 l28 o31.1 o31.2 ?_
                    obtain ⟨o32, h⟩ := h
                    refine zb_sI dX12_makers_195 i20 l21 o32.1 o32.2 hF (fun m195 e195 hF => ?_)
                    have h := h m195 e195
                    obtain ⟨o33, h⟩ := h
                    refine zb_iinc (j := 3) (L' := [(4, (0, (v4_155 + 1))), (0, (2, x0)), (2, (0, v2_76)), (3, (0, v3_82))]) dX12_makers_196 rfl o33 (by decide) rfl ?_
                    refine zb_goto (tgt := 155) dX12_makers_199 (by decide) ?_
                    refine zb_sub (L' := [(0, (2, x0)), (2, (0, v2_76)), (3, (0, v3_82)), (4, (0, (v4_155 + 1)))]) [1, 2, 3, 0] rfl ?_
                    exact (hX155 _ _).mp h hF
                unfold PL_X12_makers_122 at h
                obtain ⟨X122, hX122⟩ : ∃ X : Int → zb_M → Prop, ∀ (v4_122 : Int) (m122l : zb_M), (X v4_122 m122l ↔ (zb_FIN E m122l → zb_WP (G, C, d + 1, 0, 0, zb_q E Q) F_X12_makers 122 [(0, (2, x0)), (2, (0, v2_76)), (3, (0, v3_82)), (4, (0, v4_122))] [] E.1 m122l 0 0)) := ⟨fun v4_122 m122l => zb_FIN E m122l → zb_WP (G, C, d + 1, 0, 0, zb_q E Q) F_X12_makers 122 [(0, (2, x0)), (2, (0, v2_76)), (3, (0, v3_82)), (4, (0, v4_122))] [] E.1 m122l 0 0, fun _ _ => Iff.rfl⟩
                refine (hX122 _ _).mp (h X122 (fun v4_122 m122l h => (hX122 _ _).mpr (fun hF => ?_))) hF
                refine zb_iload (j := 3) dX12_makers_122 rfl ?_
                refine zb_bipush dX12_makers_124 (by decide) (zb_inIc rfl) ?_
                refine zb_icmp_ge (tgt := 152) dX12_makers_126 (by decide) (fun c34 => ?_) (fun c34 => ?_)
                · have h := h.1 c34
                  refine zb_sub (L' := [(0, (2, x0)), (2, (0, v2_76)), (3, (0, v3_82))]) [0, 1, 2] rfl ?_
                  exact hJ152 _ hF h
                · have h := h.2 c34
                  refine zb_aload_n (j := 0) dX12_makers_129 rfl rfl ?_
                  refine zb_gFa 50 dX12_makers_130 fl_X12_127 i_0 hW hF rfl rfl rfl (by decide) rfl 1200 rfl (fun i35 l36 => ?_)
                  refine zb_bipush dX12_makers_133 (by decide) (zb_inIc rfl) ?_
                  refine zb_aload_n (j := 0) dX12_makers_135 rfl rfl ?_
                  refine zb_gI 49 dX12_makers_136 fl_X12_286 i_0 rfl rfl ?_
                  obtain ⟨o37, h⟩ := h
                  refine zb_imul dX12_makers_139 o37 ?_
                  refine zb_iload (j := 3) dX12_makers_140 rfl ?_
                  obtain ⟨o38, h⟩ := h
                  refine zb_iadd dX12_makers_142 o38 ?_
                  refine zb_iload (j := 3) dX12_makers_143 rfl ?_
                  obtain ⟨o39, h⟩ := h
                  refine zb_sI dX12_makers_145 i35 l36 o39.1 o39.2 hF (fun m145 e145 hF => ?_)
                  have h := h m145 e145
                  obtain ⟨o40, h⟩ := h
                  refine zb_iinc (j := 3) (L' := [(4, (0, (v4_122 + 1))), (0, (2, x0)), (2, (0, v2_76)), (3, (0, v3_82))]) dX12_makers_146 rfl o40 (by decide) rfl ?_
                  refine zb_goto (tgt := 122) dX12_makers_149 (by decide) ?_
                  refine zb_sub (L' := [(0, (2, x0)), (2, (0, v2_76)), (3, (0, v3_82)), (4, (0, (v4_122 + 1)))]) [1, 2, 3, 0] rfl ?_
                  exact (hX122 _ _).mp h hF
      unfold PL_X12_makers_38 at h
      obtain ⟨X38, hX38⟩ : ∃ X : Int → zb_M → Prop, ∀ (v2_38 : Int) (m38l : zb_M), (X v2_38 m38l ↔ (zb_FIN E m38l → zb_WP (G, C, d + 1, 0, 0, zb_q E Q) F_X12_makers 38 [(0, (2, x0)), (2, (0, v2_38))] [] E.1 m38l 0 0)) := ⟨fun v2_38 m38l => zb_FIN E m38l → zb_WP (G, C, d + 1, 0, 0, zb_q E Q) F_X12_makers 38 [(0, (2, x0)), (2, (0, v2_38))] [] E.1 m38l 0 0, fun _ _ => Iff.rfl⟩
      refine (hX38 _ _).mp (h X38 (fun v2_38 m38l h => (hX38 _ _).mpr (fun hF => ?_))) hF
      refine zb_iload_n (j := 1) dX12_makers_38 rfl rfl ?_
      refine zb_aload_n (j := 0) dX12_makers_39 rfl rfl ?_
      refine zb_gI 15 dX12_makers_40 fl_X12_175 i_0 rfl rfl ?_
      refine zb_icmp_ge (tgt := 69) dX12_makers_43 (by decide) (fun c41 => ?_) (fun c41 => ?_)
      · have h := h.1 c41
        refine zb_sub (L' := [(0, (2, x0))]) [0] rfl ?_
        exact hJ69 _ hF h
      · have h := h.2 c41
        refine zb_aload_n (j := 0) dX12_makers_46 rfl rfl ?_
        refine zb_dup dX12_makers_47 rfl ?_
        refine zb_gI 51 dX12_makers_48 fl_X12_289 i_0 rfl rfl ?_
        refine zb_iconst dX12_makers_51 (zb_inIc rfl) ?_
        refine zb_aload_n (j := 0) dX12_makers_52 rfl rfl ?_
        refine zb_gFa 16 dX12_makers_53 fl_X12_52 i_0 hW hF rfl rfl rfl (by decide) rfl 12 rfl (fun i42 l43 => ?_)
        refine zb_iload_n (j := 1) dX12_makers_56 rfl rfl ?_
        obtain ⟨o44, h⟩ := h
        refine zb_lI dX12_makers_57 i42 l43 o44.1 o44.2 ?_
        refine zb_ishl dX12_makers_58 ?_
        refine zb_ior dX12_makers_59 ?_
        refine zb_pF 51 dX12_makers_60 fl_X12_289 rfl rfl i_0 (Or.inl rfl) hF rfl rfl (fun m60 e60 hF => ?_)
        have h := h m60 e60
        obtain ⟨o45, h⟩ := h
        refine zb_iinc (j := 1) (L' := [(2, (0, (v2_38 + 1))), (0, (2, x0))]) dX12_makers_63 rfl o45 (by decide) rfl ?_
        refine zb_goto (tgt := 38) dX12_makers_66 (by decide) ?_
        refine zb_sub (L' := [(0, (2, x0)), (2, (0, (v2_38 + 1)))]) [1, 0] rfl ?_
        exact (hX38 _ _).mp h hF
    · have h := h.1 c2
      refine zb_bipush dX12_makers_18 (by decide) (zb_inIc rfl) ?_
      exact zb_rI dX12_makers_20 rfl hF h
  · have h := h.1 c1
    refine zb_iconst dX12_makers_8 (zb_inIc rfl) ?_
    exact zb_rI dX12_makers_9 rfl hF h
theorem dX12_maker_0 : decode cX12_maker 0 = .ok (.iload_n 1, 1) := by decide +kernel
theorem dX12_maker_1 : decode cX12_maker 1 = .ok (.iconst 0, 1) := by decide +kernel
theorem dX12_maker_2 : decode cX12_maker 2 = .ok (.aload_n 0, 1) := by decide +kernel
theorem dX12_maker_3 : decode cX12_maker 3 = .ok (.getfield 286, 3) := by decide +kernel
theorem dX12_maker_6 : decode cX12_maker 6 = .ok (.iconst 1, 1) := by decide +kernel
theorem dX12_maker_7 : decode cX12_maker 7 = .ok (.isub, 1) := by decide +kernel
theorem dX12_maker_8 : decode cX12_maker 8 = .ok (.invokestatic 133, 3) := by decide +kernel
theorem dX12_maker_11 : decode cX12_maker 11 = .ok (.ifCond .eq 39, 3) := by decide +kernel
theorem dX12_maker_14 : decode cX12_maker 14 = .ok (.iload_n 2, 1) := by decide +kernel
theorem dX12_maker_15 : decode cX12_maker 15 = .ok (.iconst 0, 1) := by decide +kernel
theorem dX12_maker_16 : decode cX12_maker 16 = .ok (.bipush 11, 2) := by decide +kernel
theorem dX12_maker_18 : decode cX12_maker 18 = .ok (.invokestatic 133, 3) := by decide +kernel
theorem dX12_maker_21 : decode cX12_maker 21 = .ok (.ifCond .eq 29, 3) := by decide +kernel
theorem dX12_maker_24 : decode cX12_maker 24 = .ok (.aload_n 0, 1) := by decide +kernel
theorem dX12_maker_25 : decode cX12_maker 25 = .ok (.getfield 289, 3) := by decide +kernel
theorem dX12_maker_28 : decode cX12_maker 28 = .ok (.iload_n 2, 1) := by decide +kernel
theorem dX12_maker_29 : decode cX12_maker 29 = .ok (.ishr, 1) := by decide +kernel
theorem dX12_maker_30 : decode cX12_maker 30 = .ok (.iconst 1, 1) := by decide +kernel
theorem dX12_maker_31 : decode cX12_maker 31 = .ok (.iand, 1) := by decide +kernel
theorem dX12_maker_32 : decode cX12_maker 32 = .ok (.iconst 1, 1) := by decide +kernel
theorem dX12_maker_33 : decode cX12_maker 33 = .ok (.if_icmp .ne 17, 3) := by decide +kernel
theorem dX12_maker_36 : decode cX12_maker 36 = .ok (.aload_n 0, 1) := by decide +kernel
theorem dX12_maker_37 : decode cX12_maker 37 = .ok (.getfield 127, 3) := by decide +kernel
theorem dX12_maker_40 : decode cX12_maker 40 = .ok (.bipush 12, 2) := by decide +kernel
theorem dX12_maker_42 : decode cX12_maker 42 = .ok (.iload_n 1, 1) := by decide +kernel
theorem dX12_maker_43 : decode cX12_maker 43 = .ok (.imul, 1) := by decide +kernel
theorem dX12_maker_44 : decode cX12_maker 44 = .ok (.iload_n 2, 1) := by decide +kernel
theorem dX12_maker_45 : decode cX12_maker 45 = .ok (.iadd, 1) := by decide +kernel
theorem dX12_maker_46 : decode cX12_maker 46 = .ok (.iaload, 1) := by decide +kernel
theorem dX12_maker_47 : decode cX12_maker 47 = .ok (.goto 4, 3) := by decide +kernel
theorem dX12_maker_50 : decode cX12_maker 50 = .ok (.iconst (-1), 1) := by decide +kernel
theorem dX12_maker_51 : decode cX12_maker 51 = .ok (.ireturn, 1) := by decide +kernel
def PM_X12_maker (d : Nat) (E : zb_E) (x0 : Int) (x1 : Int) (x2 : Int) (m : zb_M) (Q : Int → Prop) : Prop :=
  (zb_inI ((m x0 49) - 1)) ∧ (zb_Tp K_X12_in d [(0, x1), (0, 0), (0, ((m x0 49) - 1))] E m (fun r8 => (r8 = 0 → Q (-1)) ∧ (¬ r8 = 0 → zb_Tp K_X12_in d [(0, x2), (0, 0), (0, 11)] E m (fun r18 => (r18 = 0 → Q (-1)) ∧ (¬ r18 = 0 → ((zb_and (zb_shr (m x0 51) x2) 1) = 1 → (zb_inI (12 * x1)) ∧ ((zb_inI ((12 * x1) + x2)) ∧ ((0 ≤ ((12 * x1) + x2) ∧ ((12 * x1) + x2) < 1200) ∧ (Q (m (E.2 x0 50) ((12 * x1) + x2)))))) ∧ (¬ (zb_and (zb_shr (m x0 51) x2) 1) = 1 → Q (-1)))))))
set_option maxRecDepth 100000 in
set_option maxHeartbeats 4000000 in
theorem w_X12_maker {d : Nat} {E : zb_E} {x0 x1 x2 : Int} {m : zb_M} {Q : Int → Prop} (h : PM_X12_maker d E x0 x1 x2 m Q) : zb_Tp K_X12_maker (d + 1) [(2, x0), (0, x1), (0, x2)] E m Q := by
  unfold PM_X12_maker at h
  refine zb_T_in gd_X12_maker rfl rfl (fun hW hA G C hF => ?_)
  have i_0 : zb_is E.1 x0 12 := zb_aH hA (by decide)
  show zb_WP _ _ 0 [(0, (2, x0)), (1, (0, x1)), (2, (0, x2))] [] _ _ _ _
  refine zb_iload_n (j := 1) dX12_maker_0 rfl rfl ?_
  refine zb_iconst dX12_maker_1 (zb_inIc rfl) ?_
  refine zb_aload_n (j := 0) dX12_maker_2 rfl rfl ?_
  refine zb_gI 49 dX12_maker_3 fl_X12_286 i_0 rfl rfl ?_
  refine zb_iconst dX12_maker_6 (zb_inIc rfl) ?_
  obtain ⟨o1, h⟩ := h
  refine zb_isub dX12_maker_7 o1 ?_
  refine zb_cSp (As := [(0, x1), (0, 0), (0, ((m x0 49) - 1))]) (As' := [(0, ((m x0 49) - 1)), (0, 0), (0, x1)]) (st := []) dX12_maker_8 lk_X12_133 gd_X12_in rfl rfl h hW hF (zb_aI (zb_aI (zb_aI zb_a0))) (Nat.le_refl _) (Nat.le_of_ble_eq_true rfl) (fun r8 h => ?_)
  show zb_WP _ _ _ _ [(0, r8)] _ _ _ _
  refine zb_if_eq (tgt := 50) dX12_maker_11 (by decide) (fun c2 => ?_) (fun c2 => ?_)
  · have h := h.1 c2
    refine zb_iconst dX12_maker_50 (zb_inIc rfl) ?_
    exact zb_rI dX12_maker_51 rfl hF ⟨rfl, h⟩
  · have h := h.2 c2
    refine zb_iload_n (j := 2) dX12_maker_14 rfl rfl ?_
    refine zb_iconst dX12_maker_15 (zb_inIc rfl) ?_
    refine zb_bipush dX12_maker_16 (by decide) (zb_inIc rfl) ?_
    refine zb_cSp (As := [(0, x2), (0, 0), (0, 11)]) (As' := [(0, 11), (0, 0), (0, x2)]) (st := []) dX12_maker_18 lk_X12_133 gd_X12_in rfl rfl h hW hF (zb_aI (zb_aI (zb_aI zb_a0))) (Nat.le_refl _) (Nat.le_of_ble_eq_true rfl) (fun r18 h => ?_)
    show zb_WP _ _ _ _ [(0, r18)] _ _ _ _
    refine zb_if_eq (tgt := 50) dX12_maker_21 (by decide) (fun c3 => ?_) (fun c3 => ?_)
    · have h := h.1 c3
      refine zb_iconst dX12_maker_50 (zb_inIc rfl) ?_
      exact zb_rI dX12_maker_51 rfl hF ⟨rfl, h⟩
    · have h := h.2 c3
      refine zb_aload_n (j := 0) dX12_maker_24 rfl rfl ?_
      refine zb_gI 51 dX12_maker_25 fl_X12_289 i_0 rfl rfl ?_
      refine zb_iload_n (j := 2) dX12_maker_28 rfl rfl ?_
      refine zb_ishr dX12_maker_29 ?_
      refine zb_iconst dX12_maker_30 (zb_inIc rfl) ?_
      refine zb_iand dX12_maker_31 ?_
      refine zb_iconst dX12_maker_32 (zb_inIc rfl) ?_
      refine zb_icmp_ne (tgt := 50) dX12_maker_33 (by decide) (fun c4 => ?_) (fun c4 => ?_)
      · have h := h.2 c4
        refine zb_iconst dX12_maker_50 (zb_inIc rfl) ?_
        exact zb_rI dX12_maker_51 rfl hF ⟨rfl, h⟩
      · have h := h.1 c4
        refine zb_aload_n (j := 0) dX12_maker_36 rfl rfl ?_
        refine zb_gFa 50 dX12_maker_37 fl_X12_127 i_0 hW hF rfl rfl rfl (by decide) rfl 1200 rfl (fun i5 l6 => ?_)
        refine zb_bipush dX12_maker_40 (by decide) (zb_inIc rfl) ?_
        refine zb_iload_n (j := 1) dX12_maker_42 rfl rfl ?_
        obtain ⟨o7, h⟩ := h
        refine zb_imul dX12_maker_43 o7 ?_
        refine zb_iload_n (j := 2) dX12_maker_44 rfl rfl ?_
        obtain ⟨o8, h⟩ := h
        refine zb_iadd dX12_maker_45 o8 ?_
        obtain ⟨o9, h⟩ := h
        refine zb_lI dX12_maker_46 i5 l6 o9.1 o9.2 ?_
        refine zb_goto (tgt := 51) dX12_maker_47 (by decide) ?_
        exact zb_rI dX12_maker_51 rfl hF ⟨rfl, h⟩
theorem dX12_then_0 : decode cX12_then 0 = .ok (.iload_n 1, 1) := by decide +kernel
theorem dX12_then_1 : decode cX12_then 1 = .ok (.iconst 0, 1) := by decide +kernel
theorem dX12_then_2 : decode cX12_then 2 = .ok (.aload_n 0, 1) := by decide +kernel
theorem dX12_then_3 : decode cX12_then 3 = .ok (.getfield 286, 3) := by decide +kernel
theorem dX12_then_6 : decode cX12_then 6 = .ok (.iconst 1, 1) := by decide +kernel
theorem dX12_then_7 : decode cX12_then 7 = .ok (.isub, 1) := by decide +kernel
theorem dX12_then_8 : decode cX12_then 8 = .ok (.invokestatic 133, 3) := by decide +kernel
theorem dX12_then_11 : decode cX12_then 11 = .ok (.ifCond .ne 5, 3) := by decide +kernel
theorem dX12_then_14 : decode cX12_then 14 = .ok (.iconst (-1), 1) := by decide +kernel
theorem dX12_then_15 : decode cX12_then 15 = .ok (.ireturn, 1) := by decide +kernel
theorem dX12_then_16 : decode cX12_then 16 = .ok (.aload_n 0, 1) := by decide +kernel
theorem dX12_then_17 : decode cX12_then 17 = .ok (.getfield 244, 3) := by decide +kernel
theorem dX12_then_20 : decode cX12_then 20 = .ok (.istore_n 2, 1) := by decide +kernel
theorem dX12_then_21 : decode cX12_then 21 = .ok (.iconst 0, 1) := by decide +kernel
theorem dX12_then_22 : decode cX12_then 22 = .ok (.istore_n 3, 1) := by decide +kernel
theorem dX12_then_23 : decode cX12_then 23 = .ok (.iload_n 3, 1) := by decide +kernel
theorem dX12_then_24 : decode cX12_then 24 = .ok (.bipush 12, 2) := by decide +kernel
theorem dX12_then_26 : decode cX12_then 26 = .ok (.if_icmp .ge 79, 3) := by decide +kernel
theorem dX12_then_29 : decode cX12_then 29 = .ok (.iload_n 2, 1) := by decide +kernel
theorem dX12_then_30 : decode cX12_then 30 = .ok (.ifCond .eq 75, 3) := by decide +kernel
theorem dX12_then_33 : decode cX12_then 33 = .ok (.aload_n 0, 1) := by decide +kernel
theorem dX12_then_34 : decode cX12_then 34 = .ok (.getfield 289, 3) := by decide +kernel
theorem dX12_then_37 : decode cX12_then 37 = .ok (.iload_n 3, 1) := by decide +kernel
theorem dX12_then_38 : decode cX12_then 38 = .ok (.ishr, 1) := by decide +kernel
theorem dX12_then_39 : decode cX12_then 39 = .ok (.iconst 1, 1) := by decide +kernel
theorem dX12_then_40 : decode cX12_then 40 = .ok (.iand, 1) := by decide +kernel
theorem dX12_then_41 : decode cX12_then 41 = .ok (.iconst 1, 1) := by decide +kernel
theorem dX12_then_42 : decode cX12_then 42 = .ok (.if_icmp .ne 7, 3) := by decide +kernel
theorem dX12_then_45 : decode cX12_then 45 = .ok (.iconst 1, 1) := by decide +kernel
theorem dX12_then_46 : decode cX12_then 46 = .ok (.goto 4, 3) := by decide +kernel
theorem dX12_then_49 : decode cX12_then 49 = .ok (.iconst 0, 1) := by decide +kernel
theorem dX12_then_50 : decode cX12_then 50 = .ok (.istore 4, 2) := by decide +kernel
theorem dX12_then_52 : decode cX12_then 52 = .ok (.iload 4, 2) := by decide +kernel
theorem dX12_then_54 : decode cX12_then 54 = .ok (.aload_n 0, 1) := by decide +kernel
theorem dX12_then_55 : decode cX12_then 55 = .ok (.getfield 106, 3) := by decide +kernel
theorem dX12_then_58 : decode cX12_then 58 = .ok (.iload_n 3, 1) := by decide +kernel
theorem dX12_then_59 : decode cX12_then 59 = .ok (.iaload, 1) := by decide +kernel
theorem dX12_then_60 : decode cX12_then 60 = .ok (.ifCond .lt 7, 3) := by decide +kernel
theorem dX12_then_63 : decode cX12_then 63 = .ok (.iconst 1, 1) := by decide +kernel
theorem dX12_then_64 : decode cX12_then 64 = .ok (.goto 4, 3) := by decide +kernel
theorem dX12_then_67 : decode cX12_then 67 = .ok (.iconst 0, 1) := by decide +kernel
theorem dX12_then_68 : decode cX12_then 68 = .ok (.if_icmp .ne 29, 3) := by decide +kernel
theorem dX12_then_71 : decode cX12_then 71 = .ok (.iload 4, 2) := by decide +kernel
theorem dX12_then_73 : decode cX12_then 73 = .ok (.ifCond .eq 20, 3) := by decide +kernel
theorem dX12_then_76 : decode cX12_then 76 = .ok (.aload_n 0, 1) := by decide +kernel
theorem dX12_then_77 : decode cX12_then 77 = .ok (.getfield 289, 3) := by decide +kernel
theorem dX12_then_80 : decode cX12_then 80 = .ok (.aload_n 0, 1) := by decide +kernel
theorem dX12_then_81 : decode cX12_then 81 = .ok (.getfield 106, 3) := by decide +kernel
theorem dX12_then_84 : decode cX12_then 84 = .ok (.iload_n 3, 1) := by decide +kernel
theorem dX12_then_85 : decode cX12_then 85 = .ok (.iaload, 1) := by decide +kernel
theorem dX12_then_86 : decode cX12_then 86 = .ok (.ishr, 1) := by decide +kernel
theorem dX12_then_87 : decode cX12_then 87 = .ok (.iconst 1, 1) := by decide +kernel
theorem dX12_then_88 : decode cX12_then 88 = .ok (.iand, 1) := by decide +kernel
theorem dX12_then_89 : decode cX12_then 89 = .ok (.iconst 1, 1) := by decide +kernel
theorem dX12_then_90 : decode cX12_then 90 = .ok (.if_icmp .ne 7, 3) := by decide +kernel
theorem dX12_then_93 : decode cX12_then 93 = .ok (.iconst 1, 1) := by decide +kernel
theorem dX12_then_94 : decode cX12_then 94 = .ok (.goto 4, 3) := by decide +kernel
theorem dX12_then_97 : decode cX12_then 97 = .ok (.iconst 0, 1) := by decide +kernel
theorem dX12_then_98 : decode cX12_then 98 = .ok (.istore_n 2, 1) := by decide +kernel
theorem dX12_then_99 : decode cX12_then 99 = .ok (.iinc 3 1, 3) := by decide +kernel
theorem dX12_then_102 : decode cX12_then 102 = .ok (.goto (-79), 3) := by decide +kernel
theorem dX12_then_105 : decode cX12_then 105 = .ok (.iload_n 2, 1) := by decide +kernel
theorem dX12_then_106 : decode cX12_then 106 = .ok (.ifCond .ne 6, 3) := by decide +kernel
theorem dX12_then_109 : decode cX12_then 109 = .ok (.bipush (-2), 2) := by decide +kernel
theorem dX12_then_111 : decode cX12_then 111 = .ok (.ireturn, 1) := by decide +kernel
theorem dX12_then_112 : decode cX12_then 112 = .ok (.iconst 0, 1) := by decide +kernel
theorem dX12_then_113 : decode cX12_then 113 = .ok (.istore_n 3, 1) := by decide +kernel
theorem dX12_then_114 : decode cX12_then 114 = .ok (.iload_n 3, 1) := by decide +kernel
theorem dX12_then_115 : decode cX12_then 115 = .ok (.bipush 12, 2) := by decide +kernel
theorem dX12_then_117 : decode cX12_then 117 = .ok (.if_icmp .ge 44, 3) := by decide +kernel
theorem dX12_then_120 : decode cX12_then 120 = .ok (.aload_n 0, 1) := by decide +kernel
theorem dX12_then_121 : decode cX12_then 121 = .ok (.getfield 106, 3) := by decide +kernel
theorem dX12_then_124 : decode cX12_then 124 = .ok (.iload_n 3, 1) := by decide +kernel
theorem dX12_then_125 : decode cX12_then 125 = .ok (.aload_n 0, 1) := by decide +kernel
theorem dX12_then_126 : decode cX12_then 126 = .ok (.getfield 106, 3) := by decide +kernel
theorem dX12_then_129 : decode cX12_then 129 = .ok (.iload_n 3, 1) := by decide +kernel
theorem dX12_then_130 : decode cX12_then 130 = .ok (.iaload, 1) := by decide +kernel
theorem dX12_then_131 : decode cX12_then 131 = .ok (.ifCond .ge 7, 3) := by decide +kernel
theorem dX12_then_134 : decode cX12_then 134 = .ok (.iconst (-1), 1) := by decide +kernel
theorem dX12_then_135 : decode cX12_then 135 = .ok (.goto 19, 3) := by decide +kernel
theorem dX12_then_138 : decode cX12_then 138 = .ok (.aload_n 0, 1) := by decide +kernel
theorem dX12_then_139 : decode cX12_then 139 = .ok (.getfield 127, 3) := by decide +kernel
theorem dX12_then_142 : decode cX12_then 142 = .ok (.bipush 12, 2) := by decide +kernel
theorem dX12_then_144 : decode cX12_then 144 = .ok (.iload_n 1, 1) := by decide +kernel
theorem dX12_then_145 : decode cX12_then 145 = .ok (.imul, 1) := by decide +kernel
theorem dX12_then_146 : decode cX12_then 146 = .ok (.aload_n 0, 1) := by decide +kernel
theorem dX12_then_147 : decode cX12_then 147 = .ok (.getfield 106, 3) := by decide +kernel
theorem dX12_then_150 : decode cX12_then 150 = .ok (.iload_n 3, 1) := by decide +kernel
theorem dX12_then_151 : decode cX12_then 151 = .ok (.iaload, 1) := by decide +kernel
theorem dX12_then_152 : decode cX12_then 152 = .ok (.iadd, 1) := by decide +kernel
theorem dX12_then_153 : decode cX12_then 153 = .ok (.iaload, 1) := by decide +kernel
theorem dX12_then_154 : decode cX12_then 154 = .ok (.iastore, 1) := by decide +kernel
theorem dX12_then_155 : decode cX12_then 155 = .ok (.iinc 3 1, 3) := by decide +kernel
theorem dX12_then_158 : decode cX12_then 158 = .ok (.goto (-44), 3) := by decide +kernel
theorem dX12_then_161 : decode cX12_then 161 = .ok (.iconst 1, 1) := by decide +kernel
theorem dX12_then_162 : decode cX12_then 162 = .ok (.ireturn, 1) := by decide +kernel
def PL_X12_then_114 (d : Nat) (E : zb_E) (x0 : Int) (x1 : Int) (Q : Int → zb_M → Prop)  (v3_114 : Int) (m114l : zb_M) : Prop :=
  ∀ X114 : Int → zb_M → Prop, (∀ (v3_114 : Int) (m114l : zb_M), ((12 ≤ v3_114 → Q 1 m114l) ∧ (¬ 12 ≤ v3_114 → (0 ≤ v3_114 ∧ v3_114 < 12) ∧ ((0 ≤ (m114l (E.2 x0 41) v3_114) → (zb_inI (12 * x1)) ∧ ((zb_inI ((12 * x1) + (m114l (E.2 x0 41) v3_114))) ∧ ((0 ≤ ((12 * x1) + (m114l (E.2 x0 41) v3_114)) ∧ ((12 * x1) + (m114l (E.2 x0 41) v3_114)) < 1200) ∧ (∀ m154, m154 = zb_up m114l (E.2 x0 41) v3_114 (m114l (E.2 x0 50) ((12 * x1) + (m114l (E.2 x0 41) v3_114))) → ((zb_inI (v3_114 + 1)) ∧ (X114 (v3_114 + 1) m154)))))) ∧ (¬ 0 ≤ (m114l (E.2 x0 41) v3_114) → ∀ m154, m154 = zb_up m114l (E.2 x0 41) v3_114 (-1) → ((zb_inI (v3_114 + 1)) ∧ (X114 (v3_114 + 1) m154)))))) → X114 v3_114 m114l) → X114 v3_114 m114l
def PJ_X12_then_105 (d : Nat) (E : zb_E) (x0 : Int) (x1 : Int) (m : zb_M) (Q : Int → zb_M → Prop) (v2_105 : Int) : Prop :=
  (v2_105 = 0 → Q (-2) m) ∧ (¬ v2_105 = 0 → PL_X12_then_114 d E x0 x1 Q 0 m)
def PJ_X12_then_68 (d : Nat) (E : zb_E) (x0 : Int) (m : zb_M) (v3_23 : Int) (s0_50 : Int) (X23 : Int → Int → Prop) (Q : Int → zb_M → Prop) (s1_68 : Int) : Prop :=
  (s0_50 = s1_68 → (s0_50 = 0 → (zb_inI (v3_23 + 1)) ∧ (X23 1 (v3_23 + 1))) ∧ (¬ s0_50 = 0 → ((zb_and (zb_shr (m x0 51) (m (E.2 x0 41) v3_23)) 1) = 1 → (zb_inI (v3_23 + 1)) ∧ (X23 1 (v3_23 + 1))) ∧ (¬ (zb_and (zb_shr (m x0 51) (m (E.2 x0 41) v3_23)) 1) = 1 → (zb_inI (v3_23 + 1)) ∧ (X23 0 (v3_23 + 1))))) ∧ (¬ s0_50 = s1_68 → (zb_inI (v3_23 + 1)) ∧ (X23 0 (v3_23 + 1)))
def PJ_X12_then_50 (d : Nat) (E : zb_E) (x0 : Int) (m : zb_M) (v3_23 : Int) (X23 : Int → Int → Prop) (Q : Int → zb_M → Prop) (s0_50 : Int) : Prop :=
  (0 ≤ v3_23 ∧ v3_23 < 12) ∧ (((m (E.2 x0 41) v3_23) < 0 → PJ_X12_then_68 d E x0 m v3_23 s0_50 X23 Q 0) ∧ (¬ (m (E.2 x0 41) v3_23) < 0 → PJ_X12_then_68 d E x0 m v3_23 s0_50 X23 Q 1))
def PL_X12_then_23 (d : Nat) (E : zb_E) (x0 : Int) (m : zb_M) (Q : Int → zb_M → Prop) (K105_23 : Int → Prop) (v2_23 : Int) (v3_23 : Int) : Prop :=
  ∀ X23 : Int → Int → Prop, (∀ (v2_23 : Int) (v3_23 : Int), ((12 ≤ v3_23 → K105_23 v2_23) ∧ (¬ 12 ≤ v3_23 → (v2_23 = 0 → K105_23 v2_23) ∧ (¬ v2_23 = 0 → ((zb_and (zb_shr (m x0 51) v3_23) 1) = 1 → PJ_X12_then_50 d E x0 m v3_23 X23 Q 1) ∧ (¬ (zb_and (zb_shr (m x0 51) v3_23) 1) = 1 → PJ_X12_then_50 d E x0 m v3_23 X23 Q 0)))) → X23 v2_23 v3_23) → X23 v2_23 v3_23
def PM_X12_then (d : Nat) (E : zb_E) (x0 : Int) (x1 : Int) (m : zb_M) (Q : Int → zb_M → Prop) : Prop :=
  (zb_inI ((m x0 49) - 1)) ∧ (zb_Tp K_X12_in d [(0, x1), (0, 0), (0, ((m x0 49) - 1))] E m (fun r8 => (r8 = 0 → Q (-1) m) ∧ (¬ r8 = 0 → PL_X12_then_23 d E x0 m Q (PJ_X12_then_105 d E x0 x1 m Q) (m x0 40) 0)))
set_option maxRecDepth 100000 in
set_option maxHeartbeats 4000000 in
theorem w_X12_then {d : Nat} {E : zb_E} {x0 x1 : Int} {m : zb_M} {Q : Int → zb_M → Prop} (h : PM_X12_then d E x0 x1 m Q) : zb_T K_X12_then (d + 1) [(2, x0), (0, x1)] E m Q := by
  unfold PM_X12_then at h
  refine zb_T_in gd_X12_then rfl rfl (fun hW hA G C hF => ?_)
  have i_0 : zb_is E.1 x0 12 := zb_aH hA (by decide)
  show zb_WP _ _ 0 [(0, (2, x0)), (1, (0, x1))] [] _ _ _ _
  refine zb_iload_n (j := 1) dX12_then_0 rfl rfl ?_
  refine zb_iconst dX12_then_1 (zb_inIc rfl) ?_
  refine zb_aload_n (j := 0) dX12_then_2 rfl rfl ?_
  refine zb_gI 49 dX12_then_3 fl_X12_286 i_0 rfl rfl ?_
  refine zb_iconst dX12_then_6 (zb_inIc rfl) ?_
  obtain ⟨o1, h⟩ := h
  refine zb_isub dX12_then_7 o1 ?_
  refine zb_cSp (As := [(0, x1), (0, 0), (0, ((m x0 49) - 1))]) (As' := [(0, ((m x0 49) - 1)), (0, 0), (0, x1)]) (st := []) dX12_then_8 lk_X12_133 gd_X12_in rfl rfl h hW hF (zb_aI (zb_aI (zb_aI zb_a0))) (Nat.le_refl _) (Nat.le_of_ble_eq_true rfl) (fun r8 h => ?_)
  show zb_WP _ _ _ _ [(0, r8)] _ _ _ _
  refine zb_if_ne (tgt := 16) dX12_then_11 (by decide) (fun c2 => ?_) (fun c2 => ?_)
  · have h := h.2 c2
    refine zb_aload_n (j := 0) dX12_then_16 rfl rfl ?_
    refine zb_gI 40 dX12_then_17 fl_X12_244 i_0 rfl rfl ?_
    refine zb_istore_n (L' := [(2, (0, (m x0 40))), (0, (2, x0)), (1, (0, x1))]) dX12_then_20 rfl (by decide) rfl ?_
    refine zb_iconst dX12_then_21 (zb_inIc rfl) ?_
    refine zb_istore_n (L' := [(3, (0, 0)), (2, (0, (m x0 40))), (0, (2, x0)), (1, (0, x1))]) dX12_then_22 rfl (by decide) rfl ?_
    refine zb_sub (L' := [(0, (2, x0)), (1, (0, x1)), (2, (0, (m x0 40))), (3, (0, 0))]) [2, 3, 1, 0] rfl ?_
    have hJ105 : ∀ (v2_105 : Int), zb_FIN E m → PJ_X12_then_105 d E x0 x1 m Q v2_105 → zb_WP (G, C, d + 1, 0, 0, zb_q E Q) F_X12_then 105 [(0, (2, x0)), (1, (0, x1)), (2, (0, v2_105))] [] E.1 m 0 0 := by
      intro v2_105 hF h
      unfold PJ_X12_then_105 at h
      refine zb_iload_n (j := 2) dX12_then_105 rfl rfl ?_
      refine zb_if_ne (tgt := 112) dX12_then_106 (by decide) (fun c3 => ?_) (fun c3 => ?_)
      · have h := h.2 c3
        refine zb_iconst dX12_then_112 (zb_inIc rfl) ?_
        refine zb_istore_n (L' := [(3, (0, 0)), (0, (2, x0)), (1, (0, x1)), (2, (0, v2_105))]) dX12_then_113 rfl (by decide) rfl ?_
        refine zb_sub (L' := [(0, (2, x0)), (1, (0, x1)), (3, (0, 0))]) [1, 2, 0] rfl ?_
        unfold PL_X12_then_114 at h
        obtain ⟨X114, hX114⟩ : ∃ X : Int → zb_M → Prop, ∀ (v3_114 : Int) (m114l : zb_M), (X v3_114 m114l ↔ (zb_FIN E m114l → zb_WP (G, C, d + 1, 0, 0, zb_q E Q) F_X12_then 114 [(0, (2, x0)), (1, (0, x1)), (3, (0, v3_114))] [] E.1 m114l 0 0)) := ⟨fun v3_114 m114l => zb_FIN E m114l → zb_WP (G, C, d + 1, 0, 0, zb_q E Q) F_X12_then 114 [(0, (2, x0)), (1, (0, x1)), (3, (0, v3_114))] [] E.1 m114l 0 0, fun _ _ => Iff.rfl⟩
        refine (hX114 _ _).mp (h X114 (fun v3_114 m114l h => (hX114 _ _).mpr (fun hF => ?_))) hF
        refine zb_iload_n (j := 2) dX12_then_114 rfl rfl ?_
        refine zb_bipush dX12_then_115 (by decide) (zb_inIc rfl) ?_
        refine zb_icmp_ge (tgt := 161) dX12_then_117 (by decide) (fun c4 => ?_) (fun c4 => ?_)
        · have h := h.1 c4
          refine zb_iconst dX12_then_161 (zb_inIc rfl) ?_
          exact zb_rI dX12_then_162 rfl hF h
        · have h := h.2 c4
          refine zb_aload_n (j := 0) dX12_then_120 rfl rfl ?_
          refine zb_gFa 41 dX12_then_121 fl_X12_106 i_0 hW hF rfl rfl rfl (by decide) rfl 12 rfl (fun i5 l6 => ?_)
          refine zb_iload_n (j := 2) dX12_then_124 rfl rfl ?_
          refine zb_aload_n (j := 0) dX12_then_125 rfl rfl ?_
          refine zb_gFa 41 dX12_then_126 fl_X12_106 i_0 hW hF rfl rfl rfl (by decide) rfl 12 rfl (fun i7 l8 => ?_)
          refine zb_iload_n (j := 2) dX12_then_129 rfl rfl ?_
          obtain ⟨o9, h⟩ := h
          refine zb_lI dX12_then_130 i7 l8 o9.1 o9.2 ?_
          refine zb_if_ge (tgt := 138) dX12_then_131 (by decide) (fun c10 => ?_) (fun c10 => ?_)
          · have h := h.1 c10
            refine zb_aload_n (j := 0) dX12_then_138 rfl rfl ?_
            refine zb_gFa 50 dX12_then_139 fl_X12_127 i_0 hW hF rfl rfl rfl (by decide) rfl 1200 rfl (fun i11 l12 => ?_)
            refine zb_bipush dX12_then_142 (by decide) (zb_inIc rfl) ?_
            refine zb_iload_n (j := 1) dX12_then_144 rfl rfl ?_
            obtain ⟨o13, h⟩ := h
            refine zb_imul dX12_then_145 o13 ?_
            refine zb_aload_n (j := 0) dX12_then_146 rfl rfl ?_
            refine zb_gFa 41 dX12_then_147 fl_X12_106 i_0 hW hF rfl rfl rfl (by decide) rfl 12 rfl (fun i14 l15 => ?_)
            refine zb_iload_n (j := 2) dX12_then_150 rfl rfl ?_
            refine zb_lI dX12_then_151 i14 l15 o9.1 o9.2 ?_
            obtain ⟨o16, h⟩ := h
            refine zb_iadd dX12_then_152 o16 ?_
            obtain ⟨o17, h⟩ := h
            refine zb_lI dX12_then_153 i11 l12 o17.1 o17.2 ?_
            refine zb_sI dX12_then_154 i5 l6 o9.1 o9.2 hF (fun m154 e154 hF => ?_)
            have h := h m154 e154
            obtain ⟨o18, h⟩ := h
            refine zb_iinc (j := 2) (L' := [(3, (0, (v3_114 + 1))), (0, (2, x0)), (1, (0, x1))]) dX12_then_155 rfl o18 (by decide) rfl ?_
            refine zb_goto (tgt := 114) dX12_then_158 (by decide) ?_
            refine zb_sub (L' := [(0, (2, x0)), (1, (0, x1)), (3, (0, (v3_114 + 1)))]) [1, 2, 0] rfl ?_
            exact (hX114 _ _).mp h hF
          · have h := h.2 c10
            refine zb_iconst dX12_then_134 (zb_inIc rfl) ?_
            refine zb_goto (tgt := 154) dX12_then_135 (by decide) ?_
            refine zb_sI dX12_then_154 i5 l6 o9.1 o9.2 hF (fun m154 e154 hF => ?_)
            have h := h m154 e154
            obtain ⟨o19, h⟩ := h
            refine zb_iinc (j := 2) (L' := [(3, (0, (v3_114 + 1))), (0, (2, x0)), (1, (0, x1))]) dX12_then_155 rfl o19 (by decide) rfl ?_
            refine zb_goto (tgt := 114) dX12_then_158 (by decide) ?_
            refine zb_sub (L' := [(0, (2, x0)), (1, (0, x1)), (3, (0, (v3_114 + 1)))]) [1, 2, 0] rfl ?_
            exact (hX114 _ _).mp h hF
      · have h := h.1 c3
        refine zb_bipush dX12_then_109 (by decide) (zb_inIc rfl) ?_
        exact zb_rI dX12_then_111 rfl hF h
    unfold PL_X12_then_23 at h
    obtain ⟨X23, hX23⟩ : ∃ X : Int → Int → Prop, ∀ (v2_23 : Int) (v3_23 : Int), (X v2_23 v3_23 ↔ (zb_FIN E m → zb_WP (G, C, d + 1, 0, 0, zb_q E Q) F_X12_then 23 [(0, (2, x0)), (1, (0, x1)), (2, (0, v2_23)), (3, (0, v3_23))] [] E.1 m 0 0)) := ⟨fun v2_23 v3_23 => zb_FIN E m → zb_WP (G, C, d + 1, 0, 0, zb_q E Q) F_X12_then 23 [(0, (2, x0)), (1, (0, x1)), (2, (0, v2_23)), (3, (0, v3_23))] [] E.1 m 0 0, fun _ _ => Iff.rfl⟩
    refine (hX23 _ _).mp (h X23 (fun v2_23 v3_23 h => (hX23 _ _).mpr (fun hF => ?_))) hF
    refine zb_iload_n (j := 3) dX12_then_23 rfl rfl ?_
    refine zb_bipush dX12_then_24 (by decide) (zb_inIc rfl) ?_
    refine zb_icmp_ge (tgt := 105) dX12_then_26 (by decide) (fun c20 => ?_) (fun c20 => ?_)
    · have h := h.1 c20
      refine zb_sub (L' := [(0, (2, x0)), (1, (0, x1)), (2, (0, v2_23))]) [0, 1, 2] rfl ?_
      exact hJ105 _ hF h
    · have h := h.2 c20
      refine zb_iload_n (j := 2) dX12_then_29 rfl rfl ?_
      refine zb_if_eq (tgt := 105) dX12_then_30 (by decide) (fun c21 => ?_) (fun c21 => ?_)
      · have h := h.1 c21
        refine zb_sub (L' := [(0, (2, x0)), (1, (0, x1)), (2, (0, v2_23))]) [0, 1, 2] rfl ?_
        exact hJ105 _ hF h
      · have h := h.2 c21
        refine zb_aload_n (j := 0) dX12_then_33 rfl rfl ?_
        refine zb_gI 51 dX12_then_34 fl_X12_289 i_0 rfl rfl ?_
        refine zb_iload_n (j := 3) dX12_then_37 rfl rfl ?_
        refine zb_ishr dX12_then_38 ?_
        refine zb_iconst dX12_then_39 (zb_inIc rfl) ?_
        refine zb_iand dX12_then_40 ?_
        refine zb_iconst dX12_then_41 (zb_inIc rfl) ?_
        have hJ50 : ∀ (s0_50 : Int), zb_FIN E m → PJ_X12_then_50 d E x0 m v3_23 X23 Q s0_50 → zb_WP (G, C, d + 1, 0, 0, zb_q E Q) F_X12_then 50 [(0, (2, x0)), (1, (0, x1)), (3, (0, v3_23))] [(0, s0_50)] E.1 m 0 0 := by
          intro s0_50 hF h
          unfold PJ_X12_then_50 at h
          refine zb_istore (L' := [(4, (0, s0_50)), (0, (2, x0)), (1, (0, x1)), (3, (0, v3_23))]) dX12_then_50 (by decide) rfl ?_
          refine zb_iload (j := 0) dX12_then_52 rfl ?_
          refine zb_aload_n (j := 1) dX12_then_54 rfl rfl ?_
          refine zb_gFa 41 dX12_then_55 fl_X12_106 i_0 hW hF rfl rfl rfl (by decide) rfl 12 rfl (fun i22 l23 => ?_)
          refine zb_iload_n (j := 3) dX12_then_58 rfl rfl ?_
          obtain ⟨o24, h⟩ := h
          refine zb_lI dX12_then_59 i22 l23 o24.1 o24.2 ?_
          have hJ68 : ∀ (s1_68 : Int), zb_FIN E m → PJ_X12_then_68 d E x0 m v3_23 s0_50 X23 Q s1_68 → zb_WP (G, C, d + 1, 0, 0, zb_q E Q) F_X12_then 68 [(0, (2, x0)), (1, (0, x1)), (3, (0, v3_23)), (4, (0, s0_50))] [(0, s1_68), (0, s0_50)] E.1 m 0 0 := by
            intro s1_68 hF h
            unfold PJ_X12_then_68 at h
            refine zb_icmp_ne (tgt := 97) dX12_then_68 (by decide) (fun c25 => ?_) (fun c25 => ?_)
            · have h := h.2 c25
              refine zb_iconst dX12_then_97 (zb_inIc rfl) ?_
              refine zb_istore_n (L' := [(2, (0, 0)), (0, (2, x0)), (1, (0, x1)), (3, (0, v3_23)), (4, (0, s0_50))]) dX12_then_98 rfl (by decide) rfl ?_
              obtain ⟨o26, h⟩ := h
              refine zb_iinc (j := 3) (L' := [(3, (0, (v3_23 + 1))), (2, (0, 0)), (0, (2, x0)), (1, (0, x1)), (4, (0, s0_50))]) dX12_then_99 rfl o26 (by decide) rfl ?_
              refine zb_goto (tgt := 23) dX12_then_102 (by decide) ?_
              refine zb_sub (L' := [(0, (2, x0)), (1, (0, x1)), (2, (0, 0)), (3, (0, (v3_23 + 1)))]) [2, 3, 1, 0] rfl ?_
              exact (hX23 _ _).mp h hF
            · have h := h.1 c25
              refine zb_iload (j := 3) dX12_then_71 rfl ?_
              refine zb_if_eq (tgt := 93) dX12_then_73 (by decide) (fun c27 => ?_) (fun c27 => ?_)
              · have h := h.1 c27
                refine zb_iconst dX12_then_93 (zb_inIc rfl) ?_
                refine zb_goto (tgt := 98) dX12_then_94 (by decide) ?_
                refine zb_istore_n (L' := [(2, (0, 1)), (0, (2, x0)), (1, (0, x1)), (3, (0, v3_23)), (4, (0, s0_50))]) dX12_then_98 rfl (by decide) rfl ?_
                obtain ⟨o28, h⟩ := h
                refine zb_iinc (j := 3) (L' := [(3, (0, (v3_23 + 1))), (2, (0, 1)), (0, (2, x0)), (1, (0, x1)), (4, (0, s0_50))]) dX12_then_99 rfl o28 (by decide) rfl ?_
                refine zb_goto (tgt := 23) dX12_then_102 (by decide) ?_
                refine zb_sub (L' := [(0, (2, x0)), (1, (0, x1)), (2, (0, 1)), (3, (0, (v3_23 + 1)))]) [2, 3, 1, 0] rfl ?_
                exact (hX23 _ _).mp h hF
              · have h := h.2 c27
                refine zb_aload_n (j := 0) dX12_then_76 rfl rfl ?_
                refine zb_gI 51 dX12_then_77 fl_X12_289 i_0 rfl rfl ?_
                refine zb_aload_n (j := 0) dX12_then_80 rfl rfl ?_
                refine zb_gFa 41 dX12_then_81 fl_X12_106 i_0 hW hF rfl rfl rfl (by decide) rfl 12 rfl (fun i29 l30 => ?_)
                refine zb_iload_n (j := 2) dX12_then_84 rfl rfl ?_
                refine zb_lI dX12_then_85 i29 l30 o24.1 o24.2 ?_
                refine zb_ishr dX12_then_86 ?_
                refine zb_iconst dX12_then_87 (zb_inIc rfl) ?_
                refine zb_iand dX12_then_88 ?_
                refine zb_iconst dX12_then_89 (zb_inIc rfl) ?_
                refine zb_icmp_ne (tgt := 97) dX12_then_90 (by decide) (fun c31 => ?_) (fun c31 => ?_)
                · have h := h.2 c31
                  refine zb_iconst dX12_then_97 (zb_inIc rfl) ?_
                  refine zb_istore_n (L' := [(2, (0, 0)), (0, (2, x0)), (1, (0, x1)), (3, (0, v3_23)), (4, (0, s0_50))]) dX12_then_98 rfl (by decide) rfl ?_
                  obtain ⟨o32, h⟩ := h
                  refine zb_iinc (j := 3) (L' := [(3, (0, (v3_23 + 1))), (2, (0, 0)), (0, (2, x0)), (1, (0, x1)), (4, (0, s0_50))]) dX12_then_99 rfl o32 (by decide) rfl ?_
                  refine zb_goto (tgt := 23) dX12_then_102 (by decide) ?_
                  refine zb_sub (L' := [(0, (2, x0)), (1, (0, x1)), (2, (0, 0)), (3, (0, (v3_23 + 1)))]) [2, 3, 1, 0] rfl ?_
                  exact (hX23 _ _).mp h hF
                · have h := h.1 c31
                  refine zb_iconst dX12_then_93 (zb_inIc rfl) ?_
                  refine zb_goto (tgt := 98) dX12_then_94 (by decide) ?_
                  refine zb_istore_n (L' := [(2, (0, 1)), (0, (2, x0)), (1, (0, x1)), (3, (0, v3_23)), (4, (0, s0_50))]) dX12_then_98 rfl (by decide) rfl ?_
                  obtain ⟨o33, h⟩ := h
                  refine zb_iinc (j := 3) (L' := [(3, (0, (v3_23 + 1))), (2, (0, 1)), (0, (2, x0)), (1, (0, x1)), (4, (0, s0_50))]) dX12_then_99 rfl o33 (by decide) rfl ?_
                  refine zb_goto (tgt := 23) dX12_then_102 (by decide) ?_
                  refine zb_sub (L' := [(0, (2, x0)), (1, (0, x1)), (2, (0, 1)), (3, (0, (v3_23 + 1)))]) [2, 3, 1, 0] rfl ?_
                  exact (hX23 _ _).mp h hF
          refine zb_if_lt (tgt := 67) dX12_then_60 (by decide) (fun c34 => ?_) (fun c34 => ?_)
          · have h := h.1 c34
            refine zb_iconst dX12_then_67 (zb_inIc rfl) ?_
            refine zb_sub (L' := [(0, (2, x0)), (1, (0, x1)), (3, (0, v3_23)), (4, (0, s0_50))]) [1, 2, 3, 0] rfl ?_
            exact hJ68 _ hF h
          · have h := h.2 c34
            refine zb_iconst dX12_then_63 (zb_inIc rfl) ?_
            refine zb_goto (tgt := 68) dX12_then_64 (by decide) ?_
            refine zb_sub (L' := [(0, (2, x0)), (1, (0, x1)), (3, (0, v3_23)), (4, (0, s0_50))]) [1, 2, 3, 0] rfl ?_
            exact hJ68 _ hF h
        refine zb_icmp_ne (tgt := 49) dX12_then_42 (by decide) (fun c35 => ?_) (fun c35 => ?_)
        · have h := h.2 c35
          refine zb_iconst dX12_then_49 (zb_inIc rfl) ?_
          refine zb_sub (L' := [(0, (2, x0)), (1, (0, x1)), (3, (0, v3_23))]) [0, 1, 3] rfl ?_
          exact hJ50 _ hF h
        · have h := h.1 c35
          refine zb_iconst dX12_then_45 (zb_inIc rfl) ?_
          refine zb_goto (tgt := 50) dX12_then_46 (by decide) ?_
          refine zb_sub (L' := [(0, (2, x0)), (1, (0, x1)), (3, (0, v3_23))]) [0, 1, 3] rfl ?_
          exact hJ50 _ hF h
  · have h := h.1 c2
    refine zb_iconst dX12_then_14 (zb_inIc rfl) ?_
    exact zb_rI dX12_then_15 rfl hF h
theorem dX12_bitsOf_0 : decode cX12_bitsOf 0 = .ok (.iconst 0, 1) := by decide +kernel
theorem dX12_bitsOf_1 : decode cX12_bitsOf 1 = .ok (.istore_n 1, 1) := by decide +kernel
theorem dX12_bitsOf_2 : decode cX12_bitsOf 2 = .ok (.iconst 0, 1) := by decide +kernel
theorem dX12_bitsOf_3 : decode cX12_bitsOf 3 = .ok (.istore_n 2, 1) := by decide +kernel
theorem dX12_bitsOf_4 : decode cX12_bitsOf 4 = .ok (.iload_n 2, 1) := by decide +kernel
theorem dX12_bitsOf_5 : decode cX12_bitsOf 5 = .ok (.bipush 10, 2) := by decide +kernel
theorem dX12_bitsOf_7 : decode cX12_bitsOf 7 = .ok (.if_icmp .ge 17, 3) := by decide +kernel
theorem dX12_bitsOf_10 : decode cX12_bitsOf 10 = .ok (.iload_n 1, 1) := by decide +kernel
theorem dX12_bitsOf_11 : decode cX12_bitsOf 11 = .ok (.iload_n 0, 1) := by decide +kernel
theorem dX12_bitsOf_12 : decode cX12_bitsOf 12 = .ok (.iload_n 2, 1) := by decide +kernel
theorem dX12_bitsOf_13 : decode cX12_bitsOf 13 = .ok (.ishr, 1) := by decide +kernel
theorem dX12_bitsOf_14 : decode cX12_bitsOf 14 = .ok (.iconst 1, 1) := by decide +kernel
theorem dX12_bitsOf_15 : decode cX12_bitsOf 15 = .ok (.iand, 1) := by decide +kernel
theorem dX12_bitsOf_16 : decode cX12_bitsOf 16 = .ok (.iadd, 1) := by decide +kernel
theorem dX12_bitsOf_17 : decode cX12_bitsOf 17 = .ok (.istore_n 1, 1) := by decide +kernel
theorem dX12_bitsOf_18 : decode cX12_bitsOf 18 = .ok (.iinc 2 1, 3) := by decide +kernel
theorem dX12_bitsOf_21 : decode cX12_bitsOf 21 = .ok (.goto (-17), 3) := by decide +kernel
theorem dX12_bitsOf_24 : decode cX12_bitsOf 24 = .ok (.iload_n 1, 1) := by decide +kernel
theorem dX12_bitsOf_25 : decode cX12_bitsOf 25 = .ok (.ireturn, 1) := by decide +kernel
def PL_X12_bitsOf_4 (d : Nat) (E : zb_E) (x0 : Int) (Q : Int → Prop)  (v1_4 : Int) (v2_4 : Int) : Prop :=
  ∀ X4 : Int → Int → Prop, (∀ (v1_4 : Int) (v2_4 : Int), ((10 ≤ v2_4 → Q v1_4) ∧ (¬ 10 ≤ v2_4 → (zb_inI (v1_4 + (zb_and (zb_shr x0 v2_4) 1))) ∧ ((zb_inI (v2_4 + 1)) ∧ (X4 (v1_4 + (zb_and (zb_shr x0 v2_4) 1)) (v2_4 + 1))))) → X4 v1_4 v2_4) → X4 v1_4 v2_4
def PM_X12_bitsOf (d : Nat) (E : zb_E) (x0 : Int) (m : zb_M) (Q : Int → Prop) : Prop :=
  PL_X12_bitsOf_4 d E x0 Q 0 0
set_option maxRecDepth 100000 in
set_option maxHeartbeats 4000000 in
theorem w_X12_bitsOf {d : Nat} {E : zb_E} {x0 : Int} {m : zb_M} {Q : Int → Prop} (h : PM_X12_bitsOf d E x0 m Q) : zb_Tp K_X12_bitsOf (d + 1) [(0, x0)] E m Q := by
  unfold PM_X12_bitsOf at h
  refine zb_T_in gd_X12_bitsOf rfl rfl (fun hW hA G C hF => ?_)
  show zb_WP _ _ 0 [(0, (0, x0))] [] _ _ _ _
  refine zb_iconst dX12_bitsOf_0 (zb_inIc rfl) ?_
  refine zb_istore_n (L' := [(1, (0, 0)), (0, (0, x0))]) dX12_bitsOf_1 rfl (by decide) rfl ?_
  refine zb_iconst dX12_bitsOf_2 (zb_inIc rfl) ?_
  refine zb_istore_n (L' := [(2, (0, 0)), (1, (0, 0)), (0, (0, x0))]) dX12_bitsOf_3 rfl (by decide) rfl ?_
  refine zb_sub (L' := [(0, (0, x0)), (1, (0, 0)), (2, (0, 0))]) [2, 1, 0] rfl ?_
  unfold PL_X12_bitsOf_4 at h
  obtain ⟨X4, hX4⟩ : ∃ X : Int → Int → Prop, ∀ (v1_4 : Int) (v2_4 : Int), (X v1_4 v2_4 ↔ (zb_FIN E m → zb_WP (G, C, d + 1, 0, 0, zb_q E (fun r m' => m' = m ∧ Q r)) F_X12_bitsOf 4 [(0, (0, x0)), (1, (0, v1_4)), (2, (0, v2_4))] [] E.1 m 0 0)) := ⟨fun v1_4 v2_4 => zb_FIN E m → zb_WP (G, C, d + 1, 0, 0, zb_q E (fun r m' => m' = m ∧ Q r)) F_X12_bitsOf 4 [(0, (0, x0)), (1, (0, v1_4)), (2, (0, v2_4))] [] E.1 m 0 0, fun _ _ => Iff.rfl⟩
  refine (hX4 _ _).mp (h X4 (fun v1_4 v2_4 h => (hX4 _ _).mpr (fun hF => ?_))) hF
  refine zb_iload_n (j := 2) dX12_bitsOf_4 rfl rfl ?_
  refine zb_bipush dX12_bitsOf_5 (by decide) (zb_inIc rfl) ?_
  refine zb_icmp_ge (tgt := 24) dX12_bitsOf_7 (by decide) (fun c1 => ?_) (fun c1 => ?_)
  · have h := h.1 c1
    refine zb_iload_n (j := 1) dX12_bitsOf_24 rfl rfl ?_
    exact zb_rI dX12_bitsOf_25 rfl hF ⟨rfl, h⟩
  · have h := h.2 c1
    refine zb_iload_n (j := 1) dX12_bitsOf_10 rfl rfl ?_
    refine zb_iload_n (j := 0) dX12_bitsOf_11 rfl rfl ?_
    refine zb_iload_n (j := 2) dX12_bitsOf_12 rfl rfl ?_
    refine zb_ishr dX12_bitsOf_13 ?_
    refine zb_iconst dX12_bitsOf_14 (zb_inIc rfl) ?_
    refine zb_iand dX12_bitsOf_15 ?_
    obtain ⟨o2, h⟩ := h
    refine zb_iadd dX12_bitsOf_16 o2 ?_
    refine zb_istore_n (L' := [(1, (0, (v1_4 + (zb_and (zb_shr x0 v2_4) 1)))), (0, (0, x0)), (2, (0, v2_4))]) dX12_bitsOf_17 rfl (by decide) rfl ?_
    obtain ⟨o3, h⟩ := h
    refine zb_iinc (j := 2) (L' := [(2, (0, (v2_4 + 1))), (1, (0, (v1_4 + (zb_and (zb_shr x0 v2_4) 1)))), (0, (0, x0))]) dX12_bitsOf_18 rfl o3 (by decide) rfl ?_
    refine zb_goto (tgt := 4) dX12_bitsOf_21 (by decide) ?_
    refine zb_sub (L' := [(0, (0, x0)), (1, (0, (v1_4 + (zb_and (zb_shr x0 v2_4) 1)))), (2, (0, (v2_4 + 1)))]) [2, 1, 0] rfl ?_
    exact (hX4 _ _).mp h hF
theorem dX12_orderName_0 : decode cX12_orderName 0 = .ok (.iconst 0, 1) := by decide +kernel
theorem dX12_orderName_1 : decode cX12_orderName 1 = .ok (.istore_n 3, 1) := by decide +kernel
theorem dX12_orderName_2 : decode cX12_orderName 2 = .ok (.iload_n 3, 1) := by decide +kernel
theorem dX12_orderName_3 : decode cX12_orderName 3 = .ok (.iload_n 2, 1) := by decide +kernel
theorem dX12_orderName_4 : decode cX12_orderName 4 = .ok (.if_icmp .ge 48, 3) := by decide +kernel
theorem dX12_orderName_7 : decode cX12_orderName 7 = .ok (.aload_n 0, 1) := by decide +kernel
theorem dX12_orderName_8 : decode cX12_orderName 8 = .ok (.getfield 82, 3) := by decide +kernel
theorem dX12_orderName_11 : decode cX12_orderName 11 = .ok (.iload_n 3, 1) := by decide +kernel
theorem dX12_orderName_12 : decode cX12_orderName 12 = .ok (.iaload, 1) := by decide +kernel
theorem dX12_orderName_13 : decode cX12_orderName 13 = .ok (.aload_n 0, 1) := by decide +kernel
theorem dX12_orderName_14 : decode cX12_orderName 14 = .ok (.getfield 130, 3) := by decide +kernel
theorem dX12_orderName_17 : decode cX12_orderName 17 = .ok (.bipush 32, 2) := by decide +kernel
theorem dX12_orderName_19 : decode cX12_orderName 19 = .ok (.iload_n 1, 1) := by decide +kernel
theorem dX12_orderName_20 : decode cX12_orderName 20 = .ok (.imul, 1) := by decide +kernel
theorem dX12_orderName_21 : decode cX12_orderName 21 = .ok (.iload_n 3, 1) := by decide +kernel
theorem dX12_orderName_22 : decode cX12_orderName 22 = .ok (.iadd, 1) := by decide +kernel
theorem dX12_orderName_23 : decode cX12_orderName 23 = .ok (.iaload, 1) := by decide +kernel
theorem dX12_orderName_24 : decode cX12_orderName 24 = .ok (.if_icmp .eq 22, 3) := by decide +kernel
theorem dX12_orderName_27 : decode cX12_orderName 27 = .ok (.aload_n 0, 1) := by decide +kernel
theorem dX12_orderName_28 : decode cX12_orderName 28 = .ok (.getfield 82, 3) := by decide +kernel
theorem dX12_orderName_31 : decode cX12_orderName 31 = .ok (.iload_n 3, 1) := by decide +kernel
theorem dX12_orderName_32 : decode cX12_orderName 32 = .ok (.iaload, 1) := by decide +kernel
theorem dX12_orderName_33 : decode cX12_orderName 33 = .ok (.aload_n 0, 1) := by decide +kernel
theorem dX12_orderName_34 : decode cX12_orderName 34 = .ok (.getfield 130, 3) := by decide +kernel
theorem dX12_orderName_37 : decode cX12_orderName 37 = .ok (.bipush 32, 2) := by decide +kernel
theorem dX12_orderName_39 : decode cX12_orderName 39 = .ok (.iload_n 1, 1) := by decide +kernel
theorem dX12_orderName_40 : decode cX12_orderName 40 = .ok (.imul, 1) := by decide +kernel
theorem dX12_orderName_41 : decode cX12_orderName 41 = .ok (.iload_n 3, 1) := by decide +kernel
theorem dX12_orderName_42 : decode cX12_orderName 42 = .ok (.iadd, 1) := by decide +kernel
theorem dX12_orderName_43 : decode cX12_orderName 43 = .ok (.iaload, 1) := by decide +kernel
theorem dX12_orderName_44 : decode cX12_orderName 44 = .ok (.isub, 1) := by decide +kernel
theorem dX12_orderName_45 : decode cX12_orderName 45 = .ok (.ireturn, 1) := by decide +kernel
theorem dX12_orderName_46 : decode cX12_orderName 46 = .ok (.iinc 3 1, 3) := by decide +kernel
theorem dX12_orderName_49 : decode cX12_orderName 49 = .ok (.goto (-47), 3) := by decide +kernel
theorem dX12_orderName_52 : decode cX12_orderName 52 = .ok (.iconst 0, 1) := by decide +kernel
theorem dX12_orderName_53 : decode cX12_orderName 53 = .ok (.ireturn, 1) := by decide +kernel
def PJ_X12_orderName_27 (d : Nat) (E : zb_E) (x0 : Int) (x1 : Int) (m : zb_M) (Q : Int → Prop) (v3_27 : Int) : Prop :=
  (0 ≤ v3_27 ∧ v3_27 < 160) ∧ ((zb_inI (32 * x1)) ∧ ((zb_inI ((32 * x1) + v3_27)) ∧ ((0 ≤ ((32 * x1) + v3_27) ∧ ((32 * x1) + v3_27) < 1600) ∧ ((zb_inI ((m (E.2 x0 30) v3_27) - (m (E.2 x0 54) ((32 * x1) + v3_27)))) ∧ (Q ((m (E.2 x0 30) v3_27) - (m (E.2 x0 54) ((32 * x1) + v3_27))))))))
def PL_X12_orderName_2 (d : Nat) (E : zb_E) (x0 : Int) (x1 : Int) (x2 : Int) (m : zb_M) (Q : Int → Prop) (K27_2 : Int → Prop) (v3_2 : Int) : Prop :=
  ∀ X2 : Int → Prop, (∀ (v3_2 : Int), ((x2 ≤ v3_2 → Q 0) ∧ (¬ x2 ≤ v3_2 → (0 ≤ v3_2 ∧ v3_2 < 160) ∧ ((zb_inI (32 * x1)) ∧ ((zb_inI ((32 * x1) + v3_2)) ∧ ((0 ≤ ((32 * x1) + v3_2) ∧ ((32 * x1) + v3_2) < 1600) ∧ (((m (E.2 x0 30) v3_2) = (m (E.2 x0 54) ((32 * x1) + v3_2)) → (zb_inI (v3_2 + 1)) ∧ (X2 (v3_2 + 1))) ∧ (¬ (m (E.2 x0 30) v3_2) = (m (E.2 x0 54) ((32 * x1) + v3_2)) → K27_2 v3_2))))))) → X2 v3_2) → X2 v3_2
def PM_X12_orderName (d : Nat) (E : zb_E) (x0 : Int) (x1 : Int) (x2 : Int) (m : zb_M) (Q : Int → Prop) : Prop :=
  PL_X12_orderName_2 d E x0 x1 x2 m Q (PJ_X12_orderName_27 d E x0 x1 m Q) 0
set_option maxRecDepth 100000 in
set_option maxHeartbeats 4000000 in
theorem w_X12_orderName {d : Nat} {E : zb_E} {x0 x1 x2 : Int} {m : zb_M} {Q : Int → Prop} (h : PM_X12_orderName d E x0 x1 x2 m Q) : zb_Tp K_X12_orderName (d + 1) [(2, x0), (0, x1), (0, x2)] E m Q := by
  unfold PM_X12_orderName at h
  refine zb_T_in gd_X12_orderName rfl rfl (fun hW hA G C hF => ?_)
  have i_0 : zb_is E.1 x0 12 := zb_aH hA (by decide)
  show zb_WP _ _ 0 [(0, (2, x0)), (1, (0, x1)), (2, (0, x2))] [] _ _ _ _
  refine zb_iconst dX12_orderName_0 (zb_inIc rfl) ?_
  refine zb_istore_n (L' := [(3, (0, 0)), (0, (2, x0)), (1, (0, x1)), (2, (0, x2))]) dX12_orderName_1 rfl (by decide) rfl ?_
  refine zb_sub (L' := [(0, (2, x0)), (1, (0, x1)), (2, (0, x2)), (3, (0, 0))]) [1, 2, 3, 0] rfl ?_
  have hJ27 : ∀ (v3_27 : Int), zb_FIN E m → PJ_X12_orderName_27 d E x0 x1 m Q v3_27 → zb_WP (G, C, d + 1, 0, 0, zb_q E (fun r m' => m' = m ∧ Q r)) F_X12_orderName 27 [(0, (2, x0)), (1, (0, x1)), (3, (0, v3_27))] [] E.1 m 0 0 := by
    intro v3_27 hF h
    unfold PJ_X12_orderName_27 at h
    refine zb_aload_n (j := 0) dX12_orderName_27 rfl rfl ?_
    refine zb_gFa 30 dX12_orderName_28 fl_X12_82 i_0 hW hF rfl rfl rfl (by decide) rfl 160 rfl (fun i1 l2 => ?_)
    refine zb_iload_n (j := 2) dX12_orderName_31 rfl rfl ?_
    obtain ⟨o3, h⟩ := h
    refine zb_lI dX12_orderName_32 i1 l2 o3.1 o3.2 ?_
    refine zb_aload_n (j := 0) dX12_orderName_33 rfl rfl ?_
    refine zb_gFa 54 dX12_orderName_34 fl_X12_130 i_0 hW hF rfl rfl rfl (by decide) rfl 1600 rfl (fun i4 l5 => ?_)
    refine zb_bipush dX12_orderName_37 (by decide) (zb_inIc rfl) ?_
    refine zb_iload_n (j := 1) dX12_orderName_39 rfl rfl ?_
    obtain ⟨o6, h⟩ := h
    refine zb_imul dX12_orderName_40 o6 ?_
    refine zb_iload_n (j := 2) dX12_orderName_41 rfl rfl ?_
    obtain ⟨o7, h⟩ := h
    refine zb_iadd dX12_orderName_42 o7 ?_
    obtain ⟨o8, h⟩ := h
    refine zb_lI dX12_orderName_43 i4 l5 o8.1 o8.2 ?_
    obtain ⟨o9, h⟩ := h
    refine zb_isub dX12_orderName_44 o9 ?_
    exact zb_rI dX12_orderName_45 rfl hF ⟨rfl, h⟩
  unfold PL_X12_orderName_2 at h
  obtain ⟨X2, hX2⟩ : ∃ X : Int → Prop, ∀ (v3_2 : Int), (X v3_2 ↔ (zb_FIN E m → zb_WP (G, C, d + 1, 0, 0, zb_q E (fun r m' => m' = m ∧ Q r)) F_X12_orderName 2 [(0, (2, x0)), (1, (0, x1)), (2, (0, x2)), (3, (0, v3_2))] [] E.1 m 0 0)) := ⟨fun v3_2 => zb_FIN E m → zb_WP (G, C, d + 1, 0, 0, zb_q E (fun r m' => m' = m ∧ Q r)) F_X12_orderName 2 [(0, (2, x0)), (1, (0, x1)), (2, (0, x2)), (3, (0, v3_2))] [] E.1 m 0 0, fun _ => Iff.rfl⟩
  refine (hX2 _).mp (h X2 (fun v3_2 h => (hX2 _).mpr (fun hF => ?_))) hF
  refine zb_iload_n (j := 3) dX12_orderName_2 rfl rfl ?_
  refine zb_iload_n (j := 2) dX12_orderName_3 rfl rfl ?_
  refine zb_icmp_ge (tgt := 52) dX12_orderName_4 (by decide) (fun c10 => ?_) (fun c10 => ?_)
  · have h := h.1 c10
    refine zb_iconst dX12_orderName_52 (zb_inIc rfl) ?_
    exact zb_rI dX12_orderName_53 rfl hF ⟨rfl, h⟩
  · have h := h.2 c10
    refine zb_aload_n (j := 0) dX12_orderName_7 rfl rfl ?_
    refine zb_gFa 30 dX12_orderName_8 fl_X12_82 i_0 hW hF rfl rfl rfl (by decide) rfl 160 rfl (fun i11 l12 => ?_)
    refine zb_iload_n (j := 3) dX12_orderName_11 rfl rfl ?_
    obtain ⟨o13, h⟩ := h
    refine zb_lI dX12_orderName_12 i11 l12 o13.1 o13.2 ?_
    refine zb_aload_n (j := 0) dX12_orderName_13 rfl rfl ?_
    refine zb_gFa 54 dX12_orderName_14 fl_X12_130 i_0 hW hF rfl rfl rfl (by decide) rfl 1600 rfl (fun i14 l15 => ?_)
    refine zb_bipush dX12_orderName_17 (by decide) (zb_inIc rfl) ?_
    refine zb_iload_n (j := 1) dX12_orderName_19 rfl rfl ?_
    obtain ⟨o16, h⟩ := h
    refine zb_imul dX12_orderName_20 o16 ?_
    refine zb_iload_n (j := 3) dX12_orderName_21 rfl rfl ?_
    obtain ⟨o17, h⟩ := h
    refine zb_iadd dX12_orderName_22 o17 ?_
    obtain ⟨o18, h⟩ := h
    refine zb_lI dX12_orderName_23 i14 l15 o18.1 o18.2 ?_
    refine zb_icmp_eq (tgt := 46) dX12_orderName_24 (by decide) (fun c19 => ?_) (fun c19 => ?_)
    · have h := h.1 c19
      obtain ⟨o20, h⟩ := h
      refine zb_iinc (j := 3) (L' := [(3, (0, (v3_2 + 1))), (0, (2, x0)), (1, (0, x1)), (2, (0, x2))]) dX12_orderName_46 rfl o20 (by decide) rfl ?_
      refine zb_goto (tgt := 2) dX12_orderName_49 (by decide) ?_
      refine zb_sub (L' := [(0, (2, x0)), (1, (0, x1)), (2, (0, x2)), (3, (0, (v3_2 + 1)))]) [1, 2, 3, 0] rfl ?_
      exact (hX2 _).mp h hF
    · have h := h.2 c19
      refine zb_sub (L' := [(0, (2, x0)), (1, (0, x1)), (3, (0, v3_2))]) [0, 1, 3] rfl ?_
      exact hJ27 _ hF h
theorem dX12_enter_0 : decode cX12_enter 0 = .ok (.iconst 0, 1) := by decide +kernel
theorem dX12_enter_1 : decode cX12_enter 1 = .ok (.istore_n 2, 1) := by decide +kernel
theorem dX12_enter_2 : decode cX12_enter 2 = .ok (.iload_n 2, 1) := by decide +kernel
theorem dX12_enter_3 : decode cX12_enter 3 = .ok (.aload_n 0, 1) := by decide +kernel
theorem dX12_enter_4 : decode cX12_enter 4 = .ok (.getfield 295, 3) := by decide +kernel
theorem dX12_enter_7 : decode cX12_enter 7 = .ok (.if_icmp .ge 18, 3) := by decide +kernel
theorem dX12_enter_10 : decode cX12_enter 10 = .ok (.aload_n 0, 1) := by decide +kernel
theorem dX12_enter_11 : decode cX12_enter 11 = .ok (.iload_n 2, 1) := by decide +kernel
theorem dX12_enter_12 : decode cX12_enter 12 = .ok (.iload_n 1, 1) := by decide +kernel
theorem dX12_enter_13 : decode cX12_enter 13 = .ok (.invokevirtual 298, 3) := by decide +kernel
theorem dX12_enter_16 : decode cX12_enter 16 = .ok (.ifCond .le 9, 3) := by decide +kernel
theorem dX12_enter_19 : decode cX12_enter 19 = .ok (.iinc 2 1, 3) := by decide +kernel
theorem dX12_enter_22 : decode cX12_enter 22 = .ok (.goto (-20), 3) := by decide +kernel
theorem dX12_enter_25 : decode cX12_enter 25 = .ok (.iload_n 2, 1) := by decide +kernel
theorem dX12_enter_26 : decode cX12_enter 26 = .ok (.aload_n 0, 1) := by decide +kernel
theorem dX12_enter_27 : decode cX12_enter 27 = .ok (.getfield 295, 3) := by decide +kernel
theorem dX12_enter_30 : decode cX12_enter 30 = .ok (.if_icmp .ge 13, 3) := by decide +kernel
theorem dX12_enter_33 : decode cX12_enter 33 = .ok (.aload_n 0, 1) := by decide +kernel
theorem dX12_enter_34 : decode cX12_enter 34 = .ok (.iload_n 2, 1) := by decide +kernel
theorem dX12_enter_35 : decode cX12_enter 35 = .ok (.iload_n 1, 1) := by decide +kernel
theorem dX12_enter_36 : decode cX12_enter 36 = .ok (.invokevirtual 298, 3) := by decide +kernel
theorem dX12_enter_39 : decode cX12_enter 39 = .ok (.ifCond .ne 4, 3) := by decide +kernel
theorem dX12_enter_42 : decode cX12_enter 42 = .ok (.return_, 1) := by decide +kernel
theorem dX12_enter_43 : decode cX12_enter 43 = .ok (.bipush 32, 2) := by decide +kernel
theorem dX12_enter_45 : decode cX12_enter 45 = .ok (.aload_n 0, 1) := by decide +kernel
theorem dX12_enter_46 : decode cX12_enter 46 = .ok (.getfield 295, 3) := by decide +kernel
theorem dX12_enter_49 : decode cX12_enter 49 = .ok (.imul, 1) := by decide +kernel
theorem dX12_enter_50 : decode cX12_enter 50 = .ok (.iconst 1, 1) := by decide +kernel
theorem dX12_enter_51 : decode cX12_enter 51 = .ok (.isub, 1) := by decide +kernel
theorem dX12_enter_52 : decode cX12_enter 52 = .ok (.istore_n 3, 1) := by decide +kernel
theorem dX12_enter_53 : decode cX12_enter 53 = .ok (.iload_n 3, 1) := by decide +kernel
theorem dX12_enter_54 : decode cX12_enter 54 = .ok (.bipush 32, 2) := by decide +kernel
theorem dX12_enter_56 : decode cX12_enter 56 = .ok (.iload_n 2, 1) := by decide +kernel
theorem dX12_enter_57 : decode cX12_enter 57 = .ok (.imul, 1) := by decide +kernel
theorem dX12_enter_58 : decode cX12_enter 58 = .ok (.if_icmp .lt 24, 3) := by decide +kernel
theorem dX12_enter_61 : decode cX12_enter 61 = .ok (.aload_n 0, 1) := by decide +kernel
theorem dX12_enter_62 : decode cX12_enter 62 = .ok (.getfield 130, 3) := by decide +kernel
theorem dX12_enter_65 : decode cX12_enter 65 = .ok (.iload_n 3, 1) := by decide +kernel
theorem dX12_enter_66 : decode cX12_enter 66 = .ok (.bipush 32, 2) := by decide +kernel
theorem dX12_enter_68 : decode cX12_enter 68 = .ok (.iadd, 1) := by decide +kernel
theorem dX12_enter_69 : decode cX12_enter 69 = .ok (.aload_n 0, 1) := by decide +kernel
theorem dX12_enter_70 : decode cX12_enter 70 = .ok (.getfield 130, 3) := by decide +kernel
theorem dX12_enter_73 : decode cX12_enter 73 = .ok (.iload_n 3, 1) := by decide +kernel
theorem dX12_enter_74 : decode cX12_enter 74 = .ok (.iaload, 1) := by decide +kernel
theorem dX12_enter_75 : decode cX12_enter 75 = .ok (.iastore, 1) := by decide +kernel
theorem dX12_enter_76 : decode cX12_enter 76 = .ok (.iinc 3 (-1), 3) := by decide +kernel
theorem dX12_enter_79 : decode cX12_enter 79 = .ok (.goto (-26), 3) := by decide +kernel
theorem dX12_enter_82 : decode cX12_enter 82 = .ok (.iconst 0, 1) := by decide +kernel
theorem dX12_enter_83 : decode cX12_enter 83 = .ok (.istore_n 3, 1) := by decide +kernel
theorem dX12_enter_84 : decode cX12_enter 84 = .ok (.iload_n 3, 1) := by decide +kernel
theorem dX12_enter_85 : decode cX12_enter 85 = .ok (.iload_n 1, 1) := by decide +kernel
theorem dX12_enter_86 : decode cX12_enter 86 = .ok (.if_icmp .ge 26, 3) := by decide +kernel
theorem dX12_enter_89 : decode cX12_enter 89 = .ok (.aload_n 0, 1) := by decide +kernel
theorem dX12_enter_90 : decode cX12_enter 90 = .ok (.getfield 130, 3) := by decide +kernel
theorem dX12_enter_93 : decode cX12_enter 93 = .ok (.bipush 32, 2) := by decide +kernel
theorem dX12_enter_95 : decode cX12_enter 95 = .ok (.iload_n 2, 1) := by decide +kernel
theorem dX12_enter_96 : decode cX12_enter 96 = .ok (.imul, 1) := by decide +kernel
theorem dX12_enter_97 : decode cX12_enter 97 = .ok (.iload_n 3, 1) := by decide +kernel
theorem dX12_enter_98 : decode cX12_enter 98 = .ok (.iadd, 1) := by decide +kernel
theorem dX12_enter_99 : decode cX12_enter 99 = .ok (.aload_n 0, 1) := by decide +kernel
theorem dX12_enter_100 : decode cX12_enter 100 = .ok (.getfield 82, 3) := by decide +kernel
theorem dX12_enter_103 : decode cX12_enter 103 = .ok (.iload_n 3, 1) := by decide +kernel
theorem dX12_enter_104 : decode cX12_enter 104 = .ok (.iaload, 1) := by decide +kernel
theorem dX12_enter_105 : decode cX12_enter 105 = .ok (.iastore, 1) := by decide +kernel
theorem dX12_enter_106 : decode cX12_enter 106 = .ok (.iinc 3 1, 3) := by decide +kernel
theorem dX12_enter_109 : decode cX12_enter 109 = .ok (.goto (-25), 3) := by decide +kernel
theorem dX12_enter_112 : decode cX12_enter 112 = .ok (.aload_n 0, 1) := by decide +kernel
theorem dX12_enter_113 : decode cX12_enter 113 = .ok (.dup, 1) := by decide +kernel
theorem dX12_enter_114 : decode cX12_enter 114 = .ok (.getfield 295, 3) := by decide +kernel
theorem dX12_enter_117 : decode cX12_enter 117 = .ok (.iconst 1, 1) := by decide +kernel
theorem dX12_enter_118 : decode cX12_enter 118 = .ok (.iadd, 1) := by decide +kernel
theorem dX12_enter_119 : decode cX12_enter 119 = .ok (.putfield 295, 3) := by decide +kernel
theorem dX12_enter_122 : decode cX12_enter 122 = .ok (.return_, 1) := by decide +kernel
def PJ_X12_enter_112 (d : Nat) (E : zb_E) (x0 : Int) (Q : Int → zb_M → Prop) (m112j : zb_M) : Prop :=
  (zb_inI ((m112j x0 52) + 1)) ∧ (∀ m119, m119 = zb_up m112j x0 52 ((m112j x0 52) + 1) → (Q 0 m119))
def PL_X12_enter_84 (d : Nat) (E : zb_E) (x0 : Int) (x1 : Int) (v2_25 : Int) (Q : Int → zb_M → Prop) (K112_84 : zb_M → Prop) (v3_84 : Int) (m84l : zb_M) : Prop :=
  ∀ X84 : Int → zb_M → Prop, (∀ (v3_84 : Int) (m84l : zb_M), ((x1 ≤ v3_84 → K112_84 m84l) ∧ (¬ x1 ≤ v3_84 → (zb_inI (32 * v2_25)) ∧ ((zb_inI ((32 * v2_25) + v3_84)) ∧ ((0 ≤ v3_84 ∧ v3_84 < 160) ∧ ((0 ≤ ((32 * v2_25) + v3_84) ∧ ((32 * v2_25) + v3_84) < 1600) ∧ (∀ m105, m105 = zb_up m84l (E.2 x0 54) ((32 * v2_25) + v3_84) (m84l (E.2 x0 30) v3_84) → ((zb_inI (v3_84 + 1)) ∧ (X84 (v3_84 + 1) m105)))))))) → X84 v3_84 m84l) → X84 v3_84 m84l
def PJ_X12_enter_82 (d : Nat) (E : zb_E) (x0 : Int) (x1 : Int) (v2_25 : Int) (Q : Int → zb_M → Prop) (m82j : zb_M) : Prop :=
  PL_X12_enter_84 d E x0 x1 v2_25 Q (PJ_X12_enter_112 d E x0 Q) 0 m82j
def PL_X12_enter_53 (d : Nat) (E : zb_E) (x0 : Int) (v2_25 : Int) (Q : Int → zb_M → Prop) (K82_53 : zb_M → Prop) (v3_53 : Int) (m53l : zb_M) : Prop :=
  ∀ X53 : Int → zb_M → Prop, (∀ (v3_53 : Int) (m53l : zb_M), ((zb_inI (32 * v2_25)) ∧ ((v3_53 < (32 * v2_25) → K82_53 m53l) ∧ (¬ v3_53 < (32 * v2_25) → (zb_inI (v3_53 + 32)) ∧ ((0 ≤ v3_53 ∧ v3_53 < 1600) ∧ ((0 ≤ (v3_53 + 32) ∧ (v3_53 + 32) < 1600) ∧ (∀ m75, m75 = zb_up m53l (E.2 x0 54) (v3_53 + 32) (m53l (E.2 x0 54) v3_53) → ((zb_inI (v3_53 + (-1))) ∧ (X53 (v3_53 + (-1)) m75)))))))) → X53 v3_53 m53l) → X53 v3_53 m53l
def PJ_X12_enter_43 (d : Nat) (E : zb_E) (x0 : Int) (x1 : Int) (m : zb_M) (v2_25 : Int) (Q : Int → zb_M → Prop)  : Prop :=
  (zb_inI (32 * (m x0 52))) ∧ ((zb_inI ((32 * (m x0 52)) - 1)) ∧ (PL_X12_enter_53 d E x0 v2_25 Q (PJ_X12_enter_82 d E x0 x1 v2_25 Q) ((32 * (m x0 52)) - 1) m))
def PJ_X12_enter_25 (d : Nat) (E : zb_E) (x0 : Int) (x1 : Int) (m : zb_M) (Q : Int → zb_M → Prop) (v2_25 : Int) : Prop :=
  ((m x0 52) ≤ v2_25 → PJ_X12_enter_43 d E x0 x1 m v2_25 Q) ∧ (¬ (m x0 52) ≤ v2_25 → zb_Tp K_X12_orderName d [(2, x0), (0, v2_25), (0, x1)] E m (fun r36 => (r36 = 0 → Q 0 m) ∧ (¬ r36 = 0 → PJ_X12_enter_43 d E x0 x1 m v2_25 Q)))
def PL_X12_enter_2 (d : Nat) (E : zb_E) (x0 : Int) (x1 : Int) (m : zb_M) (Q : Int → zb_M → Prop) (K25_2 : Int → Prop) (v2_2 : Int) : Prop :=
  ∀ X2 : Int → Prop, (∀ (v2_2 : Int), (((m x0 52) ≤ v2_2 → K25_2 v2_2) ∧ (¬ (m x0 52) ≤ v2_2 → zb_Tp K_X12_orderName d [(2, x0), (0, v2_2), (0, x1)] E m (fun r13 => (r13 ≤ 0 → K25_2 v2_2) ∧ (¬ r13 ≤ 0 → (zb_inI (v2_2 + 1)) ∧ (X2 (v2_2 + 1)))))) → X2 v2_2) → X2 v2_2
def PM_X12_enter (d : Nat) (E : zb_E) (x0 : Int) (x1 : Int) (m : zb_M) (Q : Int → zb_M → Prop) : Prop :=
  PL_X12_enter_2 d E x0 x1 m Q (PJ_X12_enter_25 d E x0 x1 m Q) 0
set_option maxRecDepth 100000 in
set_option maxHeartbeats 4000000 in
theorem w_X12_enter {d : Nat} {E : zb_E} {x0 x1 : Int} {m : zb_M} {Q : Int → zb_M → Prop} (h : PM_X12_enter d E x0 x1 m Q) : zb_T K_X12_enter (d + 1) [(2, x0), (0, x1)] E m Q := by
  unfold PM_X12_enter at h
  refine zb_T_in gd_X12_enter rfl rfl (fun hW hA G C hF => ?_)
  have i_0 : zb_is E.1 x0 12 := zb_aH hA (by decide)
  show zb_WP _ _ 0 [(0, (2, x0)), (1, (0, x1))] [] _ _ _ _
  refine zb_iconst dX12_enter_0 (zb_inIc rfl) ?_
  refine zb_istore_n (L' := [(2, (0, 0)), (0, (2, x0)), (1, (0, x1))]) dX12_enter_1 rfl (by decide) rfl ?_
  refine zb_sub (L' := [(0, (2, x0)), (1, (0, x1)), (2, (0, 0))]) [1, 2, 0] rfl ?_
  have hJ25 : ∀ (v2_25 : Int), zb_FIN E m → PJ_X12_enter_25 d E x0 x1 m Q v2_25 → zb_WP (G, C, d + 1, 0, 0, zb_q E Q) F_X12_enter 25 [(0, (2, x0)), (1, (0, x1)), (2, (0, v2_25))] [] E.1 m 0 0 := by
    intro v2_25 hF h
    unfold PJ_X12_enter_25 at h
    refine zb_iload_n (j := 2) dX12_enter_25 rfl rfl ?_
    refine zb_aload_n (j := 0) dX12_enter_26 rfl rfl ?_
    refine zb_gI 52 dX12_enter_27 fl_X12_295 i_0 rfl rfl ?_
    have hJ43 : zb_FIN E m → PJ_X12_enter_43 d E x0 x1 m v2_25 Q  → zb_WP (G, C, d + 1, 0, 0, zb_q E Q) F_X12_enter 43 [(0, (2, x0)), (1, (0, x1)), (2, (0, v2_25))] [] E.1 m 0 0 := by
      intro  hF h
      unfold PJ_X12_enter_43 at h
      refine zb_bipush dX12_enter_43 (by decide) (zb_inIc rfl) ?_
      refine zb_aload_n (j := 0) dX12_enter_45 rfl rfl ?_
      refine zb_gI 52 dX12_enter_46 fl_X12_295 i_0 rfl rfl ?_
      obtain ⟨o1, h⟩ := h
      refine zb_imul dX12_enter_49 o1 ?_
      refine zb_iconst dX12_enter_50 (zb_inIc rfl) ?_
      obtain ⟨o2, h⟩ := h
      refine zb_isub dX12_enter_51 o2 ?_
      refine zb_istore_n (L' := [(3, (0, ((32 * (m x0 52)) - 1))), (0, (2, x0)), (1, (0, x1)), (2, (0, v2_25))]) dX12_enter_52 rfl (by decide) rfl ?_
      refine zb_sub (L' := [(0, (2, x0)), (1, (0, x1)), (2, (0, v2_25)), (3, (0, ((32 * (m x0 52)) - 1)))]) [1, 2, 3, 0] rfl ?_
      have hJ82 : ∀ (m82j : zb_M), zb_FIN E m82j → PJ_X12_enter_82 d E x0 x1 v2_25 Q m82j → zb_WP (G, C, d + 1, 0, 0, zb_q E Q) F_X12_enter 82 [(0, (2, x0)), (1, (0, x1)), (2, (0, v2_25))] [] E.1 m82j 0 0 := by
        intro m82j hF h
        unfold PJ_X12_enter_82 at h
        refine zb_iconst dX12_enter_82 (zb_inIc rfl) ?_
        refine zb_istore_n (L' := [(3, (0, 0)), (0, (2, x0)), (1, (0, x1)), (2, (0, v2_25))]) dX12_enter_83 rfl (by decide) rfl ?_
        refine zb_sub (L' := [(0, (2, x0)), (1, (0, x1)), (2, (0, v2_25)), (3, (0, 0))]) [1, 2, 3, 0] rfl ?_
        have hJ112 : ∀ (m112j : zb_M), zb_FIN E m112j → PJ_X12_enter_112 d E x0 Q m112j → zb_WP (G, C, d + 1, 0, 0, zb_q E Q) F_X12_enter 112 [(0, (2, x0))] [] E.1 m112j 0 0 := by
          intro m112j hF h
          unfold PJ_X12_enter_112 at h
          refine zb_aload_n (j := 0) dX12_enter_112 rfl rfl ?_
          refine zb_dup dX12_enter_113 rfl ?_
          refine zb_gI 52 dX12_enter_114 fl_X12_295 i_0 rfl rfl ?_
          refine zb_iconst dX12_enter_117 (zb_inIc rfl) ?_
          obtain ⟨o3, h⟩ := h
          refine zb_iadd dX12_enter_118 o3 ?_
          refine zb_pF 52 dX12_enter_119 fl_X12_295 rfl rfl i_0 (Or.inl rfl) hF rfl rfl (fun m119 e119 hF => ?_)
          have h := h m119 e119
          exact zb_rV dX12_enter_122 rfl hF h
        unfold PL_X12_enter_84 at h
        obtain ⟨X84, hX84⟩ : ∃ X : Int → zb_M → Prop, ∀ (v3_84 : Int) (m84l : zb_M), (X v3_84 m84l ↔ (zb_FIN E m84l → zb_WP (G, C, d + 1, 0, 0, zb_q E Q) F_X12_enter 84 [(0, (2, x0)), (1, (0, x1)), (2, (0, v2_25)), (3, (0, v3_84))] [] E.1 m84l 0 0)) := ⟨fun v3_84 m84l => zb_FIN E m84l → zb_WP (G, C, d + 1, 0, 0, zb_q E Q) F_X12_enter 84 [(0, (2, x0)), (1, (0, x1)), (2, (0, v2_25)), (3, (0, v3_84))] [] E.1 m84l 0 0, fun _ _ => Iff.rfl⟩
        refine (hX84 _ _).mp (h X84 (fun v3_84 m84l h => (hX84 _ _).mpr (fun hF => ?_))) hF
        refine zb_iload_n (j := 3) dX12_enter_84 rfl rfl ?_
        refine zb_iload_n (j := 1) dX12_enter_85 rfl rfl ?_
        refine zb_icmp_ge (tgt := 112) dX12_enter_86 (by decide) (fun c4 => ?_) (fun c4 => ?_)
        · have h := h.1 c4
          refine zb_sub (L' := [(0, (2, x0))]) [0] rfl ?_
          exact hJ112 _ hF h
        · have h := h.2 c4
          refine zb_aload_n (j := 0) dX12_enter_89 rfl rfl ?_
          refine zb_gFa 54 dX12_enter_90 fl_X12_130 i_0 hW hF rfl rfl rfl (by decide) rfl 1600 rfl (fun i5 l6 => ?_)
          refine zb_bipush dX12_enter_93 (by decide) (zb_inIc rfl) ?_
          refine zb_iload_n (j := 2) dX12_enter_95 rfl rfl ?_
          obtain ⟨o7, h⟩ := h
          refine zb_imul dX12_enter_96 o7 ?_
          refine zb_iload_n (j := 3) dX12_enter_97 rfl rfl ?_
          obtain ⟨o8, h⟩ := h
          refine zb_iadd dX12_enter_98 o8 ?_
          refine zb_aload_n (j := 0) dX12_enter_99 rfl rfl ?_
          refine zb_gFa 30 dX12_enter_100 fl_X12_82 i_0 hW hF rfl rfl rfl (by decide) rfl 160 rfl (fun i9 l10 => ?_)
          refine zb_iload_n (j := 3) dX12_enter_103 rfl rfl ?_
          obtain ⟨o11, h⟩ := h
          refine zb_lI dX12_enter_104 i9 l10 o11.1 o11.2 ?_
          obtain ⟨o12, h⟩ := h
          refine zb_sI dX12_enter_105 i5 l6 o12.1 o12.2 hF (fun m105 e105 hF => ?_)
          have h := h m105 e105
          obtain ⟨o13, h⟩ := h
          refine zb_iinc (j := 3) (L' := [(3, (0, (v3_84 + 1))), (0, (2, x0)), (1, (0, x1)), (2, (0, v2_25))]) dX12_enter_106 rfl o13 (by decide) rfl ?_
          refine zb_goto (tgt := 84) dX12_enter_109 (by decide) ?_
          refine zb_sub (L' := [(0, (2, x0)), (1, (0, x1)), (2, (0, v2_25)), (3, (0, (v3_84 + 1)))]) [1, 2, 3, 0] rfl ?_
          exact (hX84 _ _).mp h hF
      unfold PL_X12_enter_53 at h
      obtain ⟨X53, hX53⟩ : ∃ X : Int → zb_M → Prop, ∀ (v3_53 : Int) (m53l : zb_M), (X v3_53 m53l ↔ (zb_FIN E m53l → zb_WP (G, C, d + 1, 0, 0, zb_q E Q) F_X12_enter 53 [(0, (2, x0)), (1, (0, x1)), (2, (0, v2_25)), (3, (0, v3_53))] [] E.1 m53l 0 0)) := ⟨fun v3_53 m53l => zb_FIN E m53l → zb_WP (G, C, d + 1, 0, 0, zb_q E Q) F_X12_enter 53 [(0, (2, x0)), (1, (0, x1)), (2, (0, v2_25)), (3, (0, v3_53))] [] E.1 m53l 0 0, fun _ _ => Iff.rfl⟩
      refine (hX53 _ _).mp (h X53 (fun v3_53 m53l h => (hX53 _ _).mpr (fun hF => ?_))) hF
      refine zb_iload_n (j := 3) dX12_enter_53 rfl rfl ?_
      refine zb_bipush dX12_enter_54 (by decide) (zb_inIc rfl) ?_
      refine zb_iload_n (j := 2) dX12_enter_56 rfl rfl ?_
      obtain ⟨o14, h⟩ := h
      refine zb_imul dX12_enter_57 o14 ?_
      refine zb_icmp_lt (tgt := 82) dX12_enter_58 (by decide) (fun c15 => ?_) (fun c15 => ?_)
      · have h := h.1 c15
        refine zb_sub (L' := [(0, (2, x0)), (1, (0, x1)), (2, (0, v2_25))]) [0, 1, 2] rfl ?_
        exact hJ82 _ hF h
      · have h := h.2 c15
        refine zb_aload_n (j := 0) dX12_enter_61 rfl rfl ?_
        refine zb_gFa 54 dX12_enter_62 fl_X12_130 i_0 hW hF rfl rfl rfl (by decide) rfl 1600 rfl (fun i16 l17 => ?_)
        refine zb_iload_n (j := 3) dX12_enter_65 rfl rfl ?_
        refine zb_bipush dX12_enter_66 (by decide) (zb_inIc rfl) ?_
        obtain ⟨o18, h⟩ := h
        refine zb_iadd dX12_enter_68 o18 ?_
        refine zb_aload_n (j := 0) dX12_enter_69 rfl rfl ?_
        refine zb_gFa 54 dX12_enter_70 fl_X12_130 i_0 hW hF rfl rfl rfl (by decide) rfl 1600 rfl (fun i19 l20 => ?_)
        refine zb_iload_n (j := 3) dX12_enter_73 rfl rfl ?_
        obtain ⟨o21, h⟩ := h
        refine zb_lI dX12_enter_74 i19 l20 o21.1 o21.2 ?_
        obtain ⟨o22, h⟩ := h
        refine zb_sI dX12_enter_75 i16 l17 o22.1 o22.2 hF (fun m75 e75 hF => ?_)
        have h := h m75 e75
        obtain ⟨o23, h⟩ := h
        refine zb_iinc (j := 3) (L' := [(3, (0, (v3_53 + (-1)))), (0, (2, x0)), (1, (0, x1)), (2, (0, v2_25))]) dX12_enter_76 rfl o23 (by decide) rfl ?_
        refine zb_goto (tgt := 53) dX12_enter_79 (by decide) ?_
        refine zb_sub (L' := [(0, (2, x0)), (1, (0, x1)), (2, (0, v2_25)), (3, (0, (v3_53 + (-1))))]) [1, 2, 3, 0] rfl ?_
        exact (hX53 _ _).mp h hF
    refine zb_icmp_ge (tgt := 43) dX12_enter_30 (by decide) (fun c24 => ?_) (fun c24 => ?_)
    · have h := h.1 c24
      exact hJ43 hF h
    · have h := h.2 c24
      refine zb_aload_n (j := 0) dX12_enter_33 rfl rfl ?_
      refine zb_iload_n (j := 2) dX12_enter_34 rfl rfl ?_
      refine zb_iload_n (j := 1) dX12_enter_35 rfl rfl ?_
      refine zb_cVp (As := [(0, v2_25), (0, x1)]) (As' := [(0, x1), (0, v2_25)]) (st := []) dX12_enter_36 lk_X12_298 gd_X12_orderName rfl rfl i_0 ⟨_, rfl, rfl⟩ h hW hF (zb_aR i_0 (zb_aI (zb_aI zb_a0))) (Nat.le_refl _) (Nat.le_of_ble_eq_true rfl) (fun r36 h => ?_)
      show zb_WP _ _ _ _ [(0, r36)] _ _ _ _
      refine zb_if_ne (tgt := 43) dX12_enter_39 (by decide) (fun c25 => ?_) (fun c25 => ?_)
      · have h := h.2 c25
        exact hJ43 hF h
      · have h := h.1 c25
        exact zb_rV dX12_enter_42 rfl hF h
  unfold PL_X12_enter_2 at h
  obtain ⟨X2, hX2⟩ : ∃ X : Int → Prop, ∀ (v2_2 : Int), (X v2_2 ↔ (zb_FIN E m → zb_WP (G, C, d + 1, 0, 0, zb_q E Q) F_X12_enter 2 [(0, (2, x0)), (1, (0, x1)), (2, (0, v2_2))] [] E.1 m 0 0)) := ⟨fun v2_2 => zb_FIN E m → zb_WP (G, C, d + 1, 0, 0, zb_q E Q) F_X12_enter 2 [(0, (2, x0)), (1, (0, x1)), (2, (0, v2_2))] [] E.1 m 0 0, fun _ => Iff.rfl⟩
  refine (hX2 _).mp (h X2 (fun v2_2 h => (hX2 _).mpr (fun hF => ?_))) hF
  refine zb_iload_n (j := 2) dX12_enter_2 rfl rfl ?_
  refine zb_aload_n (j := 0) dX12_enter_3 rfl rfl ?_
  refine zb_gI 52 dX12_enter_4 fl_X12_295 i_0 rfl rfl ?_
  refine zb_icmp_ge (tgt := 25) dX12_enter_7 (by decide) (fun c26 => ?_) (fun c26 => ?_)
  · have h := h.1 c26
    exact hJ25 _ hF h
  · have h := h.2 c26
    refine zb_aload_n (j := 0) dX12_enter_10 rfl rfl ?_
    refine zb_iload_n (j := 2) dX12_enter_11 rfl rfl ?_
    refine zb_iload_n (j := 1) dX12_enter_12 rfl rfl ?_
    refine zb_cVp (As := [(0, v2_2), (0, x1)]) (As' := [(0, x1), (0, v2_2)]) (st := []) dX12_enter_13 lk_X12_298 gd_X12_orderName rfl rfl i_0 ⟨_, rfl, rfl⟩ h hW hF (zb_aR i_0 (zb_aI (zb_aI zb_a0))) (Nat.le_refl _) (Nat.le_of_ble_eq_true rfl) (fun r13 h => ?_)
    show zb_WP _ _ _ _ [(0, r13)] _ _ _ _
    refine zb_if_le (tgt := 25) dX12_enter_16 (by decide) (fun c27 => ?_) (fun c27 => ?_)
    · have h := h.1 c27
      exact hJ25 _ hF h
    · have h := h.2 c27
      obtain ⟨o28, h⟩ := h
      refine zb_iinc (j := 2) (L' := [(2, (0, (v2_2 + 1))), (0, (2, x0)), (1, (0, x1))]) dX12_enter_19 rfl o28 (by decide) rfl ?_
      refine zb_goto (tgt := 2) dX12_enter_22 (by decide) ?_
      refine zb_sub (L' := [(0, (2, x0)), (1, (0, x1)), (2, (0, (v2_2 + 1)))]) [1, 2, 0] rfl ?_
      exact (hX2 _).mp h hF
theorem dX12_list_0 : decode cX12_list 0 = .ok (.iload_n 1, 1) := by decide +kernel
theorem dX12_list_1 : decode cX12_list 1 = .ok (.iconst 1, 1) := by decide +kernel
theorem dX12_list_2 : decode cX12_list 2 = .ok (.iconst 5, 1) := by decide +kernel
theorem dX12_list_3 : decode cX12_list 3 = .ok (.invokestatic 133, 3) := by decide +kernel
theorem dX12_list_6 : decode cX12_list 6 = .ok (.ifCond .eq 18, 3) := by decide +kernel
theorem dX12_list_9 : decode cX12_list 9 = .ok (.iload_n 2, 1) := by decide +kernel
theorem dX12_list_10 : decode cX12_list 10 = .ok (.iconst 0, 1) := by decide +kernel
theorem dX12_list_11 : decode cX12_list 11 = .ok (.iload_n 1, 1) := by decide +kernel
theorem dX12_list_12 : decode cX12_list 12 = .ok (.iload_n 1, 1) := by decide +kernel
theorem dX12_list_13 : decode cX12_list 13 = .ok (.iconst 1, 1) := by decide +kernel
theorem dX12_list_14 : decode cX12_list 14 = .ok (.isub, 1) := by decide +kernel
theorem dX12_list_15 : decode cX12_list 15 = .ok (.imul, 1) := by decide +kernel
theorem dX12_list_16 : decode cX12_list 16 = .ok (.iconst 2, 1) := by decide +kernel
theorem dX12_list_17 : decode cX12_list 17 = .ok (.idiv, 1) := by decide +kernel
theorem dX12_list_18 : decode cX12_list 18 = .ok (.invokestatic 133, 3) := by decide +kernel
theorem dX12_list_21 : decode cX12_list 21 = .ok (.ifCond .ne 5, 3) := by decide +kernel
theorem dX12_list_24 : decode cX12_list 24 = .ok (.iconst (-1), 1) := by decide +kernel
theorem dX12_list_25 : decode cX12_list 25 = .ok (.ireturn, 1) := by decide +kernel
theorem dX12_list_26 : decode cX12_list 26 = .ok (.aload_n 0, 1) := by decide +kernel
theorem dX12_list_27 : decode cX12_list 27 = .ok (.iconst 0, 1) := by decide +kernel
theorem dX12_list_28 : decode cX12_list 28 = .ok (.putfield 295, 3) := by decide +kernel
theorem dX12_list_31 : decode cX12_list 31 = .ok (.aload_n 0, 1) := by decide +kernel
theorem dX12_list_32 : decode cX12_list 32 = .ok (.iload_n 1, 1) := by decide +kernel
theorem dX12_list_33 : decode cX12_list 33 = .ok (.putfield 301, 3) := by decide +kernel
theorem dX12_list_36 : decode cX12_list 36 = .ok (.aload_n 0, 1) := by decide +kernel
theorem dX12_list_37 : decode cX12_list 37 = .ok (.iload_n 1, 1) := by decide +kernel
theorem dX12_list_38 : decode cX12_list 38 = .ok (.putfield 175, 3) := by decide +kernel
theorem dX12_list_41 : decode cX12_list 41 = .ok (.iload_n 1, 1) := by decide +kernel
theorem dX12_list_42 : decode cX12_list 42 = .ok (.iload_n 1, 1) := by decide +kernel
theorem dX12_list_43 : decode cX12_list 43 = .ok (.iconst 1, 1) := by decide +kernel
theorem dX12_list_44 : decode cX12_list 44 = .ok (.isub, 1) := by decide +kernel
theorem dX12_list_45 : decode cX12_list 45 = .ok (.imul, 1) := by decide +kernel
theorem dX12_list_46 : decode cX12_list 46 = .ok (.iconst 2, 1) := by decide +kernel
theorem dX12_list_47 : decode cX12_list 47 = .ok (.idiv, 1) := by decide +kernel
theorem dX12_list_48 : decode cX12_list 48 = .ok (.istore_n 3, 1) := by decide +kernel
theorem dX12_list_49 : decode cX12_list 49 = .ok (.iconst 0, 1) := by decide +kernel
theorem dX12_list_50 : decode cX12_list 50 = .ok (.istore 4, 2) := by decide +kernel
theorem dX12_list_52 : decode cX12_list 52 = .ok (.iload 4, 2) := by decide +kernel
theorem dX12_list_54 : decode cX12_list 54 = .ok (.aload_n 0, 1) := by decide +kernel
theorem dX12_list_55 : decode cX12_list 55 = .ok (.getfield 175, 3) := by decide +kernel
theorem dX12_list_58 : decode cX12_list 58 = .ok (.if_icmp .ge 26, 3) := by decide +kernel
theorem dX12_list_61 : decode cX12_list 61 = .ok (.aload_n 0, 1) := by decide +kernel
theorem dX12_list_62 : decode cX12_list 62 = .ok (.getfield 52, 3) := by decide +kernel
theorem dX12_list_65 : decode cX12_list 65 = .ok (.iload 4, 2) := by decide +kernel
theorem dX12_list_67 : decode cX12_list 67 = .ok (.iload 4, 2) := by decide +kernel
theorem dX12_list_69 : decode cX12_list 69 = .ok (.iastore, 1) := by decide +kernel
theorem dX12_list_70 : decode cX12_list 70 = .ok (.aload_n 0, 1) := by decide +kernel
theorem dX12_list_71 : decode cX12_list 71 = .ok (.getfield 55, 3) := by decide +kernel
theorem dX12_list_74 : decode cX12_list 74 = .ok (.iload 4, 2) := by decide +kernel
theorem dX12_list_76 : decode cX12_list 76 = .ok (.iconst 0, 1) := by decide +kernel
theorem dX12_list_77 : decode cX12_list 77 = .ok (.iastore, 1) := by decide +kernel
theorem dX12_list_78 : decode cX12_list 78 = .ok (.iinc 4 1, 3) := by decide +kernel
theorem dX12_list_81 : decode cX12_list 81 = .ok (.goto (-29), 3) := by decide +kernel
theorem dX12_list_84 : decode cX12_list 84 = .ok (.iconst 0, 1) := by decide +kernel
theorem dX12_list_85 : decode cX12_list 85 = .ok (.istore 4, 2) := by decide +kernel
theorem dX12_list_87 : decode cX12_list 87 = .ok (.iload 4, 2) := by decide +kernel
theorem dX12_list_89 : decode cX12_list 89 = .ok (.iconst 1, 1) := by decide +kernel
theorem dX12_list_90 : decode cX12_list 90 = .ok (.iload_n 3, 1) := by decide +kernel
theorem dX12_list_91 : decode cX12_list 91 = .ok (.ishl, 1) := by decide +kernel
theorem dX12_list_92 : decode cX12_list 92 = .ok (.if_icmp .ge 129, 3) := by decide +kernel
theorem dX12_list_95 : decode cX12_list 95 = .ok (.iload 4, 2) := by decide +kernel
theorem dX12_list_97 : decode cX12_list 97 = .ok (.invokestatic 304, 3) := by decide +kernel
theorem dX12_list_100 : decode cX12_list 100 = .ok (.iload_n 2, 1) := by decide +kernel
theorem dX12_list_101 : decode cX12_list 101 = .ok (.if_icmp .eq 6, 3) := by decide +kernel
theorem dX12_list_104 : decode cX12_list 104 = .ok (.goto 111, 3) := by decide +kernel
theorem dX12_list_107 : decode cX12_list 107 = .ok (.iconst 0, 1) := by decide +kernel
theorem dX12_list_108 : decode cX12_list 108 = .ok (.istore 5, 2) := by decide +kernel
theorem dX12_list_110 : decode cX12_list 110 = .ok (.iconst 0, 1) := by decide +kernel
theorem dX12_list_111 : decode cX12_list 111 = .ok (.istore 6, 2) := by decide +kernel
theorem dX12_list_113 : decode cX12_list 113 = .ok (.iload 6, 2) := by decide +kernel
theorem dX12_list_115 : decode cX12_list 115 = .ok (.aload_n 0, 1) := by decide +kernel
theorem dX12_list_116 : decode cX12_list 116 = .ok (.getfield 175, 3) := by decide +kernel
theorem dX12_list_119 : decode cX12_list 119 = .ok (.if_icmp .ge 82, 3) := by decide +kernel
theorem dX12_list_122 : decode cX12_list 122 = .ok (.aload_n 0, 1) := by decide +kernel
theorem dX12_list_123 : decode cX12_list 123 = .ok (.getfield 58, 3) := by decide +kernel
theorem dX12_list_126 : decode cX12_list 126 = .ok (.bipush 12, 2) := by decide +kernel
theorem dX12_list_128 : decode cX12_list 128 = .ok (.iload 6, 2) := by decide +kernel
theorem dX12_list_130 : decode cX12_list 130 = .ok (.imul, 1) := by decide +kernel
theorem dX12_list_131 : decode cX12_list 131 = .ok (.iload 6, 2) := by decide +kernel
theorem dX12_list_133 : decode cX12_list 133 = .ok (.iadd, 1) := by decide +kernel
theorem dX12_list_134 : decode cX12_list 134 = .ok (.iconst 0, 1) := by decide +kernel
theorem dX12_list_135 : decode cX12_list 135 = .ok (.iastore, 1) := by decide +kernel
theorem dX12_list_136 : decode cX12_list 136 = .ok (.iconst 0, 1) := by decide +kernel
theorem dX12_list_137 : decode cX12_list 137 = .ok (.istore 7, 2) := by decide +kernel
theorem dX12_list_139 : decode cX12_list 139 = .ok (.iload 7, 2) := by decide +kernel
theorem dX12_list_141 : decode cX12_list 141 = .ok (.iload 6, 2) := by decide +kernel
theorem dX12_list_143 : decode cX12_list 143 = .ok (.if_icmp .ge 52, 3) := by decide +kernel
theorem dX12_list_146 : decode cX12_list 146 = .ok (.aload_n 0, 1) := by decide +kernel
theorem dX12_list_147 : decode cX12_list 147 = .ok (.getfield 58, 3) := by decide +kernel
theorem dX12_list_150 : decode cX12_list 150 = .ok (.bipush 12, 2) := by decide +kernel
theorem dX12_list_152 : decode cX12_list 152 = .ok (.iload 6, 2) := by decide +kernel
theorem dX12_list_154 : decode cX12_list 154 = .ok (.imul, 1) := by decide +kernel
theorem dX12_list_155 : decode cX12_list 155 = .ok (.iload 7, 2) := by decide +kernel
theorem dX12_list_157 : decode cX12_list 157 = .ok (.iadd, 1) := by decide +kernel
theorem dX12_list_158 : decode cX12_list 158 = .ok (.iload 4, 2) := by decide +kernel
theorem dX12_list_160 : decode cX12_list 160 = .ok (.iload 5, 2) := by decide +kernel
theorem dX12_list_162 : decode cX12_list 162 = .ok (.ishr, 1) := by decide +kernel
theorem dX12_list_163 : decode cX12_list 163 = .ok (.iconst 1, 1) := by decide +kernel
theorem dX12_list_164 : decode cX12_list 164 = .ok (.iand, 1) := by decide +kernel
theorem dX12_list_165 : decode cX12_list 165 = .ok (.iastore, 1) := by decide +kernel
theorem dX12_list_166 : decode cX12_list 166 = .ok (.aload_n 0, 1) := by decide +kernel
theorem dX12_list_167 : decode cX12_list 167 = .ok (.getfield 58, 3) := by decide +kernel
theorem dX12_list_170 : decode cX12_list 170 = .ok (.bipush 12, 2) := by decide +kernel
theorem dX12_list_172 : decode cX12_list 172 = .ok (.iload 7, 2) := by decide +kernel
theorem dX12_list_174 : decode cX12_list 174 = .ok (.imul, 1) := by decide +kernel
theorem dX12_list_175 : decode cX12_list 175 = .ok (.iload 6, 2) := by decide +kernel
theorem dX12_list_177 : decode cX12_list 177 = .ok (.iadd, 1) := by decide +kernel
theorem dX12_list_178 : decode cX12_list 178 = .ok (.iload 4, 2) := by decide +kernel
theorem dX12_list_180 : decode cX12_list 180 = .ok (.iload 5, 2) := by decide +kernel
theorem dX12_list_182 : decode cX12_list 182 = .ok (.ishr, 1) := by decide +kernel
theorem dX12_list_183 : decode cX12_list 183 = .ok (.iconst 1, 1) := by decide +kernel
theorem dX12_list_184 : decode cX12_list 184 = .ok (.iand, 1) := by decide +kernel
theorem dX12_list_185 : decode cX12_list 185 = .ok (.iastore, 1) := by decide +kernel
theorem dX12_list_186 : decode cX12_list 186 = .ok (.iinc 5 1, 3) := by decide +kernel
theorem dX12_list_189 : decode cX12_list 189 = .ok (.iinc 7 1, 3) := by decide +kernel
theorem dX12_list_192 : decode cX12_list 192 = .ok (.goto (-53), 3) := by decide +kernel
theorem dX12_list_195 : decode cX12_list 195 = .ok (.iinc 6 1, 3) := by decide +kernel
theorem dX12_list_198 : decode cX12_list 198 = .ok (.goto (-85), 3) := by decide +kernel
theorem dX12_list_201 : decode cX12_list 201 = .ok (.aload_n 0, 1) := by decide +kernel
theorem dX12_list_202 : decode cX12_list 202 = .ok (.invokevirtual 234, 3) := by decide +kernel
theorem dX12_list_205 : decode cX12_list 205 = .ok (.istore 6, 2) := by decide +kernel
theorem dX12_list_207 : decode cX12_list 207 = .ok (.aload_n 0, 1) := by decide +kernel
theorem dX12_list_208 : decode cX12_list 208 = .ok (.iload_n 1, 1) := by decide +kernel
theorem dX12_list_209 : decode cX12_list 209 = .ok (.invokestatic 219, 3) := by decide +kernel
theorem dX12_list_212 : decode cX12_list 212 = .ok (.invokevirtual 307, 3) := by decide +kernel
theorem dX12_list_215 : decode cX12_list 215 = .ok (.iinc 4 1, 3) := by decide +kernel
theorem dX12_list_218 : decode cX12_list 218 = .ok (.goto (-131), 3) := by decide +kernel
theorem dX12_list_221 : decode cX12_list 221 = .ok (.aload_n 0, 1) := by decide +kernel
theorem dX12_list_222 : decode cX12_list 222 = .ok (.getfield 295, 3) := by decide +kernel
theorem dX12_list_225 : decode cX12_list 225 = .ok (.ireturn, 1) := by decide +kernel
def PJ_X12_list_221 (d : Nat) (E : zb_E) (x0 : Int) (Q : Int → zb_M → Prop) (m221j : zb_M) : Prop :=
  Q (m221j x0 52) m221j
def PJ_X12_list_201 (d : Nat) (E : zb_E) (x0 : Int) (x1 : Int) (v4_87 : Int) (X87 : Int → zb_M → Prop) (Q : Int → zb_M → Prop) (m201j : zb_M) : Prop :=
  zb_T K_X12_grow d [(2, x0)] E m201j (fun r202 m202 => zb_Tp K_X12_sizeOf d [(0, x1)] E m202 (fun r209 => zb_T K_X12_enter d [(2, x0), (0, r209)] E m202 (fun r212 m212 => (zb_inI (v4_87 + 1)) ∧ (X87 (v4_87 + 1) m212))))
def PJ_X12_list_195 (d : Nat) (E : zb_E) (v6_113 : Int) (X113 : Int → Int → zb_M → Prop) (Q : Int → zb_M → Prop) (v5_195 : Int) (m195j : zb_M) : Prop :=
  (zb_inI (v6_113 + 1)) ∧ (X113 v5_195 (v6_113 + 1) m195j)
def PL_X12_list_139 (d : Nat) (E : zb_E) (x0 : Int) (v4_87 : Int) (v6_113 : Int) (Q : Int → zb_M → Prop) (K195_139 : Int → zb_M → Prop) (v5_139 : Int) (v7_139 : Int) (m139l : zb_M) : Prop :=
  ∀ X139 : Int → Int → zb_M → Prop, (∀ (v5_139 : Int) (v7_139 : Int) (m139l : zb_M), ((v6_113 ≤ v7_139 → K195_139 v5_139 m139l) ∧ (¬ v6_113 ≤ v7_139 → (zb_inI ((12 * v6_113) + v7_139)) ∧ ((0 ≤ ((12 * v6_113) + v7_139) ∧ ((12 * v6_113) + v7_139) < 144) ∧ (∀ m165, m165 = zb_up m139l (E.2 x0 18) ((12 * v6_113) + v7_139) (zb_and (zb_shr v4_87 v5_139) 1) → ((zb_inI (12 * v7_139)) ∧ ((zb_inI ((12 * v7_139) + v6_113)) ∧ ((0 ≤ ((12 * v7_139) + v6_113) ∧ ((12 * v7_139) + v6_113) < 144) ∧ (∀ m185, m185 = zb_up m165 (E.2 x0 18) ((12 * v7_139) + v6_113) (zb_and (zb_shr v4_87 v5_139) 1) → ((zb_inI (v5_139 + 1)) ∧ ((zb_inI (v7_139 + 1)) ∧ (X139 (v5_139 + 1) (v7_139 + 1) m185))))))))))) → X139 v5_139 v7_139 m139l) → X139 v5_139 v7_139 m139l
def PL_X12_list_113 (d : Nat) (E : zb_E) (x0 : Int) (v4_87 : Int) (Q : Int → zb_M → Prop) (K201_113 : zb_M → Prop) (v5_113 : Int) (v6_113 : Int) (m113l : zb_M) : Prop :=
  ∀ X113 : Int → Int → zb_M → Prop, (∀ (v5_113 : Int) (v6_113 : Int) (m113l : zb_M), (((m113l x0 15) ≤ v6_113 → K201_113 m113l) ∧ (¬ (m113l x0 15) ≤ v6_113 → (zb_inI (12 * v6_113)) ∧ ((zb_inI ((12 * v6_113) + v6_113)) ∧ ((0 ≤ ((12 * v6_113) + v6_113) ∧ ((12 * v6_113) + v6_113) < 144) ∧ (∀ m135, m135 = zb_up m113l (E.2 x0 18) ((12 * v6_113) + v6_113) 0 → (PL_X12_list_139 d E x0 v4_87 v6_113 Q (PJ_X12_list_195 d E v6_113 X113 Q) v5_113 0 m135)))))) → X113 v5_113 v6_113 m113l) → X113 v5_113 v6_113 m113l
def PL_X12_list_87 (d : Nat) (E : zb_E) (x0 : Int) (x1 : Int) (x2 : Int) (Q : Int → zb_M → Prop) (K221_87 : zb_M → Prop) (v4_87 : Int) (m87l : zb_M) : Prop :=
  ∀ X87 : Int → zb_M → Prop, (∀ (v4_87 : Int) (m87l : zb_M), (((zb_shl 1 ((x1 * (x1 - 1)) / 2)) ≤ v4_87 → K221_87 m87l) ∧ (¬ (zb_shl 1 ((x1 * (x1 - 1)) / 2)) ≤ v4_87 → zb_Tp K_X12_bitsOf d [(0, v4_87)] E m87l (fun r97 => (r97 = x2 → PL_X12_list_113 d E x0 v4_87 Q (PJ_X12_list_201 d E x0 x1 v4_87 X87 Q) 0 0 m87l) ∧ (¬ r97 = x2 → (zb_inI (v4_87 + 1)) ∧ (X87 (v4_87 + 1) m87l))))) → X87 v4_87 m87l) → X87 v4_87 m87l
def PJ_X12_list_84 (d : Nat) (E : zb_E) (x0 : Int) (x1 : Int) (x2 : Int) (Q : Int → zb_M → Prop) (m84j : zb_M) : Prop :=
  PL_X12_list_87 d E x0 x1 x2 Q (PJ_X12_list_221 d E x0 Q) 0 m84j
def PL_X12_list_52 (d : Nat) (E : zb_E) (x0 : Int) (Q : Int → zb_M → Prop) (K84_52 : zb_M → Prop) (v4_52 : Int) (m52l : zb_M) : Prop :=
  ∀ X52 : Int → zb_M → Prop, (∀ (v4_52 : Int) (m52l : zb_M), (((m52l x0 15) ≤ v4_52 → K84_52 m52l) ∧ (¬ (m52l x0 15) ≤ v4_52 → (0 ≤ v4_52 ∧ v4_52 < 12) ∧ (∀ m69, m69 = zb_up m52l (E.2 x0 16) v4_52 v4_52 → (∀ m77, m77 = zb_up m69 (E.2 x0 17) v4_52 0 → ((zb_inI (v4_52 + 1)) ∧ (X52 (v4_52 + 1) m77)))))) → X52 v4_52 m52l) → X52 v4_52 m52l
def PM_X12_list (d : Nat) (E : zb_E) (x0 : Int) (x1 : Int) (x2 : Int) (m : zb_M) (Q : Int → zb_M → Prop) : Prop :=
  zb_Tp K_X12_in d [(0, x1), (0, 1), (0, 5)] E m (fun r3 => (r3 = 0 → Q (-1) m) ∧ (¬ r3 = 0 → (zb_inI (x1 - 1)) ∧ ((zb_inI (x1 * (x1 - 1))) ∧ ((0 ≤ (x1 * (x1 - 1)) ∧ (0 : Int) < 2) ∧ (zb_Tp K_X12_in d [(0, x2), (0, 0), (0, ((x1 * (x1 - 1)) / 2))] E m (fun r18 => (r18 = 0 → Q (-1) m) ∧ (¬ r18 = 0 → ∀ m28, m28 = zb_up m x0 52 0 → (∀ m33, m33 = zb_up m28 x0 53 x1 → (∀ m38, m38 = zb_up m33 x0 15 x1 → (PL_X12_list_52 d E x0 Q (PJ_X12_list_84 d E x0 x1 x2 Q) 0 m38))))))))))
set_option maxRecDepth 100000 in
set_option maxHeartbeats 4000000 in
theorem w_X12_list {d : Nat} {E : zb_E} {x0 x1 x2 : Int} {m : zb_M} {Q : Int → zb_M → Prop} (h : PM_X12_list d E x0 x1 x2 m Q) : zb_T K_X12_list (d + 1) [(2, x0), (0, x1), (0, x2)] E m Q := by
  unfold PM_X12_list at h
  refine zb_T_in gd_X12_list rfl rfl (fun hW hA G C hF => ?_)
  have i_0 : zb_is E.1 x0 12 := zb_aH hA (by decide)
  show zb_WP _ _ 0 [(0, (2, x0)), (1, (0, x1)), (2, (0, x2))] [] _ _ _ _
  refine zb_iload_n (j := 1) dX12_list_0 rfl rfl ?_
  refine zb_iconst dX12_list_1 (zb_inIc rfl) ?_
  refine zb_iconst dX12_list_2 (zb_inIc rfl) ?_
  refine zb_cSp (As := [(0, x1), (0, 1), (0, 5)]) (As' := [(0, 5), (0, 1), (0, x1)]) (st := []) dX12_list_3 lk_X12_133 gd_X12_in rfl rfl h hW hF (zb_aI (zb_aI (zb_aI zb_a0))) (Nat.le_refl _) (Nat.le_of_ble_eq_true rfl) (fun r3 h => ?_)
  show zb_WP _ _ _ _ [(0, r3)] _ _ _ _
  refine zb_if_eq (tgt := 24) dX12_list_6 (by decide) (fun c1 => ?_) (fun c1 => ?_)
  · have h := h.1 c1
    refine zb_iconst dX12_list_24 (zb_inIc rfl) ?_
    exact zb_rI dX12_list_25 rfl hF h
  · have h := h.2 c1
    refine zb_iload_n (j := 2) dX12_list_9 rfl rfl ?_
    refine zb_iconst dX12_list_10 (zb_inIc rfl) ?_
    refine zb_iload_n (j := 1) dX12_list_11 rfl rfl ?_
    refine zb_iload_n (j := 1) dX12_list_12 rfl rfl ?_
    refine zb_iconst dX12_list_13 (zb_inIc rfl) ?_
    obtain ⟨o2, h⟩ := h
    refine zb_isub dX12_list_14 o2 ?_
    obtain ⟨o3, h⟩ := h
    refine zb_imul dX12_list_15 o3 ?_
    refine zb_iconst dX12_list_16 (zb_inIc rfl) ?_
    obtain ⟨o4, h⟩ := h
    refine zb_idiv dX12_list_17 o4.1 o4.2 ?_
    refine zb_cSp (As := [(0, x2), (0, 0), (0, ((x1 * (x1 - 1)) / 2))]) (As' := [(0, ((x1 * (x1 - 1)) / 2)), (0, 0), (0, x2)]) (st := []) dX12_list_18 lk_X12_133 gd_X12_in rfl rfl h hW hF (zb_aI (zb_aI (zb_aI zb_a0))) (Nat.le_refl _) (Nat.le_of_ble_eq_true rfl) (fun r18 h => ?_)
    show zb_WP _ _ _ _ [(0, r18)] _ _ _ _
    refine zb_if_ne (tgt := 26) dX12_list_21 (by decide) (fun c5 => ?_) (fun c5 => ?_)
    · have h := h.2 c5
      refine zb_aload_n (j := 0) dX12_list_26 rfl rfl ?_
      refine zb_iconst dX12_list_27 (zb_inIc rfl) ?_
      refine zb_pF 52 dX12_list_28 fl_X12_295 rfl rfl i_0 (Or.inl rfl) hF rfl rfl (fun m28 e28 hF => ?_)
      have h := h m28 e28
      refine zb_aload_n (j := 0) dX12_list_31 rfl rfl ?_
      refine zb_iload_n (j := 1) dX12_list_32 rfl rfl ?_
      refine zb_pF 53 dX12_list_33 fl_X12_301 rfl rfl i_0 (Or.inl rfl) hF rfl rfl (fun m33 e33 hF => ?_)
      have h := h m33 e33
      refine zb_aload_n (j := 0) dX12_list_36 rfl rfl ?_
      refine zb_iload_n (j := 1) dX12_list_37 rfl rfl ?_
      refine zb_pF 15 dX12_list_38 fl_X12_175 rfl rfl i_0 (Or.inl rfl) hF rfl rfl (fun m38 e38 hF => ?_)
      have h := h m38 e38
      refine zb_iload_n (j := 1) dX12_list_41 rfl rfl ?_
      refine zb_iload_n (j := 1) dX12_list_42 rfl rfl ?_
      refine zb_iconst dX12_list_43 (zb_inIc rfl) ?_
      refine zb_isub dX12_list_44 o2 ?_
      refine zb_imul dX12_list_45 o3 ?_
      refine zb_iconst dX12_list_46 (zb_inIc rfl) ?_
      refine zb_idiv dX12_list_47 o4.1 o4.2 ?_
      refine zb_istore_n (L' := [(3, (0, ((x1 * (x1 - 1)) / 2))), (0, (2, x0)), (1, (0, x1)), (2, (0, x2))]) dX12_list_48 rfl (by decide) rfl ?_
      refine zb_iconst dX12_list_49 (zb_inIc rfl) ?_
      refine zb_istore (L' := [(4, (0, 0)), (3, (0, ((x1 * (x1 - 1)) / 2))), (0, (2, x0)), (1, (0, x1)), (2, (0, x2))]) dX12_list_50 (by decide) rfl ?_
      refine zb_sub (L' := [(0, (2, x0)), (1, (0, x1)), (2, (0, x2)), (3, (0, ((x1 * (x1 - 1)) / 2))), (4, (0, 0))]) [2, 3, 4, 1, 0] rfl ?_
      have hJ84 : ∀ (m84j : zb_M), zb_FIN E m84j → PJ_X12_list_84 d E x0 x1 x2 Q m84j → zb_WP (G, C, d + 1, 0, 0, zb_q E Q) F_X12_list 84 [(0, (2, x0)), (1, (0, x1)), (2, (0, x2)), (3, (0, ((x1 * (x1 - 1)) / 2)))] [] E.1 m84j 0 0 := by
        intro m84j hF h
        unfold PJ_X12_list_84 at h
        refine zb_iconst dX12_list_84 (zb_inIc rfl) ?_
        refine zb_istore (L' := [(4, (0, 0)), (0, (2, x0)), (1, (0, x1)), (2, (0, x2)), (3, (0, ((x1 * (x1 - 1)) / 2)))]) dX12_list_85 (by decide) rfl ?_
        refine zb_sub (L' := [(0, (2, x0)), (1, (0, x1)), (2, (0, x2)), (3, (0, ((x1 * (x1 - 1)) / 2))), (4, (0, 0))]) [1, 2, 3, 4, 0] rfl ?_
        have hJ221 : ∀ (m221j : zb_M), zb_FIN E m221j → PJ_X12_list_221 d E x0 Q m221j → zb_WP (G, C, d + 1, 0, 0, zb_q E Q) F_X12_list 221 [(0, (2, x0))] [] E.1 m221j 0 0 := by
          intro m221j hF h
          unfold PJ_X12_list_221 at h
          refine zb_aload_n (j := 0) dX12_list_221 rfl rfl ?_
          refine zb_gI 52 dX12_list_222 fl_X12_295 i_0 rfl rfl ?_
          exact zb_rI dX12_list_225 rfl hF h
        unfold PL_X12_list_87 at h
        obtain ⟨X87, hX87⟩ : ∃ X : Int → zb_M → Prop, ∀ (v4_87 : Int) (m87l : zb_M), (X v4_87 m87l ↔ (zb_FIN E m87l → zb_WP (G, C, d + 1, 0, 0, zb_q E Q) F_X12_list 87 [(0, (2, x0)), (1, (0, x1)), (2, (0, x2)), (3, (0, ((x1 * (x1 - 1)) / 2))), (4, (0, v4_87))] [] E.1 m87l 0 0)) := ⟨fun v4_87 m87l => zb_FIN E m87l → zb_WP (G, C, d + 1, 0, 0, zb_q E Q) F_X12_list 87 [(0, (2, x0)), (1, (0, x1)), (2, (0, x2)), (3, (0, ((x1 * (x1 - 1)) / 2))), (4, (0, v4_87))] [] E.1 m87l 0 0, fun _ _ => Iff.rfl⟩
        refine (hX87 _ _).mp (h X87 (fun v4_87 m87l h => (hX87 _ _).mpr (fun hF => ?_))) hF
        refine zb_iload (j := 4) dX12_list_87 rfl ?_
        refine zb_iconst dX12_list_89 (zb_inIc rfl) ?_
        refine zb_iload_n (j := 3) dX12_list_90 rfl rfl ?_
        refine zb_ishl dX12_list_91 ?_
        refine zb_icmp_ge (tgt := 221) dX12_list_92 (by decide) (fun c6 => ?_) (fun c6 => ?_)
        · have h := h.1 c6
          refine zb_sub (L' := [(0, (2, x0))]) [0] rfl ?_
          exact hJ221 _ hF h
        · have h := h.2 c6
          refine zb_iload (j := 4) dX12_list_95 rfl ?_
          refine zb_cSp (As := [(0, v4_87)]) (As' := [(0, v4_87)]) (st := []) dX12_list_97 lk_X12_304 gd_X12_bitsOf rfl rfl h hW hF (zb_aI zb_a0) (Nat.le_refl _) (Nat.le_of_ble_eq_true rfl) (fun r97 h => ?_)
          show zb_WP _ _ _ _ [(0, r97)] _ _ _ _
          refine zb_iload_n (j := 2) dX12_list_100 rfl rfl ?_
          refine zb_icmp_eq (tgt := 107) dX12_list_101 (by decide) (fun c7 => ?_) (fun c7 => ?_)
          · have h := h.1 c7
            refine zb_iconst dX12_list_107 (zb_inIc rfl) ?_
            refine zb_istore (L' := [(5, (0, 0)), (0, (2, x0)), (1, (0, x1)), (2, (0, x2)), (3, (0, ((x1 * (x1 - 1)) / 2))), (4, (0, v4_87))]) dX12_list_108 (by decide) rfl ?_
            refine zb_iconst dX12_list_110 (zb_inIc rfl) ?_
            refine zb_istore (L' := [(6, (0, 0)), (5, (0, 0)), (0, (2, x0)), (1, (0, x1)), (2, (0, x2)), (3, (0, ((x1 * (x1 - 1)) / 2))), (4, (0, v4_87))]) dX12_list_111 (by decide) rfl ?_
            refine zb_sub (L' := [(0, (2, x0)), (1, (0, x1)), (2, (0, x2)), (3, (0, ((x1 * (x1 - 1)) / 2))), (4, (0, v4_87)), (5, (0, 0)), (6, (0, 0))]) [2, 3, 4, 5, 6, 1, 0] rfl ?_
            have hJ201 : ∀ (m201j : zb_M), zb_FIN E m201j → PJ_X12_list_201 d E x0 x1 v4_87 X87 Q m201j → zb_WP (G, C, d + 1, 0, 0, zb_q E Q) F_X12_list 201 [(0, (2, x0)), (1, (0, x1)), (2, (0, x2)), (3, (0, ((x1 * (x1 - 1)) / 2))), (4, (0, v4_87))] [] E.1 m201j 0 0 := by
              intro m201j hF h
              unfold PJ_X12_list_201 at h
              refine zb_aload_n (j := 0) dX12_list_201 rfl rfl ?_
              refine zb_cV (As := []) (As' := []) (st := []) dX12_list_202 lk_X12_234 gd_X12_grow rfl rfl i_0 ⟨_, rfl, rfl⟩ h hW hF (zb_aR i_0 zb_a0) (Nat.le_refl _) (Nat.le_of_ble_eq_true rfl) (fun r202 m202 hF h => ?_)
              show zb_WP _ _ _ _ [(0, r202)] _ _ _ _
              refine zb_istore (L' := [(6, (0, r202)), (0, (2, x0)), (1, (0, x1)), (2, (0, x2)), (3, (0, ((x1 * (x1 - 1)) / 2))), (4, (0, v4_87))]) dX12_list_205 (by decide) rfl ?_
              refine zb_aload_n (j := 1) dX12_list_207 rfl rfl ?_
              refine zb_iload_n (j := 2) dX12_list_208 rfl rfl ?_
              refine zb_cSp (As := [(0, x1)]) (As' := [(0, x1)]) (st := [(2, x0)]) dX12_list_209 lk_X12_219 gd_X12_sizeOf rfl rfl h hW hF (zb_aI zb_a0) (Nat.le_refl _) (Nat.le_of_ble_eq_true rfl) (fun r209 h => ?_)
              show zb_WP _ _ _ _ [(0, r209), (2, x0)] _ _ _ _
              refine zb_cV (As := [(0, r209)]) (As' := [(0, r209)]) (st := []) dX12_list_212 lk_X12_307 gd_X12_enter rfl rfl i_0 ⟨_, rfl, rfl⟩ h hW hF (zb_aR i_0 (zb_aI zb_a0)) (Nat.le_refl _) (Nat.le_of_ble_eq_true rfl) (fun r212 m212 hF h => ?_)
              show zb_WP _ _ _ _ [] _ _ _ _
              obtain ⟨o8, h⟩ := h
              refine zb_iinc (j := 5) (L' := [(4, (0, (v4_87 + 1))), (6, (0, r202)), (0, (2, x0)), (1, (0, x1)), (2, (0, x2)), (3, (0, ((x1 * (x1 - 1)) / 2)))]) dX12_list_215 rfl o8 (by decide) rfl ?_
              refine zb_goto (tgt := 87) dX12_list_218 (by decide) ?_
              refine zb_sub (L' := [(0, (2, x0)), (1, (0, x1)), (2, (0, x2)), (3, (0, ((x1 * (x1 - 1)) / 2))), (4, (0, (v4_87 + 1)))]) [2, 3, 4, 5, 0] rfl ?_
              exact (hX87 _ _).mp h hF
            unfold PL_X12_list_113 at h
            obtain ⟨X113, hX113⟩ : ∃ X : Int → Int → zb_M → Prop, ∀ (v5_113 : Int) (v6_113 : Int) (m113l : zb_M), (X v5_113 v6_113 m113l ↔ (zb_FIN E m113l → zb_WP (G, C, d + 1, 0, 0, zb_q E Q) F_X12_list 113 [(0, (2, x0)), (1, (0, x1)), (2, (0, x2)), (3, (0, ((x1 * (x1 - 1)) / 2))), (4, (0, v4_87)), (5, (0, v5_113)), (6, (0, v6_113))] [] E.1 m113l 0 0)) := ⟨fun v5_113 v6_113 m113l => zb_FIN E m113l → zb_WP (G, C, d + 1, 0, 0, zb_q E Q) F_X12_list 113 [(0, (2, x0)), (1, (0, x1)), (2, (0, x2)), (3, (0, ((x1 * (x1 - 1)) / 2))), (4, (0, v4_87)), (5, (0, v5_113)), (6, (0, v6_113))] [] E.1 m113l 0 0, fun _ _ _ => Iff.rfl⟩
            refine (hX113 _ _ _).mp (h X113 (fun v5_113 v6_113 m113l h => (hX113 _ _ _).mpr (fun hF => ?_))) hF
            refine zb_iload (j := 6) dX12_list_113 rfl ?_
            refine zb_aload_n (j := 0) dX12_list_115 rfl rfl ?_
            refine zb_gI 15 dX12_list_116 fl_X12_175 i_0 rfl rfl ?_
            refine zb_icmp_ge (tgt := 201) dX12_list_119 (by decide) (fun c9 => ?_) (fun c9 => ?_)
            · have h := h.1 c9
              refine zb_sub (L' := [(0, (2, x0)), (1, (0, x1)), (2, (0, x2)), (3, (0, ((x1 * (x1 - 1)) / 2))), (4, (0, v4_87))]) [0, 1, 2, 3, 4] rfl ?_
              exact hJ201 _ hF h
            · have h := h.2 c9
              refine zb_aload_n (j := 0) dX12_list_122 rfl rfl ?_
              refine zb_gFa 18 dX12_list_123 fl_X12_58 i_0 hW hF rfl rfl rfl (by decide) rfl 144 rfl (fun i10 l11 => ?_)
              refine zb_bipush dX12_list_126 (by decide) (zb_inIc rfl) ?_
              refine zb_iload (j := 6) dX12_list_128 rfl ?_
              obtain ⟨o12, h⟩ := h
              refine zb_imul dX12_list_130 o12 ?_
              refine zb_iload (j := 6) dX12_list_131 rfl ?_
              obtain ⟨o13, h⟩ := h
              refine zb_iadd dX12_list_133 o13 ?_
              refine zb_iconst dX12_list_134 (zb_inIc rfl) ?_
              obtain ⟨o14, h⟩ := h
              refine zb_sI dX12_list_135 i10 l11 o14.1 o14.2 hF (fun m135 e135 hF => ?_)
              have h := h m135 e135
              refine zb_iconst dX12_list_136 (zb_inIc rfl) ?_
              refine zb_istore (L' := [(7, (0, 0)), (0, (2, x0)), (1, (0, x1)), (2, (0, x2)), (3, (0, ((x1 * (x1 - 1)) / 2))), (4, (0, v4_87)), (5, (0, v5_113)), (6, (0, v6_113))]) dX12_list_137 (by decide) rfl ?_
              refine zb_sub (L' := [(0, (2, x0)), (1, (0, x1)), (2, (0, x2)), (3, (0, ((x1 * (x1 - 1)) / 2))), (4, (0, v4_87)), (5, (0, v5_113)), (6, (0, v6_113)), (7, (0, 0))]) [1, 2, 3, 4, 5, 6, 7, 0] rfl ?_
              have hJ195 : ∀ (v5_195 : Int) (m195j : zb_M), zb_FIN E m195j → PJ_X12_list_195 d E v6_113 X113 Q v5_195 m195j → zb_WP (G, C, d + 1, 0, 0, zb_q E Q) F_X12_list 195 [(0, (2, x0)), (1, (0, x1)), (2, (0, x2)), (3, (0, ((x1 * (x1 - 1)) / 2))), (4, (0, v4_87)), (5, (0, v5_195)), (6, (0, v6_113))] [] E.1 m195j 0 0 := by
                intro v5_195 m195j hF h
                unfold PJ_X12_list_195 at h
                obtain ⟨o15, h⟩ := h
                refine zb_iinc (j := 6) (L' := [(6, (0, (v6_113 + 1))), (0, (2, x0)), (1, (0, x1)), (2, (0, x2)), (3, (0, ((x1 * (x1 - 1)) / 2))), (4, (0, v4_87)), (5, (0, v5_195))]) dX12_list_195 rfl o15 (by decide) rfl ?_
                refine zb_goto (tgt := 113) dX12_list_198 (by decide) ?_
                refine zb_sub (L' := [(0, (2, x0)), (1, (0, x1)), (2, (0, x2)), (3, (0, ((x1 * (x1 - 1)) / 2))), (4, (0, v4_87)), (5, (0, v5_195)), (6, (0, (v6_113 + 1)))]) [1, 2, 3, 4, 5, 6, 0] rfl ?_
                exact (hX113 _ _ _).mp h hF
              unfold PL_X12_list_139 at h
              obtain ⟨X139, hX139⟩ : ∃ X : Int → Int → zb_M → Prop, ∀ (v5_139 : Int) (v7_139 : Int) (m139l : zb_M), (X v5_139 v7_139 m139l ↔ (zb_FIN E m139l → zb_WP (G, C, d + 1, 0, 0, zb_q E Q) F_X12_list 139 [(0, (2, x0)), (1, (0, x1)), (2, (0, x2)), (3, (0, ((x1 * (x1 - 1)) / 2))), (4, (0, v4_87)), (5, (0, v5_139)), (6, (0, v6_113)), (7, (0, v7_139))] [] E.1 m139l 0 0)) := ⟨fun v5_139 v7_139 m139l => zb_FIN E m139l → zb_WP (G, C, d + 1, 0, 0, zb_q E Q) F_X12_list 139 [(0, (2, x0)), (1, (0, x1)), (2, (0, x2)), (3, (0, ((x1 * (x1 - 1)) / 2))), (4, (0, v4_87)), (5, (0, v5_139)), (6, (0, v6_113)), (7, (0, v7_139))] [] E.1 m139l 0 0, fun _ _ _ => Iff.rfl⟩
              refine (hX139 _ _ _).mp (h X139 (fun v5_139 v7_139 m139l h => (hX139 _ _ _).mpr (fun hF => ?_))) hF
              refine zb_iload (j := 7) dX12_list_139 rfl ?_
              refine zb_iload (j := 6) dX12_list_141 rfl ?_
              refine zb_icmp_ge (tgt := 195) dX12_list_143 (by decide) (fun c16 => ?_) (fun c16 => ?_)
              · have h := h.1 c16
                refine zb_sub (L' := [(0, (2, x0)), (1, (0, x1)), (2, (0, x2)), (3, (0, ((x1 * (x1 - 1)) / 2))), (4, (0, v4_87)), (5, (0, v5_139)), (6, (0, v6_113))]) [0, 1, 2, 3, 4, 5, 6] rfl ?_
                exact hJ195 _ _ hF h
              · have h := h.2 c16
                refine zb_aload_n (j := 0) dX12_list_146 rfl rfl ?_
                refine zb_gFa 18 dX12_list_147 fl_X12_58 i_0 hW hF rfl rfl rfl (by decide) rfl 144 rfl (fun i17 l18 => ?_)
                refine zb_bipush dX12_list_150 (by decide) (zb_inIc rfl) ?_
                refine zb_iload (j := 6) dX12_list_152 rfl ?_
                refine zb_imul dX12_list_154 o12 ?_
                refine zb_iload (j := 7) dX12_list_155 rfl ?_
                obtain ⟨o19, h⟩ := h
                refine zb_iadd dX12_list_157 o19 ?_
                refine zb_iload (j := 4) dX12_list_158 rfl ?_
                refine zb_iload (j := 5) dX12_list_160 rfl ?_
                refine zb_ishr dX12_list_162 ?_
                refine zb_iconst dX12_list_163 (zb_inIc rfl) ?_
                refine zb_iand dX12_list_164 ?_
                obtain ⟨o20, h⟩ := h
                refine zb_sI dX12_list_165 i17 l18 o20.1 o20.2 hF (fun m165 e165 hF => ?_)
                have h := h m165 e165
                refine zb_aload_n (j := 0) dX12_list_166 rfl rfl ?_
                refine zb_gFa 18 dX12_list_167 fl_X12_58 i_0 hW hF rfl rfl rfl (by decide) rfl 144 rfl (fun i21 l22 => ?_)
                refine zb_bipush dX12_list_170 (by decide) (zb_inIc rfl) ?_
                refine zb_iload (j := 7) dX12_list_172 rfl ?_
                obtain ⟨o23, h⟩ := h
                refine zb_imul dX12_list_174 o23 ?_
                refine zb_iload (j := 6) dX12_list_175 rfl ?_
                obtain ⟨o24, h⟩ := h
                refine zb_iadd dX12_list_177 o24 ?_
                refine zb_iload (j := 4) dX12_list_178 rfl ?_
                refine zb_iload (j := 5) dX12_list_180 rfl ?_
                refine zb_ishr dX12_list_182 ?_
                refine zb_iconst dX12_list_183 (zb_inIc rfl) ?_
                refine zb_iand dX12_list_184 ?_
                obtain ⟨o25, h⟩ := h
                refine zb_sI dX12_list_185 i21 l22 o25.1 o25.2 hF (fun m185 e185 hF => ?_)
                have h := h m185 e185
                obtain ⟨o26, h⟩ := h
                refine zb_iinc (j := 5) (L' := [(5, (0, (v5_139 + 1))), (0, (2, x0)), (1, (0, x1)), (2, (0, x2)), (3, (0, ((x1 * (x1 - 1)) / 2))), (4, (0, v4_87)), (6, (0, v6_113)), (7, (0, v7_139))]) dX12_list_186 rfl o26 (by decide) rfl ?_
                obtain ⟨o27, h⟩ := h
                refine zb_iinc (j := 7) (L' := [(7, (0, (v7_139 + 1))), (5, (0, (v5_139 + 1))), (0, (2, x0)), (1, (0, x1)), (2, (0, x2)), (3, (0, ((x1 * (x1 - 1)) / 2))), (4, (0, v4_87)), (6, (0, v6_113))]) dX12_list_189 rfl o27 (by decide) rfl ?_
                refine zb_goto (tgt := 139) dX12_list_192 (by decide) ?_
                refine zb_sub (L' := [(0, (2, x0)), (1, (0, x1)), (2, (0, x2)), (3, (0, ((x1 * (x1 - 1)) / 2))), (4, (0, v4_87)), (5, (0, (v5_139 + 1))), (6, (0, v6_113)), (7, (0, (v7_139 + 1)))]) [2, 3, 4, 5, 6, 1, 7, 0] rfl ?_
                exact (hX139 _ _ _).mp h hF
          · have h := h.2 c7
            refine zb_goto (tgt := 215) dX12_list_104 (by decide) ?_
            obtain ⟨o28, h⟩ := h
            refine zb_iinc (j := 4) (L' := [(4, (0, (v4_87 + 1))), (0, (2, x0)), (1, (0, x1)), (2, (0, x2)), (3, (0, ((x1 * (x1 - 1)) / 2)))]) dX12_list_215 rfl o28 (by decide) rfl ?_
            refine zb_goto (tgt := 87) dX12_list_218 (by decide) ?_
            refine zb_sub (L' := [(0, (2, x0)), (1, (0, x1)), (2, (0, x2)), (3, (0, ((x1 * (x1 - 1)) / 2))), (4, (0, (v4_87 + 1)))]) [1, 2, 3, 4, 0] rfl ?_
            exact (hX87 _ _).mp h hF
      unfold PL_X12_list_52 at h
      obtain ⟨X52, hX52⟩ : ∃ X : Int → zb_M → Prop, ∀ (v4_52 : Int) (m52l : zb_M), (X v4_52 m52l ↔ (zb_FIN E m52l → zb_WP (G, C, d + 1, 0, 0, zb_q E Q) F_X12_list 52 [(0, (2, x0)), (1, (0, x1)), (2, (0, x2)), (3, (0, ((x1 * (x1 - 1)) / 2))), (4, (0, v4_52))] [] E.1 m52l 0 0)) := ⟨fun v4_52 m52l => zb_FIN E m52l → zb_WP (G, C, d + 1, 0, 0, zb_q E Q) F_X12_list 52 [(0, (2, x0)), (1, (0, x1)), (2, (0, x2)), (3, (0, ((x1 * (x1 - 1)) / 2))), (4, (0, v4_52))] [] E.1 m52l 0 0, fun _ _ => Iff.rfl⟩
      refine (hX52 _ _).mp (h X52 (fun v4_52 m52l h => (hX52 _ _).mpr (fun hF => ?_))) hF
      refine zb_iload (j := 4) dX12_list_52 rfl ?_
      refine zb_aload_n (j := 0) dX12_list_54 rfl rfl ?_
      refine zb_gI 15 dX12_list_55 fl_X12_175 i_0 rfl rfl ?_
      refine zb_icmp_ge (tgt := 84) dX12_list_58 (by decide) (fun c29 => ?_) (fun c29 => ?_)
      · have h := h.1 c29
        refine zb_sub (L' := [(0, (2, x0)), (1, (0, x1)), (2, (0, x2)), (3, (0, ((x1 * (x1 - 1)) / 2)))]) [0, 1, 2, 3] rfl ?_
        exact hJ84 _ hF h
      · have h := h.2 c29
        refine zb_aload_n (j := 0) dX12_list_61 rfl rfl ?_
        refine zb_gFa 16 dX12_list_62 fl_X12_52 i_0 hW hF rfl rfl rfl (by decide) rfl 12 rfl (fun i30 l31 => ?_)
        refine zb_iload (j := 4) dX12_list_65 rfl ?_
        refine zb_iload (j := 4) dX12_list_67 rfl ?_
        obtain ⟨o32, h⟩ := h
        refine zb_sI dX12_list_69 i30 l31 o32.1 o32.2 hF (fun m69 e69 hF => ?_)
        have h := h m69 e69
        refine zb_aload_n (j := 0) dX12_list_70 rfl rfl ?_
        refine zb_gFa 17 dX12_list_71 fl_X12_55 i_0 hW hF rfl rfl rfl (by decide) rfl 12 rfl (fun i33 l34 => ?_)
        refine zb_iload (j := 4) dX12_list_74 rfl ?_
        refine zb_iconst dX12_list_76 (zb_inIc rfl) ?_
        refine zb_sI dX12_list_77 i33 l34 o32.1 o32.2 hF (fun m77 e77 hF => ?_)
        have h := h m77 e77
        obtain ⟨o35, h⟩ := h
        refine zb_iinc (j := 4) (L' := [(4, (0, (v4_52 + 1))), (0, (2, x0)), (1, (0, x1)), (2, (0, x2)), (3, (0, ((x1 * (x1 - 1)) / 2)))]) dX12_list_78 rfl o35 (by decide) rfl ?_
        refine zb_goto (tgt := 52) dX12_list_81 (by decide) ?_
        refine zb_sub (L' := [(0, (2, x0)), (1, (0, x1)), (2, (0, x2)), (3, (0, ((x1 * (x1 - 1)) / 2))), (4, (0, (v4_52 + 1)))]) [1, 2, 3, 4, 0] rfl ?_
        exact (hX52 _ _).mp h hF
    · have h := h.1 c5
      refine zb_iconst dX12_list_24 (zb_inIc rfl) ?_
      exact zb_rI dX12_list_25 rfl hF h
