/-! ===== SameBench$Turner: instructions and walks (laid by gen/layout.py) ===== -/
theorem dX9_findLeast_0 : decode cX9_findLeast 0 = .ok (.aload_n 0, 1) := by decide +kernel
theorem dX9_findLeast_1 : decode cX9_findLeast 1 = .ok (.aload_n 1, 1) := by decide +kernel
theorem dX9_findLeast_2 : decode cX9_findLeast 2 = .ok (.putfield 42, 3) := by decide +kernel
theorem dX9_findLeast_5 : decode cX9_findLeast 5 = .ok (.aload_n 0, 1) := by decide +kernel
theorem dX9_findLeast_6 : decode cX9_findLeast 6 = .ok (.getfield 38, 3) := by decide +kernel
theorem dX9_findLeast_9 : decode cX9_findLeast 9 = .ok (.aload_n 0, 1) := by decide +kernel
theorem dX9_findLeast_10 : decode cX9_findLeast 10 = .ok (.getfield 13, 3) := by decide +kernel
theorem dX9_findLeast_13 : decode cX9_findLeast 13 = .ok (.iconst 0, 1) := by decide +kernel
theorem dX9_findLeast_14 : decode cX9_findLeast 14 = .ok (.aaload, 1) := by decide +kernel
theorem dX9_findLeast_15 : decode cX9_findLeast 15 = .ok (.aload_n 0, 1) := by decide +kernel
theorem dX9_findLeast_16 : decode cX9_findLeast 16 = .ok (.getfield 42, 3) := by decide +kernel
theorem dX9_findLeast_19 : decode cX9_findLeast 19 = .ok (.invokevirtual 46, 3) := by decide +kernel
theorem dX9_findLeast_22 : decode cX9_findLeast 22 = .ok (.aload_n 0, 1) := by decide +kernel
theorem dX9_findLeast_23 : decode cX9_findLeast 23 = .ok (.aload_n 0, 1) := by decide +kernel
theorem dX9_findLeast_24 : decode cX9_findLeast 24 = .ok (.getfield 13, 3) := by decide +kernel
theorem dX9_findLeast_27 : decode cX9_findLeast 27 = .ok (.iconst 0, 1) := by decide +kernel
theorem dX9_findLeast_28 : decode cX9_findLeast 28 = .ok (.aaload, 1) := by decide +kernel
theorem dX9_findLeast_29 : decode cX9_findLeast 29 = .ok (.iload_n 2, 1) := by decide +kernel
theorem dX9_findLeast_30 : decode cX9_findLeast 30 = .ok (.iload_n 3, 1) := by decide +kernel
theorem dX9_findLeast_31 : decode cX9_findLeast 31 = .ok (.invokevirtual 52, 3) := by decide +kernel
theorem dX9_findLeast_34 : decode cX9_findLeast 34 = .ok (.ireturn, 1) := by decide +kernel
def PM_X9_findLeast (d : Nat) (E : zb_E) (x0 : Int) (x1 : Int) (x2 : Int) (x3 : Int) (m : zb_M) (Q : Int → zb_M → Prop) : Prop :=
  ∀ m2, m2 = zb_up m x0 9 x1 → ((zb_is E.1 (m2 x0 9) 6) ∧ (zb_T K_X7_begin d [(2, (E.2 x0 0)), (2, (E.2 (E.2 x0 1) 0)), (2, (m2 x0 9))] E m2 (fun r19 m19 => zb_T K_X9_isLed d [(2, x0), (2, (E.2 (E.2 x0 1) 0)), (0, x2), (0, x3)] E m19 (fun r31 m31 => (r31 = 0 ∨ r31 = 1) ∧ (Q r31 m31)))))
set_option maxRecDepth 100000 in
set_option maxHeartbeats 4000000 in
theorem w_X9_findLeast {d : Nat} {E : zb_E} {x0 x1 x2 x3 : Int} {m : zb_M} {Q : Int → zb_M → Prop} (h : PM_X9_findLeast d E x0 x1 x2 x3 m Q) : zb_T K_X9_findLeast (d + 1) [(2, x0), (2, x1), (0, x2), (0, x3)] E m Q := by
  unfold PM_X9_findLeast at h
  refine zb_T_in gd_X9_findLeast rfl rfl (fun hW hA G C hF => ?_)
  have i_0 : zb_is E.1 x0 9 := zb_aH hA (by decide)
  have i_1 : zb_is E.1 x1 6 := zb_aH (zb_aT hA) (by decide)
  show zb_WP _ _ 0 [(0, (2, x0)), (1, (2, x1)), (2, (0, x2)), (3, (0, x3))] [] _ _ _ _
  refine zb_aload_n (j := 0) dX9_findLeast_0 rfl rfl ?_
  refine zb_aload_n (j := 1) dX9_findLeast_1 rfl rfl ?_
  refine zb_pF 9 dX9_findLeast_2 fl_X9_42 rfl rfl i_0 (Or.inr (Or.inr rfl)) hF rfl rfl (fun m2 e2 hF => ?_)
  have h := h m2 e2
  refine zb_aload_n (j := 0) dX9_findLeast_5 rfl rfl ?_
  refine zb_gFo 0 dX9_findLeast_6 fl_X9_38 i_0 hW hF rfl rfl rfl rfl (fun i1 => ?_)
  refine zb_aload_n (j := 0) dX9_findLeast_9 rfl rfl ?_
  refine zb_gFa 1 dX9_findLeast_10 fl_X9_13 i_0 hW hF rfl rfl rfl (by decide) rfl 13 rfl (fun i2 l3 => ?_)
  refine zb_iconst dX9_findLeast_13 (zb_inIc rfl) ?_
  refine zb_lA 4 dX9_findLeast_14 i2 (by decide) l3 hW hF (by decide) (by decide) (fun i4 => ?_)
  refine zb_aload_n (j := 0) dX9_findLeast_15 rfl rfl ?_
  obtain ⟨o5, h⟩ := h
  refine zb_gD 9 dX9_findLeast_16 fl_X9_42 i_0 rfl rfl o5 ?_
  refine zb_cV (As := [(2, (E.2 (E.2 x0 1) 0)), (2, (m2 x0 9))]) (As' := [(2, (m2 x0 9)), (2, (E.2 (E.2 x0 1) 0))]) (st := []) dX9_findLeast_19 lk_X9_46 gd_X7_begin rfl rfl i1 ⟨_, rfl, rfl⟩ h hW hF (zb_aR i1 (zb_aR i4 (zb_aR o5 zb_a0))) (Nat.le_refl _) (Nat.le_of_ble_eq_true rfl) (fun r19 m19 hF h => ?_)
  show zb_WP _ _ _ _ [] _ _ _ _
  refine zb_aload_n (j := 0) dX9_findLeast_22 rfl rfl ?_
  refine zb_aload_n (j := 0) dX9_findLeast_23 rfl rfl ?_
  refine zb_gFa 1 dX9_findLeast_24 fl_X9_13 i_0 hW hF rfl rfl rfl (by decide) rfl 13 rfl (fun i6 l7 => ?_)
  refine zb_iconst dX9_findLeast_27 (zb_inIc rfl) ?_
  refine zb_lA 4 dX9_findLeast_28 i6 (by decide) l7 hW hF (by decide) (by decide) (fun i8 => ?_)
  refine zb_iload_n (j := 2) dX9_findLeast_29 rfl rfl ?_
  refine zb_iload_n (j := 3) dX9_findLeast_30 rfl rfl ?_
  refine zb_cV (As := [(2, (E.2 (E.2 x0 1) 0)), (0, x2), (0, x3)]) (As' := [(0, x3), (0, x2), (2, (E.2 (E.2 x0 1) 0))]) (st := []) dX9_findLeast_31 lk_X9_52 gd_X9_isLed rfl rfl i_0 ⟨_, rfl, rfl⟩ h hW hF (zb_aR i_0 (zb_aR i8 (zb_aI (zb_aI zb_a0)))) (Nat.le_refl _) (Nat.le_of_ble_eq_true rfl) (fun r31 m31 hF h => ?_)
  show zb_WP _ _ _ _ [(0, r31)] _ _ _ _
  obtain ⟨o9, h⟩ := h
  exact zb_rZ dX9_findLeast_34 rfl hF o9 h
theorem dX9_findMakers_0 : decode cX9_findMakers 0 = .ok (.aload_n 0, 1) := by decide +kernel
theorem dX9_findMakers_1 : decode cX9_findMakers 1 = .ok (.aload_n 1, 1) := by decide +kernel
theorem dX9_findMakers_2 : decode cX9_findMakers 2 = .ok (.putfield 42, 3) := by decide +kernel
theorem dX9_findMakers_5 : decode cX9_findMakers 5 = .ok (.aload_n 0, 1) := by decide +kernel
theorem dX9_findMakers_6 : decode cX9_findMakers 6 = .ok (.invokevirtual 56, 3) := by decide +kernel
theorem dX9_findMakers_9 : decode cX9_findMakers 9 = .ok (.aload_n 0, 1) := by decide +kernel
theorem dX9_findMakers_10 : decode cX9_findMakers 10 = .ok (.iconst 0, 1) := by decide +kernel
theorem dX9_findMakers_11 : decode cX9_findMakers 11 = .ok (.putfield 59, 3) := by decide +kernel
theorem dX9_findMakers_14 : decode cX9_findMakers 14 = .ok (.iconst 0, 1) := by decide +kernel
theorem dX9_findMakers_15 : decode cX9_findMakers 15 = .ok (.istore_n 2, 1) := by decide +kernel
theorem dX9_findMakers_16 : decode cX9_findMakers 16 = .ok (.iload_n 2, 1) := by decide +kernel
theorem dX9_findMakers_17 : decode cX9_findMakers 17 = .ok (.aload_n 0, 1) := by decide +kernel
theorem dX9_findMakers_18 : decode cX9_findMakers 18 = .ok (.getfield 42, 3) := by decide +kernel
theorem dX9_findMakers_21 : decode cX9_findMakers 21 = .ok (.getfield 63, 3) := by decide +kernel
theorem dX9_findMakers_24 : decode cX9_findMakers 24 = .ok (.if_icmp .ge 16, 3) := by decide +kernel
theorem dX9_findMakers_27 : decode cX9_findMakers 27 = .ok (.aload_n 0, 1) := by decide +kernel
theorem dX9_findMakers_28 : decode cX9_findMakers 28 = .ok (.getfield 32, 3) := by decide +kernel
theorem dX9_findMakers_31 : decode cX9_findMakers 31 = .ok (.iload_n 2, 1) := by decide +kernel
theorem dX9_findMakers_32 : decode cX9_findMakers 32 = .ok (.iload_n 2, 1) := by decide +kernel
theorem dX9_findMakers_33 : decode cX9_findMakers 33 = .ok (.iastore, 1) := by decide +kernel
theorem dX9_findMakers_34 : decode cX9_findMakers 34 = .ok (.iinc 2 1, 3) := by decide +kernel
theorem dX9_findMakers_37 : decode cX9_findMakers 37 = .ok (.goto (-21), 3) := by decide +kernel
theorem dX9_findMakers_40 : decode cX9_findMakers 40 = .ok (.aload_n 0, 1) := by decide +kernel
theorem dX9_findMakers_41 : decode cX9_findMakers 41 = .ok (.getfield 42, 3) := by decide +kernel
theorem dX9_findMakers_44 : decode cX9_findMakers 44 = .ok (.getfield 63, 3) := by decide +kernel
theorem dX9_findMakers_47 : decode cX9_findMakers 47 = .ok (.iconst 1, 1) := by decide +kernel
theorem dX9_findMakers_48 : decode cX9_findMakers 48 = .ok (.isub, 1) := by decide +kernel
theorem dX9_findMakers_49 : decode cX9_findMakers 49 = .ok (.istore_n 2, 1) := by decide +kernel
theorem dX9_findMakers_50 : decode cX9_findMakers 50 = .ok (.iload_n 2, 1) := by decide +kernel
theorem dX9_findMakers_51 : decode cX9_findMakers 51 = .ok (.ifCond .lt 75, 3) := by decide +kernel
theorem dX9_findMakers_54 : decode cX9_findMakers 54 = .ok (.iload_n 2, 1) := by decide +kernel
theorem dX9_findMakers_55 : decode cX9_findMakers 55 = .ok (.iconst 1, 1) := by decide +kernel
theorem dX9_findMakers_56 : decode cX9_findMakers 56 = .ok (.iadd, 1) := by decide +kernel
theorem dX9_findMakers_57 : decode cX9_findMakers 57 = .ok (.istore_n 3, 1) := by decide +kernel
theorem dX9_findMakers_58 : decode cX9_findMakers 58 = .ok (.iload_n 3, 1) := by decide +kernel
theorem dX9_findMakers_59 : decode cX9_findMakers 59 = .ok (.aload_n 0, 1) := by decide +kernel
theorem dX9_findMakers_60 : decode cX9_findMakers 60 = .ok (.getfield 42, 3) := by decide +kernel
theorem dX9_findMakers_63 : decode cX9_findMakers 63 = .ok (.getfield 63, 3) := by decide +kernel
theorem dX9_findMakers_66 : decode cX9_findMakers 66 = .ok (.if_icmp .ge 43, 3) := by decide +kernel
theorem dX9_findMakers_69 : decode cX9_findMakers 69 = .ok (.aload_n 0, 1) := by decide +kernel
theorem dX9_findMakers_70 : decode cX9_findMakers 70 = .ok (.getfield 32, 3) := by decide +kernel
theorem dX9_findMakers_73 : decode cX9_findMakers 73 = .ok (.iload_n 3, 1) := by decide +kernel
theorem dX9_findMakers_74 : decode cX9_findMakers 74 = .ok (.iaload, 1) := by decide +kernel
theorem dX9_findMakers_75 : decode cX9_findMakers 75 = .ok (.aload_n 0, 1) := by decide +kernel
theorem dX9_findMakers_76 : decode cX9_findMakers 76 = .ok (.getfield 32, 3) := by decide +kernel
theorem dX9_findMakers_79 : decode cX9_findMakers 79 = .ok (.iload_n 2, 1) := by decide +kernel
theorem dX9_findMakers_80 : decode cX9_findMakers 80 = .ok (.iaload, 1) := by decide +kernel
theorem dX9_findMakers_81 : decode cX9_findMakers 81 = .ok (.if_icmp .eq 22, 3) := by decide +kernel
theorem dX9_findMakers_84 : decode cX9_findMakers 84 = .ok (.aload_n 0, 1) := by decide +kernel
theorem dX9_findMakers_85 : decode cX9_findMakers 85 = .ok (.aload_n 0, 1) := by decide +kernel
theorem dX9_findMakers_86 : decode cX9_findMakers 86 = .ok (.getfield 13, 3) := by decide +kernel
theorem dX9_findMakers_89 : decode cX9_findMakers 89 = .ok (.iload_n 2, 1) := by decide +kernel
theorem dX9_findMakers_90 : decode cX9_findMakers 90 = .ok (.aaload, 1) := by decide +kernel
theorem dX9_findMakers_91 : decode cX9_findMakers 91 = .ok (.iload_n 2, 1) := by decide +kernel
theorem dX9_findMakers_92 : decode cX9_findMakers 92 = .ok (.iload_n 3, 1) := by decide +kernel
theorem dX9_findMakers_93 : decode cX9_findMakers 93 = .ok (.invokevirtual 52, 3) := by decide +kernel
theorem dX9_findMakers_96 : decode cX9_findMakers 96 = .ok (.ifCond .eq 7, 3) := by decide +kernel
theorem dX9_findMakers_99 : decode cX9_findMakers 99 = .ok (.aload_n 0, 1) := by decide +kernel
theorem dX9_findMakers_100 : decode cX9_findMakers 100 = .ok (.invokevirtual 68, 3) := by decide +kernel
theorem dX9_findMakers_103 : decode cX9_findMakers 103 = .ok (.iinc 3 1, 3) := by decide +kernel
theorem dX9_findMakers_106 : decode cX9_findMakers 106 = .ok (.goto (-48), 3) := by decide +kernel
theorem dX9_findMakers_109 : decode cX9_findMakers 109 = .ok (.aload_n 0, 1) := by decide +kernel
theorem dX9_findMakers_110 : decode cX9_findMakers 110 = .ok (.getfield 35, 3) := by decide +kernel
theorem dX9_findMakers_113 : decode cX9_findMakers 113 = .ok (.iload_n 2, 1) := by decide +kernel
theorem dX9_findMakers_114 : decode cX9_findMakers 114 = .ok (.aload_n 0, 1) := by decide +kernel
theorem dX9_findMakers_115 : decode cX9_findMakers 115 = .ok (.iload_n 2, 1) := by decide +kernel
theorem dX9_findMakers_116 : decode cX9_findMakers 116 = .ok (.invokevirtual 71, 3) := by decide +kernel
theorem dX9_findMakers_119 : decode cX9_findMakers 119 = .ok (.iastore, 1) := by decide +kernel
theorem dX9_findMakers_120 : decode cX9_findMakers 120 = .ok (.iinc 2 (-1), 3) := by decide +kernel
theorem dX9_findMakers_123 : decode cX9_findMakers 123 = .ok (.goto (-73), 3) := by decide +kernel
theorem dX9_findMakers_126 : decode cX9_findMakers 126 = .ok (.return_, 1) := by decide +kernel
def PJ_X9_findMakers_109 (d : Nat) (E : zb_E) (x0 : Int) (v2_50 : Int) (X50 : Int → zb_M → Prop) (Q : Int → zb_M → Prop) (m109j : zb_M) : Prop :=
  zb_Tp K_X9_countReached d [(2, x0), (0, v2_50)] E m109j (fun r116 => (0 ≤ v2_50 ∧ v2_50 < 12) ∧ (∀ m119, m119 = zb_up m109j (E.2 x0 8) v2_50 r116 → ((zb_inI (v2_50 + (-1))) ∧ (X50 (v2_50 + (-1)) m119))))
def PL_X9_findMakers_58 (d : Nat) (E : zb_E) (x0 : Int) (v2_50 : Int) (Q : Int → zb_M → Prop) (K109_58 : zb_M → Prop) (v3_58 : Int) (m58l : zb_M) : Prop :=
  ∀ X58 : Int → zb_M → Prop, (∀ (v3_58 : Int) (m58l : zb_M), ((zb_is E.1 (m58l x0 9) 6) ∧ (((m58l (m58l x0 9) 0) ≤ v3_58 → K109_58 m58l) ∧ (¬ (m58l (m58l x0 9) 0) ≤ v3_58 → (0 ≤ v3_58 ∧ v3_58 < 12) ∧ ((0 ≤ v2_50 ∧ v2_50 < 12) ∧ (((m58l (E.2 x0 7) v3_58) = (m58l (E.2 x0 7) v2_50) → (zb_inI (v3_58 + 1)) ∧ (X58 (v3_58 + 1) m58l)) ∧ (¬ (m58l (E.2 x0 7) v3_58) = (m58l (E.2 x0 7) v2_50) → (0 ≤ v2_50 ∧ v2_50 < 13) ∧ (zb_T K_X9_isLed d [(2, x0), (2, (E.2 (E.2 x0 1) v2_50)), (0, v2_50), (0, v3_58)] E m58l (fun r93 m93 => (r93 = 0 → (zb_inI (v3_58 + 1)) ∧ (X58 (v3_58 + 1) m93)) ∧ (¬ r93 = 0 → zb_T K_X9_addMaker d [(2, x0)] E m93 (fun r100 m100 => (zb_inI (v3_58 + 1)) ∧ (X58 (v3_58 + 1) m100))))))))))) → X58 v3_58 m58l) → X58 v3_58 m58l
def PL_X9_findMakers_50 (d : Nat) (E : zb_E) (x0 : Int) (Q : Int → zb_M → Prop)  (v2_50 : Int) (m50l : zb_M) : Prop :=
  ∀ X50 : Int → zb_M → Prop, (∀ (v2_50 : Int) (m50l : zb_M), ((v2_50 < 0 → Q 0 m50l) ∧ (¬ v2_50 < 0 → (zb_inI (v2_50 + 1)) ∧ (PL_X9_findMakers_58 d E x0 v2_50 Q (PJ_X9_findMakers_109 d E x0 v2_50 X50 Q) (v2_50 + 1) m50l))) → X50 v2_50 m50l) → X50 v2_50 m50l
def PJ_X9_findMakers_40 (d : Nat) (E : zb_E) (x0 : Int) (Q : Int → zb_M → Prop) (m40j : zb_M) : Prop :=
  (zb_is E.1 (m40j x0 9) 6) ∧ ((zb_inI ((m40j (m40j x0 9) 0) - 1)) ∧ (PL_X9_findMakers_50 d E x0 Q ((m40j (m40j x0 9) 0) - 1) m40j))
def PL_X9_findMakers_16 (d : Nat) (E : zb_E) (x0 : Int) (Q : Int → zb_M → Prop) (K40_16 : zb_M → Prop) (v2_16 : Int) (m16l : zb_M) : Prop :=
  ∀ X16 : Int → zb_M → Prop, (∀ (v2_16 : Int) (m16l : zb_M), ((zb_is E.1 (m16l x0 9) 6) ∧ (((m16l (m16l x0 9) 0) ≤ v2_16 → K40_16 m16l) ∧ (¬ (m16l (m16l x0 9) 0) ≤ v2_16 → (0 ≤ v2_16 ∧ v2_16 < 12) ∧ (∀ m33, m33 = zb_up m16l (E.2 x0 7) v2_16 v2_16 → ((zb_inI (v2_16 + 1)) ∧ (X16 (v2_16 + 1) m33)))))) → X16 v2_16 m16l) → X16 v2_16 m16l
def PM_X9_findMakers (d : Nat) (E : zb_E) (x0 : Int) (x1 : Int) (m : zb_M) (Q : Int → zb_M → Prop) : Prop :=
  ∀ m2, m2 = zb_up m x0 9 x1 → (zb_T K_X9_markAhead d [(2, x0)] E m2 (fun r6 m6 => ∀ m11, m11 = zb_up m6 x0 6 0 → (PL_X9_findMakers_16 d E x0 Q (PJ_X9_findMakers_40 d E x0 Q) 0 m11)))
set_option maxRecDepth 100000 in
set_option maxHeartbeats 4000000 in
theorem w_X9_findMakers {d : Nat} {E : zb_E} {x0 x1 : Int} {m : zb_M} {Q : Int → zb_M → Prop} (h : PM_X9_findMakers d E x0 x1 m Q) : zb_T K_X9_findMakers (d + 1) [(2, x0), (2, x1)] E m Q := by
  unfold PM_X9_findMakers at h
  refine zb_T_in gd_X9_findMakers rfl rfl (fun hW hA G C hF => ?_)
  have i_0 : zb_is E.1 x0 9 := zb_aH hA (by decide)
  have i_1 : zb_is E.1 x1 6 := zb_aH (zb_aT hA) (by decide)
  show zb_WP _ _ 0 [(0, (2, x0)), (1, (2, x1))] [] _ _ _ _
  refine zb_aload_n (j := 0) dX9_findMakers_0 rfl rfl ?_
  refine zb_aload_n (j := 1) dX9_findMakers_1 rfl rfl ?_
  refine zb_pF 9 dX9_findMakers_2 fl_X9_42 rfl rfl i_0 (Or.inr (Or.inr rfl)) hF rfl rfl (fun m2 e2 hF => ?_)
  have h := h m2 e2
  refine zb_aload_n (j := 0) dX9_findMakers_5 rfl rfl ?_
  refine zb_cV (As := []) (As' := []) (st := []) dX9_findMakers_6 lk_X9_56 gd_X9_markAhead rfl rfl i_0 ⟨_, rfl, rfl⟩ h hW hF (zb_aR i_0 zb_a0) (Nat.le_refl _) (Nat.le_of_ble_eq_true rfl) (fun r6 m6 hF h => ?_)
  show zb_WP _ _ _ _ [] _ _ _ _
  refine zb_aload_n (j := 0) dX9_findMakers_9 rfl rfl ?_
  refine zb_iconst dX9_findMakers_10 (zb_inIc rfl) ?_
  refine zb_pF 6 dX9_findMakers_11 fl_X9_59 rfl rfl i_0 (Or.inl rfl) hF rfl rfl (fun m11 e11 hF => ?_)
  have h := h m11 e11
  refine zb_iconst dX9_findMakers_14 (zb_inIc rfl) ?_
  refine zb_istore_n (L' := [(2, (0, 0)), (0, (2, x0)), (1, (2, x1))]) dX9_findMakers_15 rfl (by decide) rfl ?_
  refine zb_sub (L' := [(0, (2, x0)), (2, (0, 0))]) [1, 0] rfl ?_
  have hJ40 : ∀ (m40j : zb_M), zb_FIN E m40j → PJ_X9_findMakers_40 d E x0 Q m40j → zb_WP (G, C, d + 1, 0, 0, zb_q E Q) F_X9_findMakers 40 [(0, (2, x0))] [] E.1 m40j 0 0 := by
    intro m40j hF h
    unfold PJ_X9_findMakers_40 at h
    refine zb_aload_n (j := 0) dX9_findMakers_40 rfl rfl ?_
    obtain ⟨o1, h⟩ := h
    refine zb_gD 9 dX9_findMakers_41 fl_X9_42 i_0 rfl rfl o1 ?_
    refine zb_gI 0 dX9_findMakers_44 fl_X9_63 o1 rfl rfl ?_
    refine zb_iconst dX9_findMakers_47 (zb_inIc rfl) ?_
    obtain ⟨o2, h⟩ := h
    refine zb_isub dX9_findMakers_48 o2 ?_
    refine zb_istore_n (L' := [(2, (0, ((m40j (m40j x0 9) 0) - 1))), (0, (2, x0))]) dX9_findMakers_49 rfl (by decide) rfl ?_
    refine zb_sub (L' := [(0, (2, x0)), (2, (0, ((m40j (m40j x0 9) 0) - 1)))]) [1, 0] rfl ?_
    unfold PL_X9_findMakers_50 at h
    obtain ⟨X50, hX50⟩ : ∃ X : Int → zb_M → Prop, ∀ (v2_50 : Int) (m50l : zb_M), (X v2_50 m50l ↔ (zb_FIN E m50l → zb_WP (G, C, d + 1, 0, 0, zb_q E Q) F_X9_findMakers 50 [(0, (2, x0)), (2, (0, v2_50))] [] E.1 m50l 0 0)) := ⟨fun v2_50 m50l => zb_FIN E m50l → zb_WP (G, C, d + 1, 0, 0, zb_q E Q) F_X9_findMakers 50 [(0, (2, x0)), (2, (0, v2_50))] [] E.1 m50l 0 0, fun _ _ => Iff.rfl⟩
    refine (hX50 _ _).mp (h X50 (fun v2_50 m50l h => (hX50 _ _).mpr (fun hF => ?_))) hF
    refine zb_iload_n (j := 1) dX9_findMakers_50 rfl rfl ?_
    refine zb_if_lt (tgt := 126) dX9_findMakers_51 (by decide) (fun c3 => ?_) (fun c3 => ?_)
    · have h := h.1 c3
      exact zb_rV dX9_findMakers_126 rfl hF h
    · have h := h.2 c3
      refine zb_iload_n (j := 1) dX9_findMakers_54 rfl rfl ?_
      refine zb_iconst dX9_findMakers_55 (zb_inIc rfl) ?_
      obtain ⟨o4, h⟩ := h
      refine zb_iadd dX9_findMakers_56 o4 ?_
      refine zb_istore_n (L' := [(3, (0, (v2_50 + 1))), (0, (2, x0)), (2, (0, v2_50))]) dX9_findMakers_57 rfl (by decide) rfl ?_
      refine zb_sub (L' := [(0, (2, x0)), (2, (0, v2_50)), (3, (0, (v2_50 + 1)))]) [1, 2, 0] rfl ?_
      have hJ109 : ∀ (m109j : zb_M), zb_FIN E m109j → PJ_X9_findMakers_109 d E x0 v2_50 X50 Q m109j → zb_WP (G, C, d + 1, 0, 0, zb_q E Q) F_X9_findMakers 109 [(0, (2, x0)), (2, (0, v2_50))] [] E.1 m109j 0 0 := by
        intro m109j hF h
        unfold PJ_X9_findMakers_109 at h
        refine zb_aload_n (j := 0) dX9_findMakers_109 rfl rfl ?_
        refine zb_gFa 8 dX9_findMakers_110 fl_X9_35 i_0 hW hF rfl rfl rfl (by decide) rfl 12 rfl (fun i5 l6 => ?_)
        refine zb_iload_n (j := 1) dX9_findMakers_113 rfl rfl ?_
        refine zb_aload_n (j := 0) dX9_findMakers_114 rfl rfl ?_
        refine zb_iload_n (j := 1) dX9_findMakers_115 rfl rfl ?_
        refine zb_cVp (As := [(0, v2_50)]) (As' := [(0, v2_50)]) (st := [(0, v2_50), (2, (E.2 x0 8))]) dX9_findMakers_116 lk_X9_71 gd_X9_countReached rfl rfl i_0 ⟨_, rfl, rfl⟩ h hW hF (zb_aR i_0 (zb_aI zb_a0)) (Nat.le_refl _) (Nat.le_of_ble_eq_true rfl) (fun r116 h => ?_)
        show zb_WP _ _ _ _ [(0, r116), (0, v2_50), (2, (E.2 x0 8))] _ _ _ _
        obtain ⟨o7, h⟩ := h
        refine zb_sI dX9_findMakers_119 i5 l6 o7.1 o7.2 hF (fun m119 e119 hF => ?_)
        have h := h m119 e119
        obtain ⟨o8, h⟩ := h
        refine zb_iinc (j := 1) (L' := [(2, (0, (v2_50 + (-1)))), (0, (2, x0))]) dX9_findMakers_120 rfl o8 (by decide) rfl ?_
        refine zb_goto (tgt := 50) dX9_findMakers_123 (by decide) ?_
        refine zb_sub (L' := [(0, (2, x0)), (2, (0, (v2_50 + (-1))))]) [1, 0] rfl ?_
        exact (hX50 _ _).mp h hF
      unfold PL_X9_findMakers_58 at h
      obtain ⟨X58, hX58⟩ : ∃ X : Int → zb_M → Prop, ∀ (v3_58 : Int) (m58l : zb_M), (X v3_58 m58l ↔ (zb_FIN E m58l → zb_WP (G, C, d + 1, 0, 0, zb_q E Q) F_X9_findMakers 58 [(0, (2, x0)), (2, (0, v2_50)), (3, (0, v3_58))] [] E.1 m58l 0 0)) := ⟨fun v3_58 m58l => zb_FIN E m58l → zb_WP (G, C, d + 1, 0, 0, zb_q E Q) F_X9_findMakers 58 [(0, (2, x0)), (2, (0, v2_50)), (3, (0, v3_58))] [] E.1 m58l 0 0, fun _ _ => Iff.rfl⟩
      refine (hX58 _ _).mp (h X58 (fun v3_58 m58l h => (hX58 _ _).mpr (fun hF => ?_))) hF
      refine zb_iload_n (j := 2) dX9_findMakers_58 rfl rfl ?_
      refine zb_aload_n (j := 0) dX9_findMakers_59 rfl rfl ?_
      obtain ⟨o9, h⟩ := h
      refine zb_gD 9 dX9_findMakers_60 fl_X9_42 i_0 rfl rfl o9 ?_
      refine zb_gI 0 dX9_findMakers_63 fl_X9_63 o9 rfl rfl ?_
      refine zb_icmp_ge (tgt := 109) dX9_findMakers_66 (by decide) (fun c10 => ?_) (fun c10 => ?_)
      · have h := h.1 c10
        refine zb_sub (L' := [(0, (2, x0)), (2, (0, v2_50))]) [0, 1] rfl ?_
        exact hJ109 _ hF h
      · have h := h.2 c10
        refine zb_aload_n (j := 0) dX9_findMakers_69 rfl rfl ?_
        refine zb_gFa 7 dX9_findMakers_70 fl_X9_32 i_0 hW hF rfl rfl rfl (by decide) rfl 12 rfl (fun i11 l12 => ?_)
        refine zb_iload_n (j := 2) dX9_findMakers_73 rfl rfl ?_
        obtain ⟨o13, h⟩ := h
        refine zb_lI dX9_findMakers_74 i11 l12 o13.1 o13.2 ?_
        refine zb_aload_n (j := 0) dX9_findMakers_75 rfl rfl ?_
        refine zb_gFa 7 dX9_findMakers_76 fl_X9_32 i_0 hW hF rfl rfl rfl (by decide) rfl 12 rfl (fun i14 l15 => ?_)
        refine zb_iload_n (j := 1) dX9_findMakers_79 rfl rfl ?_
        obtain ⟨o16, h⟩ := h
        refine zb_lI dX9_findMakers_80 i14 l15 o16.1 o16.2 ?_
        refine zb_icmp_eq (tgt := 103) dX9_findMakers_81 (by decide) (fun c17 => ?_) (fun c17 => ?_)
        · have h := h.1 c17
          obtain ⟨o18, h⟩ := h
          refine zb_iinc (j := 2) (L' := [(3, (0, (v3_58 + 1))), (0, (2, x0)), (2, (0, v2_50))]) dX9_findMakers_103 rfl o18 (by decide) rfl ?_
          refine zb_goto (tgt := 58) dX9_findMakers_106 (by decide) ?_
          refine zb_sub (L' := [(0, (2, x0)), (2, (0, v2_50)), (3, (0, (v3_58 + 1)))]) [1, 2, 0] rfl ?_
          exact (hX58 _ _).mp h hF
        · have h := h.2 c17
          refine zb_aload_n (j := 0) dX9_findMakers_84 rfl rfl ?_
          refine zb_aload_n (j := 0) dX9_findMakers_85 rfl rfl ?_
          refine zb_gFa 1 dX9_findMakers_86 fl_X9_13 i_0 hW hF rfl rfl rfl (by decide) rfl 13 rfl (fun i19 l20 => ?_)
          refine zb_iload_n (j := 1) dX9_findMakers_89 rfl rfl ?_
          obtain ⟨o21, h⟩ := h
          refine zb_lA 4 dX9_findMakers_90 i19 (by decide) l20 hW hF o21.1 o21.2 (fun i22 => ?_)
          refine zb_iload_n (j := 1) dX9_findMakers_91 rfl rfl ?_
          refine zb_iload_n (j := 2) dX9_findMakers_92 rfl rfl ?_
          refine zb_cV (As := [(2, (E.2 (E.2 x0 1) v2_50)), (0, v2_50), (0, v3_58)]) (As' := [(0, v3_58), (0, v2_50), (2, (E.2 (E.2 x0 1) v2_50))]) (st := []) dX9_findMakers_93 lk_X9_52 gd_X9_isLed rfl rfl i_0 ⟨_, rfl, rfl⟩ h hW hF (zb_aR i_0 (zb_aR i22 (zb_aI (zb_aI zb_a0)))) (Nat.le_refl _) (Nat.le_of_ble_eq_true rfl) (fun r93 m93 hF h => ?_)
          show zb_WP _ _ _ _ [(0, r93)] _ _ _ _
          refine zb_if_eq (tgt := 103) dX9_findMakers_96 (by decide) (fun c23 => ?_) (fun c23 => ?_)
          · have h := h.1 c23
            obtain ⟨o24, h⟩ := h
            refine zb_iinc (j := 2) (L' := [(3, (0, (v3_58 + 1))), (0, (2, x0)), (2, (0, v2_50))]) dX9_findMakers_103 rfl o24 (by decide) rfl ?_
            refine zb_goto (tgt := 58) dX9_findMakers_106 (by decide) ?_
            refine zb_sub (L' := [(0, (2, x0)), (2, (0, v2_50)), (3, (0, (v3_58 + 1)))]) [1, 2, 0] rfl ?_
            exact (hX58 _ _).mp h hF
          · have h := h.2 c23
            refine zb_aload_n (j := 0) dX9_findMakers_99 rfl rfl ?_
            refine zb_cV (As := []) (As' := []) (st := []) dX9_findMakers_100 lk_X9_68 gd_X9_addMaker rfl rfl i_0 ⟨_, rfl, rfl⟩ h hW hF (zb_aR i_0 zb_a0) (Nat.le_refl _) (Nat.le_of_ble_eq_true rfl) (fun r100 m100 hF h => ?_)
            show zb_WP _ _ _ _ [] _ _ _ _
            obtain ⟨o25, h⟩ := h
            refine zb_iinc (j := 2) (L' := [(3, (0, (v3_58 + 1))), (0, (2, x0)), (2, (0, v2_50))]) dX9_findMakers_103 rfl o25 (by decide) rfl ?_
            refine zb_goto (tgt := 58) dX9_findMakers_106 (by decide) ?_
            refine zb_sub (L' := [(0, (2, x0)), (2, (0, v2_50)), (3, (0, (v3_58 + 1)))]) [1, 2, 0] rfl ?_
            exact (hX58 _ _).mp h hF
  unfold PL_X9_findMakers_16 at h
  obtain ⟨X16, hX16⟩ : ∃ X : Int → zb_M → Prop, ∀ (v2_16 : Int) (m16l : zb_M), (X v2_16 m16l ↔ (zb_FIN E m16l → zb_WP (G, C, d + 1, 0, 0, zb_q E Q) F_X9_findMakers 16 [(0, (2, x0)), (2, (0, v2_16))] [] E.1 m16l 0 0)) := ⟨fun v2_16 m16l => zb_FIN E m16l → zb_WP (G, C, d + 1, 0, 0, zb_q E Q) F_X9_findMakers 16 [(0, (2, x0)), (2, (0, v2_16))] [] E.1 m16l 0 0, fun _ _ => Iff.rfl⟩
  refine (hX16 _ _).mp (h X16 (fun v2_16 m16l h => (hX16 _ _).mpr (fun hF => ?_))) hF
  refine zb_iload_n (j := 1) dX9_findMakers_16 rfl rfl ?_
  refine zb_aload_n (j := 0) dX9_findMakers_17 rfl rfl ?_
  obtain ⟨o26, h⟩ := h
  refine zb_gD 9 dX9_findMakers_18 fl_X9_42 i_0 rfl rfl o26 ?_
  refine zb_gI 0 dX9_findMakers_21 fl_X9_63 o26 rfl rfl ?_
  refine zb_icmp_ge (tgt := 40) dX9_findMakers_24 (by decide) (fun c27 => ?_) (fun c27 => ?_)
  · have h := h.1 c27
    refine zb_sub (L' := [(0, (2, x0))]) [0] rfl ?_
    exact hJ40 _ hF h
  · have h := h.2 c27
    refine zb_aload_n (j := 0) dX9_findMakers_27 rfl rfl ?_
    refine zb_gFa 7 dX9_findMakers_28 fl_X9_32 i_0 hW hF rfl rfl rfl (by decide) rfl 12 rfl (fun i28 l29 => ?_)
    refine zb_iload_n (j := 1) dX9_findMakers_31 rfl rfl ?_
    refine zb_iload_n (j := 1) dX9_findMakers_32 rfl rfl ?_
    obtain ⟨o30, h⟩ := h
    refine zb_sI dX9_findMakers_33 i28 l29 o30.1 o30.2 hF (fun m33 e33 hF => ?_)
    have h := h m33 e33
    obtain ⟨o31, h⟩ := h
    refine zb_iinc (j := 1) (L' := [(2, (0, (v2_16 + 1))), (0, (2, x0))]) dX9_findMakers_34 rfl o31 (by decide) rfl ?_
    refine zb_goto (tgt := 16) dX9_findMakers_37 (by decide) ?_
    refine zb_sub (L' := [(0, (2, x0)), (2, (0, (v2_16 + 1)))]) [1, 0] rfl ?_
    exact (hX16 _ _).mp h hF
theorem dX9_markAhead_0 : decode cX9_markAhead 0 = .ok (.aload_n 0, 1) := by decide +kernel
theorem dX9_markAhead_1 : decode cX9_markAhead 1 = .ok (.getfield 38, 3) := by decide +kernel
theorem dX9_markAhead_4 : decode cX9_markAhead 4 = .ok (.aload_n 0, 1) := by decide +kernel
theorem dX9_markAhead_5 : decode cX9_markAhead 5 = .ok (.getfield 13, 3) := by decide +kernel
theorem dX9_markAhead_8 : decode cX9_markAhead 8 = .ok (.iconst 0, 1) := by decide +kernel
theorem dX9_markAhead_9 : decode cX9_markAhead 9 = .ok (.aaload, 1) := by decide +kernel
theorem dX9_markAhead_10 : decode cX9_markAhead 10 = .ok (.aload_n 0, 1) := by decide +kernel
theorem dX9_markAhead_11 : decode cX9_markAhead 11 = .ok (.getfield 42, 3) := by decide +kernel
theorem dX9_markAhead_14 : decode cX9_markAhead 14 = .ok (.invokevirtual 46, 3) := by decide +kernel
theorem dX9_markAhead_17 : decode cX9_markAhead 17 = .ok (.iconst 0, 1) := by decide +kernel
theorem dX9_markAhead_18 : decode cX9_markAhead 18 = .ok (.istore_n 1, 1) := by decide +kernel
theorem dX9_markAhead_19 : decode cX9_markAhead 19 = .ok (.iload_n 1, 1) := by decide +kernel
theorem dX9_markAhead_20 : decode cX9_markAhead 20 = .ok (.aload_n 0, 1) := by decide +kernel
theorem dX9_markAhead_21 : decode cX9_markAhead 21 = .ok (.getfield 42, 3) := by decide +kernel
theorem dX9_markAhead_24 : decode cX9_markAhead 24 = .ok (.getfield 63, 3) := by decide +kernel
theorem dX9_markAhead_27 : decode cX9_markAhead 27 = .ok (.if_icmp .ge 57, 3) := by decide +kernel
theorem dX9_markAhead_30 : decode cX9_markAhead 30 = .ok (.aload_n 0, 1) := by decide +kernel
theorem dX9_markAhead_31 : decode cX9_markAhead 31 = .ok (.getfield 13, 3) := by decide +kernel
theorem dX9_markAhead_34 : decode cX9_markAhead 34 = .ok (.iload_n 1, 1) := by decide +kernel
theorem dX9_markAhead_35 : decode cX9_markAhead 35 = .ok (.iconst 1, 1) := by decide +kernel
theorem dX9_markAhead_36 : decode cX9_markAhead 36 = .ok (.iadd, 1) := by decide +kernel
theorem dX9_markAhead_37 : decode cX9_markAhead 37 = .ok (.aaload, 1) := by decide +kernel
theorem dX9_markAhead_38 : decode cX9_markAhead 38 = .ok (.aload_n 0, 1) := by decide +kernel
theorem dX9_markAhead_39 : decode cX9_markAhead 39 = .ok (.getfield 13, 3) := by decide +kernel
theorem dX9_markAhead_42 : decode cX9_markAhead 42 = .ok (.iload_n 1, 1) := by decide +kernel
theorem dX9_markAhead_43 : decode cX9_markAhead 43 = .ok (.aaload, 1) := by decide +kernel
theorem dX9_markAhead_44 : decode cX9_markAhead 44 = .ok (.invokevirtual 75, 3) := by decide +kernel
theorem dX9_markAhead_47 : decode cX9_markAhead 47 = .ok (.aload_n 0, 1) := by decide +kernel
theorem dX9_markAhead_48 : decode cX9_markAhead 48 = .ok (.getfield 13, 3) := by decide +kernel
theorem dX9_markAhead_51 : decode cX9_markAhead 51 = .ok (.iload_n 1, 1) := by decide +kernel
theorem dX9_markAhead_52 : decode cX9_markAhead 52 = .ok (.iconst 1, 1) := by decide +kernel
theorem dX9_markAhead_53 : decode cX9_markAhead 53 = .ok (.iadd, 1) := by decide +kernel
theorem dX9_markAhead_54 : decode cX9_markAhead 54 = .ok (.aaload, 1) := by decide +kernel
theorem dX9_markAhead_55 : decode cX9_markAhead 55 = .ok (.iload_n 1, 1) := by decide +kernel
theorem dX9_markAhead_56 : decode cX9_markAhead 56 = .ok (.invokevirtual 81, 3) := by decide +kernel
theorem dX9_markAhead_59 : decode cX9_markAhead 59 = .ok (.aload_n 0, 1) := by decide +kernel
theorem dX9_markAhead_60 : decode cX9_markAhead 60 = .ok (.getfield 38, 3) := by decide +kernel
theorem dX9_markAhead_63 : decode cX9_markAhead 63 = .ok (.aload_n 0, 1) := by decide +kernel
theorem dX9_markAhead_64 : decode cX9_markAhead 64 = .ok (.getfield 13, 3) := by decide +kernel
theorem dX9_markAhead_67 : decode cX9_markAhead 67 = .ok (.iload_n 1, 1) := by decide +kernel
theorem dX9_markAhead_68 : decode cX9_markAhead 68 = .ok (.iconst 1, 1) := by decide +kernel
theorem dX9_markAhead_69 : decode cX9_markAhead 69 = .ok (.iadd, 1) := by decide +kernel
theorem dX9_markAhead_70 : decode cX9_markAhead 70 = .ok (.aaload, 1) := by decide +kernel
theorem dX9_markAhead_71 : decode cX9_markAhead 71 = .ok (.aload_n 0, 1) := by decide +kernel
theorem dX9_markAhead_72 : decode cX9_markAhead 72 = .ok (.getfield 42, 3) := by decide +kernel
theorem dX9_markAhead_75 : decode cX9_markAhead 75 = .ok (.invokevirtual 85, 3) := by decide +kernel
theorem dX9_markAhead_78 : decode cX9_markAhead 78 = .ok (.iinc 1 1, 3) := by decide +kernel
theorem dX9_markAhead_81 : decode cX9_markAhead 81 = .ok (.goto (-62), 3) := by decide +kernel
theorem dX9_markAhead_84 : decode cX9_markAhead 84 = .ok (.return_, 1) := by decide +kernel
def PL_X9_markAhead_19 (d : Nat) (E : zb_E) (x0 : Int) (Q : Int → zb_M → Prop)  (v1_19 : Int) (m19l : zb_M) : Prop :=
  ∀ X19 : Int → zb_M → Prop, (∀ (v1_19 : Int) (m19l : zb_M), ((zb_is E.1 (m19l x0 9) 6) ∧ (((m19l (m19l x0 9) 0) ≤ v1_19 → Q 0 m19l) ∧ (¬ (m19l (m19l x0 9) 0) ≤ v1_19 → (zb_inI (v1_19 + 1)) ∧ ((0 ≤ (v1_19 + 1) ∧ (v1_19 + 1) < 13) ∧ ((0 ≤ v1_19 ∧ v1_19 < 13) ∧ (zb_T K_X5_become d [(2, (E.2 (E.2 x0 1) (v1_19 + 1))), (2, (E.2 (E.2 x0 1) v1_19))] E m19l (fun r44 m44 => zb_T K_X5_setApart d [(2, (E.2 (E.2 x0 1) (v1_19 + 1))), (0, v1_19)] E m44 (fun r56 m56 => (zb_is E.1 (m56 x0 9) 6) ∧ (zb_T K_X7_settle d [(2, (E.2 x0 0)), (2, (E.2 (E.2 x0 1) (v1_19 + 1))), (2, (m56 x0 9))] E m56 (fun r75 m75 => X19 (v1_19 + 1) m75)))))))))) → X19 v1_19 m19l) → X19 v1_19 m19l
def PM_X9_markAhead (d : Nat) (E : zb_E) (x0 : Int) (m : zb_M) (Q : Int → zb_M → Prop) : Prop :=
  (zb_is E.1 (m x0 9) 6) ∧ (zb_T K_X7_begin d [(2, (E.2 x0 0)), (2, (E.2 (E.2 x0 1) 0)), (2, (m x0 9))] E m (fun r14 m14 => PL_X9_markAhead_19 d E x0 Q 0 m14))
set_option maxRecDepth 100000 in
set_option maxHeartbeats 4000000 in
theorem w_X9_markAhead {d : Nat} {E : zb_E} {x0 : Int} {m : zb_M} {Q : Int → zb_M → Prop} (h : PM_X9_markAhead d E x0 m Q) : zb_T K_X9_markAhead (d + 1) [(2, x0)] E m Q := by
  unfold PM_X9_markAhead at h
  refine zb_T_in gd_X9_markAhead rfl rfl (fun hW hA G C hF => ?_)
  have i_0 : zb_is E.1 x0 9 := zb_aH hA (by decide)
  show zb_WP _ _ 0 [(0, (2, x0))] [] _ _ _ _
  refine zb_aload_n (j := 0) dX9_markAhead_0 rfl rfl ?_
  refine zb_gFo 0 dX9_markAhead_1 fl_X9_38 i_0 hW hF rfl rfl rfl rfl (fun i1 => ?_)
  refine zb_aload_n (j := 0) dX9_markAhead_4 rfl rfl ?_
  refine zb_gFa 1 dX9_markAhead_5 fl_X9_13 i_0 hW hF rfl rfl rfl (by decide) rfl 13 rfl (fun i2 l3 => ?_)
  refine zb_iconst dX9_markAhead_8 (zb_inIc rfl) ?_
  refine zb_lA 4 dX9_markAhead_9 i2 (by decide) l3 hW hF (by decide) (by decide) (fun i4 => ?_)
  refine zb_aload_n (j := 0) dX9_markAhead_10 rfl rfl ?_
  obtain ⟨o5, h⟩ := h
  refine zb_gD 9 dX9_markAhead_11 fl_X9_42 i_0 rfl rfl o5 ?_
  refine zb_cV (As := [(2, (E.2 (E.2 x0 1) 0)), (2, (m x0 9))]) (As' := [(2, (m x0 9)), (2, (E.2 (E.2 x0 1) 0))]) (st := []) dX9_markAhead_14 lk_X9_46 gd_X7_begin rfl rfl i1 ⟨_, rfl, rfl⟩ h hW hF (zb_aR i1 (zb_aR i4 (zb_aR o5 zb_a0))) (Nat.le_refl _) (Nat.le_of_ble_eq_true rfl) (fun r14 m14 hF h => ?_)
  show zb_WP _ _ _ _ [] _ _ _ _
  refine zb_iconst dX9_markAhead_17 (zb_inIc rfl) ?_
  refine zb_istore_n (L' := [(1, (0, 0)), (0, (2, x0))]) dX9_markAhead_18 rfl (by decide) rfl ?_
  refine zb_sub (L' := [(0, (2, x0)), (1, (0, 0))]) [1, 0] rfl ?_
  unfold PL_X9_markAhead_19 at h
  obtain ⟨X19, hX19⟩ : ∃ X : Int → zb_M → Prop, ∀ (v1_19 : Int) (m19l : zb_M), (X v1_19 m19l ↔ (zb_FIN E m19l → zb_WP (G, C, d + 1, 0, 0, zb_q E Q) F_X9_markAhead 19 [(0, (2, x0)), (1, (0, v1_19))] [] E.1 m19l 0 0)) := ⟨fun v1_19 m19l => zb_FIN E m19l → zb_WP (G, C, d + 1, 0, 0, zb_q E Q) F_X9_markAhead 19 [(0, (2, x0)), (1, (0, v1_19))] [] E.1 m19l 0 0, fun _ _ => Iff.rfl⟩
  refine (hX19 _ _).mp (h X19 (fun v1_19 m19l h => (hX19 _ _).mpr (fun hF => ?_))) hF
  refine zb_iload_n (j := 1) dX9_markAhead_19 rfl rfl ?_
  refine zb_aload_n (j := 0) dX9_markAhead_20 rfl rfl ?_
  obtain ⟨o6, h⟩ := h
  refine zb_gD 9 dX9_markAhead_21 fl_X9_42 i_0 rfl rfl o6 ?_
  refine zb_gI 0 dX9_markAhead_24 fl_X9_63 o6 rfl rfl ?_
  refine zb_icmp_ge (tgt := 84) dX9_markAhead_27 (by decide) (fun c7 => ?_) (fun c7 => ?_)
  · have h := h.1 c7
    exact zb_rV dX9_markAhead_84 rfl hF h
  · have h := h.2 c7
    refine zb_aload_n (j := 0) dX9_markAhead_30 rfl rfl ?_
    refine zb_gFa 1 dX9_markAhead_31 fl_X9_13 i_0 hW hF rfl rfl rfl (by decide) rfl 13 rfl (fun i8 l9 => ?_)
    refine zb_iload_n (j := 1) dX9_markAhead_34 rfl rfl ?_
    refine zb_iconst dX9_markAhead_35 (zb_inIc rfl) ?_
    obtain ⟨o10, h⟩ := h
    refine zb_iadd dX9_markAhead_36 o10 ?_
    obtain ⟨o11, h⟩ := h
    refine zb_lA 4 dX9_markAhead_37 i8 (by decide) l9 hW hF o11.1 o11.2 (fun i12 => ?_)
    refine zb_aload_n (j := 0) dX9_markAhead_38 rfl rfl ?_
    refine zb_gFa 1 dX9_markAhead_39 fl_X9_13 i_0 hW hF rfl rfl rfl (by decide) rfl 13 rfl (fun i13 l14 => ?_)
    refine zb_iload_n (j := 1) dX9_markAhead_42 rfl rfl ?_
    obtain ⟨o15, h⟩ := h
    refine zb_lA 4 dX9_markAhead_43 i13 (by decide) l14 hW hF o15.1 o15.2 (fun i16 => ?_)
    refine zb_cV (As := [(2, (E.2 (E.2 x0 1) v1_19))]) (As' := [(2, (E.2 (E.2 x0 1) v1_19))]) (st := []) dX9_markAhead_44 lk_X9_75 gd_X5_become rfl rfl i12 ⟨_, rfl, rfl⟩ h hW hF (zb_aR i12 (zb_aR i16 zb_a0)) (Nat.le_refl _) (Nat.le_of_ble_eq_true rfl) (fun r44 m44 hF h => ?_)
    show zb_WP _ _ _ _ [] _ _ _ _
    refine zb_aload_n (j := 0) dX9_markAhead_47 rfl rfl ?_
    refine zb_gFa 1 dX9_markAhead_48 fl_X9_13 i_0 hW hF rfl rfl rfl (by decide) rfl 13 rfl (fun i17 l18 => ?_)
    refine zb_iload_n (j := 1) dX9_markAhead_51 rfl rfl ?_
    refine zb_iconst dX9_markAhead_52 (zb_inIc rfl) ?_
    refine zb_iadd dX9_markAhead_53 o10 ?_
    refine zb_lA 4 dX9_markAhead_54 i17 (by decide) l18 hW hF o11.1 o11.2 (fun i19 => ?_)
    refine zb_iload_n (j := 1) dX9_markAhead_55 rfl rfl ?_
    refine zb_cV (As := [(0, v1_19)]) (As' := [(0, v1_19)]) (st := []) dX9_markAhead_56 lk_X9_81 gd_X5_setApart rfl rfl i19 ⟨_, rfl, rfl⟩ h hW hF (zb_aR i19 (zb_aI zb_a0)) (Nat.le_refl _) (Nat.le_of_ble_eq_true rfl) (fun r56 m56 hF h => ?_)
    show zb_WP _ _ _ _ [] _ _ _ _
    refine zb_aload_n (j := 0) dX9_markAhead_59 rfl rfl ?_
    refine zb_gFo 0 dX9_markAhead_60 fl_X9_38 i_0 hW hF rfl rfl rfl rfl (fun i20 => ?_)
    refine zb_aload_n (j := 0) dX9_markAhead_63 rfl rfl ?_
    refine zb_gFa 1 dX9_markAhead_64 fl_X9_13 i_0 hW hF rfl rfl rfl (by decide) rfl 13 rfl (fun i21 l22 => ?_)
    refine zb_iload_n (j := 1) dX9_markAhead_67 rfl rfl ?_
    refine zb_iconst dX9_markAhead_68 (zb_inIc rfl) ?_
    refine zb_iadd dX9_markAhead_69 o10 ?_
    refine zb_lA 4 dX9_markAhead_70 i21 (by decide) l22 hW hF o11.1 o11.2 (fun i23 => ?_)
    refine zb_aload_n (j := 0) dX9_markAhead_71 rfl rfl ?_
    obtain ⟨o24, h⟩ := h
    refine zb_gD 9 dX9_markAhead_72 fl_X9_42 i_0 rfl rfl o24 ?_
    refine zb_cV (As := [(2, (E.2 (E.2 x0 1) (v1_19 + 1))), (2, (m56 x0 9))]) (As' := [(2, (m56 x0 9)), (2, (E.2 (E.2 x0 1) (v1_19 + 1)))]) (st := []) dX9_markAhead_75 lk_X9_85 gd_X7_settle rfl rfl i20 ⟨_, rfl, rfl⟩ h hW hF (zb_aR i20 (zb_aR i23 (zb_aR o24 zb_a0))) (Nat.le_refl _) (Nat.le_of_ble_eq_true rfl) (fun r75 m75 hF h => ?_)
    show zb_WP _ _ _ _ [] _ _ _ _
    refine zb_iinc (j := 1) (L' := [(1, (0, (v1_19 + 1))), (0, (2, x0))]) dX9_markAhead_78 rfl o10 (by decide) rfl ?_
    refine zb_goto (tgt := 19) dX9_markAhead_81 (by decide) ?_
    refine zb_sub (L' := [(0, (2, x0)), (1, (0, (v1_19 + 1)))]) [1, 0] rfl ?_
    exact (hX19 _ _).mp h hF
theorem dX9_addMaker_0 : decode cX9_addMaker 0 = .ok (.aload_n 0, 1) := by decide +kernel
theorem dX9_addMaker_1 : decode cX9_addMaker 1 = .ok (.getfield 59, 3) := by decide +kernel
theorem dX9_addMaker_4 : decode cX9_addMaker 4 = .ok (.bipush 12, 2) := by decide +kernel
theorem dX9_addMaker_6 : decode cX9_addMaker 6 = .ok (.if_icmp .lt 4, 3) := by decide +kernel
theorem dX9_addMaker_9 : decode cX9_addMaker 9 = .ok (.return_, 1) := by decide +kernel
theorem dX9_addMaker_10 : decode cX9_addMaker 10 = .ok (.aload_n 0, 1) := by decide +kernel
theorem dX9_addMaker_11 : decode cX9_addMaker 11 = .ok (.getfield 25, 3) := by decide +kernel
theorem dX9_addMaker_14 : decode cX9_addMaker 14 = .ok (.iconst 0, 1) := by decide +kernel
theorem dX9_addMaker_15 : decode cX9_addMaker 15 = .ok (.aload_n 0, 1) := by decide +kernel
theorem dX9_addMaker_16 : decode cX9_addMaker 16 = .ok (.getfield 29, 3) := by decide +kernel
theorem dX9_addMaker_19 : decode cX9_addMaker 19 = .ok (.aload_n 0, 1) := by decide +kernel
theorem dX9_addMaker_20 : decode cX9_addMaker 20 = .ok (.getfield 59, 3) := by decide +kernel
theorem dX9_addMaker_23 : decode cX9_addMaker 23 = .ok (.bipush 12, 2) := by decide +kernel
theorem dX9_addMaker_25 : decode cX9_addMaker 25 = .ok (.imul, 1) := by decide +kernel
theorem dX9_addMaker_26 : decode cX9_addMaker 26 = .ok (.bipush 12, 2) := by decide +kernel
theorem dX9_addMaker_28 : decode cX9_addMaker 28 = .ok (.invokestatic 88, 3) := by decide +kernel
theorem dX9_addMaker_31 : decode cX9_addMaker 31 = .ok (.aload_n 0, 1) := by decide +kernel
theorem dX9_addMaker_32 : decode cX9_addMaker 32 = .ok (.dup, 1) := by decide +kernel
theorem dX9_addMaker_33 : decode cX9_addMaker 33 = .ok (.getfield 59, 3) := by decide +kernel
theorem dX9_addMaker_36 : decode cX9_addMaker 36 = .ok (.iconst 1, 1) := by decide +kernel
theorem dX9_addMaker_37 : decode cX9_addMaker 37 = .ok (.iadd, 1) := by decide +kernel
theorem dX9_addMaker_38 : decode cX9_addMaker 38 = .ok (.putfield 59, 3) := by decide +kernel
theorem dX9_addMaker_41 : decode cX9_addMaker 41 = .ok (.iconst 0, 1) := by decide +kernel
theorem dX9_addMaker_42 : decode cX9_addMaker 42 = .ok (.istore_n 1, 1) := by decide +kernel
theorem dX9_addMaker_43 : decode cX9_addMaker 43 = .ok (.iload_n 1, 1) := by decide +kernel
theorem dX9_addMaker_44 : decode cX9_addMaker 44 = .ok (.aload_n 0, 1) := by decide +kernel
theorem dX9_addMaker_45 : decode cX9_addMaker 45 = .ok (.getfield 42, 3) := by decide +kernel
theorem dX9_addMaker_48 : decode cX9_addMaker 48 = .ok (.getfield 63, 3) := by decide +kernel
theorem dX9_addMaker_51 : decode cX9_addMaker 51 = .ok (.if_icmp .ge 30, 3) := by decide +kernel
theorem dX9_addMaker_54 : decode cX9_addMaker 54 = .ok (.aload_n 0, 1) := by decide +kernel
theorem dX9_addMaker_55 : decode cX9_addMaker 55 = .ok (.aload_n 0, 1) := by decide +kernel
theorem dX9_addMaker_56 : decode cX9_addMaker 56 = .ok (.getfield 32, 3) := by decide +kernel
theorem dX9_addMaker_59 : decode cX9_addMaker 59 = .ok (.iload_n 1, 1) := by decide +kernel
theorem dX9_addMaker_60 : decode cX9_addMaker 60 = .ok (.iaload, 1) := by decide +kernel
theorem dX9_addMaker_61 : decode cX9_addMaker 61 = .ok (.aload_n 0, 1) := by decide +kernel
theorem dX9_addMaker_62 : decode cX9_addMaker 62 = .ok (.getfield 32, 3) := by decide +kernel
theorem dX9_addMaker_65 : decode cX9_addMaker 65 = .ok (.aload_n 0, 1) := by decide +kernel
theorem dX9_addMaker_66 : decode cX9_addMaker 66 = .ok (.getfield 25, 3) := by decide +kernel
theorem dX9_addMaker_69 : decode cX9_addMaker 69 = .ok (.iload_n 1, 1) := by decide +kernel
theorem dX9_addMaker_70 : decode cX9_addMaker 70 = .ok (.iaload, 1) := by decide +kernel
theorem dX9_addMaker_71 : decode cX9_addMaker 71 = .ok (.iaload, 1) := by decide +kernel
theorem dX9_addMaker_72 : decode cX9_addMaker 72 = .ok (.invokevirtual 94, 3) := by decide +kernel
theorem dX9_addMaker_75 : decode cX9_addMaker 75 = .ok (.iinc 1 1, 3) := by decide +kernel
theorem dX9_addMaker_78 : decode cX9_addMaker 78 = .ok (.goto (-35), 3) := by decide +kernel
theorem dX9_addMaker_81 : decode cX9_addMaker 81 = .ok (.return_, 1) := by decide +kernel
def PL_X9_addMaker_43 (d : Nat) (E : zb_E) (x0 : Int) (Q : Int → zb_M → Prop)  (v1_43 : Int) (m43l : zb_M) : Prop :=
  ∀ X43 : Int → zb_M → Prop, (∀ (v1_43 : Int) (m43l : zb_M), ((zb_is E.1 (m43l x0 9) 6) ∧ (((m43l (m43l x0 9) 0) ≤ v1_43 → Q 0 m43l) ∧ (¬ (m43l (m43l x0 9) 0) ≤ v1_43 → (0 ≤ v1_43 ∧ v1_43 < 12) ∧ ((0 ≤ (m43l (E.2 x0 4) v1_43) ∧ (m43l (E.2 x0 4) v1_43) < 12) ∧ (zb_T K_X9_joinGroups d [(2, x0), (0, (m43l (E.2 x0 7) v1_43)), (0, (m43l (E.2 x0 7) (m43l (E.2 x0 4) v1_43)))] E m43l (fun r72 m72 => (zb_inI (v1_43 + 1)) ∧ (X43 (v1_43 + 1) m72))))))) → X43 v1_43 m43l) → X43 v1_43 m43l
def PM_X9_addMaker (d : Nat) (E : zb_E) (x0 : Int) (m : zb_M) (Q : Int → zb_M → Prop) : Prop :=
  ((m x0 6) < 12 → (zb_inI ((m x0 6) * 12)) ∧ ((zb_cpo 0 ((m x0 6) * 12) 12 12 144) ∧ (∀ m28, m28 = zb_cp m (E.2 x0 4) 0 (E.2 x0 5) ((m x0 6) * 12) 12 → ((zb_inI ((m28 x0 6) + 1)) ∧ (∀ m38, m38 = zb_up m28 x0 6 ((m28 x0 6) + 1) → (PL_X9_addMaker_43 d E x0 Q 0 m38)))))) ∧ (¬ (m x0 6) < 12 → Q 0 m)
set_option maxRecDepth 100000 in
set_option maxHeartbeats 4000000 in
theorem w_X9_addMaker {d : Nat} {E : zb_E} {x0 : Int} {m : zb_M} {Q : Int → zb_M → Prop} (h : PM_X9_addMaker d E x0 m Q) : zb_T K_X9_addMaker (d + 1) [(2, x0)] E m Q := by
  unfold PM_X9_addMaker at h
  refine zb_T_in gd_X9_addMaker rfl rfl (fun hW hA G C hF => ?_)
  have i_0 : zb_is E.1 x0 9 := zb_aH hA (by decide)
  show zb_WP _ _ 0 [(0, (2, x0))] [] _ _ _ _
  refine zb_aload_n (j := 0) dX9_addMaker_0 rfl rfl ?_
  refine zb_gI 6 dX9_addMaker_1 fl_X9_59 i_0 rfl rfl ?_
  refine zb_bipush dX9_addMaker_4 (by decide) (zb_inIc rfl) ?_
  refine zb_icmp_lt (tgt := 10) dX9_addMaker_6 (by decide) (fun c1 => ?_) (fun c1 => ?_)
  · have h := h.1 c1
    refine zb_aload_n (j := 0) dX9_addMaker_10 rfl rfl ?_
    refine zb_gFa 4 dX9_addMaker_11 fl_X9_25 i_0 hW hF rfl rfl rfl (by decide) rfl 12 rfl (fun i2 l3 => ?_)
    refine zb_iconst dX9_addMaker_14 (zb_inIc rfl) ?_
    refine zb_aload_n (j := 0) dX9_addMaker_15 rfl rfl ?_
    refine zb_gFa 5 dX9_addMaker_16 fl_X9_29 i_0 hW hF rfl rfl rfl (by decide) rfl 144 rfl (fun i4 l5 => ?_)
    refine zb_aload_n (j := 0) dX9_addMaker_19 rfl rfl ?_
    refine zb_gI 6 dX9_addMaker_20 fl_X9_59 i_0 rfl rfl ?_
    refine zb_bipush dX9_addMaker_23 (by decide) (zb_inIc rfl) ?_
    obtain ⟨o6, h⟩ := h
    refine zb_imul dX9_addMaker_25 o6 ?_
    refine zb_bipush dX9_addMaker_26 (by decide) (zb_inIc rfl) ?_
    obtain ⟨o7, h⟩ := h
    refine zb_cpI dX9_addMaker_28 lk_X9_88 i2 i4 l3 l5 o7 (Nat.succ_le_succ (Nat.zero_le _)) (Nat.le_of_ble_eq_true rfl) hF (fun m28 e28 hF => ?_)
    have h := h m28 e28
    refine zb_aload_n (j := 0) dX9_addMaker_31 rfl rfl ?_
    refine zb_dup dX9_addMaker_32 rfl ?_
    refine zb_gI 6 dX9_addMaker_33 fl_X9_59 i_0 rfl rfl ?_
    refine zb_iconst dX9_addMaker_36 (zb_inIc rfl) ?_
    obtain ⟨o8, h⟩ := h
    refine zb_iadd dX9_addMaker_37 o8 ?_
    refine zb_pF 6 dX9_addMaker_38 fl_X9_59 rfl rfl i_0 (Or.inl rfl) hF rfl rfl (fun m38 e38 hF => ?_)
    have h := h m38 e38
    refine zb_iconst dX9_addMaker_41 (zb_inIc rfl) ?_
    refine zb_istore_n (L' := [(1, (0, 0)), (0, (2, x0))]) dX9_addMaker_42 rfl (by decide) rfl ?_
    refine zb_sub (L' := [(0, (2, x0)), (1, (0, 0))]) [1, 0] rfl ?_
    unfold PL_X9_addMaker_43 at h
    obtain ⟨X43, hX43⟩ : ∃ X : Int → zb_M → Prop, ∀ (v1_43 : Int) (m43l : zb_M), (X v1_43 m43l ↔ (zb_FIN E m43l → zb_WP (G, C, d + 1, 0, 0, zb_q E Q) F_X9_addMaker 43 [(0, (2, x0)), (1, (0, v1_43))] [] E.1 m43l 0 0)) := ⟨fun v1_43 m43l => zb_FIN E m43l → zb_WP (G, C, d + 1, 0, 0, zb_q E Q) F_X9_addMaker 43 [(0, (2, x0)), (1, (0, v1_43))] [] E.1 m43l 0 0, fun _ _ => Iff.rfl⟩
    refine (hX43 _ _).mp (h X43 (fun v1_43 m43l h => (hX43 _ _).mpr (fun hF => ?_))) hF
    refine zb_iload_n (j := 1) dX9_addMaker_43 rfl rfl ?_
    refine zb_aload_n (j := 0) dX9_addMaker_44 rfl rfl ?_
    obtain ⟨o9, h⟩ := h
    refine zb_gD 9 dX9_addMaker_45 fl_X9_42 i_0 rfl rfl o9 ?_
    refine zb_gI 0 dX9_addMaker_48 fl_X9_63 o9 rfl rfl ?_
    refine zb_icmp_ge (tgt := 81) dX9_addMaker_51 (by decide) (fun c10 => ?_) (fun c10 => ?_)
    · have h := h.1 c10
      exact zb_rV dX9_addMaker_81 rfl hF h
    · have h := h.2 c10
      refine zb_aload_n (j := 0) dX9_addMaker_54 rfl rfl ?_
      refine zb_aload_n (j := 0) dX9_addMaker_55 rfl rfl ?_
      refine zb_gFa 7 dX9_addMaker_56 fl_X9_32 i_0 hW hF rfl rfl rfl (by decide) rfl 12 rfl (fun i11 l12 => ?_)
      refine zb_iload_n (j := 1) dX9_addMaker_59 rfl rfl ?_
      obtain ⟨o13, h⟩ := h
      refine zb_lI dX9_addMaker_60 i11 l12 o13.1 o13.2 ?_
      refine zb_aload_n (j := 0) dX9_addMaker_61 rfl rfl ?_
      refine zb_gFa 7 dX9_addMaker_62 fl_X9_32 i_0 hW hF rfl rfl rfl (by decide) rfl 12 rfl (fun i14 l15 => ?_)
      refine zb_aload_n (j := 0) dX9_addMaker_65 rfl rfl ?_
      refine zb_gFa 4 dX9_addMaker_66 fl_X9_25 i_0 hW hF rfl rfl rfl (by decide) rfl 12 rfl (fun i16 l17 => ?_)
      refine zb_iload_n (j := 1) dX9_addMaker_69 rfl rfl ?_
      refine zb_lI dX9_addMaker_70 i16 l17 o13.1 o13.2 ?_
      obtain ⟨o18, h⟩ := h
      refine zb_lI dX9_addMaker_71 i14 l15 o18.1 o18.2 ?_
      refine zb_cV (As := [(0, (m43l (E.2 x0 7) v1_43)), (0, (m43l (E.2 x0 7) (m43l (E.2 x0 4) v1_43)))]) (As' := [(0, (m43l (E.2 x0 7) (m43l (E.2 x0 4) v1_43))), (0, (m43l (E.2 x0 7) v1_43))]) (st := []) dX9_addMaker_72 lk_X9_94 gd_X9_joinGroups rfl rfl i_0 ⟨_, rfl, rfl⟩ h hW hF (zb_aR i_0 (zb_aI (zb_aI zb_a0))) (Nat.le_refl _) (Nat.le_of_ble_eq_true rfl) (fun r72 m72 hF h => ?_)
      show zb_WP _ _ _ _ [] _ _ _ _
      obtain ⟨o19, h⟩ := h
      refine zb_iinc (j := 1) (L' := [(1, (0, (v1_43 + 1))), (0, (2, x0))]) dX9_addMaker_75 rfl o19 (by decide) rfl ?_
      refine zb_goto (tgt := 43) dX9_addMaker_78 (by decide) ?_
      refine zb_sub (L' := [(0, (2, x0)), (1, (0, (v1_43 + 1)))]) [1, 0] rfl ?_
      exact (hX43 _ _).mp h hF
  · have h := h.2 c1
    exact zb_rV dX9_addMaker_9 rfl hF h
theorem dX9_joinGroups_0 : decode cX9_joinGroups 0 = .ok (.iconst 0, 1) := by decide +kernel
theorem dX9_joinGroups_1 : decode cX9_joinGroups 1 = .ok (.istore_n 3, 1) := by decide +kernel
theorem dX9_joinGroups_2 : decode cX9_joinGroups 2 = .ok (.iload_n 3, 1) := by decide +kernel
theorem dX9_joinGroups_3 : decode cX9_joinGroups 3 = .ok (.aload_n 0, 1) := by decide +kernel
theorem dX9_joinGroups_4 : decode cX9_joinGroups 4 = .ok (.getfield 42, 3) := by decide +kernel
theorem dX9_joinGroups_7 : decode cX9_joinGroups 7 = .ok (.getfield 63, 3) := by decide +kernel
theorem dX9_joinGroups_10 : decode cX9_joinGroups 10 = .ok (.if_icmp .ge 26, 3) := by decide +kernel
theorem dX9_joinGroups_13 : decode cX9_joinGroups 13 = .ok (.aload_n 0, 1) := by decide +kernel
theorem dX9_joinGroups_14 : decode cX9_joinGroups 14 = .ok (.getfield 32, 3) := by decide +kernel
theorem dX9_joinGroups_17 : decode cX9_joinGroups 17 = .ok (.iload_n 3, 1) := by decide +kernel
theorem dX9_joinGroups_18 : decode cX9_joinGroups 18 = .ok (.iaload, 1) := by decide +kernel
theorem dX9_joinGroups_19 : decode cX9_joinGroups 19 = .ok (.iload_n 2, 1) := by decide +kernel
theorem dX9_joinGroups_20 : decode cX9_joinGroups 20 = .ok (.if_icmp .ne 10, 3) := by decide +kernel
theorem dX9_joinGroups_23 : decode cX9_joinGroups 23 = .ok (.aload_n 0, 1) := by decide +kernel
theorem dX9_joinGroups_24 : decode cX9_joinGroups 24 = .ok (.getfield 32, 3) := by decide +kernel
theorem dX9_joinGroups_27 : decode cX9_joinGroups 27 = .ok (.iload_n 3, 1) := by decide +kernel
theorem dX9_joinGroups_28 : decode cX9_joinGroups 28 = .ok (.iload_n 1, 1) := by decide +kernel
theorem dX9_joinGroups_29 : decode cX9_joinGroups 29 = .ok (.iastore, 1) := by decide +kernel
theorem dX9_joinGroups_30 : decode cX9_joinGroups 30 = .ok (.iinc 3 1, 3) := by decide +kernel
theorem dX9_joinGroups_33 : decode cX9_joinGroups 33 = .ok (.goto (-31), 3) := by decide +kernel
theorem dX9_joinGroups_36 : decode cX9_joinGroups 36 = .ok (.return_, 1) := by decide +kernel
def PL_X9_joinGroups_2 (d : Nat) (E : zb_E) (x0 : Int) (x1 : Int) (x2 : Int) (Q : Int → zb_M → Prop)  (v3_2 : Int) (m2l : zb_M) : Prop :=
  ∀ X2 : Int → zb_M → Prop, (∀ (v3_2 : Int) (m2l : zb_M), ((zb_is E.1 (m2l x0 9) 6) ∧ (((m2l (m2l x0 9) 0) ≤ v3_2 → Q 0 m2l) ∧ (¬ (m2l (m2l x0 9) 0) ≤ v3_2 → (0 ≤ v3_2 ∧ v3_2 < 12) ∧ (((m2l (E.2 x0 7) v3_2) = x2 → ∀ m29, m29 = zb_up m2l (E.2 x0 7) v3_2 x1 → ((zb_inI (v3_2 + 1)) ∧ (X2 (v3_2 + 1) m29))) ∧ (¬ (m2l (E.2 x0 7) v3_2) = x2 → (zb_inI (v3_2 + 1)) ∧ (X2 (v3_2 + 1) m2l)))))) → X2 v3_2 m2l) → X2 v3_2 m2l
def PM_X9_joinGroups (d : Nat) (E : zb_E) (x0 : Int) (x1 : Int) (x2 : Int) (m : zb_M) (Q : Int → zb_M → Prop) : Prop :=
  PL_X9_joinGroups_2 d E x0 x1 x2 Q 0 m
set_option maxRecDepth 100000 in
set_option maxHeartbeats 4000000 in
theorem w_X9_joinGroups {d : Nat} {E : zb_E} {x0 x1 x2 : Int} {m : zb_M} {Q : Int → zb_M → Prop} (h : PM_X9_joinGroups d E x0 x1 x2 m Q) : zb_T K_X9_joinGroups (d + 1) [(2, x0), (0, x1), (0, x2)] E m Q := by
  unfold PM_X9_joinGroups at h
  refine zb_T_in gd_X9_joinGroups rfl rfl (fun hW hA G C hF => ?_)
  have i_0 : zb_is E.1 x0 9 := zb_aH hA (by decide)
  show zb_WP _ _ 0 [(0, (2, x0)), (1, (0, x1)), (2, (0, x2))] [] _ _ _ _
  refine zb_iconst dX9_joinGroups_0 (zb_inIc rfl) ?_
  refine zb_istore_n (L' := [(3, (0, 0)), (0, (2, x0)), (1, (0, x1)), (2, (0, x2))]) dX9_joinGroups_1 rfl (by decide) rfl ?_
  refine zb_sub (L' := [(0, (2, x0)), (1, (0, x1)), (2, (0, x2)), (3, (0, 0))]) [1, 2, 3, 0] rfl ?_
  unfold PL_X9_joinGroups_2 at h
  obtain ⟨X2, hX2⟩ : ∃ X : Int → zb_M → Prop, ∀ (v3_2 : Int) (m2l : zb_M), (X v3_2 m2l ↔ (zb_FIN E m2l → zb_WP (G, C, d + 1, 0, 0, zb_q E Q) F_X9_joinGroups 2 [(0, (2, x0)), (1, (0, x1)), (2, (0, x2)), (3, (0, v3_2))] [] E.1 m2l 0 0)) := ⟨fun v3_2 m2l => zb_FIN E m2l → zb_WP (G, C, d + 1, 0, 0, zb_q E Q) F_X9_joinGroups 2 [(0, (2, x0)), (1, (0, x1)), (2, (0, x2)), (3, (0, v3_2))] [] E.1 m2l 0 0, fun _ _ => Iff.rfl⟩
  refine (hX2 _ _).mp (h X2 (fun v3_2 m2l h => (hX2 _ _).mpr (fun hF => ?_))) hF
  refine zb_iload_n (j := 3) dX9_joinGroups_2 rfl rfl ?_
  refine zb_aload_n (j := 0) dX9_joinGroups_3 rfl rfl ?_
  obtain ⟨o1, h⟩ := h
  refine zb_gD 9 dX9_joinGroups_4 fl_X9_42 i_0 rfl rfl o1 ?_
  refine zb_gI 0 dX9_joinGroups_7 fl_X9_63 o1 rfl rfl ?_
  refine zb_icmp_ge (tgt := 36) dX9_joinGroups_10 (by decide) (fun c2 => ?_) (fun c2 => ?_)
  · have h := h.1 c2
    exact zb_rV dX9_joinGroups_36 rfl hF h
  · have h := h.2 c2
    refine zb_aload_n (j := 0) dX9_joinGroups_13 rfl rfl ?_
    refine zb_gFa 7 dX9_joinGroups_14 fl_X9_32 i_0 hW hF rfl rfl rfl (by decide) rfl 12 rfl (fun i3 l4 => ?_)
    refine zb_iload_n (j := 3) dX9_joinGroups_17 rfl rfl ?_
    obtain ⟨o5, h⟩ := h
    refine zb_lI dX9_joinGroups_18 i3 l4 o5.1 o5.2 ?_
    refine zb_iload_n (j := 2) dX9_joinGroups_19 rfl rfl ?_
    refine zb_icmp_ne (tgt := 30) dX9_joinGroups_20 (by decide) (fun c6 => ?_) (fun c6 => ?_)
    · have h := h.2 c6
      obtain ⟨o7, h⟩ := h
      refine zb_iinc (j := 3) (L' := [(3, (0, (v3_2 + 1))), (0, (2, x0)), (1, (0, x1)), (2, (0, x2))]) dX9_joinGroups_30 rfl o7 (by decide) rfl ?_
      refine zb_goto (tgt := 2) dX9_joinGroups_33 (by decide) ?_
      refine zb_sub (L' := [(0, (2, x0)), (1, (0, x1)), (2, (0, x2)), (3, (0, (v3_2 + 1)))]) [1, 2, 3, 0] rfl ?_
      exact (hX2 _ _).mp h hF
    · have h := h.1 c6
      refine zb_aload_n (j := 0) dX9_joinGroups_23 rfl rfl ?_
      refine zb_gFa 7 dX9_joinGroups_24 fl_X9_32 i_0 hW hF rfl rfl rfl (by decide) rfl 12 rfl (fun i8 l9 => ?_)
      refine zb_iload_n (j := 3) dX9_joinGroups_27 rfl rfl ?_
      refine zb_iload_n (j := 1) dX9_joinGroups_28 rfl rfl ?_
      refine zb_sI dX9_joinGroups_29 i8 l9 o5.1 o5.2 hF (fun m29 e29 hF => ?_)
      have h := h m29 e29
      obtain ⟨o10, h⟩ := h
      refine zb_iinc (j := 3) (L' := [(3, (0, (v3_2 + 1))), (0, (2, x0)), (1, (0, x1)), (2, (0, x2))]) dX9_joinGroups_30 rfl o10 (by decide) rfl ?_
      refine zb_goto (tgt := 2) dX9_joinGroups_33 (by decide) ?_
      refine zb_sub (L' := [(0, (2, x0)), (1, (0, x1)), (2, (0, x2)), (3, (0, (v3_2 + 1)))]) [1, 2, 3, 0] rfl ?_
      exact (hX2 _ _).mp h hF
theorem dX9_countReached_0 : decode cX9_countReached 0 = .ok (.iconst 0, 1) := by decide +kernel
theorem dX9_countReached_1 : decode cX9_countReached 1 = .ok (.istore_n 2, 1) := by decide +kernel
theorem dX9_countReached_2 : decode cX9_countReached 2 = .ok (.iconst 0, 1) := by decide +kernel
theorem dX9_countReached_3 : decode cX9_countReached 3 = .ok (.istore_n 3, 1) := by decide +kernel
theorem dX9_countReached_4 : decode cX9_countReached 4 = .ok (.iload_n 3, 1) := by decide +kernel
theorem dX9_countReached_5 : decode cX9_countReached 5 = .ok (.aload_n 0, 1) := by decide +kernel
theorem dX9_countReached_6 : decode cX9_countReached 6 = .ok (.getfield 42, 3) := by decide +kernel
theorem dX9_countReached_9 : decode cX9_countReached 9 = .ok (.getfield 63, 3) := by decide +kernel
theorem dX9_countReached_12 : decode cX9_countReached 12 = .ok (.if_icmp .ge 27, 3) := by decide +kernel
theorem dX9_countReached_15 : decode cX9_countReached 15 = .ok (.aload_n 0, 1) := by decide +kernel
theorem dX9_countReached_16 : decode cX9_countReached 16 = .ok (.getfield 32, 3) := by decide +kernel
theorem dX9_countReached_19 : decode cX9_countReached 19 = .ok (.iload_n 3, 1) := by decide +kernel
theorem dX9_countReached_20 : decode cX9_countReached 20 = .ok (.iaload, 1) := by decide +kernel
theorem dX9_countReached_21 : decode cX9_countReached 21 = .ok (.aload_n 0, 1) := by decide +kernel
theorem dX9_countReached_22 : decode cX9_countReached 22 = .ok (.getfield 32, 3) := by decide +kernel
theorem dX9_countReached_25 : decode cX9_countReached 25 = .ok (.iload_n 1, 1) := by decide +kernel
theorem dX9_countReached_26 : decode cX9_countReached 26 = .ok (.iaload, 1) := by decide +kernel
theorem dX9_countReached_27 : decode cX9_countReached 27 = .ok (.if_icmp .ne 6, 3) := by decide +kernel
theorem dX9_countReached_30 : decode cX9_countReached 30 = .ok (.iinc 2 1, 3) := by decide +kernel
theorem dX9_countReached_33 : decode cX9_countReached 33 = .ok (.iinc 3 1, 3) := by decide +kernel
theorem dX9_countReached_36 : decode cX9_countReached 36 = .ok (.goto (-32), 3) := by decide +kernel
theorem dX9_countReached_39 : decode cX9_countReached 39 = .ok (.iload_n 2, 1) := by decide +kernel
theorem dX9_countReached_40 : decode cX9_countReached 40 = .ok (.ireturn, 1) := by decide +kernel
def PL_X9_countReached_4 (d : Nat) (E : zb_E) (x0 : Int) (x1 : Int) (m : zb_M) (Q : Int → Prop)  (v2_4 : Int) (v3_4 : Int) : Prop :=
  ∀ X4 : Int → Int → Prop, (∀ (v2_4 : Int) (v3_4 : Int), ((zb_is E.1 (m x0 9) 6) ∧ (((m (m x0 9) 0) ≤ v3_4 → Q v2_4) ∧ (¬ (m (m x0 9) 0) ≤ v3_4 → (0 ≤ v3_4 ∧ v3_4 < 12) ∧ ((0 ≤ x1 ∧ x1 < 12) ∧ (((m (E.2 x0 7) v3_4) = (m (E.2 x0 7) x1) → (zb_inI (v2_4 + 1)) ∧ ((zb_inI (v3_4 + 1)) ∧ (X4 (v2_4 + 1) (v3_4 + 1)))) ∧ (¬ (m (E.2 x0 7) v3_4) = (m (E.2 x0 7) x1) → (zb_inI (v3_4 + 1)) ∧ (X4 v2_4 (v3_4 + 1)))))))) → X4 v2_4 v3_4) → X4 v2_4 v3_4
def PM_X9_countReached (d : Nat) (E : zb_E) (x0 : Int) (x1 : Int) (m : zb_M) (Q : Int → Prop) : Prop :=
  PL_X9_countReached_4 d E x0 x1 m Q 0 0
set_option maxRecDepth 100000 in
set_option maxHeartbeats 4000000 in
theorem w_X9_countReached {d : Nat} {E : zb_E} {x0 x1 : Int} {m : zb_M} {Q : Int → Prop} (h : PM_X9_countReached d E x0 x1 m Q) : zb_Tp K_X9_countReached (d + 1) [(2, x0), (0, x1)] E m Q := by
  unfold PM_X9_countReached at h
  refine zb_T_in gd_X9_countReached rfl rfl (fun hW hA G C hF => ?_)
  have i_0 : zb_is E.1 x0 9 := zb_aH hA (by decide)
  show zb_WP _ _ 0 [(0, (2, x0)), (1, (0, x1))] [] _ _ _ _
  refine zb_iconst dX9_countReached_0 (zb_inIc rfl) ?_
  refine zb_istore_n (L' := [(2, (0, 0)), (0, (2, x0)), (1, (0, x1))]) dX9_countReached_1 rfl (by decide) rfl ?_
  refine zb_iconst dX9_countReached_2 (zb_inIc rfl) ?_
  refine zb_istore_n (L' := [(3, (0, 0)), (2, (0, 0)), (0, (2, x0)), (1, (0, x1))]) dX9_countReached_3 rfl (by decide) rfl ?_
  refine zb_sub (L' := [(0, (2, x0)), (1, (0, x1)), (2, (0, 0)), (3, (0, 0))]) [2, 3, 1, 0] rfl ?_
  unfold PL_X9_countReached_4 at h
  obtain ⟨X4, hX4⟩ : ∃ X : Int → Int → Prop, ∀ (v2_4 : Int) (v3_4 : Int), (X v2_4 v3_4 ↔ (zb_FIN E m → zb_WP (G, C, d + 1, 0, 0, zb_q E (fun r m' => m' = m ∧ Q r)) F_X9_countReached 4 [(0, (2, x0)), (1, (0, x1)), (2, (0, v2_4)), (3, (0, v3_4))] [] E.1 m 0 0)) := ⟨fun v2_4 v3_4 => zb_FIN E m → zb_WP (G, C, d + 1, 0, 0, zb_q E (fun r m' => m' = m ∧ Q r)) F_X9_countReached 4 [(0, (2, x0)), (1, (0, x1)), (2, (0, v2_4)), (3, (0, v3_4))] [] E.1 m 0 0, fun _ _ => Iff.rfl⟩
  refine (hX4 _ _).mp (h X4 (fun v2_4 v3_4 h => (hX4 _ _).mpr (fun hF => ?_))) hF
  refine zb_iload_n (j := 3) dX9_countReached_4 rfl rfl ?_
  refine zb_aload_n (j := 0) dX9_countReached_5 rfl rfl ?_
  obtain ⟨o1, h⟩ := h
  refine zb_gD 9 dX9_countReached_6 fl_X9_42 i_0 rfl rfl o1 ?_
  refine zb_gI 0 dX9_countReached_9 fl_X9_63 o1 rfl rfl ?_
  refine zb_icmp_ge (tgt := 39) dX9_countReached_12 (by decide) (fun c2 => ?_) (fun c2 => ?_)
  · have h := h.1 c2
    refine zb_iload_n (j := 2) dX9_countReached_39 rfl rfl ?_
    exact zb_rI dX9_countReached_40 rfl hF ⟨rfl, h⟩
  · have h := h.2 c2
    refine zb_aload_n (j := 0) dX9_countReached_15 rfl rfl ?_
    refine zb_gFa 7 dX9_countReached_16 fl_X9_32 i_0 hW hF rfl rfl rfl (by decide) rfl 12 rfl (fun i3 l4 => ?_)
    refine zb_iload_n (j := 3) dX9_countReached_19 rfl rfl ?_
    obtain ⟨o5, h⟩ := h
    refine zb_lI dX9_countReached_20 i3 l4 o5.1 o5.2 ?_
    refine zb_aload_n (j := 0) dX9_countReached_21 rfl rfl ?_
    refine zb_gFa 7 dX9_countReached_22 fl_X9_32 i_0 hW hF rfl rfl rfl (by decide) rfl 12 rfl (fun i6 l7 => ?_)
    refine zb_iload_n (j := 1) dX9_countReached_25 rfl rfl ?_
    obtain ⟨o8, h⟩ := h
    refine zb_lI dX9_countReached_26 i6 l7 o8.1 o8.2 ?_
    refine zb_icmp_ne (tgt := 33) dX9_countReached_27 (by decide) (fun c9 => ?_) (fun c9 => ?_)
    · have h := h.2 c9
      obtain ⟨o10, h⟩ := h
      refine zb_iinc (j := 3) (L' := [(3, (0, (v3_4 + 1))), (0, (2, x0)), (1, (0, x1)), (2, (0, v2_4))]) dX9_countReached_33 rfl o10 (by decide) rfl ?_
      refine zb_goto (tgt := 4) dX9_countReached_36 (by decide) ?_
      refine zb_sub (L' := [(0, (2, x0)), (1, (0, x1)), (2, (0, v2_4)), (3, (0, (v3_4 + 1)))]) [1, 2, 3, 0] rfl ?_
      exact (hX4 _ _).mp h hF
    · have h := h.1 c9
      obtain ⟨o11, h⟩ := h
      refine zb_iinc (j := 2) (L' := [(2, (0, (v2_4 + 1))), (0, (2, x0)), (1, (0, x1)), (3, (0, v3_4))]) dX9_countReached_30 rfl o11 (by decide) rfl ?_
      obtain ⟨o12, h⟩ := h
      refine zb_iinc (j := 3) (L' := [(3, (0, (v3_4 + 1))), (2, (0, (v2_4 + 1))), (0, (2, x0)), (1, (0, x1))]) dX9_countReached_33 rfl o12 (by decide) rfl ?_
      refine zb_goto (tgt := 4) dX9_countReached_36 (by decide) ?_
      refine zb_sub (L' := [(0, (2, x0)), (1, (0, x1)), (2, (0, (v2_4 + 1))), (3, (0, (v3_4 + 1)))]) [2, 3, 1, 0] rfl ?_
      exact (hX4 _ _).mp h hF
theorem dX9_isLed_0 : decode cX9_isLed 0 = .ok (.aload_n 1, 1) := by decide +kernel
theorem dX9_isLed_1 : decode cX9_isLed 1 = .ok (.getfield 98, 3) := by decide +kernel
theorem dX9_isLed_4 : decode cX9_isLed 4 = .ok (.iload_n 2, 1) := by decide +kernel
theorem dX9_isLed_5 : decode cX9_isLed 5 = .ok (.iaload, 1) := by decide +kernel
theorem dX9_isLed_6 : decode cX9_isLed 6 = .ok (.aload_n 1, 1) := by decide +kernel
theorem dX9_isLed_7 : decode cX9_isLed 7 = .ok (.getfield 98, 3) := by decide +kernel
theorem dX9_isLed_10 : decode cX9_isLed 10 = .ok (.iload_n 3, 1) := by decide +kernel
theorem dX9_isLed_11 : decode cX9_isLed 11 = .ok (.iaload, 1) := by decide +kernel
theorem dX9_isLed_12 : decode cX9_isLed 12 = .ok (.if_icmp .eq 5, 3) := by decide +kernel
theorem dX9_isLed_15 : decode cX9_isLed 15 = .ok (.iconst 0, 1) := by decide +kernel
theorem dX9_isLed_16 : decode cX9_isLed 16 = .ok (.ireturn, 1) := by decide +kernel
theorem dX9_isLed_17 : decode cX9_isLed 17 = .ok (.aload_n 0, 1) := by decide +kernel
theorem dX9_isLed_18 : decode cX9_isLed 18 = .ok (.aload_n 0, 1) := by decide +kernel
theorem dX9_isLed_19 : decode cX9_isLed 19 = .ok (.getfield 19, 3) := by decide +kernel
theorem dX9_isLed_22 : decode cX9_isLed 22 = .ok (.iconst 0, 1) := by decide +kernel
theorem dX9_isLed_23 : decode cX9_isLed 23 = .ok (.aaload, 1) := by decide +kernel
theorem dX9_isLed_24 : decode cX9_isLed 24 = .ok (.aload_n 1, 1) := by decide +kernel
theorem dX9_isLed_25 : decode cX9_isLed 25 = .ok (.iload_n 2, 1) := by decide +kernel
theorem dX9_isLed_26 : decode cX9_isLed 26 = .ok (.invokevirtual 101, 3) := by decide +kernel
theorem dX9_isLed_29 : decode cX9_isLed 29 = .ok (.aload_n 0, 1) := by decide +kernel
theorem dX9_isLed_30 : decode cX9_isLed 30 = .ok (.aload_n 0, 1) := by decide +kernel
theorem dX9_isLed_31 : decode cX9_isLed 31 = .ok (.getfield 22, 3) := by decide +kernel
theorem dX9_isLed_34 : decode cX9_isLed 34 = .ok (.iconst 0, 1) := by decide +kernel
theorem dX9_isLed_35 : decode cX9_isLed 35 = .ok (.aaload, 1) := by decide +kernel
theorem dX9_isLed_36 : decode cX9_isLed 36 = .ok (.aload_n 1, 1) := by decide +kernel
theorem dX9_isLed_37 : decode cX9_isLed 37 = .ok (.iload_n 3, 1) := by decide +kernel
theorem dX9_isLed_38 : decode cX9_isLed 38 = .ok (.invokevirtual 101, 3) := by decide +kernel
theorem dX9_isLed_41 : decode cX9_isLed 41 = .ok (.aload_n 0, 1) := by decide +kernel
theorem dX9_isLed_42 : decode cX9_isLed 42 = .ok (.iconst 0, 1) := by decide +kernel
theorem dX9_isLed_43 : decode cX9_isLed 43 = .ok (.invokestatic 105, 3) := by decide +kernel
theorem dX9_isLed_46 : decode cX9_isLed 46 = .ok (.ireturn, 1) := by decide +kernel
def PM_X9_isLed (d : Nat) (E : zb_E) (x0 : Int) (x1 : Int) (x2 : Int) (x3 : Int) (m : zb_M) (Q : Int → zb_M → Prop) : Prop :=
  (0 ≤ x2 ∧ x2 < 12) ∧ ((0 ≤ x3 ∧ x3 < 12) ∧ (((m (E.2 x1 2) x2) = (m (E.2 x1 2) x3) → zb_T K_X9_markInto d [(2, x0), (2, (E.2 (E.2 x0 2) 0)), (2, x1), (0, x2)] E m (fun r26 m26 => zb_T K_X9_markInto d [(2, x0), (2, (E.2 (E.2 x0 3) 0)), (2, x1), (0, x3)] E m26 (fun r38 m38 => zb_T K_X9_extend d [(2, x0), (0, 0)] E m38 (fun r43 m43 => (r43 = 0 ∨ r43 = 1) ∧ (Q r43 m43))))) ∧ (¬ (m (E.2 x1 2) x2) = (m (E.2 x1 2) x3) → Q 0 m)))
set_option maxRecDepth 100000 in
set_option maxHeartbeats 4000000 in
theorem w_X9_isLed {d : Nat} {E : zb_E} {x0 x1 x2 x3 : Int} {m : zb_M} {Q : Int → zb_M → Prop} (h : PM_X9_isLed d E x0 x1 x2 x3 m Q) : zb_T K_X9_isLed (d + 1) [(2, x0), (2, x1), (0, x2), (0, x3)] E m Q := by
  unfold PM_X9_isLed at h
  refine zb_T_in gd_X9_isLed rfl rfl (fun hW hA G C hF => ?_)
  have i_0 : zb_is E.1 x0 9 := zb_aH hA (by decide)
  have i_1 : zb_is E.1 x1 5 := zb_aH (zb_aT hA) (by decide)
  show zb_WP _ _ 0 [(0, (2, x0)), (1, (2, x1)), (2, (0, x2)), (3, (0, x3))] [] _ _ _ _
  refine zb_aload_n (j := 1) dX9_isLed_0 rfl rfl ?_
  refine zb_gFa 2 dX9_isLed_1 fl_X9_98 i_1 hW hF rfl rfl rfl (by decide) rfl 12 rfl (fun i1 l2 => ?_)
  refine zb_iload_n (j := 2) dX9_isLed_4 rfl rfl ?_
  obtain ⟨o3, h⟩ := h
  refine zb_lI dX9_isLed_5 i1 l2 o3.1 o3.2 ?_
  refine zb_aload_n (j := 1) dX9_isLed_6 rfl rfl ?_
  refine zb_gFa 2 dX9_isLed_7 fl_X9_98 i_1 hW hF rfl rfl rfl (by decide) rfl 12 rfl (fun i4 l5 => ?_)
  refine zb_iload_n (j := 3) dX9_isLed_10 rfl rfl ?_
  obtain ⟨o6, h⟩ := h
  refine zb_lI dX9_isLed_11 i4 l5 o6.1 o6.2 ?_
  refine zb_icmp_eq (tgt := 17) dX9_isLed_12 (by decide) (fun c7 => ?_) (fun c7 => ?_)
  · have h := h.1 c7
    refine zb_aload_n (j := 0) dX9_isLed_17 rfl rfl ?_
    refine zb_aload_n (j := 0) dX9_isLed_18 rfl rfl ?_
    refine zb_gFa 2 dX9_isLed_19 fl_X9_19 i_0 hW hF rfl rfl rfl (by decide) rfl 13 rfl (fun i8 l9 => ?_)
    refine zb_iconst dX9_isLed_22 (zb_inIc rfl) ?_
    refine zb_lA 4 dX9_isLed_23 i8 (by decide) l9 hW hF (by decide) (by decide) (fun i10 => ?_)
    refine zb_aload_n (j := 1) dX9_isLed_24 rfl rfl ?_
    refine zb_iload_n (j := 2) dX9_isLed_25 rfl rfl ?_
    refine zb_cV (As := [(2, (E.2 (E.2 x0 2) 0)), (2, x1), (0, x2)]) (As' := [(0, x2), (2, x1), (2, (E.2 (E.2 x0 2) 0))]) (st := []) dX9_isLed_26 lk_X9_101 gd_X9_markInto rfl rfl i_0 ⟨_, rfl, rfl⟩ h hW hF (zb_aR i_0 (zb_aR i10 (zb_aR i_1 (zb_aI zb_a0)))) (Nat.le_refl _) (Nat.le_of_ble_eq_true rfl) (fun r26 m26 hF h => ?_)
    show zb_WP _ _ _ _ [] _ _ _ _
    refine zb_aload_n (j := 0) dX9_isLed_29 rfl rfl ?_
    refine zb_aload_n (j := 0) dX9_isLed_30 rfl rfl ?_
    refine zb_gFa 3 dX9_isLed_31 fl_X9_22 i_0 hW hF rfl rfl rfl (by decide) rfl 13 rfl (fun i11 l12 => ?_)
    refine zb_iconst dX9_isLed_34 (zb_inIc rfl) ?_
    refine zb_lA 4 dX9_isLed_35 i11 (by decide) l12 hW hF (by decide) (by decide) (fun i13 => ?_)
    refine zb_aload_n (j := 1) dX9_isLed_36 rfl rfl ?_
    refine zb_iload_n (j := 3) dX9_isLed_37 rfl rfl ?_
    refine zb_cV (As := [(2, (E.2 (E.2 x0 3) 0)), (2, x1), (0, x3)]) (As' := [(0, x3), (2, x1), (2, (E.2 (E.2 x0 3) 0))]) (st := []) dX9_isLed_38 lk_X9_101 gd_X9_markInto rfl rfl i_0 ⟨_, rfl, rfl⟩ h hW hF (zb_aR i_0 (zb_aR i13 (zb_aR i_1 (zb_aI zb_a0)))) (Nat.le_refl _) (Nat.le_of_ble_eq_true rfl) (fun r38 m38 hF h => ?_)
    show zb_WP _ _ _ _ [] _ _ _ _
    refine zb_aload_n (j := 0) dX9_isLed_41 rfl rfl ?_
    refine zb_iconst dX9_isLed_42 (zb_inIc rfl) ?_
    refine zb_cS (As := [(2, x0), (0, 0)]) (As' := [(0, 0), (2, x0)]) (st := []) dX9_isLed_43 lk_X9_105 gd_X9_extend rfl rfl h hW hF (zb_aR i_0 (zb_aI zb_a0)) (Nat.le_refl _) (Nat.le_of_ble_eq_true rfl) (fun r43 m43 hF h => ?_)
    show zb_WP _ _ _ _ [(0, r43)] _ _ _ _
    obtain ⟨o14, h⟩ := h
    exact zb_rZ dX9_isLed_46 rfl hF o14 h
  · have h := h.2 c7
    refine zb_iconst dX9_isLed_15 (zb_inIc rfl) ?_
    exact zb_rZ dX9_isLed_16 rfl hF (by decide) h
theorem dX9_markInto_0 : decode cX9_markInto 0 = .ok (.aload_n 1, 1) := by decide +kernel
theorem dX9_markInto_1 : decode cX9_markInto 1 = .ok (.aload_n 2, 1) := by decide +kernel
theorem dX9_markInto_2 : decode cX9_markInto 2 = .ok (.invokevirtual 75, 3) := by decide +kernel
theorem dX9_markInto_5 : decode cX9_markInto 5 = .ok (.aload_n 1, 1) := by decide +kernel
theorem dX9_markInto_6 : decode cX9_markInto 6 = .ok (.iload_n 3, 1) := by decide +kernel
theorem dX9_markInto_7 : decode cX9_markInto 7 = .ok (.invokevirtual 81, 3) := by decide +kernel
theorem dX9_markInto_10 : decode cX9_markInto 10 = .ok (.aload_n 0, 1) := by decide +kernel
theorem dX9_markInto_11 : decode cX9_markInto 11 = .ok (.getfield 38, 3) := by decide +kernel
theorem dX9_markInto_14 : decode cX9_markInto 14 = .ok (.aload_n 1, 1) := by decide +kernel
theorem dX9_markInto_15 : decode cX9_markInto 15 = .ok (.aload_n 0, 1) := by decide +kernel
theorem dX9_markInto_16 : decode cX9_markInto 16 = .ok (.getfield 42, 3) := by decide +kernel
theorem dX9_markInto_19 : decode cX9_markInto 19 = .ok (.invokevirtual 85, 3) := by decide +kernel
theorem dX9_markInto_22 : decode cX9_markInto 22 = .ok (.return_, 1) := by decide +kernel
def PM_X9_markInto (d : Nat) (E : zb_E) (x0 : Int) (x1 : Int) (x2 : Int) (x3 : Int) (m : zb_M) (Q : Int → zb_M → Prop) : Prop :=
  zb_T K_X5_become d [(2, x1), (2, x2)] E m (fun r2 m2 => zb_T K_X5_setApart d [(2, x1), (0, x3)] E m2 (fun r7 m7 => (zb_is E.1 (m7 x0 9) 6) ∧ (zb_T K_X7_settle d [(2, (E.2 x0 0)), (2, x1), (2, (m7 x0 9))] E m7 (fun r19 m19 => Q 0 m19))))
set_option maxRecDepth 100000 in
set_option maxHeartbeats 4000000 in
theorem w_X9_markInto {d : Nat} {E : zb_E} {x0 x1 x2 x3 : Int} {m : zb_M} {Q : Int → zb_M → Prop} (h : PM_X9_markInto d E x0 x1 x2 x3 m Q) : zb_T K_X9_markInto (d + 1) [(2, x0), (2, x1), (2, x2), (0, x3)] E m Q := by
  unfold PM_X9_markInto at h
  refine zb_T_in gd_X9_markInto rfl rfl (fun hW hA G C hF => ?_)
  have i_0 : zb_is E.1 x0 9 := zb_aH hA (by decide)
  have i_1 : zb_is E.1 x1 5 := zb_aH (zb_aT hA) (by decide)
  have i_2 : zb_is E.1 x2 5 := zb_aH (zb_aT (zb_aT hA)) (by decide)
  show zb_WP _ _ 0 [(0, (2, x0)), (1, (2, x1)), (2, (2, x2)), (3, (0, x3))] [] _ _ _ _
  refine zb_aload_n (j := 1) dX9_markInto_0 rfl rfl ?_
  refine zb_aload_n (j := 2) dX9_markInto_1 rfl rfl ?_
  refine zb_cV (As := [(2, x2)]) (As' := [(2, x2)]) (st := []) dX9_markInto_2 lk_X9_75 gd_X5_become rfl rfl i_1 ⟨_, rfl, rfl⟩ h hW hF (zb_aR i_1 (zb_aR i_2 zb_a0)) (Nat.le_refl _) (Nat.le_of_ble_eq_true rfl) (fun r2 m2 hF h => ?_)
  show zb_WP _ _ _ _ [] _ _ _ _
  refine zb_aload_n (j := 1) dX9_markInto_5 rfl rfl ?_
  refine zb_iload_n (j := 3) dX9_markInto_6 rfl rfl ?_
  refine zb_cV (As := [(0, x3)]) (As' := [(0, x3)]) (st := []) dX9_markInto_7 lk_X9_81 gd_X5_setApart rfl rfl i_1 ⟨_, rfl, rfl⟩ h hW hF (zb_aR i_1 (zb_aI zb_a0)) (Nat.le_refl _) (Nat.le_of_ble_eq_true rfl) (fun r7 m7 hF h => ?_)
  show zb_WP _ _ _ _ [] _ _ _ _
  refine zb_aload_n (j := 0) dX9_markInto_10 rfl rfl ?_
  refine zb_gFo 0 dX9_markInto_11 fl_X9_38 i_0 hW hF rfl rfl rfl rfl (fun i1 => ?_)
  refine zb_aload_n (j := 1) dX9_markInto_14 rfl rfl ?_
  refine zb_aload_n (j := 0) dX9_markInto_15 rfl rfl ?_
  obtain ⟨o2, h⟩ := h
  refine zb_gD 9 dX9_markInto_16 fl_X9_42 i_0 rfl rfl o2 ?_
  refine zb_cV (As := [(2, x1), (2, (m7 x0 9))]) (As' := [(2, (m7 x0 9)), (2, x1)]) (st := []) dX9_markInto_19 lk_X9_85 gd_X7_settle rfl rfl i1 ⟨_, rfl, rfl⟩ h hW hF (zb_aR i1 (zb_aR i_1 (zb_aR o2 zb_a0))) (Nat.le_refl _) (Nat.le_of_ble_eq_true rfl) (fun r19 m19 hF h => ?_)
  show zb_WP _ _ _ _ [] _ _ _ _
  exact zb_rV dX9_markInto_22 rfl hF h
theorem dX9_extend_0 : decode cX9_extend 0 = .ok (.aload_n 0, 1) := by decide +kernel
theorem dX9_extend_1 : decode cX9_extend 1 = .ok (.getfield 19, 3) := by decide +kernel
theorem dX9_extend_4 : decode cX9_extend 4 = .ok (.iload_n 1, 1) := by decide +kernel
theorem dX9_extend_5 : decode cX9_extend 5 = .ok (.aaload, 1) := by decide +kernel
theorem dX9_extend_6 : decode cX9_extend 6 = .ok (.astore_n 2, 1) := by decide +kernel
theorem dX9_extend_7 : decode cX9_extend 7 = .ok (.aload_n 0, 1) := by decide +kernel
theorem dX9_extend_8 : decode cX9_extend 8 = .ok (.getfield 22, 3) := by decide +kernel
theorem dX9_extend_11 : decode cX9_extend 11 = .ok (.iload_n 1, 1) := by decide +kernel
theorem dX9_extend_12 : decode cX9_extend 12 = .ok (.aaload, 1) := by decide +kernel
theorem dX9_extend_13 : decode cX9_extend 13 = .ok (.astore_n 3, 1) := by decide +kernel
theorem dX9_extend_14 : decode cX9_extend 14 = .ok (.aload_n 2, 1) := by decide +kernel
theorem dX9_extend_15 : decode cX9_extend 15 = .ok (.aload_n 3, 1) := by decide +kernel
theorem dX9_extend_16 : decode cX9_extend 16 = .ok (.invokevirtual 109, 3) := by decide +kernel
theorem dX9_extend_19 : decode cX9_extend 19 = .ok (.ifCond .ne 5, 3) := by decide +kernel
theorem dX9_extend_22 : decode cX9_extend 22 = .ok (.iconst 0, 1) := by decide +kernel
theorem dX9_extend_23 : decode cX9_extend 23 = .ok (.ireturn, 1) := by decide +kernel
theorem dX9_extend_24 : decode cX9_extend 24 = .ok (.aload_n 2, 1) := by decide +kernel
theorem dX9_extend_25 : decode cX9_extend 25 = .ok (.invokevirtual 113, 3) := by decide +kernel
theorem dX9_extend_28 : decode cX9_extend 28 = .ok (.istore 4, 2) := by decide +kernel
theorem dX9_extend_30 : decode cX9_extend 30 = .ok (.iload 4, 2) := by decide +kernel
theorem dX9_extend_32 : decode cX9_extend 32 = .ok (.ifCond .ge 10, 3) := by decide +kernel
theorem dX9_extend_35 : decode cX9_extend 35 = .ok (.aload_n 0, 1) := by decide +kernel
theorem dX9_extend_36 : decode cX9_extend 36 = .ok (.aload_n 2, 1) := by decide +kernel
theorem dX9_extend_37 : decode cX9_extend 37 = .ok (.aload_n 3, 1) := by decide +kernel
theorem dX9_extend_38 : decode cX9_extend 38 = .ok (.invokevirtual 117, 3) := by decide +kernel
theorem dX9_extend_41 : decode cX9_extend 41 = .ok (.ireturn, 1) := by decide +kernel
theorem dX9_extend_42 : decode cX9_extend 42 = .ok (.iload_n 1, 1) := by decide +kernel
theorem dX9_extend_43 : decode cX9_extend 43 = .ok (.bipush 12, 2) := by decide +kernel
theorem dX9_extend_45 : decode cX9_extend 45 = .ok (.if_icmp .lt 5, 3) := by decide +kernel
theorem dX9_extend_48 : decode cX9_extend 48 = .ok (.iconst 0, 1) := by decide +kernel
theorem dX9_extend_49 : decode cX9_extend 49 = .ok (.ireturn, 1) := by decide +kernel
theorem dX9_extend_50 : decode cX9_extend 50 = .ok (.aload_n 0, 1) := by decide +kernel
theorem dX9_extend_51 : decode cX9_extend 51 = .ok (.aload_n 0, 1) := by decide +kernel
theorem dX9_extend_52 : decode cX9_extend 52 = .ok (.getfield 19, 3) := by decide +kernel
theorem dX9_extend_55 : decode cX9_extend 55 = .ok (.iload_n 1, 1) := by decide +kernel
theorem dX9_extend_56 : decode cX9_extend 56 = .ok (.iconst 1, 1) := by decide +kernel
theorem dX9_extend_57 : decode cX9_extend 57 = .ok (.iadd, 1) := by decide +kernel
theorem dX9_extend_58 : decode cX9_extend 58 = .ok (.aaload, 1) := by decide +kernel
theorem dX9_extend_59 : decode cX9_extend 59 = .ok (.aload_n 2, 1) := by decide +kernel
theorem dX9_extend_60 : decode cX9_extend 60 = .ok (.iload 4, 2) := by decide +kernel
theorem dX9_extend_62 : decode cX9_extend 62 = .ok (.invokevirtual 101, 3) := by decide +kernel
theorem dX9_extend_65 : decode cX9_extend 65 = .ok (.iconst 0, 1) := by decide +kernel
theorem dX9_extend_66 : decode cX9_extend 66 = .ok (.istore 5, 2) := by decide +kernel
theorem dX9_extend_68 : decode cX9_extend 68 = .ok (.iload 5, 2) := by decide +kernel
theorem dX9_extend_70 : decode cX9_extend 70 = .ok (.aload_n 3, 1) := by decide +kernel
theorem dX9_extend_71 : decode cX9_extend 71 = .ok (.getfield 121, 3) := by decide +kernel
theorem dX9_extend_74 : decode cX9_extend 74 = .ok (.if_icmp .ge 56, 3) := by decide +kernel
theorem dX9_extend_77 : decode cX9_extend 77 = .ok (.aload_n 3, 1) := by decide +kernel
theorem dX9_extend_78 : decode cX9_extend 78 = .ok (.getfield 98, 3) := by decide +kernel
theorem dX9_extend_81 : decode cX9_extend 81 = .ok (.iload 5, 2) := by decide +kernel
theorem dX9_extend_83 : decode cX9_extend 83 = .ok (.iaload, 1) := by decide +kernel
theorem dX9_extend_84 : decode cX9_extend 84 = .ok (.aload_n 2, 1) := by decide +kernel
theorem dX9_extend_85 : decode cX9_extend 85 = .ok (.getfield 98, 3) := by decide +kernel
theorem dX9_extend_88 : decode cX9_extend 88 = .ok (.iload 4, 2) := by decide +kernel
theorem dX9_extend_90 : decode cX9_extend 90 = .ok (.iaload, 1) := by decide +kernel
theorem dX9_extend_91 : decode cX9_extend 91 = .ok (.if_icmp .eq 6, 3) := by decide +kernel
theorem dX9_extend_94 : decode cX9_extend 94 = .ok (.goto 30, 3) := by decide +kernel
theorem dX9_extend_97 : decode cX9_extend 97 = .ok (.aload_n 0, 1) := by decide +kernel
theorem dX9_extend_98 : decode cX9_extend 98 = .ok (.aload_n 0, 1) := by decide +kernel
theorem dX9_extend_99 : decode cX9_extend 99 = .ok (.getfield 22, 3) := by decide +kernel
theorem dX9_extend_102 : decode cX9_extend 102 = .ok (.iload_n 1, 1) := by decide +kernel
theorem dX9_extend_103 : decode cX9_extend 103 = .ok (.iconst 1, 1) := by decide +kernel
theorem dX9_extend_104 : decode cX9_extend 104 = .ok (.iadd, 1) := by decide +kernel
theorem dX9_extend_105 : decode cX9_extend 105 = .ok (.aaload, 1) := by decide +kernel
theorem dX9_extend_106 : decode cX9_extend 106 = .ok (.aload_n 3, 1) := by decide +kernel
theorem dX9_extend_107 : decode cX9_extend 107 = .ok (.iload 5, 2) := by decide +kernel
theorem dX9_extend_109 : decode cX9_extend 109 = .ok (.invokevirtual 101, 3) := by decide +kernel
theorem dX9_extend_112 : decode cX9_extend 112 = .ok (.aload_n 0, 1) := by decide +kernel
theorem dX9_extend_113 : decode cX9_extend 113 = .ok (.iload_n 1, 1) := by decide +kernel
theorem dX9_extend_114 : decode cX9_extend 114 = .ok (.iconst 1, 1) := by decide +kernel
theorem dX9_extend_115 : decode cX9_extend 115 = .ok (.iadd, 1) := by decide +kernel
theorem dX9_extend_116 : decode cX9_extend 116 = .ok (.invokestatic 105, 3) := by decide +kernel
theorem dX9_extend_119 : decode cX9_extend 119 = .ok (.ifCond .eq 5, 3) := by decide +kernel
theorem dX9_extend_122 : decode cX9_extend 122 = .ok (.iconst 1, 1) := by decide +kernel
theorem dX9_extend_123 : decode cX9_extend 123 = .ok (.ireturn, 1) := by decide +kernel
theorem dX9_extend_124 : decode cX9_extend 124 = .ok (.iinc 5 1, 3) := by decide +kernel
theorem dX9_extend_127 : decode cX9_extend 127 = .ok (.goto (-59), 3) := by decide +kernel
theorem dX9_extend_130 : decode cX9_extend 130 = .ok (.iconst 0, 1) := by decide +kernel
theorem dX9_extend_131 : decode cX9_extend 131 = .ok (.ireturn, 1) := by decide +kernel
def PL_X9_extend_68 (d : Nat) (E : zb_E) (x0 : Int) (x1 : Int) (r25 : Int) (Q : Int → zb_M → Prop)  (v5_68 : Int) (m68l : zb_M) : Prop :=
  ∀ X68 : Int → zb_M → Prop, (∀ (v5_68 : Int) (m68l : zb_M), (((m68l (E.2 (E.2 x0 3) x1) 0) ≤ v5_68 → Q 0 m68l) ∧ (¬ (m68l (E.2 (E.2 x0 3) x1) 0) ≤ v5_68 → (0 ≤ v5_68 ∧ v5_68 < 12) ∧ ((0 ≤ r25 ∧ r25 < 12) ∧ (((m68l (E.2 (E.2 (E.2 x0 3) x1) 2) v5_68) = (m68l (E.2 (E.2 (E.2 x0 2) x1) 2) r25) → zb_T K_X9_markInto d [(2, x0), (2, (E.2 (E.2 x0 3) (x1 + 1))), (2, (E.2 (E.2 x0 3) x1)), (0, v5_68)] E m68l (fun r109 m109 => zb_T K_X9_extend d [(2, x0), (0, (x1 + 1))] E m109 (fun r116 m116 => (r116 = 0 → (zb_inI (v5_68 + 1)) ∧ (X68 (v5_68 + 1) m116)) ∧ (¬ r116 = 0 → Q 1 m116)))) ∧ (¬ (m68l (E.2 (E.2 (E.2 x0 3) x1) 2) v5_68) = (m68l (E.2 (E.2 (E.2 x0 2) x1) 2) r25) → (zb_inI (v5_68 + 1)) ∧ (X68 (v5_68 + 1) m68l)))))) → X68 v5_68 m68l) → X68 v5_68 m68l
def PM_X9_extend (d : Nat) (E : zb_E) (x0 : Int) (x1 : Int) (m : zb_M) (Q : Int → zb_M → Prop) : Prop :=
  (0 ≤ x1 ∧ x1 < 13) ∧ (zb_Tp K_X5_hasHeapsLike d [(2, (E.2 (E.2 x0 2) x1)), (2, (E.2 (E.2 x0 3) x1))] E m (fun r16 => (r16 = 0 → Q 0 m) ∧ (¬ r16 = 0 → zb_Tp K_X5_firstNotAlone d [(2, (E.2 (E.2 x0 2) x1))] E m (fun r25 => (0 ≤ r25 → (x1 < 12 → (zb_inI (x1 + 1)) ∧ ((0 ≤ (x1 + 1) ∧ (x1 + 1) < 13) ∧ (zb_T K_X9_markInto d [(2, x0), (2, (E.2 (E.2 x0 2) (x1 + 1))), (2, (E.2 (E.2 x0 2) x1)), (0, r25)] E m (fun r62 m62 => PL_X9_extend_68 d E x0 x1 r25 Q 0 m62)))) ∧ (¬ x1 < 12 → Q 0 m)) ∧ (¬ 0 ≤ r25 → zb_T K_X9_readImage d [(2, x0), (2, (E.2 (E.2 x0 2) x1)), (2, (E.2 (E.2 x0 3) x1))] E m (fun r38 m38 => (r38 = 0 ∨ r38 = 1) ∧ (Q r38 m38)))))))
set_option maxRecDepth 100000 in
set_option maxHeartbeats 4000000 in
theorem w_X9_extend {d : Nat} {E : zb_E} {x0 x1 : Int} {m : zb_M} {Q : Int → zb_M → Prop} (h : PM_X9_extend d E x0 x1 m Q) : zb_T K_X9_extend (d + 1) [(2, x0), (0, x1)] E m Q := by
  unfold PM_X9_extend at h
  refine zb_T_in gd_X9_extend rfl rfl (fun hW hA G C hF => ?_)
  have i_0 : zb_is E.1 x0 9 := zb_aH hA (by decide)
  show zb_WP _ _ 0 [(0, (2, x0)), (1, (0, x1))] [] _ _ _ _
  refine zb_aload_n (j := 0) dX9_extend_0 rfl rfl ?_
  refine zb_gFa 2 dX9_extend_1 fl_X9_19 i_0 hW hF rfl rfl rfl (by decide) rfl 13 rfl (fun i1 l2 => ?_)
  refine zb_iload_n (j := 1) dX9_extend_4 rfl rfl ?_
  obtain ⟨o3, h⟩ := h
  refine zb_lA 4 dX9_extend_5 i1 (by decide) l2 hW hF o3.1 o3.2 (fun i4 => ?_)
  refine zb_astore_n (L' := [(2, (2, (E.2 (E.2 x0 2) x1))), (0, (2, x0)), (1, (0, x1))]) dX9_extend_6 rfl (by decide) rfl ?_
  refine zb_aload_n (j := 1) dX9_extend_7 rfl rfl ?_
  refine zb_gFa 3 dX9_extend_8 fl_X9_22 i_0 hW hF rfl rfl rfl (by decide) rfl 13 rfl (fun i5 l6 => ?_)
  refine zb_iload_n (j := 2) dX9_extend_11 rfl rfl ?_
  refine zb_lA 4 dX9_extend_12 i5 (by decide) l6 hW hF o3.1 o3.2 (fun i7 => ?_)
  refine zb_astore_n (L' := [(3, (2, (E.2 (E.2 x0 3) x1))), (2, (2, (E.2 (E.2 x0 2) x1))), (0, (2, x0)), (1, (0, x1))]) dX9_extend_13 rfl (by decide) rfl ?_
  refine zb_aload_n (j := 1) dX9_extend_14 rfl rfl ?_
  refine zb_aload_n (j := 0) dX9_extend_15 rfl rfl ?_
  refine zb_cVp (As := [(2, (E.2 (E.2 x0 3) x1))]) (As' := [(2, (E.2 (E.2 x0 3) x1))]) (st := []) dX9_extend_16 lk_X9_109 gd_X5_hasHeapsLike rfl rfl i4 ⟨_, rfl, rfl⟩ h hW hF (zb_aR i4 (zb_aR i7 zb_a0)) (Nat.le_refl _) (Nat.le_of_ble_eq_true rfl) (fun r16 h => ?_)
  show zb_WP _ _ _ _ [(0, r16)] _ _ _ _
  refine zb_if_ne (tgt := 24) dX9_extend_19 (by decide) (fun c8 => ?_) (fun c8 => ?_)
  · have h := h.2 c8
    refine zb_aload_n (j := 1) dX9_extend_24 rfl rfl ?_
    refine zb_cVp (As := []) (As' := []) (st := []) dX9_extend_25 lk_X9_113 gd_X5_firstNotAlone rfl rfl i4 ⟨_, rfl, rfl⟩ h hW hF (zb_aR i4 zb_a0) (Nat.le_refl _) (Nat.le_of_ble_eq_true rfl) (fun r25 h => ?_)
    show zb_WP _ _ _ _ [(0, r25)] _ _ _ _
    refine zb_istore (L' := [(4, (0, r25)), (3, (2, (E.2 (E.2 x0 3) x1))), (2, (2, (E.2 (E.2 x0 2) x1))), (0, (2, x0)), (1, (0, x1))]) dX9_extend_28 (by decide) rfl ?_
    refine zb_iload (j := 0) dX9_extend_30 rfl ?_
    refine zb_if_ge (tgt := 42) dX9_extend_32 (by decide) (fun c9 => ?_) (fun c9 => ?_)
    · have h := h.1 c9
      refine zb_iload_n (j := 4) dX9_extend_42 rfl rfl ?_
      refine zb_bipush dX9_extend_43 (by decide) (zb_inIc rfl) ?_
      refine zb_icmp_lt (tgt := 50) dX9_extend_45 (by decide) (fun c10 => ?_) (fun c10 => ?_)
      · have h := h.1 c10
        refine zb_aload_n (j := 3) dX9_extend_50 rfl rfl ?_
        refine zb_aload_n (j := 3) dX9_extend_51 rfl rfl ?_
        refine zb_gFa 2 dX9_extend_52 fl_X9_19 i_0 hW hF rfl rfl rfl (by decide) rfl 13 rfl (fun i11 l12 => ?_)
        refine zb_iload_n (j := 4) dX9_extend_55 rfl rfl ?_
        refine zb_iconst dX9_extend_56 (zb_inIc rfl) ?_
        obtain ⟨o13, h⟩ := h
        refine zb_iadd dX9_extend_57 o13 ?_
        obtain ⟨o14, h⟩ := h
        refine zb_lA 4 dX9_extend_58 i11 (by decide) l12 hW hF o14.1 o14.2 (fun i15 => ?_)
        refine zb_aload_n (j := 2) dX9_extend_59 rfl rfl ?_
        refine zb_iload (j := 0) dX9_extend_60 rfl ?_
        refine zb_cV (As := [(2, (E.2 (E.2 x0 2) (x1 + 1))), (2, (E.2 (E.2 x0 2) x1)), (0, r25)]) (As' := [(0, r25), (2, (E.2 (E.2 x0 2) x1)), (2, (E.2 (E.2 x0 2) (x1 + 1)))]) (st := []) dX9_extend_62 lk_X9_101 gd_X9_markInto rfl rfl i_0 ⟨_, rfl, rfl⟩ h hW hF (zb_aR i_0 (zb_aR i15 (zb_aR i4 (zb_aI zb_a0)))) (Nat.le_refl _) (Nat.le_of_ble_eq_true rfl) (fun r62 m62 hF h => ?_)
        show zb_WP _ _ _ _ [] _ _ _ _
        refine zb_iconst dX9_extend_65 (zb_inIc rfl) ?_
        refine zb_istore (L' := [(5, (0, 0)), (4, (0, r25)), (3, (2, (E.2 (E.2 x0 3) x1))), (2, (2, (E.2 (E.2 x0 2) x1))), (0, (2, x0)), (1, (0, x1))]) dX9_extend_66 (by decide) rfl ?_
        refine zb_sub (L' := [(0, (2, x0)), (1, (0, x1)), (2, (2, (E.2 (E.2 x0 2) x1))), (3, (2, (E.2 (E.2 x0 3) x1))), (4, (0, r25)), (5, (0, 0))]) [4, 5, 3, 2, 1, 0] rfl ?_
        unfold PL_X9_extend_68 at h
        obtain ⟨X68, hX68⟩ : ∃ X : Int → zb_M → Prop, ∀ (v5_68 : Int) (m68l : zb_M), (X v5_68 m68l ↔ (zb_FIN E m68l → zb_WP (G, C, d + 1, 0, 0, zb_q E Q) F_X9_extend 68 [(0, (2, x0)), (1, (0, x1)), (2, (2, (E.2 (E.2 x0 2) x1))), (3, (2, (E.2 (E.2 x0 3) x1))), (4, (0, r25)), (5, (0, v5_68))] [] E.1 m68l 0 0)) := ⟨fun v5_68 m68l => zb_FIN E m68l → zb_WP (G, C, d + 1, 0, 0, zb_q E Q) F_X9_extend 68 [(0, (2, x0)), (1, (0, x1)), (2, (2, (E.2 (E.2 x0 2) x1))), (3, (2, (E.2 (E.2 x0 3) x1))), (4, (0, r25)), (5, (0, v5_68))] [] E.1 m68l 0 0, fun _ _ => Iff.rfl⟩
        refine (hX68 _ _).mp (h X68 (fun v5_68 m68l h => (hX68 _ _).mpr (fun hF => ?_))) hF
        refine zb_iload (j := 5) dX9_extend_68 rfl ?_
        refine zb_aload_n (j := 3) dX9_extend_70 rfl rfl ?_
        refine zb_gI 0 dX9_extend_71 fl_X9_121 i7 rfl rfl ?_
        refine zb_icmp_ge (tgt := 130) dX9_extend_74 (by decide) (fun c16 => ?_) (fun c16 => ?_)
        · have h := h.1 c16
          refine zb_iconst dX9_extend_130 (zb_inIc rfl) ?_
          exact zb_rZ dX9_extend_131 rfl hF (by decide) h
        · have h := h.2 c16
          refine zb_aload_n (j := 3) dX9_extend_77 rfl rfl ?_
          refine zb_gFa 2 dX9_extend_78 fl_X9_98 i7 hW hF rfl rfl rfl (by decide) rfl 12 rfl (fun i17 l18 => ?_)
          refine zb_iload (j := 5) dX9_extend_81 rfl ?_
          obtain ⟨o19, h⟩ := h
          refine zb_lI dX9_extend_83 i17 l18 o19.1 o19.2 ?_
          refine zb_aload_n (j := 2) dX9_extend_84 rfl rfl ?_
          refine zb_gFa 2 dX9_extend_85 fl_X9_98 i4 hW hF rfl rfl rfl (by decide) rfl 12 rfl (fun i20 l21 => ?_)
          refine zb_iload (j := 4) dX9_extend_88 rfl ?_
          obtain ⟨o22, h⟩ := h
          refine zb_lI dX9_extend_90 i20 l21 o22.1 o22.2 ?_
          refine zb_icmp_eq (tgt := 97) dX9_extend_91 (by decide) (fun c23 => ?_) (fun c23 => ?_)
          · have h := h.1 c23
            refine zb_aload_n (j := 0) dX9_extend_97 rfl rfl ?_
            refine zb_aload_n (j := 0) dX9_extend_98 rfl rfl ?_
            refine zb_gFa 3 dX9_extend_99 fl_X9_22 i_0 hW hF rfl rfl rfl (by decide) rfl 13 rfl (fun i24 l25 => ?_)
            refine zb_iload_n (j := 1) dX9_extend_102 rfl rfl ?_
            refine zb_iconst dX9_extend_103 (zb_inIc rfl) ?_
            refine zb_iadd dX9_extend_104 o13 ?_
            refine zb_lA 4 dX9_extend_105 i24 (by decide) l25 hW hF o14.1 o14.2 (fun i26 => ?_)
            refine zb_aload_n (j := 3) dX9_extend_106 rfl rfl ?_
            refine zb_iload (j := 5) dX9_extend_107 rfl ?_
            refine zb_cV (As := [(2, (E.2 (E.2 x0 3) (x1 + 1))), (2, (E.2 (E.2 x0 3) x1)), (0, v5_68)]) (As' := [(0, v5_68), (2, (E.2 (E.2 x0 3) x1)), (2, (E.2 (E.2 x0 3) (x1 + 1)))]) (st := []) dX9_extend_109 lk_X9_101 gd_X9_markInto rfl rfl i_0 ⟨_, rfl, rfl⟩ h hW hF (zb_aR i_0 (zb_aR i26 (zb_aR i7 (zb_aI zb_a0)))) (Nat.le_refl _) (Nat.le_of_ble_eq_true rfl) (fun r109 m109 hF h => ?_)
            show zb_WP _ _ _ _ [] _ _ _ _
            refine zb_aload_n (j := 0) dX9_extend_112 rfl rfl ?_
            refine zb_iload_n (j := 1) dX9_extend_113 rfl rfl ?_
            refine zb_iconst dX9_extend_114 (zb_inIc rfl) ?_
            refine zb_iadd dX9_extend_115 o13 ?_
            refine zb_cS (As := [(2, x0), (0, (x1 + 1))]) (As' := [(0, (x1 + 1)), (2, x0)]) (st := []) dX9_extend_116 lk_X9_105 gd_X9_extend rfl rfl h hW hF (zb_aR i_0 (zb_aI zb_a0)) (Nat.le_refl _) (Nat.le_of_ble_eq_true rfl) (fun r116 m116 hF h => ?_)
            show zb_WP _ _ _ _ [(0, r116)] _ _ _ _
            refine zb_if_eq (tgt := 124) dX9_extend_119 (by decide) (fun c27 => ?_) (fun c27 => ?_)
            · have h := h.1 c27
              obtain ⟨o28, h⟩ := h
              refine zb_iinc (j := 5) (L' := [(5, (0, (v5_68 + 1))), (0, (2, x0)), (1, (0, x1)), (2, (2, (E.2 (E.2 x0 2) x1))), (3, (2, (E.2 (E.2 x0 3) x1))), (4, (0, r25))]) dX9_extend_124 rfl o28 (by decide) rfl ?_
              refine zb_goto (tgt := 68) dX9_extend_127 (by decide) ?_
              refine zb_sub (L' := [(0, (2, x0)), (1, (0, x1)), (2, (2, (E.2 (E.2 x0 2) x1))), (3, (2, (E.2 (E.2 x0 3) x1))), (4, (0, r25)), (5, (0, (v5_68 + 1)))]) [1, 2, 3, 4, 5, 0] rfl ?_
              exact (hX68 _ _).mp h hF
            · have h := h.2 c27
              refine zb_iconst dX9_extend_122 (zb_inIc rfl) ?_
              exact zb_rZ dX9_extend_123 rfl hF (by decide) h
          · have h := h.2 c23
            refine zb_goto (tgt := 124) dX9_extend_94 (by decide) ?_
            obtain ⟨o29, h⟩ := h
            refine zb_iinc (j := 5) (L' := [(5, (0, (v5_68 + 1))), (0, (2, x0)), (1, (0, x1)), (2, (2, (E.2 (E.2 x0 2) x1))), (3, (2, (E.2 (E.2 x0 3) x1))), (4, (0, r25))]) dX9_extend_124 rfl o29 (by decide) rfl ?_
            refine zb_goto (tgt := 68) dX9_extend_127 (by decide) ?_
            refine zb_sub (L' := [(0, (2, x0)), (1, (0, x1)), (2, (2, (E.2 (E.2 x0 2) x1))), (3, (2, (E.2 (E.2 x0 3) x1))), (4, (0, r25)), (5, (0, (v5_68 + 1)))]) [1, 2, 3, 4, 5, 0] rfl ?_
            exact (hX68 _ _).mp h hF
      · have h := h.2 c10
        refine zb_iconst dX9_extend_48 (zb_inIc rfl) ?_
        exact zb_rZ dX9_extend_49 rfl hF (by decide) h
    · have h := h.2 c9
      refine zb_aload_n (j := 3) dX9_extend_35 rfl rfl ?_
      refine zb_aload_n (j := 2) dX9_extend_36 rfl rfl ?_
      refine zb_aload_n (j := 1) dX9_extend_37 rfl rfl ?_
      refine zb_cV (As := [(2, (E.2 (E.2 x0 2) x1)), (2, (E.2 (E.2 x0 3) x1))]) (As' := [(2, (E.2 (E.2 x0 3) x1)), (2, (E.2 (E.2 x0 2) x1))]) (st := []) dX9_extend_38 lk_X9_117 gd_X9_readImage rfl rfl i_0 ⟨_, rfl, rfl⟩ h hW hF (zb_aR i_0 (zb_aR i4 (zb_aR i7 zb_a0))) (Nat.le_refl _) (Nat.le_of_ble_eq_true rfl) (fun r38 m38 hF h => ?_)
      show zb_WP _ _ _ _ [(0, r38)] _ _ _ _
      obtain ⟨o30, h⟩ := h
      exact zb_rZ dX9_extend_41 rfl hF o30 h
  · have h := h.1 c8
    refine zb_iconst dX9_extend_22 (zb_inIc rfl) ?_
    exact zb_rZ dX9_extend_23 rfl hF (by decide) h
theorem dX9_readImage_0 : decode cX9_readImage 0 = .ok (.iconst 0, 1) := by decide +kernel
theorem dX9_readImage_1 : decode cX9_readImage 1 = .ok (.istore_n 3, 1) := by decide +kernel
theorem dX9_readImage_2 : decode cX9_readImage 2 = .ok (.iload_n 3, 1) := by decide +kernel
theorem dX9_readImage_3 : decode cX9_readImage 3 = .ok (.aload_n 1, 1) := by decide +kernel
theorem dX9_readImage_4 : decode cX9_readImage 4 = .ok (.getfield 121, 3) := by decide +kernel
theorem dX9_readImage_7 : decode cX9_readImage 7 = .ok (.if_icmp .ge 26, 3) := by decide +kernel
theorem dX9_readImage_10 : decode cX9_readImage 10 = .ok (.aload_n 0, 1) := by decide +kernel
theorem dX9_readImage_11 : decode cX9_readImage 11 = .ok (.getfield 25, 3) := by decide +kernel
theorem dX9_readImage_14 : decode cX9_readImage 14 = .ok (.aload_n 1, 1) := by decide +kernel
theorem dX9_readImage_15 : decode cX9_readImage 15 = .ok (.getfield 122, 3) := by decide +kernel
theorem dX9_readImage_18 : decode cX9_readImage 18 = .ok (.iload_n 3, 1) := by decide +kernel
theorem dX9_readImage_19 : decode cX9_readImage 19 = .ok (.iaload, 1) := by decide +kernel
theorem dX9_readImage_20 : decode cX9_readImage 20 = .ok (.aload_n 2, 1) := by decide +kernel
theorem dX9_readImage_21 : decode cX9_readImage 21 = .ok (.getfield 122, 3) := by decide +kernel
theorem dX9_readImage_24 : decode cX9_readImage 24 = .ok (.iload_n 3, 1) := by decide +kernel
theorem dX9_readImage_25 : decode cX9_readImage 25 = .ok (.iaload, 1) := by decide +kernel
theorem dX9_readImage_26 : decode cX9_readImage 26 = .ok (.iastore, 1) := by decide +kernel
theorem dX9_readImage_27 : decode cX9_readImage 27 = .ok (.iinc 3 1, 3) := by decide +kernel
theorem dX9_readImage_30 : decode cX9_readImage 30 = .ok (.goto (-28), 3) := by decide +kernel
theorem dX9_readImage_33 : decode cX9_readImage 33 = .ok (.aload_n 0, 1) := by decide +kernel
theorem dX9_readImage_34 : decode cX9_readImage 34 = .ok (.getfield 42, 3) := by decide +kernel
theorem dX9_readImage_37 : decode cX9_readImage 37 = .ok (.aload_n 0, 1) := by decide +kernel
theorem dX9_readImage_38 : decode cX9_readImage 38 = .ok (.getfield 25, 3) := by decide +kernel
theorem dX9_readImage_41 : decode cX9_readImage 41 = .ok (.invokevirtual 125, 3) := by decide +kernel
theorem dX9_readImage_44 : decode cX9_readImage 44 = .ok (.ireturn, 1) := by decide +kernel
def PJ_X9_readImage_33 (d : Nat) (E : zb_E) (x0 : Int) (Q : Int → zb_M → Prop) (m33j : zb_M) : Prop :=
  (zb_is E.1 (m33j x0 9) 6) ∧ (zb_Tp K_X6_isTurning d [(2, (m33j x0 9)), (2, (E.2 x0 4))] E m33j (fun r41 => (r41 = 0 ∨ r41 = 1) ∧ (Q r41 m33j)))
def PL_X9_readImage_2 (d : Nat) (E : zb_E) (x0 : Int) (x1 : Int) (x2 : Int) (Q : Int → zb_M → Prop) (K33_2 : zb_M → Prop) (v3_2 : Int) (m2l : zb_M) : Prop :=
  ∀ X2 : Int → zb_M → Prop, (∀ (v3_2 : Int) (m2l : zb_M), (((m2l x1 0) ≤ v3_2 → K33_2 m2l) ∧ (¬ (m2l x1 0) ≤ v3_2 → (0 ≤ v3_2 ∧ v3_2 < 12) ∧ ((0 ≤ (m2l (E.2 x1 4) v3_2) ∧ (m2l (E.2 x1 4) v3_2) < 12) ∧ (∀ m26, m26 = zb_up m2l (E.2 x0 4) (m2l (E.2 x1 4) v3_2) (m2l (E.2 x2 4) v3_2) → ((zb_inI (v3_2 + 1)) ∧ (X2 (v3_2 + 1) m26)))))) → X2 v3_2 m2l) → X2 v3_2 m2l
def PM_X9_readImage (d : Nat) (E : zb_E) (x0 : Int) (x1 : Int) (x2 : Int) (m : zb_M) (Q : Int → zb_M → Prop) : Prop :=
  PL_X9_readImage_2 d E x0 x1 x2 Q (PJ_X9_readImage_33 d E x0 Q) 0 m
set_option maxRecDepth 100000 in
set_option maxHeartbeats 4000000 in
theorem w_X9_readImage {d : Nat} {E : zb_E} {x0 x1 x2 : Int} {m : zb_M} {Q : Int → zb_M → Prop} (h : PM_X9_readImage d E x0 x1 x2 m Q) : zb_T K_X9_readImage (d + 1) [(2, x0), (2, x1), (2, x2)] E m Q := by
  unfold PM_X9_readImage at h
  refine zb_T_in gd_X9_readImage rfl rfl (fun hW hA G C hF => ?_)
  have i_0 : zb_is E.1 x0 9 := zb_aH hA (by decide)
  have i_1 : zb_is E.1 x1 5 := zb_aH (zb_aT hA) (by decide)
  have i_2 : zb_is E.1 x2 5 := zb_aH (zb_aT (zb_aT hA)) (by decide)
  show zb_WP _ _ 0 [(0, (2, x0)), (1, (2, x1)), (2, (2, x2))] [] _ _ _ _
  refine zb_iconst dX9_readImage_0 (zb_inIc rfl) ?_
  refine zb_istore_n (L' := [(3, (0, 0)), (0, (2, x0)), (1, (2, x1)), (2, (2, x2))]) dX9_readImage_1 rfl (by decide) rfl ?_
  refine zb_sub (L' := [(0, (2, x0)), (1, (2, x1)), (2, (2, x2)), (3, (0, 0))]) [1, 2, 3, 0] rfl ?_
  have hJ33 : ∀ (m33j : zb_M), zb_FIN E m33j → PJ_X9_readImage_33 d E x0 Q m33j → zb_WP (G, C, d + 1, 0, 0, zb_q E Q) F_X9_readImage 33 [(0, (2, x0))] [] E.1 m33j 0 0 := by
    intro m33j hF h
    unfold PJ_X9_readImage_33 at h
    refine zb_aload_n (j := 0) dX9_readImage_33 rfl rfl ?_
    obtain ⟨o1, h⟩ := h
    refine zb_gD 9 dX9_readImage_34 fl_X9_42 i_0 rfl rfl o1 ?_
    refine zb_aload_n (j := 0) dX9_readImage_37 rfl rfl ?_
    refine zb_gFa 4 dX9_readImage_38 fl_X9_25 i_0 hW hF rfl rfl rfl (by decide) rfl 12 rfl (fun i2 l3 => ?_)
    refine zb_cVp (As := [(2, (E.2 x0 4))]) (As' := [(2, (E.2 x0 4))]) (st := []) dX9_readImage_41 lk_X9_125 gd_X6_isTurning rfl rfl o1 ⟨_, rfl, rfl⟩ h hW hF (zb_aR o1 (zb_aR i2 zb_a0)) (Nat.le_refl _) (Nat.le_of_ble_eq_true rfl) (fun r41 h => ?_)
    show zb_WP _ _ _ _ [(0, r41)] _ _ _ _
    obtain ⟨o4, h⟩ := h
    exact zb_rZ dX9_readImage_44 rfl hF o4 h
  unfold PL_X9_readImage_2 at h
  obtain ⟨X2, hX2⟩ : ∃ X : Int → zb_M → Prop, ∀ (v3_2 : Int) (m2l : zb_M), (X v3_2 m2l ↔ (zb_FIN E m2l → zb_WP (G, C, d + 1, 0, 0, zb_q E Q) F_X9_readImage 2 [(0, (2, x0)), (1, (2, x1)), (2, (2, x2)), (3, (0, v3_2))] [] E.1 m2l 0 0)) := ⟨fun v3_2 m2l => zb_FIN E m2l → zb_WP (G, C, d + 1, 0, 0, zb_q E Q) F_X9_readImage 2 [(0, (2, x0)), (1, (2, x1)), (2, (2, x2)), (3, (0, v3_2))] [] E.1 m2l 0 0, fun _ _ => Iff.rfl⟩
  refine (hX2 _ _).mp (h X2 (fun v3_2 m2l h => (hX2 _ _).mpr (fun hF => ?_))) hF
  refine zb_iload_n (j := 3) dX9_readImage_2 rfl rfl ?_
  refine zb_aload_n (j := 1) dX9_readImage_3 rfl rfl ?_
  refine zb_gI 0 dX9_readImage_4 fl_X9_121 i_1 rfl rfl ?_
  refine zb_icmp_ge (tgt := 33) dX9_readImage_7 (by decide) (fun c5 => ?_) (fun c5 => ?_)
  · have h := h.1 c5
    refine zb_sub (L' := [(0, (2, x0))]) [0] rfl ?_
    exact hJ33 _ hF h
  · have h := h.2 c5
    refine zb_aload_n (j := 0) dX9_readImage_10 rfl rfl ?_
    refine zb_gFa 4 dX9_readImage_11 fl_X9_25 i_0 hW hF rfl rfl rfl (by decide) rfl 12 rfl (fun i6 l7 => ?_)
    refine zb_aload_n (j := 1) dX9_readImage_14 rfl rfl ?_
    refine zb_gFa 4 dX9_readImage_15 fl_X9_122 i_1 hW hF rfl rfl rfl (by decide) rfl 12 rfl (fun i8 l9 => ?_)
    refine zb_iload_n (j := 3) dX9_readImage_18 rfl rfl ?_
    obtain ⟨o10, h⟩ := h
    refine zb_lI dX9_readImage_19 i8 l9 o10.1 o10.2 ?_
    refine zb_aload_n (j := 2) dX9_readImage_20 rfl rfl ?_
    refine zb_gFa 4 dX9_readImage_21 fl_X9_122 i_2 hW hF rfl rfl rfl (by decide) rfl 12 rfl (fun i11 l12 => ?_)
    refine zb_iload_n (j := 3) dX9_readImage_24 rfl rfl ?_
    refine zb_lI dX9_readImage_25 i11 l12 o10.1 o10.2 ?_
    obtain ⟨o13, h⟩ := h
    refine zb_sI dX9_readImage_26 i6 l7 o13.1 o13.2 hF (fun m26 e26 hF => ?_)
    have h := h m26 e26
    obtain ⟨o14, h⟩ := h
    refine zb_iinc (j := 3) (L' := [(3, (0, (v3_2 + 1))), (0, (2, x0)), (1, (2, x1)), (2, (2, x2))]) dX9_readImage_27 rfl o14 (by decide) rfl ?_
    refine zb_goto (tgt := 2) dX9_readImage_30 (by decide) ?_
    refine zb_sub (L' := [(0, (2, x0)), (1, (2, x1)), (2, (2, x2)), (3, (0, (v3_2 + 1)))]) [1, 2, 3, 0] rfl ?_
    exact (hX2 _ _).mp h hF
