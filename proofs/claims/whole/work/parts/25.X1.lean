/-! ===== SameBench$History: instructions and walks (laid by gen/layout.py) ===== -/
theorem dX1_keep_0 : decode cX1_keep 0 = .ok (.aload_n 0, 1) := by decide +kernel
theorem dX1_keep_1 : decode cX1_keep 1 = .ok (.getfield 11, 3) := by decide +kernel
theorem dX1_keep_4 : decode cX1_keep 4 = .ok (.aload_n 0, 1) := by decide +kernel
theorem dX1_keep_5 : decode cX1_keep 5 = .ok (.getfield 22, 3) := by decide +kernel
theorem dX1_keep_8 : decode cX1_keep 8 = .ok (.aaload, 1) := by decide +kernel
theorem dX1_keep_9 : decode cX1_keep 9 = .ok (.aload_n 2, 1) := by decide +kernel
theorem dX1_keep_10 : decode cX1_keep 10 = .ok (.invokevirtual 26, 3) := by decide +kernel
theorem dX1_keep_13 : decode cX1_keep 13 = .ok (.aload_n 0, 1) := by decide +kernel
theorem dX1_keep_14 : decode cX1_keep 14 = .ok (.getfield 17, 3) := by decide +kernel
theorem dX1_keep_17 : decode cX1_keep 17 = .ok (.aload_n 0, 1) := by decide +kernel
theorem dX1_keep_18 : decode cX1_keep 18 = .ok (.getfield 22, 3) := by decide +kernel
theorem dX1_keep_21 : decode cX1_keep 21 = .ok (.iload_n 1, 1) := by decide +kernel
theorem dX1_keep_22 : decode cX1_keep 22 = .ok (.iastore, 1) := by decide +kernel
theorem dX1_keep_23 : decode cX1_keep 23 = .ok (.aload_n 0, 1) := by decide +kernel
theorem dX1_keep_24 : decode cX1_keep 24 = .ok (.aload_n 0, 1) := by decide +kernel
theorem dX1_keep_25 : decode cX1_keep 25 = .ok (.getfield 22, 3) := by decide +kernel
theorem dX1_keep_28 : decode cX1_keep 28 = .ok (.iconst 1, 1) := by decide +kernel
theorem dX1_keep_29 : decode cX1_keep 29 = .ok (.iadd, 1) := by decide +kernel
theorem dX1_keep_30 : decode cX1_keep 30 = .ok (.bipush 20, 2) := by decide +kernel
theorem dX1_keep_32 : decode cX1_keep 32 = .ok (.irem, 1) := by decide +kernel
theorem dX1_keep_33 : decode cX1_keep 33 = .ok (.putfield 22, 3) := by decide +kernel
theorem dX1_keep_36 : decode cX1_keep 36 = .ok (.aload_n 0, 1) := by decide +kernel
theorem dX1_keep_37 : decode cX1_keep 37 = .ok (.aload_n 0, 1) := by decide +kernel
theorem dX1_keep_38 : decode cX1_keep 38 = .ok (.getfield 30, 3) := by decide +kernel
theorem dX1_keep_41 : decode cX1_keep 41 = .ok (.iconst 1, 1) := by decide +kernel
theorem dX1_keep_42 : decode cX1_keep 42 = .ok (.iadd, 1) := by decide +kernel
theorem dX1_keep_43 : decode cX1_keep 43 = .ok (.bipush 20, 2) := by decide +kernel
theorem dX1_keep_45 : decode cX1_keep 45 = .ok (.invokestatic 33, 3) := by decide +kernel
theorem dX1_keep_48 : decode cX1_keep 48 = .ok (.putfield 30, 3) := by decide +kernel
theorem dX1_keep_51 : decode cX1_keep 51 = .ok (.return_, 1) := by decide +kernel
def PM_X1_keep (d : Nat) (E : zb_E) (x0 : Int) (x1 : Int) (x2 : Int) (m : zb_M) (Q : Int → zb_M → Prop) : Prop :=
  (0 ≤ (m x0 2) ∧ (m x0 2) < 20) ∧ (zb_T K_X4_become d [(2, (E.2 (E.2 x0 0) (m x0 2))), (2, x2)] E m (fun r10 m10 => (0 ≤ (m10 x0 2) ∧ (m10 x0 2) < 20) ∧ (∀ m22, m22 = zb_up m10 (E.2 x0 1) (m10 x0 2) x1 → ((zb_inI ((m22 x0 2) + 1)) ∧ ((0 ≤ ((m22 x0 2) + 1) ∧ (0 : Int) < 20) ∧ (∀ m33, m33 = zb_up m22 x0 2 (((m22 x0 2) + 1) % 20) → ((zb_inI ((m33 x0 3) + 1)) ∧ (∀ m48, m48 = zb_up m33 x0 3 (if 20 < ((m33 x0 3) + 1) then 20 else ((m33 x0 3) + 1)) → (Q 0 m48)))))))))
set_option maxRecDepth 100000 in
set_option maxHeartbeats 4000000 in
theorem w_X1_keep {d : Nat} {E : zb_E} {x0 x1 x2 : Int} {m : zb_M} {Q : Int → zb_M → Prop} (h : PM_X1_keep d E x0 x1 x2 m Q) : zb_T K_X1_keep (d + 1) [(2, x0), (0, x1), (2, x2)] E m Q := by
  unfold PM_X1_keep at h
  refine zb_T_in gd_X1_keep rfl rfl (fun hW hA G C hF => ?_)
  have i_0 : zb_is E.1 x0 1 := zb_aH hA (by decide)
  have i_2 : zb_is E.1 x2 4 := zb_aH (zb_aT (zb_aT hA)) (by decide)
  show zb_WP _ _ 0 [(0, (2, x0)), (1, (0, x1)), (2, (2, x2))] [] _ _ _ _
  refine zb_aload_n (j := 0) dX1_keep_0 rfl rfl ?_
  refine zb_gFa 0 dX1_keep_1 fl_X1_11 i_0 hW hF rfl rfl rfl (by decide) rfl 20 rfl (fun i1 l2 => ?_)
  refine zb_aload_n (j := 0) dX1_keep_4 rfl rfl ?_
  refine zb_gI 2 dX1_keep_5 fl_X1_22 i_0 rfl rfl ?_
  obtain ⟨o3, h⟩ := h
  refine zb_lA 3 dX1_keep_8 i1 (by decide) l2 hW hF o3.1 o3.2 (fun i4 => ?_)
  refine zb_aload_n (j := 2) dX1_keep_9 rfl rfl ?_
  refine zb_cV (As := [(2, x2)]) (As' := [(2, x2)]) (st := []) dX1_keep_10 lk_X1_26 gd_X4_become rfl rfl i4 ⟨_, rfl, rfl⟩ h hW hF (zb_aR i4 (zb_aR i_2 zb_a0)) (Nat.le_refl _) (Nat.le_of_ble_eq_true rfl) (fun r10 m10 hF h => ?_)
  show zb_WP _ _ _ _ [] _ _ _ _
  refine zb_aload_n (j := 0) dX1_keep_13 rfl rfl ?_
  refine zb_gFa 1 dX1_keep_14 fl_X1_17 i_0 hW hF rfl rfl rfl (by decide) rfl 20 rfl (fun i5 l6 => ?_)
  refine zb_aload_n (j := 0) dX1_keep_17 rfl rfl ?_
  refine zb_gI 2 dX1_keep_18 fl_X1_22 i_0 rfl rfl ?_
  refine zb_iload_n (j := 1) dX1_keep_21 rfl rfl ?_
  obtain ⟨o7, h⟩ := h
  refine zb_sI dX1_keep_22 i5 l6 o7.1 o7.2 hF (fun m22 e22 hF => ?_)
  have h := h m22 e22
  refine zb_aload_n (j := 0) dX1_keep_23 rfl rfl ?_
  refine zb_aload_n (j := 0) dX1_keep_24 rfl rfl ?_
  refine zb_gI 2 dX1_keep_25 fl_X1_22 i_0 rfl rfl ?_
  refine zb_iconst dX1_keep_28 (zb_inIc rfl) ?_
  obtain ⟨o8, h⟩ := h
  refine zb_iadd dX1_keep_29 o8 ?_
  refine zb_bipush dX1_keep_30 (by decide) (zb_inIc rfl) ?_
  obtain ⟨o9, h⟩ := h
  refine zb_irem dX1_keep_32 o9.1 o9.2 ?_
  refine zb_pF 2 dX1_keep_33 fl_X1_22 rfl rfl i_0 (Or.inl rfl) hF rfl rfl (fun m33 e33 hF => ?_)
  have h := h m33 e33
  refine zb_aload_n (j := 0) dX1_keep_36 rfl rfl ?_
  refine zb_aload_n (j := 0) dX1_keep_37 rfl rfl ?_
  refine zb_gI 3 dX1_keep_38 fl_X1_30 i_0 rfl rfl ?_
  refine zb_iconst dX1_keep_41 (zb_inIc rfl) ?_
  obtain ⟨o10, h⟩ := h
  refine zb_iadd dX1_keep_42 o10 ?_
  refine zb_bipush dX1_keep_43 (by decide) (zb_inIc rfl) ?_
  refine zb_mn dX1_keep_45 lk_X1_33 (Nat.succ_le_succ (Nat.zero_le _)) (Nat.le_refl _) (Nat.le_refl _) (Nat.le_of_ble_eq_true rfl) ?_
  refine zb_pF 3 dX1_keep_48 fl_X1_30 rfl rfl i_0 (Or.inl rfl) hF rfl rfl (fun m48 e48 hF => ?_)
  have h := h m48 e48
  exact zb_rV dX1_keep_51 rfl hF h
theorem dX1_latest_0 : decode cX1_latest 0 = .ok (.aload_n 0, 1) := by decide +kernel
theorem dX1_latest_1 : decode cX1_latest 1 = .ok (.getfield 22, 3) := by decide +kernel
theorem dX1_latest_4 : decode cX1_latest 4 = .ok (.bipush 20, 2) := by decide +kernel
theorem dX1_latest_6 : decode cX1_latest 6 = .ok (.iadd, 1) := by decide +kernel
theorem dX1_latest_7 : decode cX1_latest 7 = .ok (.iconst 1, 1) := by decide +kernel
theorem dX1_latest_8 : decode cX1_latest 8 = .ok (.isub, 1) := by decide +kernel
theorem dX1_latest_9 : decode cX1_latest 9 = .ok (.bipush 20, 2) := by decide +kernel
theorem dX1_latest_11 : decode cX1_latest 11 = .ok (.irem, 1) := by decide +kernel
theorem dX1_latest_12 : decode cX1_latest 12 = .ok (.ireturn, 1) := by decide +kernel
def PM_X1_latest (d : Nat) (E : zb_E) (x0 : Int) (m : zb_M) (Q : Int → Prop) : Prop :=
  (zb_inI ((m x0 2) + 20)) ∧ ((zb_inI (((m x0 2) + 20) - 1)) ∧ ((0 ≤ (((m x0 2) + 20) - 1) ∧ (0 : Int) < 20) ∧ (Q ((((m x0 2) + 20) - 1) % 20))))
set_option maxRecDepth 100000 in
set_option maxHeartbeats 4000000 in
theorem w_X1_latest {d : Nat} {E : zb_E} {x0 : Int} {m : zb_M} {Q : Int → Prop} (h : PM_X1_latest d E x0 m Q) : zb_Tp K_X1_latest (d + 1) [(2, x0)] E m Q := by
  unfold PM_X1_latest at h
  refine zb_T_in gd_X1_latest rfl rfl (fun hW hA G C hF => ?_)
  have i_0 : zb_is E.1 x0 1 := zb_aH hA (by decide)
  show zb_WP _ _ 0 [(0, (2, x0))] [] _ _ _ _
  refine zb_aload_n (j := 0) dX1_latest_0 rfl rfl ?_
  refine zb_gI 2 dX1_latest_1 fl_X1_22 i_0 rfl rfl ?_
  refine zb_bipush dX1_latest_4 (by decide) (zb_inIc rfl) ?_
  obtain ⟨o1, h⟩ := h
  refine zb_iadd dX1_latest_6 o1 ?_
  refine zb_iconst dX1_latest_7 (zb_inIc rfl) ?_
  obtain ⟨o2, h⟩ := h
  refine zb_isub dX1_latest_8 o2 ?_
  refine zb_bipush dX1_latest_9 (by decide) (zb_inIc rfl) ?_
  obtain ⟨o3, h⟩ := h
  refine zb_irem dX1_latest_11 o3.1 o3.2 ?_
  exact zb_rI dX1_latest_12 rfl hF ⟨rfl, h⟩
theorem dX1_latestGraph_0 : decode cX1_latestGraph 0 = .ok (.aload_n 0, 1) := by decide +kernel
theorem dX1_latestGraph_1 : decode cX1_latestGraph 1 = .ok (.getfield 17, 3) := by decide +kernel
theorem dX1_latestGraph_4 : decode cX1_latestGraph 4 = .ok (.aload_n 0, 1) := by decide +kernel
theorem dX1_latestGraph_5 : decode cX1_latestGraph 5 = .ok (.invokevirtual 39, 3) := by decide +kernel
theorem dX1_latestGraph_8 : decode cX1_latestGraph 8 = .ok (.iaload, 1) := by decide +kernel
theorem dX1_latestGraph_9 : decode cX1_latestGraph 9 = .ok (.ireturn, 1) := by decide +kernel
def PM_X1_latestGraph (d : Nat) (E : zb_E) (x0 : Int) (m : zb_M) (Q : Int → Prop) : Prop :=
  zb_Tp K_X1_latest d [(2, x0)] E m (fun r5 => (0 ≤ r5 ∧ r5 < 20) ∧ (Q (m (E.2 x0 1) r5)))
set_option maxRecDepth 100000 in
set_option maxHeartbeats 4000000 in
theorem w_X1_latestGraph {d : Nat} {E : zb_E} {x0 : Int} {m : zb_M} {Q : Int → Prop} (h : PM_X1_latestGraph d E x0 m Q) : zb_Tp K_X1_latestGraph (d + 1) [(2, x0)] E m Q := by
  unfold PM_X1_latestGraph at h
  refine zb_T_in gd_X1_latestGraph rfl rfl (fun hW hA G C hF => ?_)
  have i_0 : zb_is E.1 x0 1 := zb_aH hA (by decide)
  show zb_WP _ _ 0 [(0, (2, x0))] [] _ _ _ _
  refine zb_aload_n (j := 0) dX1_latestGraph_0 rfl rfl ?_
  refine zb_gFa 1 dX1_latestGraph_1 fl_X1_17 i_0 hW hF rfl rfl rfl (by decide) rfl 20 rfl (fun i1 l2 => ?_)
  refine zb_aload_n (j := 0) dX1_latestGraph_4 rfl rfl ?_
  refine zb_cVp (As := []) (As' := []) (st := [(2, (E.2 x0 1))]) dX1_latestGraph_5 lk_X1_39 gd_X1_latest rfl rfl i_0 ⟨_, rfl, rfl⟩ h hW hF (zb_aR i_0 zb_a0) (Nat.le_refl _) (Nat.le_of_ble_eq_true rfl) (fun r5 h => ?_)
  show zb_WP _ _ _ _ [(0, r5), (2, (E.2 x0 1))] _ _ _ _
  obtain ⟨o3, h⟩ := h
  refine zb_lI dX1_latestGraph_8 i1 l2 o3.1 o3.2 ?_
  exact zb_rI dX1_latestGraph_9 rfl hF ⟨rfl, h⟩
theorem dX1_latestNet_0 : decode cX1_latestNet 0 = .ok (.aload_n 0, 1) := by decide +kernel
theorem dX1_latestNet_1 : decode cX1_latestNet 1 = .ok (.getfield 11, 3) := by decide +kernel
theorem dX1_latestNet_4 : decode cX1_latestNet 4 = .ok (.aload_n 0, 1) := by decide +kernel
theorem dX1_latestNet_5 : decode cX1_latestNet 5 = .ok (.invokevirtual 39, 3) := by decide +kernel
theorem dX1_latestNet_8 : decode cX1_latestNet 8 = .ok (.aaload, 1) := by decide +kernel
theorem dX1_latestNet_9 : decode cX1_latestNet 9 = .ok (.areturn, 1) := by decide +kernel
def PM_X1_latestNet (d : Nat) (E : zb_E) (x0 : Int) (m : zb_M) (Q : Int → Prop) : Prop :=
  zb_Tp K_X1_latest d [(2, x0)] E m (fun r5 => (0 ≤ r5 ∧ r5 < 20) ∧ ((1 ≤ (E.2 (E.2 x0 0) r5)) ∧ (Q (E.2 (E.2 x0 0) r5))))
set_option maxRecDepth 100000 in
set_option maxHeartbeats 4000000 in
theorem w_X1_latestNet {d : Nat} {E : zb_E} {x0 : Int} {m : zb_M} {Q : Int → Prop} (h : PM_X1_latestNet d E x0 m Q) : zb_Tp K_X1_latestNet (d + 1) [(2, x0)] E m Q := by
  unfold PM_X1_latestNet at h
  refine zb_T_in gd_X1_latestNet rfl rfl (fun hW hA G C hF => ?_)
  have i_0 : zb_is E.1 x0 1 := zb_aH hA (by decide)
  show zb_WP _ _ 0 [(0, (2, x0))] [] _ _ _ _
  refine zb_aload_n (j := 0) dX1_latestNet_0 rfl rfl ?_
  refine zb_gFa 0 dX1_latestNet_1 fl_X1_11 i_0 hW hF rfl rfl rfl (by decide) rfl 20 rfl (fun i1 l2 => ?_)
  refine zb_aload_n (j := 0) dX1_latestNet_4 rfl rfl ?_
  refine zb_cVp (As := []) (As' := []) (st := [(2, (E.2 x0 0))]) dX1_latestNet_5 lk_X1_39 gd_X1_latest rfl rfl i_0 ⟨_, rfl, rfl⟩ h hW hF (zb_aR i_0 zb_a0) (Nat.le_refl _) (Nat.le_of_ble_eq_true rfl) (fun r5 h => ?_)
  show zb_WP _ _ _ _ [(0, r5), (2, (E.2 x0 0))] _ _ _ _
  obtain ⟨o3, h⟩ := h
  refine zb_lA 3 dX1_latestNet_8 i1 (by decide) l2 hW hF o3.1 o3.2 (fun i4 => ?_)
  obtain ⟨o5, h⟩ := h
  exact zb_rA dX1_latestNet_9 (by first | exact Or.inl ⟨_, rfl⟩ | exact Or.inr ⟨_, rfl⟩) hF o5 ⟨rfl, h⟩
theorem dX1_forgetLatest_0 : decode cX1_forgetLatest 0 = .ok (.aload_n 0, 1) := by decide +kernel
theorem dX1_forgetLatest_1 : decode cX1_forgetLatest 1 = .ok (.aload_n 0, 1) := by decide +kernel
theorem dX1_forgetLatest_2 : decode cX1_forgetLatest 2 = .ok (.invokevirtual 39, 3) := by decide +kernel
theorem dX1_forgetLatest_5 : decode cX1_forgetLatest 5 = .ok (.putfield 22, 3) := by decide +kernel
theorem dX1_forgetLatest_8 : decode cX1_forgetLatest 8 = .ok (.aload_n 0, 1) := by decide +kernel
theorem dX1_forgetLatest_9 : decode cX1_forgetLatest 9 = .ok (.aload_n 0, 1) := by decide +kernel
theorem dX1_forgetLatest_10 : decode cX1_forgetLatest 10 = .ok (.getfield 30, 3) := by decide +kernel
theorem dX1_forgetLatest_13 : decode cX1_forgetLatest 13 = .ok (.iconst 1, 1) := by decide +kernel
theorem dX1_forgetLatest_14 : decode cX1_forgetLatest 14 = .ok (.isub, 1) := by decide +kernel
theorem dX1_forgetLatest_15 : decode cX1_forgetLatest 15 = .ok (.iconst 0, 1) := by decide +kernel
theorem dX1_forgetLatest_16 : decode cX1_forgetLatest 16 = .ok (.invokestatic 43, 3) := by decide +kernel
theorem dX1_forgetLatest_19 : decode cX1_forgetLatest 19 = .ok (.putfield 30, 3) := by decide +kernel
theorem dX1_forgetLatest_22 : decode cX1_forgetLatest 22 = .ok (.return_, 1) := by decide +kernel
def PM_X1_forgetLatest (d : Nat) (E : zb_E) (x0 : Int) (m : zb_M) (Q : Int → zb_M → Prop) : Prop :=
  zb_Tp K_X1_latest d [(2, x0)] E m (fun r2 => ∀ m5, m5 = zb_up m x0 2 r2 → ((zb_inI ((m5 x0 3) - 1)) ∧ (∀ m19, m19 = zb_up m5 x0 3 (if ((m5 x0 3) - 1) < 0 then 0 else ((m5 x0 3) - 1)) → (Q 0 m19))))
set_option maxRecDepth 100000 in
set_option maxHeartbeats 4000000 in
theorem w_X1_forgetLatest {d : Nat} {E : zb_E} {x0 : Int} {m : zb_M} {Q : Int → zb_M → Prop} (h : PM_X1_forgetLatest d E x0 m Q) : zb_T K_X1_forgetLatest (d + 1) [(2, x0)] E m Q := by
  unfold PM_X1_forgetLatest at h
  refine zb_T_in gd_X1_forgetLatest rfl rfl (fun hW hA G C hF => ?_)
  have i_0 : zb_is E.1 x0 1 := zb_aH hA (by decide)
  show zb_WP _ _ 0 [(0, (2, x0))] [] _ _ _ _
  refine zb_aload_n (j := 0) dX1_forgetLatest_0 rfl rfl ?_
  refine zb_aload_n (j := 0) dX1_forgetLatest_1 rfl rfl ?_
  refine zb_cVp (As := []) (As' := []) (st := [(2, x0)]) dX1_forgetLatest_2 lk_X1_39 gd_X1_latest rfl rfl i_0 ⟨_, rfl, rfl⟩ h hW hF (zb_aR i_0 zb_a0) (Nat.le_refl _) (Nat.le_of_ble_eq_true rfl) (fun r2 h => ?_)
  show zb_WP _ _ _ _ [(0, r2), (2, x0)] _ _ _ _
  refine zb_pF 2 dX1_forgetLatest_5 fl_X1_22 rfl rfl i_0 (Or.inl rfl) hF rfl rfl (fun m5 e5 hF => ?_)
  have h := h m5 e5
  refine zb_aload_n (j := 0) dX1_forgetLatest_8 rfl rfl ?_
  refine zb_aload_n (j := 0) dX1_forgetLatest_9 rfl rfl ?_
  refine zb_gI 3 dX1_forgetLatest_10 fl_X1_30 i_0 rfl rfl ?_
  refine zb_iconst dX1_forgetLatest_13 (zb_inIc rfl) ?_
  obtain ⟨o1, h⟩ := h
  refine zb_isub dX1_forgetLatest_14 o1 ?_
  refine zb_iconst dX1_forgetLatest_15 (zb_inIc rfl) ?_
  refine zb_mx dX1_forgetLatest_16 lk_X1_43 (Nat.succ_le_succ (Nat.zero_le _)) (Nat.le_refl _) (Nat.le_refl _) (Nat.le_of_ble_eq_true rfl) ?_
  refine zb_pF 3 dX1_forgetLatest_19 fl_X1_30 rfl rfl i_0 (Or.inl rfl) hF rfl rfl (fun m19 e19 hF => ?_)
  have h := h m19 e19
  exact zb_rV dX1_forgetLatest_22 rfl hF h
