/-! ===== SameBench$Parting: instructions and walks (laid by gen/layout.py) ===== -/
theorem dX5_gather_0 : decode cX5_gather 0 = .ok (.aload_n 0, 1) := by decide +kernel
theorem dX5_gather_1 : decode cX5_gather 1 = .ok (.iload_n 1, 1) := by decide +kernel
theorem dX5_gather_2 : decode cX5_gather 2 = .ok (.putfield 21, 3) := by decide +kernel
theorem dX5_gather_5 : decode cX5_gather 5 = .ok (.aload_n 0, 1) := by decide +kernel
theorem dX5_gather_6 : decode cX5_gather 6 = .ok (.iload_n 1, 1) := by decide +kernel
theorem dX5_gather_7 : decode cX5_gather 7 = .ok (.ifCond .le 7, 3) := by decide +kernel
theorem dX5_gather_10 : decode cX5_gather 10 = .ok (.iconst 1, 1) := by decide +kernel
theorem dX5_gather_11 : decode cX5_gather 11 = .ok (.goto 4, 3) := by decide +kernel
theorem dX5_gather_14 : decode cX5_gather 14 = .ok (.iconst 0, 1) := by decide +kernel
theorem dX5_gather_15 : decode cX5_gather 15 = .ok (.putfield 25, 3) := by decide +kernel
theorem dX5_gather_18 : decode cX5_gather 18 = .ok (.aload_n 0, 1) := by decide +kernel
theorem dX5_gather_19 : decode cX5_gather 19 = .ok (.getfield 15, 3) := by decide +kernel
theorem dX5_gather_22 : decode cX5_gather 22 = .ok (.iconst 0, 1) := by decide +kernel
theorem dX5_gather_23 : decode cX5_gather 23 = .ok (.iload_n 1, 1) := by decide +kernel
theorem dX5_gather_24 : decode cX5_gather 24 = .ok (.iastore, 1) := by decide +kernel
theorem dX5_gather_25 : decode cX5_gather 25 = .ok (.iconst 0, 1) := by decide +kernel
theorem dX5_gather_26 : decode cX5_gather 26 = .ok (.istore_n 2, 1) := by decide +kernel
theorem dX5_gather_27 : decode cX5_gather 27 = .ok (.iload_n 2, 1) := by decide +kernel
theorem dX5_gather_28 : decode cX5_gather 28 = .ok (.iload_n 1, 1) := by decide +kernel
theorem dX5_gather_29 : decode cX5_gather 29 = .ok (.if_icmp .ge 23, 3) := by decide +kernel
theorem dX5_gather_32 : decode cX5_gather 32 = .ok (.aload_n 0, 1) := by decide +kernel
theorem dX5_gather_33 : decode cX5_gather 33 = .ok (.getfield 9, 3) := by decide +kernel
theorem dX5_gather_36 : decode cX5_gather 36 = .ok (.iload_n 2, 1) := by decide +kernel
theorem dX5_gather_37 : decode cX5_gather 37 = .ok (.iconst 0, 1) := by decide +kernel
theorem dX5_gather_38 : decode cX5_gather 38 = .ok (.iastore, 1) := by decide +kernel
theorem dX5_gather_39 : decode cX5_gather 39 = .ok (.aload_n 0, 1) := by decide +kernel
theorem dX5_gather_40 : decode cX5_gather 40 = .ok (.getfield 18, 3) := by decide +kernel
theorem dX5_gather_43 : decode cX5_gather 43 = .ok (.iload_n 2, 1) := by decide +kernel
theorem dX5_gather_44 : decode cX5_gather 44 = .ok (.iload_n 2, 1) := by decide +kernel
theorem dX5_gather_45 : decode cX5_gather 45 = .ok (.iastore, 1) := by decide +kernel
theorem dX5_gather_46 : decode cX5_gather 46 = .ok (.iinc 2 1, 3) := by decide +kernel
theorem dX5_gather_49 : decode cX5_gather 49 = .ok (.goto (-22), 3) := by decide +kernel
theorem dX5_gather_52 : decode cX5_gather 52 = .ok (.return_, 1) := by decide +kernel
def PL_X5_gather_27 (d : Nat) (E : zb_E) (x0 : Int) (x1 : Int) (Q : Int → zb_M → Prop)  (v2_27 : Int) (m27l : zb_M) : Prop :=
  ∀ X27 : Int → zb_M → Prop, (∀ (v2_27 : Int) (m27l : zb_M), ((x1 ≤ v2_27 → Q 0 m27l) ∧ (¬ x1 ≤ v2_27 → (0 ≤ v2_27 ∧ v2_27 < 12) ∧ (∀ m38, m38 = zb_up m27l (E.2 x0 2) v2_27 0 → (∀ m45, m45 = zb_up m38 (E.2 x0 4) v2_27 v2_27 → ((zb_inI (v2_27 + 1)) ∧ (X27 (v2_27 + 1) m45)))))) → X27 v2_27 m27l) → X27 v2_27 m27l
def PJ_X5_gather_15 (d : Nat) (E : zb_E) (x0 : Int) (x1 : Int) (m2 : zb_M) (Q : Int → zb_M → Prop) (s1_15 : Int) : Prop :=
  ∀ m15, m15 = zb_up m2 x0 1 s1_15 → (∀ m24, m24 = zb_up m15 (E.2 x0 3) 0 x1 → (PL_X5_gather_27 d E x0 x1 Q 0 m24))
def PM_X5_gather (d : Nat) (E : zb_E) (x0 : Int) (x1 : Int) (m : zb_M) (Q : Int → zb_M → Prop) : Prop :=
  ∀ m2, m2 = zb_up m x0 0 x1 → ((x1 ≤ 0 → PJ_X5_gather_15 d E x0 x1 m2 Q 0) ∧ (¬ x1 ≤ 0 → PJ_X5_gather_15 d E x0 x1 m2 Q 1))
set_option maxRecDepth 100000 in
set_option maxHeartbeats 4000000 in
theorem w_X5_gather {d : Nat} {E : zb_E} {x0 x1 : Int} {m : zb_M} {Q : Int → zb_M → Prop} (h : PM_X5_gather d E x0 x1 m Q) : zb_T K_X5_gather (d + 1) [(2, x0), (0, x1)] E m Q := by
  unfold PM_X5_gather at h
  refine zb_T_in gd_X5_gather rfl rfl (fun hW hA G C hF => ?_)
  have i_0 : zb_is E.1 x0 5 := zb_aH hA (by decide)
  show zb_WP _ _ 0 [(0, (2, x0)), (1, (0, x1))] [] _ _ _ _
  refine zb_aload_n (j := 0) dX5_gather_0 rfl rfl ?_
  refine zb_iload_n (j := 1) dX5_gather_1 rfl rfl ?_
  refine zb_pF 0 dX5_gather_2 fl_X5_21 rfl rfl i_0 (Or.inl rfl) hF rfl rfl (fun m2 e2 hF => ?_)
  have h := h m2 e2
  refine zb_aload_n (j := 0) dX5_gather_5 rfl rfl ?_
  refine zb_iload_n (j := 1) dX5_gather_6 rfl rfl ?_
  have hJ15 : ∀ (s1_15 : Int), zb_FIN E m2 → PJ_X5_gather_15 d E x0 x1 m2 Q s1_15 → zb_WP (G, C, d + 1, 0, 0, zb_q E Q) F_X5_gather 15 [(0, (2, x0)), (1, (0, x1))] [(0, s1_15), (2, x0)] E.1 m2 0 0 := by
    intro s1_15 hF h
    unfold PJ_X5_gather_15 at h
    refine zb_pF 1 dX5_gather_15 fl_X5_25 rfl rfl i_0 (Or.inl rfl) hF rfl rfl (fun m15 e15 hF => ?_)
    have h := h m15 e15
    refine zb_aload_n (j := 0) dX5_gather_18 rfl rfl ?_
    refine zb_gFa 3 dX5_gather_19 fl_X5_15 i_0 hW hF rfl rfl rfl (by decide) rfl 12 rfl (fun i1 l2 => ?_)
    refine zb_iconst dX5_gather_22 (zb_inIc rfl) ?_
    refine zb_iload_n (j := 1) dX5_gather_23 rfl rfl ?_
    refine zb_sI dX5_gather_24 i1 l2 (by decide) (by decide) hF (fun m24 e24 hF => ?_)
    have h := h m24 e24
    refine zb_iconst dX5_gather_25 (zb_inIc rfl) ?_
    refine zb_istore_n (L' := [(2, (0, 0)), (0, (2, x0)), (1, (0, x1))]) dX5_gather_26 rfl (by decide) rfl ?_
    refine zb_sub (L' := [(0, (2, x0)), (1, (0, x1)), (2, (0, 0))]) [1, 2, 0] rfl ?_
    unfold PL_X5_gather_27 at h
    obtain ⟨X27, hX27⟩ : ∃ X : Int → zb_M → Prop, ∀ (v2_27 : Int) (m27l : zb_M), (X v2_27 m27l ↔ (zb_FIN E m27l → zb_WP (G, C, d + 1, 0, 0, zb_q E Q) F_X5_gather 27 [(0, (2, x0)), (1, (0, x1)), (2, (0, v2_27))] [] E.1 m27l 0 0)) := ⟨fun v2_27 m27l => zb_FIN E m27l → zb_WP (G, C, d + 1, 0, 0, zb_q E Q) F_X5_gather 27 [(0, (2, x0)), (1, (0, x1)), (2, (0, v2_27))] [] E.1 m27l 0 0, fun _ _ => Iff.rfl⟩
    refine (hX27 _ _).mp (h X27 (fun v2_27 m27l h => (hX27 _ _).mpr (fun hF => ?_))) hF
    refine zb_iload_n (j := 2) dX5_gather_27 rfl rfl ?_
    refine zb_iload_n (j := 1) dX5_gather_28 rfl rfl ?_
    refine zb_icmp_ge (tgt := 52) dX5_gather_29 (by decide) (fun c3 => ?_) (fun c3 => ?_)
    · have h := h.1 c3
      exact zb_rV dX5_gather_52 rfl hF h
    · have h := h.2 c3
      refine zb_aload_n (j := 0) dX5_gather_32 rfl rfl ?_
      refine zb_gFa 2 dX5_gather_33 fl_X5_9 i_0 hW hF rfl rfl rfl (by decide) rfl 12 rfl (fun i4 l5 => ?_)
      refine zb_iload_n (j := 2) dX5_gather_36 rfl rfl ?_
      refine zb_iconst dX5_gather_37 (zb_inIc rfl) ?_
      obtain ⟨o6, h⟩ := h
      refine zb_sI dX5_gather_38 i4 l5 o6.1 o6.2 hF (fun m38 e38 hF => ?_)
      have h := h m38 e38
      refine zb_aload_n (j := 0) dX5_gather_39 rfl rfl ?_
      refine zb_gFa 4 dX5_gather_40 fl_X5_18 i_0 hW hF rfl rfl rfl (by decide) rfl 12 rfl (fun i7 l8 => ?_)
      refine zb_iload_n (j := 2) dX5_gather_43 rfl rfl ?_
      refine zb_iload_n (j := 2) dX5_gather_44 rfl rfl ?_
      refine zb_sI dX5_gather_45 i7 l8 o6.1 o6.2 hF (fun m45 e45 hF => ?_)
      have h := h m45 e45
      obtain ⟨o9, h⟩ := h
      refine zb_iinc (j := 2) (L' := [(2, (0, (v2_27 + 1))), (0, (2, x0)), (1, (0, x1))]) dX5_gather_46 rfl o9 (by decide) rfl ?_
      refine zb_goto (tgt := 27) dX5_gather_49 (by decide) ?_
      refine zb_sub (L' := [(0, (2, x0)), (1, (0, x1)), (2, (0, (v2_27 + 1)))]) [1, 2, 0] rfl ?_
      exact (hX27 _ _).mp h hF
  refine zb_if_le (tgt := 14) dX5_gather_7 (by decide) (fun c10 => ?_) (fun c10 => ?_)
  · have h := h.1 c10
    refine zb_iconst dX5_gather_14 (zb_inIc rfl) ?_
    exact hJ15 _ hF h
  · have h := h.2 c10
    refine zb_iconst dX5_gather_10 (zb_inIc rfl) ?_
    refine zb_goto (tgt := 15) dX5_gather_11 (by decide) ?_
    exact hJ15 _ hF h
theorem dX5_become_0 : decode cX5_become 0 = .ok (.aload_n 0, 1) := by decide +kernel
theorem dX5_become_1 : decode cX5_become 1 = .ok (.aload_n 1, 1) := by decide +kernel
theorem dX5_become_2 : decode cX5_become 2 = .ok (.getfield 21, 3) := by decide +kernel
theorem dX5_become_5 : decode cX5_become 5 = .ok (.putfield 21, 3) := by decide +kernel
theorem dX5_become_8 : decode cX5_become 8 = .ok (.aload_n 0, 1) := by decide +kernel
theorem dX5_become_9 : decode cX5_become 9 = .ok (.aload_n 1, 1) := by decide +kernel
theorem dX5_become_10 : decode cX5_become 10 = .ok (.getfield 25, 3) := by decide +kernel
theorem dX5_become_13 : decode cX5_become 13 = .ok (.putfield 25, 3) := by decide +kernel
theorem dX5_become_16 : decode cX5_become 16 = .ok (.aload_n 1, 1) := by decide +kernel
theorem dX5_become_17 : decode cX5_become 17 = .ok (.getfield 9, 3) := by decide +kernel
theorem dX5_become_20 : decode cX5_become 20 = .ok (.iconst 0, 1) := by decide +kernel
theorem dX5_become_21 : decode cX5_become 21 = .ok (.aload_n 0, 1) := by decide +kernel
theorem dX5_become_22 : decode cX5_become 22 = .ok (.getfield 9, 3) := by decide +kernel
theorem dX5_become_25 : decode cX5_become 25 = .ok (.iconst 0, 1) := by decide +kernel
theorem dX5_become_26 : decode cX5_become 26 = .ok (.bipush 12, 2) := by decide +kernel
theorem dX5_become_28 : decode cX5_become 28 = .ok (.invokestatic 28, 3) := by decide +kernel
theorem dX5_become_31 : decode cX5_become 31 = .ok (.aload_n 1, 1) := by decide +kernel
theorem dX5_become_32 : decode cX5_become 32 = .ok (.getfield 15, 3) := by decide +kernel
theorem dX5_become_35 : decode cX5_become 35 = .ok (.iconst 0, 1) := by decide +kernel
theorem dX5_become_36 : decode cX5_become 36 = .ok (.aload_n 0, 1) := by decide +kernel
theorem dX5_become_37 : decode cX5_become 37 = .ok (.getfield 15, 3) := by decide +kernel
theorem dX5_become_40 : decode cX5_become 40 = .ok (.iconst 0, 1) := by decide +kernel
theorem dX5_become_41 : decode cX5_become 41 = .ok (.bipush 12, 2) := by decide +kernel
theorem dX5_become_43 : decode cX5_become 43 = .ok (.invokestatic 28, 3) := by decide +kernel
theorem dX5_become_46 : decode cX5_become 46 = .ok (.aload_n 1, 1) := by decide +kernel
theorem dX5_become_47 : decode cX5_become 47 = .ok (.getfield 18, 3) := by decide +kernel
theorem dX5_become_50 : decode cX5_become 50 = .ok (.iconst 0, 1) := by decide +kernel
theorem dX5_become_51 : decode cX5_become 51 = .ok (.aload_n 0, 1) := by decide +kernel
theorem dX5_become_52 : decode cX5_become 52 = .ok (.getfield 18, 3) := by decide +kernel
theorem dX5_become_55 : decode cX5_become 55 = .ok (.iconst 0, 1) := by decide +kernel
theorem dX5_become_56 : decode cX5_become 56 = .ok (.bipush 12, 2) := by decide +kernel
theorem dX5_become_58 : decode cX5_become 58 = .ok (.invokestatic 28, 3) := by decide +kernel
theorem dX5_become_61 : decode cX5_become 61 = .ok (.return_, 1) := by decide +kernel
def PM_X5_become (d : Nat) (E : zb_E) (x0 : Int) (x1 : Int) (m : zb_M) (Q : Int → zb_M → Prop) : Prop :=
  ∀ m5, m5 = zb_up m x0 0 (m x1 0) → (∀ m13, m13 = zb_up m5 x0 1 (m5 x1 1) → ((zb_cpo 0 0 12 12 12) ∧ (∀ m28, m28 = zb_cp m13 (E.2 x1 2) 0 (E.2 x0 2) 0 12 → (∀ m43, m43 = zb_cp m28 (E.2 x1 3) 0 (E.2 x0 3) 0 12 → (∀ m58, m58 = zb_cp m43 (E.2 x1 4) 0 (E.2 x0 4) 0 12 → (Q 0 m58))))))
set_option maxRecDepth 100000 in
set_option maxHeartbeats 4000000 in
theorem w_X5_become {d : Nat} {E : zb_E} {x0 x1 : Int} {m : zb_M} {Q : Int → zb_M → Prop} (h : PM_X5_become d E x0 x1 m Q) : zb_T K_X5_become (d + 1) [(2, x0), (2, x1)] E m Q := by
  unfold PM_X5_become at h
  refine zb_T_in gd_X5_become rfl rfl (fun hW hA G C hF => ?_)
  have i_0 : zb_is E.1 x0 5 := zb_aH hA (by decide)
  have i_1 : zb_is E.1 x1 5 := zb_aH (zb_aT hA) (by decide)
  show zb_WP _ _ 0 [(0, (2, x0)), (1, (2, x1))] [] _ _ _ _
  refine zb_aload_n (j := 0) dX5_become_0 rfl rfl ?_
  refine zb_aload_n (j := 1) dX5_become_1 rfl rfl ?_
  refine zb_gI 0 dX5_become_2 fl_X5_21 i_1 rfl rfl ?_
  refine zb_pF 0 dX5_become_5 fl_X5_21 rfl rfl i_0 (Or.inl rfl) hF rfl rfl (fun m5 e5 hF => ?_)
  have h := h m5 e5
  refine zb_aload_n (j := 0) dX5_become_8 rfl rfl ?_
  refine zb_aload_n (j := 1) dX5_become_9 rfl rfl ?_
  refine zb_gI 1 dX5_become_10 fl_X5_25 i_1 rfl rfl ?_
  refine zb_pF 1 dX5_become_13 fl_X5_25 rfl rfl i_0 (Or.inl rfl) hF rfl rfl (fun m13 e13 hF => ?_)
  have h := h m13 e13
  refine zb_aload_n (j := 1) dX5_become_16 rfl rfl ?_
  refine zb_gFa 2 dX5_become_17 fl_X5_9 i_1 hW hF rfl rfl rfl (by decide) rfl 12 rfl (fun i1 l2 => ?_)
  refine zb_iconst dX5_become_20 (zb_inIc rfl) ?_
  refine zb_aload_n (j := 0) dX5_become_21 rfl rfl ?_
  refine zb_gFa 2 dX5_become_22 fl_X5_9 i_0 hW hF rfl rfl rfl (by decide) rfl 12 rfl (fun i3 l4 => ?_)
  refine zb_iconst dX5_become_25 (zb_inIc rfl) ?_
  refine zb_bipush dX5_become_26 (by decide) (zb_inIc rfl) ?_
  obtain ⟨o5, h⟩ := h
  refine zb_cpI dX5_become_28 lk_X5_28 i1 i3 l2 l4 o5 (Nat.succ_le_succ (Nat.zero_le _)) (Nat.le_of_ble_eq_true rfl) hF (fun m28 e28 hF => ?_)
  have h := h m28 e28
  refine zb_aload_n (j := 1) dX5_become_31 rfl rfl ?_
  refine zb_gFa 3 dX5_become_32 fl_X5_15 i_1 hW hF rfl rfl rfl (by decide) rfl 12 rfl (fun i6 l7 => ?_)
  refine zb_iconst dX5_become_35 (zb_inIc rfl) ?_
  refine zb_aload_n (j := 0) dX5_become_36 rfl rfl ?_
  refine zb_gFa 3 dX5_become_37 fl_X5_15 i_0 hW hF rfl rfl rfl (by decide) rfl 12 rfl (fun i8 l9 => ?_)
  refine zb_iconst dX5_become_40 (zb_inIc rfl) ?_
  refine zb_bipush dX5_become_41 (by decide) (zb_inIc rfl) ?_
  refine zb_cpI dX5_become_43 lk_X5_28 i6 i8 l7 l9 o5 (Nat.succ_le_succ (Nat.zero_le _)) (Nat.le_of_ble_eq_true rfl) hF (fun m43 e43 hF => ?_)
  have h := h m43 e43
  refine zb_aload_n (j := 1) dX5_become_46 rfl rfl ?_
  refine zb_gFa 4 dX5_become_47 fl_X5_18 i_1 hW hF rfl rfl rfl (by decide) rfl 12 rfl (fun i10 l11 => ?_)
  refine zb_iconst dX5_become_50 (zb_inIc rfl) ?_
  refine zb_aload_n (j := 0) dX5_become_51 rfl rfl ?_
  refine zb_gFa 4 dX5_become_52 fl_X5_18 i_0 hW hF rfl rfl rfl (by decide) rfl 12 rfl (fun i12 l13 => ?_)
  refine zb_iconst dX5_become_55 (zb_inIc rfl) ?_
  refine zb_bipush dX5_become_56 (by decide) (zb_inIc rfl) ?_
  refine zb_cpI dX5_become_58 lk_X5_28 i10 i12 l11 l13 o5 (Nat.succ_le_succ (Nat.zero_le _)) (Nat.le_of_ble_eq_true rfl) hF (fun m58 e58 hF => ?_)
  have h := h m58 e58
  exact zb_rV dX5_become_61 rfl hF h
theorem dX5_isAlone_0 : decode cX5_isAlone 0 = .ok (.aload_n 0, 1) := by decide +kernel
theorem dX5_isAlone_1 : decode cX5_isAlone 1 = .ok (.getfield 15, 3) := by decide +kernel
theorem dX5_isAlone_4 : decode cX5_isAlone 4 = .ok (.aload_n 0, 1) := by decide +kernel
theorem dX5_isAlone_5 : decode cX5_isAlone 5 = .ok (.getfield 9, 3) := by decide +kernel
theorem dX5_isAlone_8 : decode cX5_isAlone 8 = .ok (.iload_n 1, 1) := by decide +kernel
theorem dX5_isAlone_9 : decode cX5_isAlone 9 = .ok (.iaload, 1) := by decide +kernel
theorem dX5_isAlone_10 : decode cX5_isAlone 10 = .ok (.iaload, 1) := by decide +kernel
theorem dX5_isAlone_11 : decode cX5_isAlone 11 = .ok (.iconst 1, 1) := by decide +kernel
theorem dX5_isAlone_12 : decode cX5_isAlone 12 = .ok (.if_icmp .ne 7, 3) := by decide +kernel
theorem dX5_isAlone_15 : decode cX5_isAlone 15 = .ok (.iconst 1, 1) := by decide +kernel
theorem dX5_isAlone_16 : decode cX5_isAlone 16 = .ok (.goto 4, 3) := by decide +kernel
theorem dX5_isAlone_19 : decode cX5_isAlone 19 = .ok (.iconst 0, 1) := by decide +kernel
theorem dX5_isAlone_20 : decode cX5_isAlone 20 = .ok (.ireturn, 1) := by decide +kernel
def PM_X5_isAlone (d : Nat) (E : zb_E) (x0 : Int) (x1 : Int) (m : zb_M) (Q : Int → Prop) : Prop :=
  (0 ≤ x1 ∧ x1 < 12) ∧ ((0 ≤ (m (E.2 x0 2) x1) ∧ (m (E.2 x0 2) x1) < 12) ∧ (((m (E.2 x0 3) (m (E.2 x0 2) x1)) = 1 → Q 1) ∧ (¬ (m (E.2 x0 3) (m (E.2 x0 2) x1)) = 1 → Q 0)))
set_option maxRecDepth 100000 in
set_option maxHeartbeats 4000000 in
theorem w_X5_isAlone {d : Nat} {E : zb_E} {x0 x1 : Int} {m : zb_M} {Q : Int → Prop} (h : PM_X5_isAlone d E x0 x1 m Q) : zb_Tp K_X5_isAlone (d + 1) [(2, x0), (0, x1)] E m Q := by
  unfold PM_X5_isAlone at h
  refine zb_T_in gd_X5_isAlone rfl rfl (fun hW hA G C hF => ?_)
  have i_0 : zb_is E.1 x0 5 := zb_aH hA (by decide)
  show zb_WP _ _ 0 [(0, (2, x0)), (1, (0, x1))] [] _ _ _ _
  refine zb_aload_n (j := 0) dX5_isAlone_0 rfl rfl ?_
  refine zb_gFa 3 dX5_isAlone_1 fl_X5_15 i_0 hW hF rfl rfl rfl (by decide) rfl 12 rfl (fun i1 l2 => ?_)
  refine zb_aload_n (j := 0) dX5_isAlone_4 rfl rfl ?_
  refine zb_gFa 2 dX5_isAlone_5 fl_X5_9 i_0 hW hF rfl rfl rfl (by decide) rfl 12 rfl (fun i3 l4 => ?_)
  refine zb_iload_n (j := 1) dX5_isAlone_8 rfl rfl ?_
  obtain ⟨o5, h⟩ := h
  refine zb_lI dX5_isAlone_9 i3 l4 o5.1 o5.2 ?_
  obtain ⟨o6, h⟩ := h
  refine zb_lI dX5_isAlone_10 i1 l2 o6.1 o6.2 ?_
  refine zb_iconst dX5_isAlone_11 (zb_inIc rfl) ?_
  refine zb_icmp_ne (tgt := 19) dX5_isAlone_12 (by decide) (fun c7 => ?_) (fun c7 => ?_)
  · have h := h.2 c7
    refine zb_iconst dX5_isAlone_19 (zb_inIc rfl) ?_
    exact zb_rZ dX5_isAlone_20 rfl hF (by decide) ⟨rfl, h⟩
  · have h := h.1 c7
    refine zb_iconst dX5_isAlone_15 (zb_inIc rfl) ?_
    refine zb_goto (tgt := 20) dX5_isAlone_16 (by decide) ?_
    exact zb_rZ dX5_isAlone_20 rfl hF (by decide) ⟨rfl, h⟩
theorem dX5_isAllAlone_0 : decode cX5_isAllAlone 0 = .ok (.aload_n 0, 1) := by decide +kernel
theorem dX5_isAllAlone_1 : decode cX5_isAllAlone 1 = .ok (.getfield 25, 3) := by decide +kernel
theorem dX5_isAllAlone_4 : decode cX5_isAllAlone 4 = .ok (.aload_n 0, 1) := by decide +kernel
theorem dX5_isAllAlone_5 : decode cX5_isAllAlone 5 = .ok (.getfield 21, 3) := by decide +kernel
theorem dX5_isAllAlone_8 : decode cX5_isAllAlone 8 = .ok (.if_icmp .ne 7, 3) := by decide +kernel
theorem dX5_isAllAlone_11 : decode cX5_isAllAlone 11 = .ok (.iconst 1, 1) := by decide +kernel
theorem dX5_isAllAlone_12 : decode cX5_isAllAlone 12 = .ok (.goto 4, 3) := by decide +kernel
theorem dX5_isAllAlone_15 : decode cX5_isAllAlone 15 = .ok (.iconst 0, 1) := by decide +kernel
theorem dX5_isAllAlone_16 : decode cX5_isAllAlone 16 = .ok (.ireturn, 1) := by decide +kernel
def PM_X5_isAllAlone (d : Nat) (E : zb_E) (x0 : Int) (m : zb_M) (Q : Int → Prop) : Prop :=
  ((m x0 1) = (m x0 0) → Q 1) ∧ (¬ (m x0 1) = (m x0 0) → Q 0)
set_option maxRecDepth 100000 in
set_option maxHeartbeats 4000000 in
theorem w_X5_isAllAlone {d : Nat} {E : zb_E} {x0 : Int} {m : zb_M} {Q : Int → Prop} (h : PM_X5_isAllAlone d E x0 m Q) : zb_Tp K_X5_isAllAlone (d + 1) [(2, x0)] E m Q := by
  unfold PM_X5_isAllAlone at h
  refine zb_T_in gd_X5_isAllAlone rfl rfl (fun hW hA G C hF => ?_)
  have i_0 : zb_is E.1 x0 5 := zb_aH hA (by decide)
  show zb_WP _ _ 0 [(0, (2, x0))] [] _ _ _ _
  refine zb_aload_n (j := 0) dX5_isAllAlone_0 rfl rfl ?_
  refine zb_gI 1 dX5_isAllAlone_1 fl_X5_25 i_0 rfl rfl ?_
  refine zb_aload_n (j := 0) dX5_isAllAlone_4 rfl rfl ?_
  refine zb_gI 0 dX5_isAllAlone_5 fl_X5_21 i_0 rfl rfl ?_
  refine zb_icmp_ne (tgt := 15) dX5_isAllAlone_8 (by decide) (fun c1 => ?_) (fun c1 => ?_)
  · have h := h.2 c1
    refine zb_iconst dX5_isAllAlone_15 (zb_inIc rfl) ?_
    exact zb_rZ dX5_isAllAlone_16 rfl hF (by decide) ⟨rfl, h⟩
  · have h := h.1 c1
    refine zb_iconst dX5_isAllAlone_11 (zb_inIc rfl) ?_
    refine zb_goto (tgt := 16) dX5_isAllAlone_12 (by decide) ?_
    exact zb_rZ dX5_isAllAlone_16 rfl hF (by decide) ⟨rfl, h⟩
theorem dX5_firstBigHeap_0 : decode cX5_firstBigHeap 0 = .ok (.iconst 0, 1) := by decide +kernel
theorem dX5_firstBigHeap_1 : decode cX5_firstBigHeap 1 = .ok (.istore_n 1, 1) := by decide +kernel
theorem dX5_firstBigHeap_2 : decode cX5_firstBigHeap 2 = .ok (.iload_n 1, 1) := by decide +kernel
theorem dX5_firstBigHeap_3 : decode cX5_firstBigHeap 3 = .ok (.aload_n 0, 1) := by decide +kernel
theorem dX5_firstBigHeap_4 : decode cX5_firstBigHeap 4 = .ok (.getfield 25, 3) := by decide +kernel
theorem dX5_firstBigHeap_7 : decode cX5_firstBigHeap 7 = .ok (.if_icmp .ge 21, 3) := by decide +kernel
theorem dX5_firstBigHeap_10 : decode cX5_firstBigHeap 10 = .ok (.aload_n 0, 1) := by decide +kernel
theorem dX5_firstBigHeap_11 : decode cX5_firstBigHeap 11 = .ok (.getfield 15, 3) := by decide +kernel
theorem dX5_firstBigHeap_14 : decode cX5_firstBigHeap 14 = .ok (.iload_n 1, 1) := by decide +kernel
theorem dX5_firstBigHeap_15 : decode cX5_firstBigHeap 15 = .ok (.iaload, 1) := by decide +kernel
theorem dX5_firstBigHeap_16 : decode cX5_firstBigHeap 16 = .ok (.iconst 1, 1) := by decide +kernel
theorem dX5_firstBigHeap_17 : decode cX5_firstBigHeap 17 = .ok (.if_icmp .le 5, 3) := by decide +kernel
theorem dX5_firstBigHeap_20 : decode cX5_firstBigHeap 20 = .ok (.iload_n 1, 1) := by decide +kernel
theorem dX5_firstBigHeap_21 : decode cX5_firstBigHeap 21 = .ok (.ireturn, 1) := by decide +kernel
theorem dX5_firstBigHeap_22 : decode cX5_firstBigHeap 22 = .ok (.iinc 1 1, 3) := by decide +kernel
theorem dX5_firstBigHeap_25 : decode cX5_firstBigHeap 25 = .ok (.goto (-23), 3) := by decide +kernel
theorem dX5_firstBigHeap_28 : decode cX5_firstBigHeap 28 = .ok (.iconst (-1), 1) := by decide +kernel
theorem dX5_firstBigHeap_29 : decode cX5_firstBigHeap 29 = .ok (.ireturn, 1) := by decide +kernel
def PL_X5_firstBigHeap_2 (d : Nat) (E : zb_E) (x0 : Int) (m : zb_M) (Q : Int → Prop)  (v1_2 : Int) : Prop :=
  ∀ X2 : Int → Prop, (∀ (v1_2 : Int), (((m x0 1) ≤ v1_2 → Q (-1)) ∧ (¬ (m x0 1) ≤ v1_2 → (0 ≤ v1_2 ∧ v1_2 < 12) ∧ (((m (E.2 x0 3) v1_2) ≤ 1 → (zb_inI (v1_2 + 1)) ∧ (X2 (v1_2 + 1))) ∧ (¬ (m (E.2 x0 3) v1_2) ≤ 1 → Q v1_2)))) → X2 v1_2) → X2 v1_2
def PM_X5_firstBigHeap (d : Nat) (E : zb_E) (x0 : Int) (m : zb_M) (Q : Int → Prop) : Prop :=
  PL_X5_firstBigHeap_2 d E x0 m Q 0
set_option maxRecDepth 100000 in
set_option maxHeartbeats 4000000 in
theorem w_X5_firstBigHeap {d : Nat} {E : zb_E} {x0 : Int} {m : zb_M} {Q : Int → Prop} (h : PM_X5_firstBigHeap d E x0 m Q) : zb_Tp K_X5_firstBigHeap (d + 1) [(2, x0)] E m Q := by
  unfold PM_X5_firstBigHeap at h
  refine zb_T_in gd_X5_firstBigHeap rfl rfl (fun hW hA G C hF => ?_)
  have i_0 : zb_is E.1 x0 5 := zb_aH hA (by decide)
  show zb_WP _ _ 0 [(0, (2, x0))] [] _ _ _ _
  refine zb_iconst dX5_firstBigHeap_0 (zb_inIc rfl) ?_
  refine zb_istore_n (L' := [(1, (0, 0)), (0, (2, x0))]) dX5_firstBigHeap_1 rfl (by decide) rfl ?_
  refine zb_sub (L' := [(0, (2, x0)), (1, (0, 0))]) [1, 0] rfl ?_
  unfold PL_X5_firstBigHeap_2 at h
  obtain ⟨X2, hX2⟩ : ∃ X : Int → Prop, ∀ (v1_2 : Int), (X v1_2 ↔ (zb_FIN E m → zb_WP (G, C, d + 1, 0, 0, zb_q E (fun r m' => m' = m ∧ Q r)) F_X5_firstBigHeap 2 [(0, (2, x0)), (1, (0, v1_2))] [] E.1 m 0 0)) := ⟨fun v1_2 => zb_FIN E m → zb_WP (G, C, d + 1, 0, 0, zb_q E (fun r m' => m' = m ∧ Q r)) F_X5_firstBigHeap 2 [(0, (2, x0)), (1, (0, v1_2))] [] E.1 m 0 0, fun _ => Iff.rfl⟩
  refine (hX2 _).mp (h X2 (fun v1_2 h => (hX2 _).mpr (fun hF => ?_))) hF
  refine zb_iload_n (j := 1) dX5_firstBigHeap_2 rfl rfl ?_
  refine zb_aload_n (j := 0) dX5_firstBigHeap_3 rfl rfl ?_
  refine zb_gI 1 dX5_firstBigHeap_4 fl_X5_25 i_0 rfl rfl ?_
  refine zb_icmp_ge (tgt := 28) dX5_firstBigHeap_7 (by decide) (fun c1 => ?_) (fun c1 => ?_)
  · have h := h.1 c1
    refine zb_iconst dX5_firstBigHeap_28 (zb_inIc rfl) ?_
    exact zb_rI dX5_firstBigHeap_29 rfl hF ⟨rfl, h⟩
  · have h := h.2 c1
    refine zb_aload_n (j := 0) dX5_firstBigHeap_10 rfl rfl ?_
    refine zb_gFa 3 dX5_firstBigHeap_11 fl_X5_15 i_0 hW hF rfl rfl rfl (by decide) rfl 12 rfl (fun i2 l3 => ?_)
    refine zb_iload_n (j := 1) dX5_firstBigHeap_14 rfl rfl ?_
    obtain ⟨o4, h⟩ := h
    refine zb_lI dX5_firstBigHeap_15 i2 l3 o4.1 o4.2 ?_
    refine zb_iconst dX5_firstBigHeap_16 (zb_inIc rfl) ?_
    refine zb_icmp_le (tgt := 22) dX5_firstBigHeap_17 (by decide) (fun c5 => ?_) (fun c5 => ?_)
    · have h := h.1 c5
      obtain ⟨o6, h⟩ := h
      refine zb_iinc (j := 1) (L' := [(1, (0, (v1_2 + 1))), (0, (2, x0))]) dX5_firstBigHeap_22 rfl o6 (by decide) rfl ?_
      refine zb_goto (tgt := 2) dX5_firstBigHeap_25 (by decide) ?_
      refine zb_sub (L' := [(0, (2, x0)), (1, (0, (v1_2 + 1)))]) [1, 0] rfl ?_
      exact (hX2 _).mp h hF
    · have h := h.2 c5
      refine zb_iload_n (j := 1) dX5_firstBigHeap_20 rfl rfl ?_
      exact zb_rI dX5_firstBigHeap_21 rfl hF ⟨rfl, h⟩
theorem dX5_firstNotAlone_0 : decode cX5_firstNotAlone 0 = .ok (.iconst 0, 1) := by decide +kernel
theorem dX5_firstNotAlone_1 : decode cX5_firstNotAlone 1 = .ok (.istore_n 1, 1) := by decide +kernel
theorem dX5_firstNotAlone_2 : decode cX5_firstNotAlone 2 = .ok (.iload_n 1, 1) := by decide +kernel
theorem dX5_firstNotAlone_3 : decode cX5_firstNotAlone 3 = .ok (.aload_n 0, 1) := by decide +kernel
theorem dX5_firstNotAlone_4 : decode cX5_firstNotAlone 4 = .ok (.getfield 21, 3) := by decide +kernel
theorem dX5_firstNotAlone_7 : decode cX5_firstNotAlone 7 = .ok (.if_icmp .ge 19, 3) := by decide +kernel
theorem dX5_firstNotAlone_10 : decode cX5_firstNotAlone 10 = .ok (.aload_n 0, 1) := by decide +kernel
theorem dX5_firstNotAlone_11 : decode cX5_firstNotAlone 11 = .ok (.iload_n 1, 1) := by decide +kernel
theorem dX5_firstNotAlone_12 : decode cX5_firstNotAlone 12 = .ok (.invokevirtual 34, 3) := by decide +kernel
theorem dX5_firstNotAlone_15 : decode cX5_firstNotAlone 15 = .ok (.ifCond .ne 5, 3) := by decide +kernel
theorem dX5_firstNotAlone_18 : decode cX5_firstNotAlone 18 = .ok (.iload_n 1, 1) := by decide +kernel
theorem dX5_firstNotAlone_19 : decode cX5_firstNotAlone 19 = .ok (.ireturn, 1) := by decide +kernel
theorem dX5_firstNotAlone_20 : decode cX5_firstNotAlone 20 = .ok (.iinc 1 1, 3) := by decide +kernel
theorem dX5_firstNotAlone_23 : decode cX5_firstNotAlone 23 = .ok (.goto (-21), 3) := by decide +kernel
theorem dX5_firstNotAlone_26 : decode cX5_firstNotAlone 26 = .ok (.iconst (-1), 1) := by decide +kernel
theorem dX5_firstNotAlone_27 : decode cX5_firstNotAlone 27 = .ok (.ireturn, 1) := by decide +kernel
def PL_X5_firstNotAlone_2 (d : Nat) (E : zb_E) (x0 : Int) (m : zb_M) (Q : Int → Prop)  (v1_2 : Int) : Prop :=
  ∀ X2 : Int → Prop, (∀ (v1_2 : Int), (((m x0 0) ≤ v1_2 → Q (-1)) ∧ (¬ (m x0 0) ≤ v1_2 → zb_Tp K_X5_isAlone d [(2, x0), (0, v1_2)] E m (fun r12 => (r12 = 0 → Q v1_2) ∧ (¬ r12 = 0 → (zb_inI (v1_2 + 1)) ∧ (X2 (v1_2 + 1)))))) → X2 v1_2) → X2 v1_2
def PM_X5_firstNotAlone (d : Nat) (E : zb_E) (x0 : Int) (m : zb_M) (Q : Int → Prop) : Prop :=
  PL_X5_firstNotAlone_2 d E x0 m Q 0
set_option maxRecDepth 100000 in
set_option maxHeartbeats 4000000 in
theorem w_X5_firstNotAlone {d : Nat} {E : zb_E} {x0 : Int} {m : zb_M} {Q : Int → Prop} (h : PM_X5_firstNotAlone d E x0 m Q) : zb_Tp K_X5_firstNotAlone (d + 1) [(2, x0)] E m Q := by
  unfold PM_X5_firstNotAlone at h
  refine zb_T_in gd_X5_firstNotAlone rfl rfl (fun hW hA G C hF => ?_)
  have i_0 : zb_is E.1 x0 5 := zb_aH hA (by decide)
  show zb_WP _ _ 0 [(0, (2, x0))] [] _ _ _ _
  refine zb_iconst dX5_firstNotAlone_0 (zb_inIc rfl) ?_
  refine zb_istore_n (L' := [(1, (0, 0)), (0, (2, x0))]) dX5_firstNotAlone_1 rfl (by decide) rfl ?_
  refine zb_sub (L' := [(0, (2, x0)), (1, (0, 0))]) [1, 0] rfl ?_
  unfold PL_X5_firstNotAlone_2 at h
  obtain ⟨X2, hX2⟩ : ∃ X : Int → Prop, ∀ (v1_2 : Int), (X v1_2 ↔ (zb_FIN E m → zb_WP (G, C, d + 1, 0, 0, zb_q E (fun r m' => m' = m ∧ Q r)) F_X5_firstNotAlone 2 [(0, (2, x0)), (1, (0, v1_2))] [] E.1 m 0 0)) := ⟨fun v1_2 => zb_FIN E m → zb_WP (G, C, d + 1, 0, 0, zb_q E (fun r m' => m' = m ∧ Q r)) F_X5_firstNotAlone 2 [(0, (2, x0)), (1, (0, v1_2))] [] E.1 m 0 0, fun _ => Iff.rfl⟩
  refine (hX2 _).mp (h X2 (fun v1_2 h => (hX2 _).mpr (fun hF => ?_))) hF
  refine zb_iload_n (j := 1) dX5_firstNotAlone_2 rfl rfl ?_
  refine zb_aload_n (j := 0) dX5_firstNotAlone_3 rfl rfl ?_
  refine zb_gI 0 dX5_firstNotAlone_4 fl_X5_21 i_0 rfl rfl ?_
  refine zb_icmp_ge (tgt := 26) dX5_firstNotAlone_7 (by decide) (fun c1 => ?_) (fun c1 => ?_)
  · have h := h.1 c1
    refine zb_iconst dX5_firstNotAlone_26 (zb_inIc rfl) ?_
    exact zb_rI dX5_firstNotAlone_27 rfl hF ⟨rfl, h⟩
  · have h := h.2 c1
    refine zb_aload_n (j := 0) dX5_firstNotAlone_10 rfl rfl ?_
    refine zb_iload_n (j := 1) dX5_firstNotAlone_11 rfl rfl ?_
    refine zb_cVp (As := [(0, v1_2)]) (As' := [(0, v1_2)]) (st := []) dX5_firstNotAlone_12 lk_X5_34 gd_X5_isAlone rfl rfl i_0 ⟨_, rfl, rfl⟩ h hW hF (zb_aR i_0 (zb_aI zb_a0)) (Nat.le_refl _) (Nat.le_of_ble_eq_true rfl) (fun r12 h => ?_)
    show zb_WP _ _ _ _ [(0, r12)] _ _ _ _
    refine zb_if_ne (tgt := 20) dX5_firstNotAlone_15 (by decide) (fun c2 => ?_) (fun c2 => ?_)
    · have h := h.2 c2
      obtain ⟨o3, h⟩ := h
      refine zb_iinc (j := 1) (L' := [(1, (0, (v1_2 + 1))), (0, (2, x0))]) dX5_firstNotAlone_20 rfl o3 (by decide) rfl ?_
      refine zb_goto (tgt := 2) dX5_firstNotAlone_23 (by decide) ?_
      refine zb_sub (L' := [(0, (2, x0)), (1, (0, (v1_2 + 1)))]) [1, 0] rfl ?_
      exact (hX2 _).mp h hF
    · have h := h.1 c2
      refine zb_iload_n (j := 1) dX5_firstNotAlone_18 rfl rfl ?_
      exact zb_rI dX5_firstNotAlone_19 rfl hF ⟨rfl, h⟩
theorem dX5_setApart_0 : decode cX5_setApart 0 = .ok (.aload_n 0, 1) := by decide +kernel
theorem dX5_setApart_1 : decode cX5_setApart 1 = .ok (.iload_n 1, 1) := by decide +kernel
theorem dX5_setApart_2 : decode cX5_setApart 2 = .ok (.invokevirtual 34, 3) := by decide +kernel
theorem dX5_setApart_5 : decode cX5_setApart 5 = .ok (.ifCond .eq 4, 3) := by decide +kernel
theorem dX5_setApart_8 : decode cX5_setApart 8 = .ok (.return_, 1) := by decide +kernel
theorem dX5_setApart_9 : decode cX5_setApart 9 = .ok (.aload_n 0, 1) := by decide +kernel
theorem dX5_setApart_10 : decode cX5_setApart 10 = .ok (.getfield 9, 3) := by decide +kernel
theorem dX5_setApart_13 : decode cX5_setApart 13 = .ok (.iload_n 1, 1) := by decide +kernel
theorem dX5_setApart_14 : decode cX5_setApart 14 = .ok (.iaload, 1) := by decide +kernel
theorem dX5_setApart_15 : decode cX5_setApart 15 = .ok (.istore_n 2, 1) := by decide +kernel
theorem dX5_setApart_16 : decode cX5_setApart 16 = .ok (.aload_n 0, 1) := by decide +kernel
theorem dX5_setApart_17 : decode cX5_setApart 17 = .ok (.getfield 25, 3) := by decide +kernel
theorem dX5_setApart_20 : decode cX5_setApart 20 = .ok (.istore_n 3, 1) := by decide +kernel
theorem dX5_setApart_21 : decode cX5_setApart 21 = .ok (.iload_n 3, 1) := by decide +kernel
theorem dX5_setApart_22 : decode cX5_setApart 22 = .ok (.iload_n 2, 1) := by decide +kernel
theorem dX5_setApart_23 : decode cX5_setApart 23 = .ok (.iconst 1, 1) := by decide +kernel
theorem dX5_setApart_24 : decode cX5_setApart 24 = .ok (.iadd, 1) := by decide +kernel
theorem dX5_setApart_25 : decode cX5_setApart 25 = .ok (.if_icmp .le 23, 3) := by decide +kernel
theorem dX5_setApart_28 : decode cX5_setApart 28 = .ok (.aload_n 0, 1) := by decide +kernel
theorem dX5_setApart_29 : decode cX5_setApart 29 = .ok (.getfield 15, 3) := by decide +kernel
theorem dX5_setApart_32 : decode cX5_setApart 32 = .ok (.iload_n 3, 1) := by decide +kernel
theorem dX5_setApart_33 : decode cX5_setApart 33 = .ok (.aload_n 0, 1) := by decide +kernel
theorem dX5_setApart_34 : decode cX5_setApart 34 = .ok (.getfield 15, 3) := by decide +kernel
theorem dX5_setApart_37 : decode cX5_setApart 37 = .ok (.iload_n 3, 1) := by decide +kernel
theorem dX5_setApart_38 : decode cX5_setApart 38 = .ok (.iconst 1, 1) := by decide +kernel
theorem dX5_setApart_39 : decode cX5_setApart 39 = .ok (.isub, 1) := by decide +kernel
theorem dX5_setApart_40 : decode cX5_setApart 40 = .ok (.iaload, 1) := by decide +kernel
theorem dX5_setApart_41 : decode cX5_setApart 41 = .ok (.iastore, 1) := by decide +kernel
theorem dX5_setApart_42 : decode cX5_setApart 42 = .ok (.iinc 3 (-1), 3) := by decide +kernel
theorem dX5_setApart_45 : decode cX5_setApart 45 = .ok (.goto (-24), 3) := by decide +kernel
theorem dX5_setApart_48 : decode cX5_setApart 48 = .ok (.aload_n 0, 1) := by decide +kernel
theorem dX5_setApart_49 : decode cX5_setApart 49 = .ok (.getfield 15, 3) := by decide +kernel
theorem dX5_setApart_52 : decode cX5_setApart 52 = .ok (.iload_n 2, 1) := by decide +kernel
theorem dX5_setApart_53 : decode cX5_setApart 53 = .ok (.iconst 1, 1) := by decide +kernel
theorem dX5_setApart_54 : decode cX5_setApart 54 = .ok (.iadd, 1) := by decide +kernel
theorem dX5_setApart_55 : decode cX5_setApart 55 = .ok (.aload_n 0, 1) := by decide +kernel
theorem dX5_setApart_56 : decode cX5_setApart 56 = .ok (.getfield 15, 3) := by decide +kernel
theorem dX5_setApart_59 : decode cX5_setApart 59 = .ok (.iload_n 2, 1) := by decide +kernel
theorem dX5_setApart_60 : decode cX5_setApart 60 = .ok (.iaload, 1) := by decide +kernel
theorem dX5_setApart_61 : decode cX5_setApart 61 = .ok (.iconst 1, 1) := by decide +kernel
theorem dX5_setApart_62 : decode cX5_setApart 62 = .ok (.isub, 1) := by decide +kernel
theorem dX5_setApart_63 : decode cX5_setApart 63 = .ok (.iastore, 1) := by decide +kernel
theorem dX5_setApart_64 : decode cX5_setApart 64 = .ok (.aload_n 0, 1) := by decide +kernel
theorem dX5_setApart_65 : decode cX5_setApart 65 = .ok (.getfield 15, 3) := by decide +kernel
theorem dX5_setApart_68 : decode cX5_setApart 68 = .ok (.iload_n 2, 1) := by decide +kernel
theorem dX5_setApart_69 : decode cX5_setApart 69 = .ok (.iconst 1, 1) := by decide +kernel
theorem dX5_setApart_70 : decode cX5_setApart 70 = .ok (.iastore, 1) := by decide +kernel
theorem dX5_setApart_71 : decode cX5_setApart 71 = .ok (.aload_n 0, 1) := by decide +kernel
theorem dX5_setApart_72 : decode cX5_setApart 72 = .ok (.dup, 1) := by decide +kernel
theorem dX5_setApart_73 : decode cX5_setApart 73 = .ok (.getfield 25, 3) := by decide +kernel
theorem dX5_setApart_76 : decode cX5_setApart 76 = .ok (.iconst 1, 1) := by decide +kernel
theorem dX5_setApart_77 : decode cX5_setApart 77 = .ok (.iadd, 1) := by decide +kernel
theorem dX5_setApart_78 : decode cX5_setApart 78 = .ok (.putfield 25, 3) := by decide +kernel
theorem dX5_setApart_81 : decode cX5_setApart 81 = .ok (.iconst 0, 1) := by decide +kernel
theorem dX5_setApart_82 : decode cX5_setApart 82 = .ok (.istore_n 3, 1) := by decide +kernel
theorem dX5_setApart_83 : decode cX5_setApart 83 = .ok (.iload_n 3, 1) := by decide +kernel
theorem dX5_setApart_84 : decode cX5_setApart 84 = .ok (.aload_n 0, 1) := by decide +kernel
theorem dX5_setApart_85 : decode cX5_setApart 85 = .ok (.getfield 21, 3) := by decide +kernel
theorem dX5_setApart_88 : decode cX5_setApart 88 = .ok (.if_icmp .ge 34, 3) := by decide +kernel
theorem dX5_setApart_91 : decode cX5_setApart 91 = .ok (.iload_n 3, 1) := by decide +kernel
theorem dX5_setApart_92 : decode cX5_setApart 92 = .ok (.iload_n 1, 1) := by decide +kernel
theorem dX5_setApart_93 : decode cX5_setApart 93 = .ok (.if_icmp .eq 23, 3) := by decide +kernel
theorem dX5_setApart_96 : decode cX5_setApart 96 = .ok (.aload_n 0, 1) := by decide +kernel
theorem dX5_setApart_97 : decode cX5_setApart 97 = .ok (.getfield 9, 3) := by decide +kernel
theorem dX5_setApart_100 : decode cX5_setApart 100 = .ok (.iload_n 3, 1) := by decide +kernel
theorem dX5_setApart_101 : decode cX5_setApart 101 = .ok (.iaload, 1) := by decide +kernel
theorem dX5_setApart_102 : decode cX5_setApart 102 = .ok (.iload_n 2, 1) := by decide +kernel
theorem dX5_setApart_103 : decode cX5_setApart 103 = .ok (.if_icmp .lt 13, 3) := by decide +kernel
theorem dX5_setApart_106 : decode cX5_setApart 106 = .ok (.aload_n 0, 1) := by decide +kernel
theorem dX5_setApart_107 : decode cX5_setApart 107 = .ok (.getfield 9, 3) := by decide +kernel
theorem dX5_setApart_110 : decode cX5_setApart 110 = .ok (.iload_n 3, 1) := by decide +kernel
theorem dX5_setApart_111 : decode cX5_setApart 111 = .ok (.dup2, 1) := by decide +kernel
theorem dX5_setApart_112 : decode cX5_setApart 112 = .ok (.iaload, 1) := by decide +kernel
theorem dX5_setApart_113 : decode cX5_setApart 113 = .ok (.iconst 1, 1) := by decide +kernel
theorem dX5_setApart_114 : decode cX5_setApart 114 = .ok (.iadd, 1) := by decide +kernel
theorem dX5_setApart_115 : decode cX5_setApart 115 = .ok (.iastore, 1) := by decide +kernel
theorem dX5_setApart_116 : decode cX5_setApart 116 = .ok (.iinc 3 1, 3) := by decide +kernel
theorem dX5_setApart_119 : decode cX5_setApart 119 = .ok (.goto (-36), 3) := by decide +kernel
theorem dX5_setApart_122 : decode cX5_setApart 122 = .ok (.aload_n 0, 1) := by decide +kernel
theorem dX5_setApart_123 : decode cX5_setApart 123 = .ok (.iload_n 1, 1) := by decide +kernel
theorem dX5_setApart_124 : decode cX5_setApart 124 = .ok (.invokevirtual 38, 3) := by decide +kernel
theorem dX5_setApart_127 : decode cX5_setApart 127 = .ok (.return_, 1) := by decide +kernel
def PJ_X5_setApart_122 (d : Nat) (E : zb_E) (x0 : Int) (x1 : Int) (Q : Int → zb_M → Prop) (m122j : zb_M) : Prop :=
  zb_T K_X5_moveAhead d [(2, x0), (0, x1)] E m122j (fun r124 m124 => Q 0 m124)
def PL_X5_setApart_83 (d : Nat) (E : zb_E) (x0 : Int) (x1 : Int) (m : zb_M) (Q : Int → zb_M → Prop) (K122_83 : zb_M → Prop) (v3_83 : Int) (m83l : zb_M) : Prop :=
  ∀ X83 : Int → zb_M → Prop, (∀ (v3_83 : Int) (m83l : zb_M), (((m83l x0 0) ≤ v3_83 → K122_83 m83l) ∧ (¬ (m83l x0 0) ≤ v3_83 → (v3_83 = x1 → (zb_inI (v3_83 + 1)) ∧ (X83 (v3_83 + 1) m83l)) ∧ (¬ v3_83 = x1 → (0 ≤ v3_83 ∧ v3_83 < 12) ∧ (((m83l (E.2 x0 2) v3_83) < (m (E.2 x0 2) x1) → (zb_inI (v3_83 + 1)) ∧ (X83 (v3_83 + 1) m83l)) ∧ (¬ (m83l (E.2 x0 2) v3_83) < (m (E.2 x0 2) x1) → (zb_inI ((m83l (E.2 x0 2) v3_83) + 1)) ∧ (∀ m115, m115 = zb_up m83l (E.2 x0 2) v3_83 ((m83l (E.2 x0 2) v3_83) + 1) → ((zb_inI (v3_83 + 1)) ∧ (X83 (v3_83 + 1) m115)))))))) → X83 v3_83 m83l) → X83 v3_83 m83l
def PJ_X5_setApart_48 (d : Nat) (E : zb_E) (x0 : Int) (x1 : Int) (m : zb_M) (Q : Int → zb_M → Prop) (m48j : zb_M) : Prop :=
  (zb_inI ((m (E.2 x0 2) x1) + 1)) ∧ ((0 ≤ (m (E.2 x0 2) x1) ∧ (m (E.2 x0 2) x1) < 12) ∧ ((zb_inI ((m48j (E.2 x0 3) (m (E.2 x0 2) x1)) - 1)) ∧ ((0 ≤ ((m (E.2 x0 2) x1) + 1) ∧ ((m (E.2 x0 2) x1) + 1) < 12) ∧ (∀ m63, m63 = zb_up m48j (E.2 x0 3) ((m (E.2 x0 2) x1) + 1) ((m48j (E.2 x0 3) (m (E.2 x0 2) x1)) - 1) → (∀ m70, m70 = zb_up m63 (E.2 x0 3) (m (E.2 x0 2) x1) 1 → ((zb_inI ((m70 x0 1) + 1)) ∧ (∀ m78, m78 = zb_up m70 x0 1 ((m70 x0 1) + 1) → (PL_X5_setApart_83 d E x0 x1 m Q (PJ_X5_setApart_122 d E x0 x1 Q) 0 m78))))))))
def PL_X5_setApart_21 (d : Nat) (E : zb_E) (x0 : Int) (x1 : Int) (m : zb_M) (Q : Int → zb_M → Prop) (K48_21 : zb_M → Prop) (v3_21 : Int) (m21l : zb_M) : Prop :=
  ∀ X21 : Int → zb_M → Prop, (∀ (v3_21 : Int) (m21l : zb_M), ((zb_inI ((m (E.2 x0 2) x1) + 1)) ∧ ((v3_21 ≤ ((m (E.2 x0 2) x1) + 1) → K48_21 m21l) ∧ (¬ v3_21 ≤ ((m (E.2 x0 2) x1) + 1) → (zb_inI (v3_21 - 1)) ∧ ((0 ≤ (v3_21 - 1) ∧ (v3_21 - 1) < 12) ∧ ((0 ≤ v3_21 ∧ v3_21 < 12) ∧ (∀ m41, m41 = zb_up m21l (E.2 x0 3) v3_21 (m21l (E.2 x0 3) (v3_21 - 1)) → ((zb_inI (v3_21 + (-1))) ∧ (X21 (v3_21 + (-1)) m41)))))))) → X21 v3_21 m21l) → X21 v3_21 m21l
def PM_X5_setApart (d : Nat) (E : zb_E) (x0 : Int) (x1 : Int) (m : zb_M) (Q : Int → zb_M → Prop) : Prop :=
  zb_Tp K_X5_isAlone d [(2, x0), (0, x1)] E m (fun r2 => (r2 = 0 → (0 ≤ x1 ∧ x1 < 12) ∧ (PL_X5_setApart_21 d E x0 x1 m Q (PJ_X5_setApart_48 d E x0 x1 m Q) (m x0 1) m)) ∧ (¬ r2 = 0 → Q 0 m))
set_option maxRecDepth 100000 in
set_option maxHeartbeats 4000000 in
theorem w_X5_setApart {d : Nat} {E : zb_E} {x0 x1 : Int} {m : zb_M} {Q : Int → zb_M → Prop} (h : PM_X5_setApart d E x0 x1 m Q) : zb_T K_X5_setApart (d + 1) [(2, x0), (0, x1)] E m Q := by
  unfold PM_X5_setApart at h
  refine zb_T_in gd_X5_setApart rfl rfl (fun hW hA G C hF => ?_)
  have i_0 : zb_is E.1 x0 5 := zb_aH hA (by decide)
  show zb_WP _ _ 0 [(0, (2, x0)), (1, (0, x1))] [] _ _ _ _
  refine zb_aload_n (j := 0) dX5_setApart_0 rfl rfl ?_
  refine zb_iload_n (j := 1) dX5_setApart_1 rfl rfl ?_
  refine zb_cVp (As := [(0, x1)]) (As' := [(0, x1)]) (st := []) dX5_setApart_2 lk_X5_34 gd_X5_isAlone rfl rfl i_0 ⟨_, rfl, rfl⟩ h hW hF (zb_aR i_0 (zb_aI zb_a0)) (Nat.le_refl _) (Nat.le_of_ble_eq_true rfl) (fun r2 h => ?_)
  show zb_WP _ _ _ _ [(0, r2)] _ _ _ _
  refine zb_if_eq (tgt := 9) dX5_setApart_5 (by decide) (fun c1 => ?_) (fun c1 => ?_)
  · have h := h.1 c1
    refine zb_aload_n (j := 0) dX5_setApart_9 rfl rfl ?_
    refine zb_gFa 2 dX5_setApart_10 fl_X5_9 i_0 hW hF rfl rfl rfl (by decide) rfl 12 rfl (fun i2 l3 => ?_)
    refine zb_iload_n (j := 1) dX5_setApart_13 rfl rfl ?_
    obtain ⟨o4, h⟩ := h
    refine zb_lI dX5_setApart_14 i2 l3 o4.1 o4.2 ?_
    refine zb_istore_n (L' := [(2, (0, (m (E.2 x0 2) x1))), (0, (2, x0)), (1, (0, x1))]) dX5_setApart_15 rfl (by decide) rfl ?_
    refine zb_aload_n (j := 1) dX5_setApart_16 rfl rfl ?_
    refine zb_gI 1 dX5_setApart_17 fl_X5_25 i_0 rfl rfl ?_
    refine zb_istore_n (L' := [(3, (0, (m x0 1))), (2, (0, (m (E.2 x0 2) x1))), (0, (2, x0)), (1, (0, x1))]) dX5_setApart_20 rfl (by decide) rfl ?_
    refine zb_sub (L' := [(0, (2, x0)), (1, (0, x1)), (2, (0, (m (E.2 x0 2) x1))), (3, (0, (m x0 1)))]) [2, 3, 1, 0] rfl ?_
    have hJ48 : ∀ (m48j : zb_M), zb_FIN E m48j → PJ_X5_setApart_48 d E x0 x1 m Q m48j → zb_WP (G, C, d + 1, 0, 0, zb_q E Q) F_X5_setApart 48 [(0, (2, x0)), (1, (0, x1)), (2, (0, (m (E.2 x0 2) x1)))] [] E.1 m48j 0 0 := by
      intro m48j hF h
      unfold PJ_X5_setApart_48 at h
      refine zb_aload_n (j := 0) dX5_setApart_48 rfl rfl ?_
      refine zb_gFa 3 dX5_setApart_49 fl_X5_15 i_0 hW hF rfl rfl rfl (by decide) rfl 12 rfl (fun i5 l6 => ?_)
      refine zb_iload_n (j := 2) dX5_setApart_52 rfl rfl ?_
      refine zb_iconst dX5_setApart_53 (zb_inIc rfl) ?_
      obtain ⟨o7, h⟩ := h
      refine zb_iadd dX5_setApart_54 o7 ?_
      refine zb_aload_n (j := 0) dX5_setApart_55 rfl rfl ?_
      refine zb_gFa 3 dX5_setApart_56 fl_X5_15 i_0 hW hF rfl rfl rfl (by decide) rfl 12 rfl (fun i8 l9 => ?_)
      refine zb_iload_n (j := 2) dX5_setApart_59 rfl rfl ?_
      obtain ⟨o10, h⟩ := h
      refine zb_lI dX5_setApart_60 i8 l9 o10.1 o10.2 ?_
      refine zb_iconst dX5_setApart_61 (zb_inIc rfl) ?_
      obtain ⟨o11, h⟩ := h
      refine zb_isub dX5_setApart_62 o11 ?_
      obtain ⟨o12, h⟩ := h
      refine zb_sI dX5_setApart_63 i5 l6 o12.1 o12.2 hF (fun m63 e63 hF => ?_)
      have h := h m63 e63
      refine zb_aload_n (j := 0) dX5_setApart_64 rfl rfl ?_
      refine zb_gFa 3 dX5_setApart_65 fl_X5_15 i_0 hW hF rfl rfl rfl (by decide) rfl 12 rfl (fun i13 l14 => ?_)
      refine zb_iload_n (j := 2) dX5_setApart_68 rfl rfl ?_
      refine zb_iconst dX5_setApart_69 (zb_inIc rfl) ?_
      refine zb_sI dX5_setApart_70 i13 l14 o10.1 o10.2 hF (fun m70 e70 hF => ?_)
      have h := h m70 e70
      refine zb_aload_n (j := 0) dX5_setApart_71 rfl rfl ?_
      refine zb_dup dX5_setApart_72 rfl ?_
      refine zb_gI 1 dX5_setApart_73 fl_X5_25 i_0 rfl rfl ?_
      refine zb_iconst dX5_setApart_76 (zb_inIc rfl) ?_
      obtain ⟨o15, h⟩ := h
      refine zb_iadd dX5_setApart_77 o15 ?_
      refine zb_pF 1 dX5_setApart_78 fl_X5_25 rfl rfl i_0 (Or.inl rfl) hF rfl rfl (fun m78 e78 hF => ?_)
      have h := h m78 e78
      refine zb_iconst dX5_setApart_81 (zb_inIc rfl) ?_
      refine zb_istore_n (L' := [(3, (0, 0)), (0, (2, x0)), (1, (0, x1)), (2, (0, (m (E.2 x0 2) x1)))]) dX5_setApart_82 rfl (by decide) rfl ?_
      refine zb_sub (L' := [(0, (2, x0)), (1, (0, x1)), (2, (0, (m (E.2 x0 2) x1))), (3, (0, 0))]) [1, 2, 3, 0] rfl ?_
      have hJ122 : ∀ (m122j : zb_M), zb_FIN E m122j → PJ_X5_setApart_122 d E x0 x1 Q m122j → zb_WP (G, C, d + 1, 0, 0, zb_q E Q) F_X5_setApart 122 [(0, (2, x0)), (1, (0, x1))] [] E.1 m122j 0 0 := by
        intro m122j hF h
        unfold PJ_X5_setApart_122 at h
        refine zb_aload_n (j := 0) dX5_setApart_122 rfl rfl ?_
        refine zb_iload_n (j := 1) dX5_setApart_123 rfl rfl ?_
        refine zb_cV (As := [(0, x1)]) (As' := [(0, x1)]) (st := []) dX5_setApart_124 lk_X5_38 gd_X5_moveAhead rfl rfl i_0 ⟨_, rfl, rfl⟩ h hW hF (zb_aR i_0 (zb_aI zb_a0)) (Nat.le_refl _) (Nat.le_of_ble_eq_true rfl) (fun r124 m124 hF h => ?_)
        show zb_WP _ _ _ _ [] _ _ _ _
        exact zb_rV dX5_setApart_127 rfl hF h
      unfold PL_X5_setApart_83 at h
      obtain ⟨X83, hX83⟩ : ∃ X : Int → zb_M → Prop, ∀ (v3_83 : Int) (m83l : zb_M), (X v3_83 m83l ↔ (zb_FIN E m83l → zb_WP (G, C, d + 1, 0, 0, zb_q E Q) F_X5_setApart 83 [(0, (2, x0)), (1, (0, x1)), (2, (0, (m (E.2 x0 2) x1))), (3, (0, v3_83))] [] E.1 m83l 0 0)) := ⟨fun v3_83 m83l => zb_FIN E m83l → zb_WP (G, C, d + 1, 0, 0, zb_q E Q) F_X5_setApart 83 [(0, (2, x0)), (1, (0, x1)), (2, (0, (m (E.2 x0 2) x1))), (3, (0, v3_83))] [] E.1 m83l 0 0, fun _ _ => Iff.rfl⟩
      refine (hX83 _ _).mp (h X83 (fun v3_83 m83l h => (hX83 _ _).mpr (fun hF => ?_))) hF
      refine zb_iload_n (j := 3) dX5_setApart_83 rfl rfl ?_
      refine zb_aload_n (j := 0) dX5_setApart_84 rfl rfl ?_
      refine zb_gI 0 dX5_setApart_85 fl_X5_21 i_0 rfl rfl ?_
      refine zb_icmp_ge (tgt := 122) dX5_setApart_88 (by decide) (fun c16 => ?_) (fun c16 => ?_)
      · have h := h.1 c16
        refine zb_sub (L' := [(0, (2, x0)), (1, (0, x1))]) [0, 1] rfl ?_
        exact hJ122 _ hF h
      · have h := h.2 c16
        refine zb_iload_n (j := 3) dX5_setApart_91 rfl rfl ?_
        refine zb_iload_n (j := 1) dX5_setApart_92 rfl rfl ?_
        refine zb_icmp_eq (tgt := 116) dX5_setApart_93 (by decide) (fun c17 => ?_) (fun c17 => ?_)
        · have h := h.1 c17
          obtain ⟨o18, h⟩ := h
          refine zb_iinc (j := 3) (L' := [(3, (0, (v3_83 + 1))), (0, (2, x0)), (1, (0, x1)), (2, (0, (m (E.2 x0 2) x1)))]) dX5_setApart_116 rfl o18 (by decide) rfl ?_
          refine zb_goto (tgt := 83) dX5_setApart_119 (by decide) ?_
          refine zb_sub (L' := [(0, (2, x0)), (1, (0, x1)), (2, (0, (m (E.2 x0 2) x1))), (3, (0, (v3_83 + 1)))]) [1, 2, 3, 0] rfl ?_
          exact (hX83 _ _).mp h hF
        · have h := h.2 c17
          refine zb_aload_n (j := 0) dX5_setApart_96 rfl rfl ?_
          refine zb_gFa 2 dX5_setApart_97 fl_X5_9 i_0 hW hF rfl rfl rfl (by decide) rfl 12 rfl (fun i19 l20 => ?_)
          refine zb_iload_n (j := 3) dX5_setApart_100 rfl rfl ?_
          obtain ⟨o21, h⟩ := h
          refine zb_lI dX5_setApart_101 i19 l20 o21.1 o21.2 ?_
          refine zb_iload_n (j := 2) dX5_setApart_102 rfl rfl ?_
          refine zb_icmp_lt (tgt := 116) dX5_setApart_103 (by decide) (fun c22 => ?_) (fun c22 => ?_)
          · have h := h.1 c22
            obtain ⟨o23, h⟩ := h
            refine zb_iinc (j := 3) (L' := [(3, (0, (v3_83 + 1))), (0, (2, x0)), (1, (0, x1)), (2, (0, (m (E.2 x0 2) x1)))]) dX5_setApart_116 rfl o23 (by decide) rfl ?_
            refine zb_goto (tgt := 83) dX5_setApart_119 (by decide) ?_
            refine zb_sub (L' := [(0, (2, x0)), (1, (0, x1)), (2, (0, (m (E.2 x0 2) x1))), (3, (0, (v3_83 + 1)))]) [1, 2, 3, 0] rfl ?_
            exact (hX83 _ _).mp h hF
          · have h := h.2 c22
            refine zb_aload_n (j := 0) dX5_setApart_106 rfl rfl ?_
            refine zb_gFa 2 dX5_setApart_107 fl_X5_9 i_0 hW hF rfl rfl rfl (by decide) rfl 12 rfl (fun i24 l25 => ?_)
            refine zb_iload_n (j := 3) dX5_setApart_110 rfl rfl ?_
            refine zb_dup2 dX5_setApart_111 ?_
            refine zb_lI dX5_setApart_112 i24 l25 o21.1 o21.2 ?_
            refine zb_iconst dX5_setApart_113 (zb_inIc rfl) ?_
            obtain ⟨o26, h⟩ := h
            refine zb_iadd dX5_setApart_114 o26 ?_
            refine zb_sI dX5_setApart_115 i24 l25 o21.1 o21.2 hF (fun m115 e115 hF => ?_)
            have h := h m115 e115
            obtain ⟨o27, h⟩ := h
            refine zb_iinc (j := 3) (L' := [(3, (0, (v3_83 + 1))), (0, (2, x0)), (1, (0, x1)), (2, (0, (m (E.2 x0 2) x1)))]) dX5_setApart_116 rfl o27 (by decide) rfl ?_
            refine zb_goto (tgt := 83) dX5_setApart_119 (by decide) ?_
            refine zb_sub (L' := [(0, (2, x0)), (1, (0, x1)), (2, (0, (m (E.2 x0 2) x1))), (3, (0, (v3_83 + 1)))]) [1, 2, 3, 0] rfl ?_
            exact (hX83 _ _).mp h hF
    unfold PL_X5_setApart_21 at h
    obtain ⟨X21, hX21⟩ : ∃ X : Int → zb_M → Prop, ∀ (v3_21 : Int) (m21l : zb_M), (X v3_21 m21l ↔ (zb_FIN E m21l → zb_WP (G, C, d + 1, 0, 0, zb_q E Q) F_X5_setApart 21 [(0, (2, x0)), (1, (0, x1)), (2, (0, (m (E.2 x0 2) x1))), (3, (0, v3_21))] [] E.1 m21l 0 0)) := ⟨fun v3_21 m21l => zb_FIN E m21l → zb_WP (G, C, d + 1, 0, 0, zb_q E Q) F_X5_setApart 21 [(0, (2, x0)), (1, (0, x1)), (2, (0, (m (E.2 x0 2) x1))), (3, (0, v3_21))] [] E.1 m21l 0 0, fun _ _ => Iff.rfl⟩
    refine (hX21 _ _).mp (h X21 (fun v3_21 m21l h => (hX21 _ _).mpr (fun hF => ?_))) hF
    refine zb_iload_n (j := 3) dX5_setApart_21 rfl rfl ?_
    refine zb_iload_n (j := 2) dX5_setApart_22 rfl rfl ?_
    refine zb_iconst dX5_setApart_23 (zb_inIc rfl) ?_
    obtain ⟨o28, h⟩ := h
    refine zb_iadd dX5_setApart_24 o28 ?_
    refine zb_icmp_le (tgt := 48) dX5_setApart_25 (by decide) (fun c29 => ?_) (fun c29 => ?_)
    · have h := h.1 c29
      refine zb_sub (L' := [(0, (2, x0)), (1, (0, x1)), (2, (0, (m (E.2 x0 2) x1)))]) [0, 1, 2] rfl ?_
      exact hJ48 _ hF h
    · have h := h.2 c29
      refine zb_aload_n (j := 0) dX5_setApart_28 rfl rfl ?_
      refine zb_gFa 3 dX5_setApart_29 fl_X5_15 i_0 hW hF rfl rfl rfl (by decide) rfl 12 rfl (fun i30 l31 => ?_)
      refine zb_iload_n (j := 3) dX5_setApart_32 rfl rfl ?_
      refine zb_aload_n (j := 0) dX5_setApart_33 rfl rfl ?_
      refine zb_gFa 3 dX5_setApart_34 fl_X5_15 i_0 hW hF rfl rfl rfl (by decide) rfl 12 rfl (fun i32 l33 => ?_)
      refine zb_iload_n (j := 3) dX5_setApart_37 rfl rfl ?_
      refine zb_iconst dX5_setApart_38 (zb_inIc rfl) ?_
      obtain ⟨o34, h⟩ := h
      refine zb_isub dX5_setApart_39 o34 ?_
      obtain ⟨o35, h⟩ := h
      refine zb_lI dX5_setApart_40 i32 l33 o35.1 o35.2 ?_
      obtain ⟨o36, h⟩ := h
      refine zb_sI dX5_setApart_41 i30 l31 o36.1 o36.2 hF (fun m41 e41 hF => ?_)
      have h := h m41 e41
      obtain ⟨o37, h⟩ := h
      refine zb_iinc (j := 3) (L' := [(3, (0, (v3_21 + (-1)))), (0, (2, x0)), (1, (0, x1)), (2, (0, (m (E.2 x0 2) x1)))]) dX5_setApart_42 rfl o37 (by decide) rfl ?_
      refine zb_goto (tgt := 21) dX5_setApart_45 (by decide) ?_
      refine zb_sub (L' := [(0, (2, x0)), (1, (0, x1)), (2, (0, (m (E.2 x0 2) x1))), (3, (0, (v3_21 + (-1))))]) [1, 2, 3, 0] rfl ?_
      exact (hX21 _ _).mp h hF
  · have h := h.2 c1
    exact zb_rV dX5_setApart_8 rfl hF h
theorem dX5_moveAhead_0 : decode cX5_moveAhead 0 = .ok (.iconst 0, 1) := by decide +kernel
theorem dX5_moveAhead_1 : decode cX5_moveAhead 1 = .ok (.istore_n 2, 1) := by decide +kernel
theorem dX5_moveAhead_2 : decode cX5_moveAhead 2 = .ok (.iconst 0, 1) := by decide +kernel
theorem dX5_moveAhead_3 : decode cX5_moveAhead 3 = .ok (.istore_n 3, 1) := by decide +kernel
theorem dX5_moveAhead_4 : decode cX5_moveAhead 4 = .ok (.iload_n 3, 1) := by decide +kernel
theorem dX5_moveAhead_5 : decode cX5_moveAhead 5 = .ok (.aload_n 0, 1) := by decide +kernel
theorem dX5_moveAhead_6 : decode cX5_moveAhead 6 = .ok (.getfield 21, 3) := by decide +kernel
theorem dX5_moveAhead_9 : decode cX5_moveAhead 9 = .ok (.if_icmp .ge 21, 3) := by decide +kernel
theorem dX5_moveAhead_12 : decode cX5_moveAhead 12 = .ok (.aload_n 0, 1) := by decide +kernel
theorem dX5_moveAhead_13 : decode cX5_moveAhead 13 = .ok (.getfield 18, 3) := by decide +kernel
theorem dX5_moveAhead_16 : decode cX5_moveAhead 16 = .ok (.iload_n 3, 1) := by decide +kernel
theorem dX5_moveAhead_17 : decode cX5_moveAhead 17 = .ok (.iaload, 1) := by decide +kernel
theorem dX5_moveAhead_18 : decode cX5_moveAhead 18 = .ok (.iload_n 1, 1) := by decide +kernel
theorem dX5_moveAhead_19 : decode cX5_moveAhead 19 = .ok (.if_icmp .ne 5, 3) := by decide +kernel
theorem dX5_moveAhead_22 : decode cX5_moveAhead 22 = .ok (.iload_n 3, 1) := by decide +kernel
theorem dX5_moveAhead_23 : decode cX5_moveAhead 23 = .ok (.istore_n 2, 1) := by decide +kernel
theorem dX5_moveAhead_24 : decode cX5_moveAhead 24 = .ok (.iinc 3 1, 3) := by decide +kernel
theorem dX5_moveAhead_27 : decode cX5_moveAhead 27 = .ok (.goto (-23), 3) := by decide +kernel
theorem dX5_moveAhead_30 : decode cX5_moveAhead 30 = .ok (.iload_n 2, 1) := by decide +kernel
theorem dX5_moveAhead_31 : decode cX5_moveAhead 31 = .ok (.ifCond .le 45, 3) := by decide +kernel
theorem dX5_moveAhead_34 : decode cX5_moveAhead 34 = .ok (.aload_n 0, 1) := by decide +kernel
theorem dX5_moveAhead_35 : decode cX5_moveAhead 35 = .ok (.getfield 9, 3) := by decide +kernel
theorem dX5_moveAhead_38 : decode cX5_moveAhead 38 = .ok (.aload_n 0, 1) := by decide +kernel
theorem dX5_moveAhead_39 : decode cX5_moveAhead 39 = .ok (.getfield 18, 3) := by decide +kernel
theorem dX5_moveAhead_42 : decode cX5_moveAhead 42 = .ok (.iload_n 2, 1) := by decide +kernel
theorem dX5_moveAhead_43 : decode cX5_moveAhead 43 = .ok (.iconst 1, 1) := by decide +kernel
theorem dX5_moveAhead_44 : decode cX5_moveAhead 44 = .ok (.isub, 1) := by decide +kernel
theorem dX5_moveAhead_45 : decode cX5_moveAhead 45 = .ok (.iaload, 1) := by decide +kernel
theorem dX5_moveAhead_46 : decode cX5_moveAhead 46 = .ok (.iaload, 1) := by decide +kernel
theorem dX5_moveAhead_47 : decode cX5_moveAhead 47 = .ok (.aload_n 0, 1) := by decide +kernel
theorem dX5_moveAhead_48 : decode cX5_moveAhead 48 = .ok (.getfield 9, 3) := by decide +kernel
theorem dX5_moveAhead_51 : decode cX5_moveAhead 51 = .ok (.iload_n 1, 1) := by decide +kernel
theorem dX5_moveAhead_52 : decode cX5_moveAhead 52 = .ok (.iaload, 1) := by decide +kernel
theorem dX5_moveAhead_53 : decode cX5_moveAhead 53 = .ok (.if_icmp .le 23, 3) := by decide +kernel
theorem dX5_moveAhead_56 : decode cX5_moveAhead 56 = .ok (.aload_n 0, 1) := by decide +kernel
theorem dX5_moveAhead_57 : decode cX5_moveAhead 57 = .ok (.getfield 18, 3) := by decide +kernel
theorem dX5_moveAhead_60 : decode cX5_moveAhead 60 = .ok (.iload_n 2, 1) := by decide +kernel
theorem dX5_moveAhead_61 : decode cX5_moveAhead 61 = .ok (.aload_n 0, 1) := by decide +kernel
theorem dX5_moveAhead_62 : decode cX5_moveAhead 62 = .ok (.getfield 18, 3) := by decide +kernel
theorem dX5_moveAhead_65 : decode cX5_moveAhead 65 = .ok (.iload_n 2, 1) := by decide +kernel
theorem dX5_moveAhead_66 : decode cX5_moveAhead 66 = .ok (.iconst 1, 1) := by decide +kernel
theorem dX5_moveAhead_67 : decode cX5_moveAhead 67 = .ok (.isub, 1) := by decide +kernel
theorem dX5_moveAhead_68 : decode cX5_moveAhead 68 = .ok (.iaload, 1) := by decide +kernel
theorem dX5_moveAhead_69 : decode cX5_moveAhead 69 = .ok (.iastore, 1) := by decide +kernel
theorem dX5_moveAhead_70 : decode cX5_moveAhead 70 = .ok (.iinc 2 (-1), 3) := by decide +kernel
theorem dX5_moveAhead_73 : decode cX5_moveAhead 73 = .ok (.goto (-43), 3) := by decide +kernel
theorem dX5_moveAhead_76 : decode cX5_moveAhead 76 = .ok (.aload_n 0, 1) := by decide +kernel
theorem dX5_moveAhead_77 : decode cX5_moveAhead 77 = .ok (.getfield 18, 3) := by decide +kernel
theorem dX5_moveAhead_80 : decode cX5_moveAhead 80 = .ok (.iload_n 2, 1) := by decide +kernel
theorem dX5_moveAhead_81 : decode cX5_moveAhead 81 = .ok (.iload_n 1, 1) := by decide +kernel
theorem dX5_moveAhead_82 : decode cX5_moveAhead 82 = .ok (.iastore, 1) := by decide +kernel
theorem dX5_moveAhead_83 : decode cX5_moveAhead 83 = .ok (.return_, 1) := by decide +kernel
def PJ_X5_moveAhead_76 (d : Nat) (E : zb_E) (x0 : Int) (x1 : Int) (Q : Int → zb_M → Prop) (v2_76 : Int) (m76j : zb_M) : Prop :=
  (0 ≤ v2_76 ∧ v2_76 < 12) ∧ (∀ m82, m82 = zb_up m76j (E.2 x0 4) v2_76 x1 → (Q 0 m82))
def PL_X5_moveAhead_30 (d : Nat) (E : zb_E) (x0 : Int) (x1 : Int) (Q : Int → zb_M → Prop) (K76_30 : Int → zb_M → Prop) (v2_30 : Int) (m30l : zb_M) : Prop :=
  ∀ X30 : Int → zb_M → Prop, (∀ (v2_30 : Int) (m30l : zb_M), ((v2_30 ≤ 0 → K76_30 v2_30 m30l) ∧ (¬ v2_30 ≤ 0 → (zb_inI (v2_30 - 1)) ∧ ((0 ≤ (v2_30 - 1) ∧ (v2_30 - 1) < 12) ∧ ((0 ≤ (m30l (E.2 x0 4) (v2_30 - 1)) ∧ (m30l (E.2 x0 4) (v2_30 - 1)) < 12) ∧ ((0 ≤ x1 ∧ x1 < 12) ∧ (((m30l (E.2 x0 2) (m30l (E.2 x0 4) (v2_30 - 1))) ≤ (m30l (E.2 x0 2) x1) → K76_30 v2_30 m30l) ∧ (¬ (m30l (E.2 x0 2) (m30l (E.2 x0 4) (v2_30 - 1))) ≤ (m30l (E.2 x0 2) x1) → (0 ≤ v2_30 ∧ v2_30 < 12) ∧ (∀ m69, m69 = zb_up m30l (E.2 x0 4) v2_30 (m30l (E.2 x0 4) (v2_30 - 1)) → ((zb_inI (v2_30 + (-1))) ∧ (X30 (v2_30 + (-1)) m69)))))))))) → X30 v2_30 m30l) → X30 v2_30 m30l
def PJ_X5_moveAhead_30 (d : Nat) (E : zb_E) (x0 : Int) (x1 : Int) (m : zb_M) (Q : Int → zb_M → Prop) (v2_30 : Int) : Prop :=
  PL_X5_moveAhead_30 d E x0 x1 Q (PJ_X5_moveAhead_76 d E x0 x1 Q) v2_30 m
def PL_X5_moveAhead_4 (d : Nat) (E : zb_E) (x0 : Int) (x1 : Int) (m : zb_M) (Q : Int → zb_M → Prop) (K30_4 : Int → Prop) (v2_4 : Int) (v3_4 : Int) : Prop :=
  ∀ X4 : Int → Int → Prop, (∀ (v2_4 : Int) (v3_4 : Int), (((m x0 0) ≤ v3_4 → K30_4 v2_4) ∧ (¬ (m x0 0) ≤ v3_4 → (0 ≤ v3_4 ∧ v3_4 < 12) ∧ (((m (E.2 x0 4) v3_4) = x1 → (zb_inI (v3_4 + 1)) ∧ (X4 v3_4 (v3_4 + 1))) ∧ (¬ (m (E.2 x0 4) v3_4) = x1 → (zb_inI (v3_4 + 1)) ∧ (X4 v2_4 (v3_4 + 1)))))) → X4 v2_4 v3_4) → X4 v2_4 v3_4
def PM_X5_moveAhead (d : Nat) (E : zb_E) (x0 : Int) (x1 : Int) (m : zb_M) (Q : Int → zb_M → Prop) : Prop :=
  PL_X5_moveAhead_4 d E x0 x1 m Q (PJ_X5_moveAhead_30 d E x0 x1 m Q) 0 0
set_option maxRecDepth 100000 in
set_option maxHeartbeats 4000000 in
theorem w_X5_moveAhead {d : Nat} {E : zb_E} {x0 x1 : Int} {m : zb_M} {Q : Int → zb_M → Prop} (h : PM_X5_moveAhead d E x0 x1 m Q) : zb_T K_X5_moveAhead (d + 1) [(2, x0), (0, x1)] E m Q := by
  unfold PM_X5_moveAhead at h
  refine zb_T_in gd_X5_moveAhead rfl rfl (fun hW hA G C hF => ?_)
  have i_0 : zb_is E.1 x0 5 := zb_aH hA (by decide)
  show zb_WP _ _ 0 [(0, (2, x0)), (1, (0, x1))] [] _ _ _ _
  refine zb_iconst dX5_moveAhead_0 (zb_inIc rfl) ?_
  refine zb_istore_n (L' := [(2, (0, 0)), (0, (2, x0)), (1, (0, x1))]) dX5_moveAhead_1 rfl (by decide) rfl ?_
  refine zb_iconst dX5_moveAhead_2 (zb_inIc rfl) ?_
  refine zb_istore_n (L' := [(3, (0, 0)), (2, (0, 0)), (0, (2, x0)), (1, (0, x1))]) dX5_moveAhead_3 rfl (by decide) rfl ?_
  refine zb_sub (L' := [(0, (2, x0)), (1, (0, x1)), (2, (0, 0)), (3, (0, 0))]) [2, 3, 1, 0] rfl ?_
  have hJ30 : ∀ (v2_30 : Int), zb_FIN E m → PJ_X5_moveAhead_30 d E x0 x1 m Q v2_30 → zb_WP (G, C, d + 1, 0, 0, zb_q E Q) F_X5_moveAhead 30 [(0, (2, x0)), (1, (0, x1)), (2, (0, v2_30))] [] E.1 m 0 0 := by
    intro v2_30 hF h
    unfold PJ_X5_moveAhead_30 at h
    have hJ76 : ∀ (v2_76 : Int) (m76j : zb_M), zb_FIN E m76j → PJ_X5_moveAhead_76 d E x0 x1 Q v2_76 m76j → zb_WP (G, C, d + 1, 0, 0, zb_q E Q) F_X5_moveAhead 76 [(0, (2, x0)), (1, (0, x1)), (2, (0, v2_76))] [] E.1 m76j 0 0 := by
      intro v2_76 m76j hF h
      unfold PJ_X5_moveAhead_76 at h
      refine zb_aload_n (j := 0) dX5_moveAhead_76 rfl rfl ?_
      refine zb_gFa 4 dX5_moveAhead_77 fl_X5_18 i_0 hW hF rfl rfl rfl (by decide) rfl 12 rfl (fun i1 l2 => ?_)
      refine zb_iload_n (j := 2) dX5_moveAhead_80 rfl rfl ?_
      refine zb_iload_n (j := 1) dX5_moveAhead_81 rfl rfl ?_
      obtain ⟨o3, h⟩ := h
      refine zb_sI dX5_moveAhead_82 i1 l2 o3.1 o3.2 hF (fun m82 e82 hF => ?_)
      have h := h m82 e82
      exact zb_rV dX5_moveAhead_83 rfl hF h
    unfold PL_X5_moveAhead_30 at h
    obtain ⟨X30, hX30⟩ : ∃ X : Int → zb_M → Prop, ∀ (v2_30 : Int) (m30l : zb_M), (X v2_30 m30l ↔ (zb_FIN E m30l → zb_WP (G, C, d + 1, 0, 0, zb_q E Q) F_X5_moveAhead 30 [(0, (2, x0)), (1, (0, x1)), (2, (0, v2_30))] [] E.1 m30l 0 0)) := ⟨fun v2_30 m30l => zb_FIN E m30l → zb_WP (G, C, d + 1, 0, 0, zb_q E Q) F_X5_moveAhead 30 [(0, (2, x0)), (1, (0, x1)), (2, (0, v2_30))] [] E.1 m30l 0 0, fun _ _ => Iff.rfl⟩
    refine (hX30 _ _).mp (h X30 (fun v2_30 m30l h => (hX30 _ _).mpr (fun hF => ?_))) hF
    refine zb_iload_n (j := 2) dX5_moveAhead_30 rfl rfl ?_
    refine zb_if_le (tgt := 76) dX5_moveAhead_31 (by decide) (fun c4 => ?_) (fun c4 => ?_)
    · have h := h.1 c4
      exact hJ76 _ _ hF h
    · have h := h.2 c4
      refine zb_aload_n (j := 0) dX5_moveAhead_34 rfl rfl ?_
      refine zb_gFa 2 dX5_moveAhead_35 fl_X5_9 i_0 hW hF rfl rfl rfl (by decide) rfl 12 rfl (fun i5 l6 => ?_)
      refine zb_aload_n (j := 0) dX5_moveAhead_38 rfl rfl ?_
      refine zb_gFa 4 dX5_moveAhead_39 fl_X5_18 i_0 hW hF rfl rfl rfl (by decide) rfl 12 rfl (fun i7 l8 => ?_)
      refine zb_iload_n (j := 2) dX5_moveAhead_42 rfl rfl ?_
      refine zb_iconst dX5_moveAhead_43 (zb_inIc rfl) ?_
      obtain ⟨o9, h⟩ := h
      refine zb_isub dX5_moveAhead_44 o9 ?_
      obtain ⟨o10, h⟩ := h
      refine zb_lI dX5_moveAhead_45 i7 l8 o10.1 o10.2 ?_
      obtain ⟨o11, h⟩ := h
      refine zb_lI dX5_moveAhead_46 i5 l6 o11.1 o11.2 ?_
      refine zb_aload_n (j := 0) dX5_moveAhead_47 rfl rfl ?_
      refine zb_gFa 2 dX5_moveAhead_48 fl_X5_9 i_0 hW hF rfl rfl rfl (by decide) rfl 12 rfl (fun i12 l13 => ?_)
      refine zb_iload_n (j := 1) dX5_moveAhead_51 rfl rfl ?_
      obtain ⟨o14, h⟩ := h
      refine zb_lI dX5_moveAhead_52 i12 l13 o14.1 o14.2 ?_
      refine zb_icmp_le (tgt := 76) dX5_moveAhead_53 (by decide) (fun c15 => ?_) (fun c15 => ?_)
      · have h := h.1 c15
        exact hJ76 _ _ hF h
      · have h := h.2 c15
        refine zb_aload_n (j := 0) dX5_moveAhead_56 rfl rfl ?_
        refine zb_gFa 4 dX5_moveAhead_57 fl_X5_18 i_0 hW hF rfl rfl rfl (by decide) rfl 12 rfl (fun i16 l17 => ?_)
        refine zb_iload_n (j := 2) dX5_moveAhead_60 rfl rfl ?_
        refine zb_aload_n (j := 0) dX5_moveAhead_61 rfl rfl ?_
        refine zb_gFa 4 dX5_moveAhead_62 fl_X5_18 i_0 hW hF rfl rfl rfl (by decide) rfl 12 rfl (fun i18 l19 => ?_)
        refine zb_iload_n (j := 2) dX5_moveAhead_65 rfl rfl ?_
        refine zb_iconst dX5_moveAhead_66 (zb_inIc rfl) ?_
        refine zb_isub dX5_moveAhead_67 o9 ?_
        refine zb_lI dX5_moveAhead_68 i18 l19 o10.1 o10.2 ?_
        obtain ⟨o20, h⟩ := h
        refine zb_sI dX5_moveAhead_69 i16 l17 o20.1 o20.2 hF (fun m69 e69 hF => ?_)
        have h := h m69 e69
        obtain ⟨o21, h⟩ := h
        refine zb_iinc (j := 2) (L' := [(2, (0, (v2_30 + (-1)))), (0, (2, x0)), (1, (0, x1))]) dX5_moveAhead_70 rfl o21 (by decide) rfl ?_
        refine zb_goto (tgt := 30) dX5_moveAhead_73 (by decide) ?_
        refine zb_sub (L' := [(0, (2, x0)), (1, (0, x1)), (2, (0, (v2_30 + (-1))))]) [1, 2, 0] rfl ?_
        exact (hX30 _ _).mp h hF
  unfold PL_X5_moveAhead_4 at h
  obtain ⟨X4, hX4⟩ : ∃ X : Int → Int → Prop, ∀ (v2_4 : Int) (v3_4 : Int), (X v2_4 v3_4 ↔ (zb_FIN E m → zb_WP (G, C, d + 1, 0, 0, zb_q E Q) F_X5_moveAhead 4 [(0, (2, x0)), (1, (0, x1)), (2, (0, v2_4)), (3, (0, v3_4))] [] E.1 m 0 0)) := ⟨fun v2_4 v3_4 => zb_FIN E m → zb_WP (G, C, d + 1, 0, 0, zb_q E Q) F_X5_moveAhead 4 [(0, (2, x0)), (1, (0, x1)), (2, (0, v2_4)), (3, (0, v3_4))] [] E.1 m 0 0, fun _ _ => Iff.rfl⟩
  refine (hX4 _ _).mp (h X4 (fun v2_4 v3_4 h => (hX4 _ _).mpr (fun hF => ?_))) hF
  refine zb_iload_n (j := 3) dX5_moveAhead_4 rfl rfl ?_
  refine zb_aload_n (j := 0) dX5_moveAhead_5 rfl rfl ?_
  refine zb_gI 0 dX5_moveAhead_6 fl_X5_21 i_0 rfl rfl ?_
  refine zb_icmp_ge (tgt := 30) dX5_moveAhead_9 (by decide) (fun c22 => ?_) (fun c22 => ?_)
  · have h := h.1 c22
    refine zb_sub (L' := [(0, (2, x0)), (1, (0, x1)), (2, (0, v2_4))]) [0, 1, 2] rfl ?_
    exact hJ30 _ hF h
  · have h := h.2 c22
    refine zb_aload_n (j := 0) dX5_moveAhead_12 rfl rfl ?_
    refine zb_gFa 4 dX5_moveAhead_13 fl_X5_18 i_0 hW hF rfl rfl rfl (by decide) rfl 12 rfl (fun i23 l24 => ?_)
    refine zb_iload_n (j := 3) dX5_moveAhead_16 rfl rfl ?_
    obtain ⟨o25, h⟩ := h
    refine zb_lI dX5_moveAhead_17 i23 l24 o25.1 o25.2 ?_
    refine zb_iload_n (j := 1) dX5_moveAhead_18 rfl rfl ?_
    refine zb_icmp_ne (tgt := 24) dX5_moveAhead_19 (by decide) (fun c26 => ?_) (fun c26 => ?_)
    · have h := h.2 c26
      obtain ⟨o27, h⟩ := h
      refine zb_iinc (j := 3) (L' := [(3, (0, (v3_4 + 1))), (0, (2, x0)), (1, (0, x1)), (2, (0, v2_4))]) dX5_moveAhead_24 rfl o27 (by decide) rfl ?_
      refine zb_goto (tgt := 4) dX5_moveAhead_27 (by decide) ?_
      refine zb_sub (L' := [(0, (2, x0)), (1, (0, x1)), (2, (0, v2_4)), (3, (0, (v3_4 + 1)))]) [1, 2, 3, 0] rfl ?_
      exact (hX4 _ _).mp h hF
    · have h := h.1 c26
      refine zb_iload_n (j := 3) dX5_moveAhead_22 rfl rfl ?_
      refine zb_istore_n (L' := [(2, (0, v3_4)), (0, (2, x0)), (1, (0, x1)), (3, (0, v3_4))]) dX5_moveAhead_23 rfl (by decide) rfl ?_
      obtain ⟨o28, h⟩ := h
      refine zb_iinc (j := 3) (L' := [(3, (0, (v3_4 + 1))), (2, (0, v3_4)), (0, (2, x0)), (1, (0, x1))]) dX5_moveAhead_24 rfl o28 (by decide) rfl ?_
      refine zb_goto (tgt := 4) dX5_moveAhead_27 (by decide) ?_
      refine zb_sub (L' := [(0, (2, x0)), (1, (0, x1)), (2, (0, v3_4)), (3, (0, (v3_4 + 1)))]) [2, 3, 1, 0] rfl ?_
      exact (hX4 _ _).mp h hF
theorem dX5_hasHeapsLike_0 : decode cX5_hasHeapsLike 0 = .ok (.aload_n 0, 1) := by decide +kernel
theorem dX5_hasHeapsLike_1 : decode cX5_hasHeapsLike 1 = .ok (.getfield 25, 3) := by decide +kernel
theorem dX5_hasHeapsLike_4 : decode cX5_hasHeapsLike 4 = .ok (.aload_n 1, 1) := by decide +kernel
theorem dX5_hasHeapsLike_5 : decode cX5_hasHeapsLike 5 = .ok (.getfield 25, 3) := by decide +kernel
theorem dX5_hasHeapsLike_8 : decode cX5_hasHeapsLike 8 = .ok (.if_icmp .eq 5, 3) := by decide +kernel
theorem dX5_hasHeapsLike_11 : decode cX5_hasHeapsLike 11 = .ok (.iconst 0, 1) := by decide +kernel
theorem dX5_hasHeapsLike_12 : decode cX5_hasHeapsLike 12 = .ok (.ireturn, 1) := by decide +kernel
theorem dX5_hasHeapsLike_13 : decode cX5_hasHeapsLike 13 = .ok (.iconst 0, 1) := by decide +kernel
theorem dX5_hasHeapsLike_14 : decode cX5_hasHeapsLike 14 = .ok (.istore_n 2, 1) := by decide +kernel
theorem dX5_hasHeapsLike_15 : decode cX5_hasHeapsLike 15 = .ok (.iload_n 2, 1) := by decide +kernel
theorem dX5_hasHeapsLike_16 : decode cX5_hasHeapsLike 16 = .ok (.aload_n 0, 1) := by decide +kernel
theorem dX5_hasHeapsLike_17 : decode cX5_hasHeapsLike 17 = .ok (.getfield 25, 3) := by decide +kernel
theorem dX5_hasHeapsLike_20 : decode cX5_hasHeapsLike 20 = .ok (.if_icmp .ge 26, 3) := by decide +kernel
theorem dX5_hasHeapsLike_23 : decode cX5_hasHeapsLike 23 = .ok (.aload_n 0, 1) := by decide +kernel
theorem dX5_hasHeapsLike_24 : decode cX5_hasHeapsLike 24 = .ok (.getfield 15, 3) := by decide +kernel
theorem dX5_hasHeapsLike_27 : decode cX5_hasHeapsLike 27 = .ok (.iload_n 2, 1) := by decide +kernel
theorem dX5_hasHeapsLike_28 : decode cX5_hasHeapsLike 28 = .ok (.iaload, 1) := by decide +kernel
theorem dX5_hasHeapsLike_29 : decode cX5_hasHeapsLike 29 = .ok (.aload_n 1, 1) := by decide +kernel
theorem dX5_hasHeapsLike_30 : decode cX5_hasHeapsLike 30 = .ok (.getfield 15, 3) := by decide +kernel
theorem dX5_hasHeapsLike_33 : decode cX5_hasHeapsLike 33 = .ok (.iload_n 2, 1) := by decide +kernel
theorem dX5_hasHeapsLike_34 : decode cX5_hasHeapsLike 34 = .ok (.iaload, 1) := by decide +kernel
theorem dX5_hasHeapsLike_35 : decode cX5_hasHeapsLike 35 = .ok (.if_icmp .eq 5, 3) := by decide +kernel
theorem dX5_hasHeapsLike_38 : decode cX5_hasHeapsLike 38 = .ok (.iconst 0, 1) := by decide +kernel
theorem dX5_hasHeapsLike_39 : decode cX5_hasHeapsLike 39 = .ok (.ireturn, 1) := by decide +kernel
theorem dX5_hasHeapsLike_40 : decode cX5_hasHeapsLike 40 = .ok (.iinc 2 1, 3) := by decide +kernel
theorem dX5_hasHeapsLike_43 : decode cX5_hasHeapsLike 43 = .ok (.goto (-28), 3) := by decide +kernel
theorem dX5_hasHeapsLike_46 : decode cX5_hasHeapsLike 46 = .ok (.iconst 1, 1) := by decide +kernel
theorem dX5_hasHeapsLike_47 : decode cX5_hasHeapsLike 47 = .ok (.ireturn, 1) := by decide +kernel
def PL_X5_hasHeapsLike_15 (d : Nat) (E : zb_E) (x0 : Int) (x1 : Int) (m : zb_M) (Q : Int → Prop)  (v2_15 : Int) : Prop :=
  ∀ X15 : Int → Prop, (∀ (v2_15 : Int), (((m x0 1) ≤ v2_15 → Q 1) ∧ (¬ (m x0 1) ≤ v2_15 → (0 ≤ v2_15 ∧ v2_15 < 12) ∧ (((m (E.2 x0 3) v2_15) = (m (E.2 x1 3) v2_15) → (zb_inI (v2_15 + 1)) ∧ (X15 (v2_15 + 1))) ∧ (¬ (m (E.2 x0 3) v2_15) = (m (E.2 x1 3) v2_15) → Q 0)))) → X15 v2_15) → X15 v2_15
def PM_X5_hasHeapsLike (d : Nat) (E : zb_E) (x0 : Int) (x1 : Int) (m : zb_M) (Q : Int → Prop) : Prop :=
  ((m x0 1) = (m x1 1) → PL_X5_hasHeapsLike_15 d E x0 x1 m Q 0) ∧ (¬ (m x0 1) = (m x1 1) → Q 0)
set_option maxRecDepth 100000 in
set_option maxHeartbeats 4000000 in
theorem w_X5_hasHeapsLike {d : Nat} {E : zb_E} {x0 x1 : Int} {m : zb_M} {Q : Int → Prop} (h : PM_X5_hasHeapsLike d E x0 x1 m Q) : zb_Tp K_X5_hasHeapsLike (d + 1) [(2, x0), (2, x1)] E m Q := by
  unfold PM_X5_hasHeapsLike at h
  refine zb_T_in gd_X5_hasHeapsLike rfl rfl (fun hW hA G C hF => ?_)
  have i_0 : zb_is E.1 x0 5 := zb_aH hA (by decide)
  have i_1 : zb_is E.1 x1 5 := zb_aH (zb_aT hA) (by decide)
  show zb_WP _ _ 0 [(0, (2, x0)), (1, (2, x1))] [] _ _ _ _
  refine zb_aload_n (j := 0) dX5_hasHeapsLike_0 rfl rfl ?_
  refine zb_gI 1 dX5_hasHeapsLike_1 fl_X5_25 i_0 rfl rfl ?_
  refine zb_aload_n (j := 1) dX5_hasHeapsLike_4 rfl rfl ?_
  refine zb_gI 1 dX5_hasHeapsLike_5 fl_X5_25 i_1 rfl rfl ?_
  refine zb_icmp_eq (tgt := 13) dX5_hasHeapsLike_8 (by decide) (fun c1 => ?_) (fun c1 => ?_)
  · have h := h.1 c1
    refine zb_iconst dX5_hasHeapsLike_13 (zb_inIc rfl) ?_
    refine zb_istore_n (L' := [(2, (0, 0)), (0, (2, x0)), (1, (2, x1))]) dX5_hasHeapsLike_14 rfl (by decide) rfl ?_
    refine zb_sub (L' := [(0, (2, x0)), (1, (2, x1)), (2, (0, 0))]) [1, 2, 0] rfl ?_
    unfold PL_X5_hasHeapsLike_15 at h
    obtain ⟨X15, hX15⟩ : ∃ X : Int → Prop, ∀ (v2_15 : Int), (X v2_15 ↔ (zb_FIN E m → zb_WP (G, C, d + 1, 0, 0, zb_q E (fun r m' => m' = m ∧ Q r)) F_X5_hasHeapsLike 15 [(0, (2, x0)), (1, (2, x1)), (2, (0, v2_15))] [] E.1 m 0 0)) := ⟨fun v2_15 => zb_FIN E m → zb_WP (G, C, d + 1, 0, 0, zb_q E (fun r m' => m' = m ∧ Q r)) F_X5_hasHeapsLike 15 [(0, (2, x0)), (1, (2, x1)), (2, (0, v2_15))] [] E.1 m 0 0, fun _ => Iff.rfl⟩
    refine (hX15 _).mp (h X15 (fun v2_15 h => (hX15 _).mpr (fun hF => ?_))) hF
    refine zb_iload_n (j := 2) dX5_hasHeapsLike_15 rfl rfl ?_
    refine zb_aload_n (j := 0) dX5_hasHeapsLike_16 rfl rfl ?_
    refine zb_gI 1 dX5_hasHeapsLike_17 fl_X5_25 i_0 rfl rfl ?_
    refine zb_icmp_ge (tgt := 46) dX5_hasHeapsLike_20 (by decide) (fun c2 => ?_) (fun c2 => ?_)
    · have h := h.1 c2
      refine zb_iconst dX5_hasHeapsLike_46 (zb_inIc rfl) ?_
      exact zb_rZ dX5_hasHeapsLike_47 rfl hF (by decide) ⟨rfl, h⟩
    · have h := h.2 c2
      refine zb_aload_n (j := 0) dX5_hasHeapsLike_23 rfl rfl ?_
      refine zb_gFa 3 dX5_hasHeapsLike_24 fl_X5_15 i_0 hW hF rfl rfl rfl (by decide) rfl 12 rfl (fun i3 l4 => ?_)
      refine zb_iload_n (j := 2) dX5_hasHeapsLike_27 rfl rfl ?_
      obtain ⟨o5, h⟩ := h
      refine zb_lI dX5_hasHeapsLike_28 i3 l4 o5.1 o5.2 ?_
      refine zb_aload_n (j := 1) dX5_hasHeapsLike_29 rfl rfl ?_
      refine zb_gFa 3 dX5_hasHeapsLike_30 fl_X5_15 i_1 hW hF rfl rfl rfl (by decide) rfl 12 rfl (fun i6 l7 => ?_)
      refine zb_iload_n (j := 2) dX5_hasHeapsLike_33 rfl rfl ?_
      refine zb_lI dX5_hasHeapsLike_34 i6 l7 o5.1 o5.2 ?_
      refine zb_icmp_eq (tgt := 40) dX5_hasHeapsLike_35 (by decide) (fun c8 => ?_) (fun c8 => ?_)
      · have h := h.1 c8
        obtain ⟨o9, h⟩ := h
        refine zb_iinc (j := 2) (L' := [(2, (0, (v2_15 + 1))), (0, (2, x0)), (1, (2, x1))]) dX5_hasHeapsLike_40 rfl o9 (by decide) rfl ?_
        refine zb_goto (tgt := 15) dX5_hasHeapsLike_43 (by decide) ?_
        refine zb_sub (L' := [(0, (2, x0)), (1, (2, x1)), (2, (0, (v2_15 + 1)))]) [1, 2, 0] rfl ?_
        exact (hX15 _).mp h hF
      · have h := h.2 c8
        refine zb_iconst dX5_hasHeapsLike_38 (zb_inIc rfl) ?_
        exact zb_rZ dX5_hasHeapsLike_39 rfl hF (by decide) ⟨rfl, h⟩
  · have h := h.2 c1
    refine zb_iconst dX5_hasHeapsLike_11 (zb_inIc rfl) ?_
    exact zb_rZ dX5_hasHeapsLike_12 rfl hF (by decide) ⟨rfl, h⟩
