/-! ===== SameBench$Splitter: instructions and walks (laid by gen/layout.py) ===== -/
theorem dX7_begin_0 : decode cX7_begin 0 = .ok (.aload_n 1, 1) := by decide +kernel
theorem dX7_begin_1 : decode cX7_begin 1 = .ok (.aload_n 2, 1) := by decide +kernel
theorem dX7_begin_2 : decode cX7_begin 2 = .ok (.getfield 22, 3) := by decide +kernel
theorem dX7_begin_5 : decode cX7_begin 5 = .ok (.invokevirtual 28, 3) := by decide +kernel
theorem dX7_begin_8 : decode cX7_begin 8 = .ok (.aload_n 0, 1) := by decide +kernel
theorem dX7_begin_9 : decode cX7_begin 9 = .ok (.iconst 1, 1) := by decide +kernel
theorem dX7_begin_10 : decode cX7_begin 10 = .ok (.putfield 34, 3) := by decide +kernel
theorem dX7_begin_13 : decode cX7_begin 13 = .ok (.iconst 0, 1) := by decide +kernel
theorem dX7_begin_14 : decode cX7_begin 14 = .ok (.istore_n 3, 1) := by decide +kernel
theorem dX7_begin_15 : decode cX7_begin 15 = .ok (.iload_n 3, 1) := by decide +kernel
theorem dX7_begin_16 : decode cX7_begin 16 = .ok (.aload_n 2, 1) := by decide +kernel
theorem dX7_begin_17 : decode cX7_begin 17 = .ok (.getfield 22, 3) := by decide +kernel
theorem dX7_begin_20 : decode cX7_begin 20 = .ok (.if_icmp .ge 25, 3) := by decide +kernel
theorem dX7_begin_23 : decode cX7_begin 23 = .ok (.aload_n 0, 1) := by decide +kernel
theorem dX7_begin_24 : decode cX7_begin 24 = .ok (.getfield 11, 3) := by decide +kernel
theorem dX7_begin_27 : decode cX7_begin 27 = .ok (.iload_n 3, 1) := by decide +kernel
theorem dX7_begin_28 : decode cX7_begin 28 = .ok (.bipush 24, 2) := by decide +kernel
theorem dX7_begin_30 : decode cX7_begin 30 = .ok (.imul, 1) := by decide +kernel
theorem dX7_begin_31 : decode cX7_begin 31 = .ok (.aload_n 2, 1) := by decide +kernel
theorem dX7_begin_32 : decode cX7_begin 32 = .ok (.getfield 37, 3) := by decide +kernel
theorem dX7_begin_35 : decode cX7_begin 35 = .ok (.iload_n 3, 1) := by decide +kernel
theorem dX7_begin_36 : decode cX7_begin 36 = .ok (.iaload, 1) := by decide +kernel
theorem dX7_begin_37 : decode cX7_begin 37 = .ok (.i2l, 1) := by decide +kernel
theorem dX7_begin_38 : decode cX7_begin 38 = .ok (.lastore, 1) := by decide +kernel
theorem dX7_begin_39 : decode cX7_begin 39 = .ok (.iinc 3 1, 3) := by decide +kernel
theorem dX7_begin_42 : decode cX7_begin 42 = .ok (.goto (-27), 3) := by decide +kernel
theorem dX7_begin_45 : decode cX7_begin 45 = .ok (.aload_n 0, 1) := by decide +kernel
theorem dX7_begin_46 : decode cX7_begin 46 = .ok (.aload_n 1, 1) := by decide +kernel
theorem dX7_begin_47 : decode cX7_begin 47 = .ok (.invokevirtual 40, 3) := by decide +kernel
theorem dX7_begin_50 : decode cX7_begin 50 = .ok (.aload_n 0, 1) := by decide +kernel
theorem dX7_begin_51 : decode cX7_begin 51 = .ok (.aload_n 1, 1) := by decide +kernel
theorem dX7_begin_52 : decode cX7_begin 52 = .ok (.aload_n 2, 1) := by decide +kernel
theorem dX7_begin_53 : decode cX7_begin 53 = .ok (.invokevirtual 44, 3) := by decide +kernel
theorem dX7_begin_56 : decode cX7_begin 56 = .ok (.return_, 1) := by decide +kernel
def PJ_X7_begin_45 (d : Nat) (E : zb_E) (x0 : Int) (x1 : Int) (x2 : Int) (Q : Int → zb_M → Prop) (m45j : zb_M) : Prop :=
  zb_T K_X7_divide d [(2, x0), (2, x1)] E m45j (fun r47 m47 => zb_T K_X7_settle d [(2, x0), (2, x1), (2, x2)] E m47 (fun r53 m53 => Q 0 m53))
def PL_X7_begin_15 (d : Nat) (E : zb_E) (x0 : Int) (x2 : Int) (Q : Int → zb_M → Prop) (K45_15 : zb_M → Prop) (v3_15 : Int) (m15l : zb_M) : Prop :=
  ∀ X15 : Int → zb_M → Prop, (∀ (v3_15 : Int) (m15l : zb_M), (((m15l x2 0) ≤ v3_15 → K45_15 m15l) ∧ (¬ (m15l x2 0) ≤ v3_15 → (zb_inI (v3_15 * 24)) ∧ ((0 ≤ v3_15 ∧ v3_15 < 12) ∧ ((0 ≤ (v3_15 * 24) ∧ (v3_15 * 24) < 288) ∧ (∀ m38, m38 = zb_up m15l (E.2 x0 0) (v3_15 * 24) (m15l (E.2 x2 3) v3_15) → ((zb_inI (v3_15 + 1)) ∧ (X15 (v3_15 + 1) m38))))))) → X15 v3_15 m15l) → X15 v3_15 m15l
def PM_X7_begin (d : Nat) (E : zb_E) (x0 : Int) (x1 : Int) (x2 : Int) (m : zb_M) (Q : Int → zb_M → Prop) : Prop :=
  zb_T K_X5_gather d [(2, x1), (0, (m x2 0))] E m (fun r5 m5 => ∀ m10, m10 = zb_up m5 x0 1 1 → (PL_X7_begin_15 d E x0 x2 Q (PJ_X7_begin_45 d E x0 x1 x2 Q) 0 m10))
set_option maxRecDepth 100000 in
set_option maxHeartbeats 4000000 in
theorem w_X7_begin {d : Nat} {E : zb_E} {x0 x1 x2 : Int} {m : zb_M} {Q : Int → zb_M → Prop} (h : PM_X7_begin d E x0 x1 x2 m Q) : zb_T K_X7_begin (d + 1) [(2, x0), (2, x1), (2, x2)] E m Q := by
  unfold PM_X7_begin at h
  refine zb_T_in gd_X7_begin rfl rfl (fun hW hA G C hF => ?_)
  have i_0 : zb_is E.1 x0 7 := zb_aH hA (by decide)
  have i_1 : zb_is E.1 x1 5 := zb_aH (zb_aT hA) (by decide)
  have i_2 : zb_is E.1 x2 6 := zb_aH (zb_aT (zb_aT hA)) (by decide)
  show zb_WP _ _ 0 [(0, (2, x0)), (1, (2, x1)), (2, (2, x2))] [] _ _ _ _
  refine zb_aload_n (j := 1) dX7_begin_0 rfl rfl ?_
  refine zb_aload_n (j := 2) dX7_begin_1 rfl rfl ?_
  refine zb_gI 0 dX7_begin_2 fl_X7_22 i_2 rfl rfl ?_
  refine zb_cV (As := [(0, (m x2 0))]) (As' := [(0, (m x2 0))]) (st := []) dX7_begin_5 lk_X7_28 gd_X5_gather rfl rfl i_1 ⟨_, rfl, rfl⟩ h hW hF (zb_aR i_1 (zb_aI zb_a0)) (Nat.le_refl _) (Nat.le_of_ble_eq_true rfl) (fun r5 m5 hF h => ?_)
  show zb_WP _ _ _ _ [] _ _ _ _
  refine zb_aload_n (j := 0) dX7_begin_8 rfl rfl ?_
  refine zb_iconst dX7_begin_9 (zb_inIc rfl) ?_
  refine zb_pF 1 dX7_begin_10 fl_X7_34 rfl rfl i_0 (Or.inl rfl) hF rfl rfl (fun m10 e10 hF => ?_)
  have h := h m10 e10
  refine zb_iconst dX7_begin_13 (zb_inIc rfl) ?_
  refine zb_istore_n (L' := [(3, (0, 0)), (0, (2, x0)), (1, (2, x1)), (2, (2, x2))]) dX7_begin_14 rfl (by decide) rfl ?_
  refine zb_sub (L' := [(0, (2, x0)), (1, (2, x1)), (2, (2, x2)), (3, (0, 0))]) [1, 2, 3, 0] rfl ?_
  have hJ45 : ∀ (m45j : zb_M), zb_FIN E m45j → PJ_X7_begin_45 d E x0 x1 x2 Q m45j → zb_WP (G, C, d + 1, 0, 0, zb_q E Q) F_X7_begin 45 [(0, (2, x0)), (1, (2, x1)), (2, (2, x2))] [] E.1 m45j 0 0 := by
    intro m45j hF h
    unfold PJ_X7_begin_45 at h
    refine zb_aload_n (j := 0) dX7_begin_45 rfl rfl ?_
    refine zb_aload_n (j := 1) dX7_begin_46 rfl rfl ?_
    refine zb_cV (As := [(2, x1)]) (As' := [(2, x1)]) (st := []) dX7_begin_47 lk_X7_40 gd_X7_divide rfl rfl i_0 ⟨_, rfl, rfl⟩ h hW hF (zb_aR i_0 (zb_aR i_1 zb_a0)) (Nat.le_refl _) (Nat.le_of_ble_eq_true rfl) (fun r47 m47 hF h => ?_)
    show zb_WP _ _ _ _ [] _ _ _ _
    refine zb_aload_n (j := 0) dX7_begin_50 rfl rfl ?_
    refine zb_aload_n (j := 1) dX7_begin_51 rfl rfl ?_
    refine zb_aload_n (j := 2) dX7_begin_52 rfl rfl ?_
    refine zb_cV (As := [(2, x1), (2, x2)]) (As' := [(2, x2), (2, x1)]) (st := []) dX7_begin_53 lk_X7_44 gd_X7_settle rfl rfl i_0 ⟨_, rfl, rfl⟩ h hW hF (zb_aR i_0 (zb_aR i_1 (zb_aR i_2 zb_a0))) (Nat.le_refl _) (Nat.le_of_ble_eq_true rfl) (fun r53 m53 hF h => ?_)
    show zb_WP _ _ _ _ [] _ _ _ _
    exact zb_rV dX7_begin_56 rfl hF h
  unfold PL_X7_begin_15 at h
  obtain ⟨X15, hX15⟩ : ∃ X : Int → zb_M → Prop, ∀ (v3_15 : Int) (m15l : zb_M), (X v3_15 m15l ↔ (zb_FIN E m15l → zb_WP (G, C, d + 1, 0, 0, zb_q E Q) F_X7_begin 15 [(0, (2, x0)), (1, (2, x1)), (2, (2, x2)), (3, (0, v3_15))] [] E.1 m15l 0 0)) := ⟨fun v3_15 m15l => zb_FIN E m15l → zb_WP (G, C, d + 1, 0, 0, zb_q E Q) F_X7_begin 15 [(0, (2, x0)), (1, (2, x1)), (2, (2, x2)), (3, (0, v3_15))] [] E.1 m15l 0 0, fun _ _ => Iff.rfl⟩
  refine (hX15 _ _).mp (h X15 (fun v3_15 m15l h => (hX15 _ _).mpr (fun hF => ?_))) hF
  refine zb_iload_n (j := 3) dX7_begin_15 rfl rfl ?_
  refine zb_aload_n (j := 2) dX7_begin_16 rfl rfl ?_
  refine zb_gI 0 dX7_begin_17 fl_X7_22 i_2 rfl rfl ?_
  refine zb_icmp_ge (tgt := 45) dX7_begin_20 (by decide) (fun c1 => ?_) (fun c1 => ?_)
  · have h := h.1 c1
    refine zb_sub (L' := [(0, (2, x0)), (1, (2, x1)), (2, (2, x2))]) [0, 1, 2] rfl ?_
    exact hJ45 _ hF h
  · have h := h.2 c1
    refine zb_aload_n (j := 0) dX7_begin_23 rfl rfl ?_
    refine zb_gFa 0 dX7_begin_24 fl_X7_11 i_0 hW hF rfl rfl rfl (by decide) rfl 288 rfl (fun i2 l3 => ?_)
    refine zb_iload_n (j := 3) dX7_begin_27 rfl rfl ?_
    refine zb_bipush dX7_begin_28 (by decide) (zb_inIc rfl) ?_
    obtain ⟨o4, h⟩ := h
    refine zb_imul dX7_begin_30 o4 ?_
    refine zb_aload_n (j := 2) dX7_begin_31 rfl rfl ?_
    refine zb_gFa 3 dX7_begin_32 fl_X7_37 i_2 hW hF rfl rfl rfl (by decide) rfl 12 rfl (fun i5 l6 => ?_)
    refine zb_iload_n (j := 3) dX7_begin_35 rfl rfl ?_
    obtain ⟨o7, h⟩ := h
    refine zb_lI dX7_begin_36 i5 l6 o7.1 o7.2 ?_
    refine zb_i2l dX7_begin_37 ?_
    obtain ⟨o8, h⟩ := h
    refine zb_sL dX7_begin_38 i2 l3 o8.1 o8.2 hF (fun m38 e38 hF => ?_)
    have h := h m38 e38
    obtain ⟨o9, h⟩ := h
    refine zb_iinc (j := 3) (L' := [(3, (0, (v3_15 + 1))), (0, (2, x0)), (1, (2, x1)), (2, (2, x2))]) dX7_begin_39 rfl o9 (by decide) rfl ?_
    refine zb_goto (tgt := 15) dX7_begin_42 (by decide) ?_
    refine zb_sub (L' := [(0, (2, x0)), (1, (2, x1)), (2, (2, x2)), (3, (0, (v3_15 + 1)))]) [1, 2, 3, 0] rfl ?_
    exact (hX15 _ _).mp h hF
theorem dX7_settle_0 : decode cX7_settle 0 = .ok (.iconst 1, 1) := by decide +kernel
theorem dX7_settle_1 : decode cX7_settle 1 = .ok (.istore_n 3, 1) := by decide +kernel
theorem dX7_settle_2 : decode cX7_settle 2 = .ok (.iconst 0, 1) := by decide +kernel
theorem dX7_settle_3 : decode cX7_settle 3 = .ok (.istore 4, 2) := by decide +kernel
theorem dX7_settle_5 : decode cX7_settle 5 = .ok (.iload 4, 2) := by decide +kernel
theorem dX7_settle_7 : decode cX7_settle 7 = .ok (.bipush 12, 2) := by decide +kernel
theorem dX7_settle_9 : decode cX7_settle 9 = .ok (.if_icmp .ge 52, 3) := by decide +kernel
theorem dX7_settle_12 : decode cX7_settle 12 = .ok (.iload_n 3, 1) := by decide +kernel
theorem dX7_settle_13 : decode cX7_settle 13 = .ok (.ifCond .eq 48, 3) := by decide +kernel
theorem dX7_settle_16 : decode cX7_settle 16 = .ok (.aload_n 1, 1) := by decide +kernel
theorem dX7_settle_17 : decode cX7_settle 17 = .ok (.invokevirtual 48, 3) := by decide +kernel
theorem dX7_settle_20 : decode cX7_settle 20 = .ok (.ifCond .ne 41, 3) := by decide +kernel
theorem dX7_settle_23 : decode cX7_settle 23 = .ok (.aload_n 1, 1) := by decide +kernel
theorem dX7_settle_24 : decode cX7_settle 24 = .ok (.getfield 52, 3) := by decide +kernel
theorem dX7_settle_27 : decode cX7_settle 27 = .ok (.istore 5, 2) := by decide +kernel
theorem dX7_settle_29 : decode cX7_settle 29 = .ok (.aload_n 0, 1) := by decide +kernel
theorem dX7_settle_30 : decode cX7_settle 30 = .ok (.aload_n 1, 1) := by decide +kernel
theorem dX7_settle_31 : decode cX7_settle 31 = .ok (.aload_n 2, 1) := by decide +kernel
theorem dX7_settle_32 : decode cX7_settle 32 = .ok (.invokevirtual 55, 3) := by decide +kernel
theorem dX7_settle_35 : decode cX7_settle 35 = .ok (.aload_n 0, 1) := by decide +kernel
theorem dX7_settle_36 : decode cX7_settle 36 = .ok (.aload_n 1, 1) := by decide +kernel
theorem dX7_settle_37 : decode cX7_settle 37 = .ok (.invokevirtual 40, 3) := by decide +kernel
theorem dX7_settle_40 : decode cX7_settle 40 = .ok (.aload_n 1, 1) := by decide +kernel
theorem dX7_settle_41 : decode cX7_settle 41 = .ok (.getfield 52, 3) := by decide +kernel
theorem dX7_settle_44 : decode cX7_settle 44 = .ok (.iload 5, 2) := by decide +kernel
theorem dX7_settle_46 : decode cX7_settle 46 = .ok (.if_icmp .le 7, 3) := by decide +kernel
theorem dX7_settle_49 : decode cX7_settle 49 = .ok (.iconst 1, 1) := by decide +kernel
theorem dX7_settle_50 : decode cX7_settle 50 = .ok (.goto 4, 3) := by decide +kernel
theorem dX7_settle_53 : decode cX7_settle 53 = .ok (.iconst 0, 1) := by decide +kernel
theorem dX7_settle_54 : decode cX7_settle 54 = .ok (.istore_n 3, 1) := by decide +kernel
theorem dX7_settle_55 : decode cX7_settle 55 = .ok (.iinc 4 1, 3) := by decide +kernel
theorem dX7_settle_58 : decode cX7_settle 58 = .ok (.goto (-53), 3) := by decide +kernel
theorem dX7_settle_61 : decode cX7_settle 61 = .ok (.return_, 1) := by decide +kernel
def PL_X7_settle_5 (d : Nat) (E : zb_E) (x0 : Int) (x1 : Int) (x2 : Int) (Q : Int → zb_M → Prop)  (v3_5 : Int) (v4_5 : Int) (m5l : zb_M) : Prop :=
  ∀ X5 : Int → Int → zb_M → Prop, (∀ (v3_5 : Int) (v4_5 : Int) (m5l : zb_M), ((12 ≤ v4_5 → Q 0 m5l) ∧ (¬ 12 ≤ v4_5 → (v3_5 = 0 → Q 0 m5l) ∧ (¬ v3_5 = 0 → zb_Tp K_X5_isAllAlone d [(2, x1)] E m5l (fun r17 => (r17 = 0 → zb_T K_X7_look d [(2, x0), (2, x1), (2, x2)] E m5l (fun r32 m32 => zb_T K_X7_divide d [(2, x0), (2, x1)] E m32 (fun r37 m37 => ((m37 x1 1) ≤ (m5l x1 1) → (zb_inI (v4_5 + 1)) ∧ (X5 0 (v4_5 + 1) m37)) ∧ (¬ (m37 x1 1) ≤ (m5l x1 1) → (zb_inI (v4_5 + 1)) ∧ (X5 1 (v4_5 + 1) m37))))) ∧ (¬ r17 = 0 → Q 0 m5l))))) → X5 v3_5 v4_5 m5l) → X5 v3_5 v4_5 m5l
def PM_X7_settle (d : Nat) (E : zb_E) (x0 : Int) (x1 : Int) (x2 : Int) (m : zb_M) (Q : Int → zb_M → Prop) : Prop :=
  PL_X7_settle_5 d E x0 x1 x2 Q 1 0 m
set_option maxRecDepth 100000 in
set_option maxHeartbeats 4000000 in
theorem w_X7_settle {d : Nat} {E : zb_E} {x0 x1 x2 : Int} {m : zb_M} {Q : Int → zb_M → Prop} (h : PM_X7_settle d E x0 x1 x2 m Q) : zb_T K_X7_settle (d + 1) [(2, x0), (2, x1), (2, x2)] E m Q := by
  unfold PM_X7_settle at h
  refine zb_T_in gd_X7_settle rfl rfl (fun hW hA G C hF => ?_)
  have i_0 : zb_is E.1 x0 7 := zb_aH hA (by decide)
  have i_1 : zb_is E.1 x1 5 := zb_aH (zb_aT hA) (by decide)
  have i_2 : zb_is E.1 x2 6 := zb_aH (zb_aT (zb_aT hA)) (by decide)
  show zb_WP _ _ 0 [(0, (2, x0)), (1, (2, x1)), (2, (2, x2))] [] _ _ _ _
  refine zb_iconst dX7_settle_0 (zb_inIc rfl) ?_
  refine zb_istore_n (L' := [(3, (0, 1)), (0, (2, x0)), (1, (2, x1)), (2, (2, x2))]) dX7_settle_1 rfl (by decide) rfl ?_
  refine zb_iconst dX7_settle_2 (zb_inIc rfl) ?_
  refine zb_istore (L' := [(4, (0, 0)), (3, (0, 1)), (0, (2, x0)), (1, (2, x1)), (2, (2, x2))]) dX7_settle_3 (by decide) rfl ?_
  refine zb_sub (L' := [(0, (2, x0)), (1, (2, x1)), (2, (2, x2)), (3, (0, 1)), (4, (0, 0))]) [2, 3, 4, 1, 0] rfl ?_
  unfold PL_X7_settle_5 at h
  obtain ⟨X5, hX5⟩ : ∃ X : Int → Int → zb_M → Prop, ∀ (v3_5 : Int) (v4_5 : Int) (m5l : zb_M), (X v3_5 v4_5 m5l ↔ (zb_FIN E m5l → zb_WP (G, C, d + 1, 0, 0, zb_q E Q) F_X7_settle 5 [(0, (2, x0)), (1, (2, x1)), (2, (2, x2)), (3, (0, v3_5)), (4, (0, v4_5))] [] E.1 m5l 0 0)) := ⟨fun v3_5 v4_5 m5l => zb_FIN E m5l → zb_WP (G, C, d + 1, 0, 0, zb_q E Q) F_X7_settle 5 [(0, (2, x0)), (1, (2, x1)), (2, (2, x2)), (3, (0, v3_5)), (4, (0, v4_5))] [] E.1 m5l 0 0, fun _ _ _ => Iff.rfl⟩
  refine (hX5 _ _ _).mp (h X5 (fun v3_5 v4_5 m5l h => (hX5 _ _ _).mpr (fun hF => ?_))) hF
  refine zb_iload (j := 4) dX7_settle_5 rfl ?_
  refine zb_bipush dX7_settle_7 (by decide) (zb_inIc rfl) ?_
  refine zb_icmp_ge (tgt := 61) dX7_settle_9 (by decide) (fun c1 => ?_) (fun c1 => ?_)
  · have h := h.1 c1
    exact zb_rV dX7_settle_61 rfl hF h
  · have h := h.2 c1
    refine zb_iload_n (j := 3) dX7_settle_12 rfl rfl ?_
    refine zb_if_eq (tgt := 61) dX7_settle_13 (by decide) (fun c2 => ?_) (fun c2 => ?_)
    · have h := h.1 c2
      exact zb_rV dX7_settle_61 rfl hF h
    · have h := h.2 c2
      refine zb_aload_n (j := 1) dX7_settle_16 rfl rfl ?_
      refine zb_cVp (As := []) (As' := []) (st := []) dX7_settle_17 lk_X7_48 gd_X5_isAllAlone rfl rfl i_1 ⟨_, rfl, rfl⟩ h hW hF (zb_aR i_1 zb_a0) (Nat.le_refl _) (Nat.le_of_ble_eq_true rfl) (fun r17 h => ?_)
      show zb_WP _ _ _ _ [(0, r17)] _ _ _ _
      refine zb_if_ne (tgt := 61) dX7_settle_20 (by decide) (fun c3 => ?_) (fun c3 => ?_)
      · have h := h.2 c3
        exact zb_rV dX7_settle_61 rfl hF h
      · have h := h.1 c3
        refine zb_aload_n (j := 1) dX7_settle_23 rfl rfl ?_
        refine zb_gI 1 dX7_settle_24 fl_X7_52 i_1 rfl rfl ?_
        refine zb_istore (L' := [(5, (0, (m5l x1 1))), (0, (2, x0)), (1, (2, x1)), (2, (2, x2)), (3, (0, v3_5)), (4, (0, v4_5))]) dX7_settle_27 (by decide) rfl ?_
        refine zb_aload_n (j := 1) dX7_settle_29 rfl rfl ?_
        refine zb_aload_n (j := 2) dX7_settle_30 rfl rfl ?_
        refine zb_aload_n (j := 3) dX7_settle_31 rfl rfl ?_
        refine zb_cV (As := [(2, x1), (2, x2)]) (As' := [(2, x2), (2, x1)]) (st := []) dX7_settle_32 lk_X7_55 gd_X7_look rfl rfl i_0 ⟨_, rfl, rfl⟩ h hW hF (zb_aR i_0 (zb_aR i_1 (zb_aR i_2 zb_a0))) (Nat.le_refl _) (Nat.le_of_ble_eq_true rfl) (fun r32 m32 hF h => ?_)
        show zb_WP _ _ _ _ [] _ _ _ _
        refine zb_aload_n (j := 1) dX7_settle_35 rfl rfl ?_
        refine zb_aload_n (j := 2) dX7_settle_36 rfl rfl ?_
        refine zb_cV (As := [(2, x1)]) (As' := [(2, x1)]) (st := []) dX7_settle_37 lk_X7_40 gd_X7_divide rfl rfl i_0 ⟨_, rfl, rfl⟩ h hW hF (zb_aR i_0 (zb_aR i_1 zb_a0)) (Nat.le_refl _) (Nat.le_of_ble_eq_true rfl) (fun r37 m37 hF h => ?_)
        show zb_WP _ _ _ _ [] _ _ _ _
        refine zb_aload_n (j := 2) dX7_settle_40 rfl rfl ?_
        refine zb_gI 1 dX7_settle_41 fl_X7_52 i_1 rfl rfl ?_
        refine zb_iload (j := 0) dX7_settle_44 rfl ?_
        refine zb_icmp_le (tgt := 53) dX7_settle_46 (by decide) (fun c4 => ?_) (fun c4 => ?_)
        · have h := h.1 c4
          refine zb_iconst dX7_settle_53 (zb_inIc rfl) ?_
          refine zb_istore_n (L' := [(3, (0, 0)), (5, (0, (m5l x1 1))), (0, (2, x0)), (1, (2, x1)), (2, (2, x2)), (4, (0, v4_5))]) dX7_settle_54 rfl (by decide) rfl ?_
          obtain ⟨o5, h⟩ := h
          refine zb_iinc (j := 5) (L' := [(4, (0, (v4_5 + 1))), (3, (0, 0)), (5, (0, (m5l x1 1))), (0, (2, x0)), (1, (2, x1)), (2, (2, x2))]) dX7_settle_55 rfl o5 (by decide) rfl ?_
          refine zb_goto (tgt := 5) dX7_settle_58 (by decide) ?_
          refine zb_sub (L' := [(0, (2, x0)), (1, (2, x1)), (2, (2, x2)), (3, (0, 0)), (4, (0, (v4_5 + 1)))]) [3, 4, 5, 1, 0] rfl ?_
          exact (hX5 _ _ _).mp h hF
        · have h := h.2 c4
          refine zb_iconst dX7_settle_49 (zb_inIc rfl) ?_
          refine zb_goto (tgt := 54) dX7_settle_50 (by decide) ?_
          refine zb_istore_n (L' := [(3, (0, 1)), (5, (0, (m5l x1 1))), (0, (2, x0)), (1, (2, x1)), (2, (2, x2)), (4, (0, v4_5))]) dX7_settle_54 rfl (by decide) rfl ?_
          obtain ⟨o6, h⟩ := h
          refine zb_iinc (j := 5) (L' := [(4, (0, (v4_5 + 1))), (3, (0, 1)), (5, (0, (m5l x1 1))), (0, (2, x0)), (1, (2, x1)), (2, (2, x2))]) dX7_settle_55 rfl o6 (by decide) rfl ?_
          refine zb_goto (tgt := 5) dX7_settle_58 (by decide) ?_
          refine zb_sub (L' := [(0, (2, x0)), (1, (2, x1)), (2, (2, x2)), (3, (0, 1)), (4, (0, (v4_5 + 1)))]) [3, 4, 5, 1, 0] rfl ?_
          exact (hX5 _ _ _).mp h hF
theorem dX7_look_0 : decode cX7_look 0 = .ok (.aload_n 1, 1) := by decide +kernel
theorem dX7_look_1 : decode cX7_look 1 = .ok (.getfield 52, 3) := by decide +kernel
theorem dX7_look_4 : decode cX7_look 4 = .ok (.istore_n 3, 1) := by decide +kernel
theorem dX7_look_5 : decode cX7_look 5 = .ok (.aload_n 1, 1) := by decide +kernel
theorem dX7_look_6 : decode cX7_look 6 = .ok (.getfield 58, 3) := by decide +kernel
theorem dX7_look_9 : decode cX7_look 9 = .ok (.astore 4, 2) := by decide +kernel
theorem dX7_look_11 : decode cX7_look 11 = .ok (.aload_n 0, 1) := by decide +kernel
theorem dX7_look_12 : decode cX7_look 12 = .ok (.iconst 2, 1) := by decide +kernel
theorem dX7_look_13 : decode cX7_look 13 = .ok (.iload_n 3, 1) := by decide +kernel
theorem dX7_look_14 : decode cX7_look 14 = .ok (.imul, 1) := by decide +kernel
theorem dX7_look_15 : decode cX7_look 15 = .ok (.putfield 34, 3) := by decide +kernel
theorem dX7_look_18 : decode cX7_look 18 = .ok (.iconst 0, 1) := by decide +kernel
theorem dX7_look_19 : decode cX7_look 19 = .ok (.istore 5, 2) := by decide +kernel
theorem dX7_look_21 : decode cX7_look 21 = .ok (.iload 5, 2) := by decide +kernel
theorem dX7_look_23 : decode cX7_look 23 = .ok (.aload_n 1, 1) := by decide +kernel
theorem dX7_look_24 : decode cX7_look 24 = .ok (.getfield 61, 3) := by decide +kernel
theorem dX7_look_27 : decode cX7_look 27 = .ok (.if_icmp .ge 135, 3) := by decide +kernel
theorem dX7_look_30 : decode cX7_look 30 = .ok (.aload_n 1, 1) := by decide +kernel
theorem dX7_look_31 : decode cX7_look 31 = .ok (.iload 5, 2) := by decide +kernel
theorem dX7_look_33 : decode cX7_look 33 = .ok (.invokevirtual 62, 3) := by decide +kernel
theorem dX7_look_36 : decode cX7_look 36 = .ok (.ifCond .eq 6, 3) := by decide +kernel
theorem dX7_look_39 : decode cX7_look 39 = .ok (.goto 117, 3) := by decide +kernel
theorem dX7_look_42 : decode cX7_look 42 = .ok (.iload 5, 2) := by decide +kernel
theorem dX7_look_44 : decode cX7_look 44 = .ok (.bipush 24, 2) := by decide +kernel
theorem dX7_look_46 : decode cX7_look 46 = .ok (.imul, 1) := by decide +kernel
theorem dX7_look_47 : decode cX7_look 47 = .ok (.istore 6, 2) := by decide +kernel
theorem dX7_look_49 : decode cX7_look 49 = .ok (.iconst 0, 1) := by decide +kernel
theorem dX7_look_50 : decode cX7_look 50 = .ok (.istore 7, 2) := by decide +kernel
theorem dX7_look_52 : decode cX7_look 52 = .ok (.iload 7, 2) := by decide +kernel
theorem dX7_look_54 : decode cX7_look 54 = .ok (.aload_n 0, 1) := by decide +kernel
theorem dX7_look_55 : decode cX7_look 55 = .ok (.getfield 34, 3) := by decide +kernel
theorem dX7_look_58 : decode cX7_look 58 = .ok (.if_icmp .ge 20, 3) := by decide +kernel
theorem dX7_look_61 : decode cX7_look 61 = .ok (.aload_n 0, 1) := by decide +kernel
theorem dX7_look_62 : decode cX7_look 62 = .ok (.getfield 11, 3) := by decide +kernel
theorem dX7_look_65 : decode cX7_look 65 = .ok (.iload 6, 2) := by decide +kernel
theorem dX7_look_67 : decode cX7_look 67 = .ok (.iload 7, 2) := by decide +kernel
theorem dX7_look_69 : decode cX7_look 69 = .ok (.iadd, 1) := by decide +kernel
theorem dX7_look_70 : decode cX7_look 70 = .ok (.lconst 0, 1) := by decide +kernel
theorem dX7_look_71 : decode cX7_look 71 = .ok (.lastore, 1) := by decide +kernel
theorem dX7_look_72 : decode cX7_look 72 = .ok (.iinc 7 1, 3) := by decide +kernel
theorem dX7_look_75 : decode cX7_look 75 = .ok (.goto (-23), 3) := by decide +kernel
theorem dX7_look_78 : decode cX7_look 78 = .ok (.iconst 0, 1) := by decide +kernel
theorem dX7_look_79 : decode cX7_look 79 = .ok (.istore 7, 2) := by decide +kernel
theorem dX7_look_81 : decode cX7_look 81 = .ok (.iload 7, 2) := by decide +kernel
theorem dX7_look_83 : decode cX7_look 83 = .ok (.aload_n 1, 1) := by decide +kernel
theorem dX7_look_84 : decode cX7_look 84 = .ok (.getfield 61, 3) := by decide +kernel
theorem dX7_look_87 : decode cX7_look 87 = .ok (.if_icmp .ge 69, 3) := by decide +kernel
theorem dX7_look_90 : decode cX7_look 90 = .ok (.aload_n 0, 1) := by decide +kernel
theorem dX7_look_91 : decode cX7_look 91 = .ok (.getfield 11, 3) := by decide +kernel
theorem dX7_look_94 : decode cX7_look 94 = .ok (.iload 6, 2) := by decide +kernel
theorem dX7_look_96 : decode cX7_look 96 = .ok (.aload 4, 2) := by decide +kernel
theorem dX7_look_98 : decode cX7_look 98 = .ok (.iload 7, 2) := by decide +kernel
theorem dX7_look_100 : decode cX7_look 100 = .ok (.iaload, 1) := by decide +kernel
theorem dX7_look_101 : decode cX7_look 101 = .ok (.iadd, 1) := by decide +kernel
theorem dX7_look_102 : decode cX7_look 102 = .ok (.dup2, 1) := by decide +kernel
theorem dX7_look_103 : decode cX7_look 103 = .ok (.laload, 1) := by decide +kernel
theorem dX7_look_104 : decode cX7_look 104 = .ok (.aload_n 2, 1) := by decide +kernel
theorem dX7_look_105 : decode cX7_look 105 = .ok (.getfield 66, 3) := by decide +kernel
theorem dX7_look_108 : decode cX7_look 108 = .ok (.iload 5, 2) := by decide +kernel
theorem dX7_look_110 : decode cX7_look 110 = .ok (.bipush 12, 2) := by decide +kernel
theorem dX7_look_112 : decode cX7_look 112 = .ok (.imul, 1) := by decide +kernel
theorem dX7_look_113 : decode cX7_look 113 = .ok (.iload 7, 2) := by decide +kernel
theorem dX7_look_115 : decode cX7_look 115 = .ok (.iadd, 1) := by decide +kernel
theorem dX7_look_116 : decode cX7_look 116 = .ok (.laload, 1) := by decide +kernel
theorem dX7_look_117 : decode cX7_look 117 = .ok (.ladd, 1) := by decide +kernel
theorem dX7_look_118 : decode cX7_look 118 = .ok (.lastore, 1) := by decide +kernel
theorem dX7_look_119 : decode cX7_look 119 = .ok (.aload_n 0, 1) := by decide +kernel
theorem dX7_look_120 : decode cX7_look 120 = .ok (.getfield 11, 3) := by decide +kernel
theorem dX7_look_123 : decode cX7_look 123 = .ok (.iload 6, 2) := by decide +kernel
theorem dX7_look_125 : decode cX7_look 125 = .ok (.iload_n 3, 1) := by decide +kernel
theorem dX7_look_126 : decode cX7_look 126 = .ok (.iadd, 1) := by decide +kernel
theorem dX7_look_127 : decode cX7_look 127 = .ok (.aload 4, 2) := by decide +kernel
theorem dX7_look_129 : decode cX7_look 129 = .ok (.iload 7, 2) := by decide +kernel
theorem dX7_look_131 : decode cX7_look 131 = .ok (.iaload, 1) := by decide +kernel
theorem dX7_look_132 : decode cX7_look 132 = .ok (.iadd, 1) := by decide +kernel
theorem dX7_look_133 : decode cX7_look 133 = .ok (.dup2, 1) := by decide +kernel
theorem dX7_look_134 : decode cX7_look 134 = .ok (.laload, 1) := by decide +kernel
theorem dX7_look_135 : decode cX7_look 135 = .ok (.aload_n 2, 1) := by decide +kernel
theorem dX7_look_136 : decode cX7_look 136 = .ok (.getfield 66, 3) := by decide +kernel
theorem dX7_look_139 : decode cX7_look 139 = .ok (.iload 7, 2) := by decide +kernel
theorem dX7_look_141 : decode cX7_look 141 = .ok (.bipush 12, 2) := by decide +kernel
theorem dX7_look_143 : decode cX7_look 143 = .ok (.imul, 1) := by decide +kernel
theorem dX7_look_144 : decode cX7_look 144 = .ok (.iload 5, 2) := by decide +kernel
theorem dX7_look_146 : decode cX7_look 146 = .ok (.iadd, 1) := by decide +kernel
theorem dX7_look_147 : decode cX7_look 147 = .ok (.laload, 1) := by decide +kernel
theorem dX7_look_148 : decode cX7_look 148 = .ok (.ladd, 1) := by decide +kernel
theorem dX7_look_149 : decode cX7_look 149 = .ok (.lastore, 1) := by decide +kernel
theorem dX7_look_150 : decode cX7_look 150 = .ok (.iinc 7 1, 3) := by decide +kernel
theorem dX7_look_153 : decode cX7_look 153 = .ok (.goto (-72), 3) := by decide +kernel
theorem dX7_look_156 : decode cX7_look 156 = .ok (.iinc 5 1, 3) := by decide +kernel
theorem dX7_look_159 : decode cX7_look 159 = .ok (.goto (-138), 3) := by decide +kernel
theorem dX7_look_162 : decode cX7_look 162 = .ok (.return_, 1) := by decide +kernel
def PJ_X7_look_156 (d : Nat) (E : zb_E) (v5_21 : Int) (X21 : Int → zb_M → Prop) (Q : Int → zb_M → Prop) (m156j : zb_M) : Prop :=
  (zb_inI (v5_21 + 1)) ∧ (X21 (v5_21 + 1) m156j)
def PL_X7_look_81 (d : Nat) (E : zb_E) (x0 : Int) (x1 : Int) (x2 : Int) (m : zb_M) (v5_21 : Int) (Q : Int → zb_M → Prop) (K156_81 : zb_M → Prop) (v7_81 : Int) (m81l : zb_M) : Prop :=
  ∀ X81 : Int → zb_M → Prop, (∀ (v7_81 : Int) (m81l : zb_M), (((m81l x1 0) ≤ v7_81 → K156_81 m81l) ∧ (¬ (m81l x1 0) ≤ v7_81 → (0 ≤ v7_81 ∧ v7_81 < 12) ∧ ((zb_inI ((v5_21 * 24) + (m81l (E.2 x1 2) v7_81))) ∧ ((0 ≤ ((v5_21 * 24) + (m81l (E.2 x1 2) v7_81)) ∧ ((v5_21 * 24) + (m81l (E.2 x1 2) v7_81)) < 288) ∧ ((zb_inI (v5_21 * 12)) ∧ ((zb_inI ((v5_21 * 12) + v7_81)) ∧ ((0 ≤ ((v5_21 * 12) + v7_81) ∧ ((v5_21 * 12) + v7_81) < 144) ∧ ((zb_inL ((m81l (E.2 x0 0) ((v5_21 * 24) + (m81l (E.2 x1 2) v7_81))) + (m81l (E.2 x2 5) ((v5_21 * 12) + v7_81)))) ∧ (∀ m118, m118 = zb_up m81l (E.2 x0 0) ((v5_21 * 24) + (m81l (E.2 x1 2) v7_81)) ((m81l (E.2 x0 0) ((v5_21 * 24) + (m81l (E.2 x1 2) v7_81))) + (m81l (E.2 x2 5) ((v5_21 * 12) + v7_81))) → ((zb_inI ((v5_21 * 24) + (m x1 1))) ∧ ((zb_inI (((v5_21 * 24) + (m x1 1)) + (m118 (E.2 x1 2) v7_81))) ∧ ((0 ≤ (((v5_21 * 24) + (m x1 1)) + (m118 (E.2 x1 2) v7_81)) ∧ (((v5_21 * 24) + (m x1 1)) + (m118 (E.2 x1 2) v7_81)) < 288) ∧ ((zb_inI (v7_81 * 12)) ∧ ((zb_inI ((v7_81 * 12) + v5_21)) ∧ ((0 ≤ ((v7_81 * 12) + v5_21) ∧ ((v7_81 * 12) + v5_21) < 144) ∧ ((zb_inL ((m118 (E.2 x0 0) (((v5_21 * 24) + (m x1 1)) + (m118 (E.2 x1 2) v7_81))) + (m118 (E.2 x2 5) ((v7_81 * 12) + v5_21)))) ∧ (∀ m149, m149 = zb_up m118 (E.2 x0 0) (((v5_21 * 24) + (m x1 1)) + (m118 (E.2 x1 2) v7_81)) ((m118 (E.2 x0 0) (((v5_21 * 24) + (m x1 1)) + (m118 (E.2 x1 2) v7_81))) + (m118 (E.2 x2 5) ((v7_81 * 12) + v5_21))) → ((zb_inI (v7_81 + 1)) ∧ (X81 (v7_81 + 1) m149))))))))))))))))))) → X81 v7_81 m81l) → X81 v7_81 m81l
def PJ_X7_look_78 (d : Nat) (E : zb_E) (x0 : Int) (x1 : Int) (x2 : Int) (m : zb_M) (v5_21 : Int) (X21 : Int → zb_M → Prop) (Q : Int → zb_M → Prop) (m78j : zb_M) : Prop :=
  PL_X7_look_81 d E x0 x1 x2 m v5_21 Q (PJ_X7_look_156 d E v5_21 X21 Q) 0 m78j
def PL_X7_look_52 (d : Nat) (E : zb_E) (x0 : Int) (v5_21 : Int) (Q : Int → zb_M → Prop) (K78_52 : zb_M → Prop) (v7_52 : Int) (m52l : zb_M) : Prop :=
  ∀ X52 : Int → zb_M → Prop, (∀ (v7_52 : Int) (m52l : zb_M), (((m52l x0 1) ≤ v7_52 → K78_52 m52l) ∧ (¬ (m52l x0 1) ≤ v7_52 → (zb_inI ((v5_21 * 24) + v7_52)) ∧ ((0 ≤ ((v5_21 * 24) + v7_52) ∧ ((v5_21 * 24) + v7_52) < 288) ∧ (∀ m71, m71 = zb_up m52l (E.2 x0 0) ((v5_21 * 24) + v7_52) 0 → ((zb_inI (v7_52 + 1)) ∧ (X52 (v7_52 + 1) m71)))))) → X52 v7_52 m52l) → X52 v7_52 m52l
def PL_X7_look_21 (d : Nat) (E : zb_E) (x0 : Int) (x1 : Int) (x2 : Int) (m : zb_M) (Q : Int → zb_M → Prop)  (v5_21 : Int) (m21l : zb_M) : Prop :=
  ∀ X21 : Int → zb_M → Prop, (∀ (v5_21 : Int) (m21l : zb_M), (((m21l x1 0) ≤ v5_21 → Q 0 m21l) ∧ (¬ (m21l x1 0) ≤ v5_21 → zb_Tp K_X5_isAlone d [(2, x1), (0, v5_21)] E m21l (fun r33 => (r33 = 0 → (zb_inI (v5_21 * 24)) ∧ (PL_X7_look_52 d E x0 v5_21 Q (PJ_X7_look_78 d E x0 x1 x2 m v5_21 X21 Q) 0 m21l)) ∧ (¬ r33 = 0 → (zb_inI (v5_21 + 1)) ∧ (X21 (v5_21 + 1) m21l))))) → X21 v5_21 m21l) → X21 v5_21 m21l
def PM_X7_look (d : Nat) (E : zb_E) (x0 : Int) (x1 : Int) (x2 : Int) (m : zb_M) (Q : Int → zb_M → Prop) : Prop :=
  (zb_inI (2 * (m x1 1))) ∧ (∀ m15, m15 = zb_up m x0 1 (2 * (m x1 1)) → (PL_X7_look_21 d E x0 x1 x2 m Q 0 m15))
set_option maxRecDepth 100000 in
set_option maxHeartbeats 4000000 in
theorem w_X7_look {d : Nat} {E : zb_E} {x0 x1 x2 : Int} {m : zb_M} {Q : Int → zb_M → Prop} (h : PM_X7_look d E x0 x1 x2 m Q) : zb_T K_X7_look (d + 1) [(2, x0), (2, x1), (2, x2)] E m Q := by
  unfold PM_X7_look at h
  refine zb_T_in gd_X7_look rfl rfl (fun hW hA G C hF => ?_)
  have i_0 : zb_is E.1 x0 7 := zb_aH hA (by decide)
  have i_1 : zb_is E.1 x1 5 := zb_aH (zb_aT hA) (by decide)
  have i_2 : zb_is E.1 x2 6 := zb_aH (zb_aT (zb_aT hA)) (by decide)
  show zb_WP _ _ 0 [(0, (2, x0)), (1, (2, x1)), (2, (2, x2))] [] _ _ _ _
  refine zb_aload_n (j := 1) dX7_look_0 rfl rfl ?_
  refine zb_gI 1 dX7_look_1 fl_X7_52 i_1 rfl rfl ?_
  refine zb_istore_n (L' := [(3, (0, (m x1 1))), (0, (2, x0)), (1, (2, x1)), (2, (2, x2))]) dX7_look_4 rfl (by decide) rfl ?_
  refine zb_aload_n (j := 2) dX7_look_5 rfl rfl ?_
  refine zb_gFa 2 dX7_look_6 fl_X7_58 i_1 hW hF rfl rfl rfl (by decide) rfl 12 rfl (fun i1 l2 => ?_)
  refine zb_astore (L' := [(4, (2, (E.2 x1 2))), (3, (0, (m x1 1))), (0, (2, x0)), (1, (2, x1)), (2, (2, x2))]) dX7_look_9 (by decide) rfl ?_
  refine zb_aload_n (j := 2) dX7_look_11 rfl rfl ?_
  refine zb_iconst dX7_look_12 (zb_inIc rfl) ?_
  refine zb_iload_n (j := 1) dX7_look_13 rfl rfl ?_
  obtain ⟨o3, h⟩ := h
  refine zb_imul dX7_look_14 o3 ?_
  refine zb_pF 1 dX7_look_15 fl_X7_34 rfl rfl i_0 (Or.inl rfl) hF rfl rfl (fun m15 e15 hF => ?_)
  have h := h m15 e15
  refine zb_iconst dX7_look_18 (zb_inIc rfl) ?_
  refine zb_istore (L' := [(5, (0, 0)), (4, (2, (E.2 x1 2))), (3, (0, (m x1 1))), (0, (2, x0)), (1, (2, x1)), (2, (2, x2))]) dX7_look_19 (by decide) rfl ?_
  refine zb_sub (L' := [(0, (2, x0)), (1, (2, x1)), (2, (2, x2)), (3, (0, (m x1 1))), (4, (2, (E.2 x1 2))), (5, (0, 0))]) [3, 4, 5, 2, 1, 0] rfl ?_
  unfold PL_X7_look_21 at h
  obtain ⟨X21, hX21⟩ : ∃ X : Int → zb_M → Prop, ∀ (v5_21 : Int) (m21l : zb_M), (X v5_21 m21l ↔ (zb_FIN E m21l → zb_WP (G, C, d + 1, 0, 0, zb_q E Q) F_X7_look 21 [(0, (2, x0)), (1, (2, x1)), (2, (2, x2)), (3, (0, (m x1 1))), (4, (2, (E.2 x1 2))), (5, (0, v5_21))] [] E.1 m21l 0 0)) := ⟨fun v5_21 m21l => zb_FIN E m21l → zb_WP (G, C, d + 1, 0, 0, zb_q E Q) F_X7_look 21 [(0, (2, x0)), (1, (2, x1)), (2, (2, x2)), (3, (0, (m x1 1))), (4, (2, (E.2 x1 2))), (5, (0, v5_21))] [] E.1 m21l 0 0, fun _ _ => Iff.rfl⟩
  refine (hX21 _ _).mp (h X21 (fun v5_21 m21l h => (hX21 _ _).mpr (fun hF => ?_))) hF
  refine zb_iload (j := 5) dX7_look_21 rfl ?_
  refine zb_aload_n (j := 1) dX7_look_23 rfl rfl ?_
  refine zb_gI 0 dX7_look_24 fl_X7_61 i_1 rfl rfl ?_
  refine zb_icmp_ge (tgt := 162) dX7_look_27 (by decide) (fun c4 => ?_) (fun c4 => ?_)
  · have h := h.1 c4
    exact zb_rV dX7_look_162 rfl hF h
  · have h := h.2 c4
    refine zb_aload_n (j := 1) dX7_look_30 rfl rfl ?_
    refine zb_iload (j := 5) dX7_look_31 rfl ?_
    refine zb_cVp (As := [(0, v5_21)]) (As' := [(0, v5_21)]) (st := []) dX7_look_33 lk_X7_62 gd_X5_isAlone rfl rfl i_1 ⟨_, rfl, rfl⟩ h hW hF (zb_aR i_1 (zb_aI zb_a0)) (Nat.le_refl _) (Nat.le_of_ble_eq_true rfl) (fun r33 h => ?_)
    show zb_WP _ _ _ _ [(0, r33)] _ _ _ _
    refine zb_if_eq (tgt := 42) dX7_look_36 (by decide) (fun c5 => ?_) (fun c5 => ?_)
    · have h := h.1 c5
      refine zb_iload (j := 5) dX7_look_42 rfl ?_
      refine zb_bipush dX7_look_44 (by decide) (zb_inIc rfl) ?_
      obtain ⟨o6, h⟩ := h
      refine zb_imul dX7_look_46 o6 ?_
      refine zb_istore (L' := [(6, (0, (v5_21 * 24))), (0, (2, x0)), (1, (2, x1)), (2, (2, x2)), (3, (0, (m x1 1))), (4, (2, (E.2 x1 2))), (5, (0, v5_21))]) dX7_look_47 (by decide) rfl ?_
      refine zb_iconst dX7_look_49 (zb_inIc rfl) ?_
      refine zb_istore (L' := [(7, (0, 0)), (6, (0, (v5_21 * 24))), (0, (2, x0)), (1, (2, x1)), (2, (2, x2)), (3, (0, (m x1 1))), (4, (2, (E.2 x1 2))), (5, (0, v5_21))]) dX7_look_50 (by decide) rfl ?_
      refine zb_sub (L' := [(0, (2, x0)), (1, (2, x1)), (2, (2, x2)), (3, (0, (m x1 1))), (4, (2, (E.2 x1 2))), (5, (0, v5_21)), (6, (0, (v5_21 * 24))), (7, (0, 0))]) [2, 3, 4, 5, 6, 7, 1, 0] rfl ?_
      have hJ78 : ∀ (m78j : zb_M), zb_FIN E m78j → PJ_X7_look_78 d E x0 x1 x2 m v5_21 X21 Q m78j → zb_WP (G, C, d + 1, 0, 0, zb_q E Q) F_X7_look 78 [(0, (2, x0)), (1, (2, x1)), (2, (2, x2)), (3, (0, (m x1 1))), (4, (2, (E.2 x1 2))), (5, (0, v5_21)), (6, (0, (v5_21 * 24)))] [] E.1 m78j 0 0 := by
        intro m78j hF h
        unfold PJ_X7_look_78 at h
        refine zb_iconst dX7_look_78 (zb_inIc rfl) ?_
        refine zb_istore (L' := [(7, (0, 0)), (0, (2, x0)), (1, (2, x1)), (2, (2, x2)), (3, (0, (m x1 1))), (4, (2, (E.2 x1 2))), (5, (0, v5_21)), (6, (0, (v5_21 * 24)))]) dX7_look_79 (by decide) rfl ?_
        refine zb_sub (L' := [(0, (2, x0)), (1, (2, x1)), (2, (2, x2)), (3, (0, (m x1 1))), (4, (2, (E.2 x1 2))), (5, (0, v5_21)), (6, (0, (v5_21 * 24))), (7, (0, 0))]) [1, 2, 3, 4, 5, 6, 7, 0] rfl ?_
        have hJ156 : ∀ (m156j : zb_M), zb_FIN E m156j → PJ_X7_look_156 d E v5_21 X21 Q m156j → zb_WP (G, C, d + 1, 0, 0, zb_q E Q) F_X7_look 156 [(0, (2, x0)), (1, (2, x1)), (2, (2, x2)), (3, (0, (m x1 1))), (4, (2, (E.2 x1 2))), (5, (0, v5_21))] [] E.1 m156j 0 0 := by
          intro m156j hF h
          unfold PJ_X7_look_156 at h
          obtain ⟨o7, h⟩ := h
          refine zb_iinc (j := 5) (L' := [(5, (0, (v5_21 + 1))), (0, (2, x0)), (1, (2, x1)), (2, (2, x2)), (3, (0, (m x1 1))), (4, (2, (E.2 x1 2)))]) dX7_look_156 rfl o7 (by decide) rfl ?_
          refine zb_goto (tgt := 21) dX7_look_159 (by decide) ?_
          refine zb_sub (L' := [(0, (2, x0)), (1, (2, x1)), (2, (2, x2)), (3, (0, (m x1 1))), (4, (2, (E.2 x1 2))), (5, (0, (v5_21 + 1)))]) [1, 2, 3, 4, 5, 0] rfl ?_
          exact (hX21 _ _).mp h hF
        unfold PL_X7_look_81 at h
        obtain ⟨X81, hX81⟩ : ∃ X : Int → zb_M → Prop, ∀ (v7_81 : Int) (m81l : zb_M), (X v7_81 m81l ↔ (zb_FIN E m81l → zb_WP (G, C, d + 1, 0, 0, zb_q E Q) F_X7_look 81 [(0, (2, x0)), (1, (2, x1)), (2, (2, x2)), (3, (0, (m x1 1))), (4, (2, (E.2 x1 2))), (5, (0, v5_21)), (6, (0, (v5_21 * 24))), (7, (0, v7_81))] [] E.1 m81l 0 0)) := ⟨fun v7_81 m81l => zb_FIN E m81l → zb_WP (G, C, d + 1, 0, 0, zb_q E Q) F_X7_look 81 [(0, (2, x0)), (1, (2, x1)), (2, (2, x2)), (3, (0, (m x1 1))), (4, (2, (E.2 x1 2))), (5, (0, v5_21)), (6, (0, (v5_21 * 24))), (7, (0, v7_81))] [] E.1 m81l 0 0, fun _ _ => Iff.rfl⟩
        refine (hX81 _ _).mp (h X81 (fun v7_81 m81l h => (hX81 _ _).mpr (fun hF => ?_))) hF
        refine zb_iload (j := 7) dX7_look_81 rfl ?_
        refine zb_aload_n (j := 1) dX7_look_83 rfl rfl ?_
        refine zb_gI 0 dX7_look_84 fl_X7_61 i_1 rfl rfl ?_
        refine zb_icmp_ge (tgt := 156) dX7_look_87 (by decide) (fun c8 => ?_) (fun c8 => ?_)
        · have h := h.1 c8
          refine zb_sub (L' := [(0, (2, x0)), (1, (2, x1)), (2, (2, x2)), (3, (0, (m x1 1))), (4, (2, (E.2 x1 2))), (5, (0, v5_21))]) [0, 1, 2, 3, 4, 5] rfl ?_
          exact hJ156 _ hF h
        · have h := h.2 c8
          refine zb_aload_n (j := 0) dX7_look_90 rfl rfl ?_
          refine zb_gFa 0 dX7_look_91 fl_X7_11 i_0 hW hF rfl rfl rfl (by decide) rfl 288 rfl (fun i9 l10 => ?_)
          refine zb_iload (j := 6) dX7_look_94 rfl ?_
          refine zb_aload (j := 4) dX7_look_96 rfl ?_
          refine zb_iload (j := 7) dX7_look_98 rfl ?_
          obtain ⟨o11, h⟩ := h
          refine zb_lI dX7_look_100 i1 l2 o11.1 o11.2 ?_
          obtain ⟨o12, h⟩ := h
          refine zb_iadd dX7_look_101 o12 ?_
          refine zb_dup2 dX7_look_102 ?_
          obtain ⟨o13, h⟩ := h
          refine zb_lL dX7_look_103 i9 l10 o13.1 o13.2 ?_
          refine zb_aload_n (j := 2) dX7_look_104 rfl rfl ?_
          refine zb_gFa 5 dX7_look_105 fl_X7_66 i_2 hW hF rfl rfl rfl (by decide) rfl 144 rfl (fun i14 l15 => ?_)
          refine zb_iload (j := 5) dX7_look_108 rfl ?_
          refine zb_bipush dX7_look_110 (by decide) (zb_inIc rfl) ?_
          obtain ⟨o16, h⟩ := h
          refine zb_imul dX7_look_112 o16 ?_
          refine zb_iload (j := 7) dX7_look_113 rfl ?_
          obtain ⟨o17, h⟩ := h
          refine zb_iadd dX7_look_115 o17 ?_
          obtain ⟨o18, h⟩ := h
          refine zb_lL dX7_look_116 i14 l15 o18.1 o18.2 ?_
          obtain ⟨o19, h⟩ := h
          refine zb_ladd dX7_look_117 o19 ?_
          refine zb_sL dX7_look_118 i9 l10 o13.1 o13.2 hF (fun m118 e118 hF => ?_)
          have h := h m118 e118
          refine zb_aload_n (j := 0) dX7_look_119 rfl rfl ?_
          refine zb_gFa 0 dX7_look_120 fl_X7_11 i_0 hW hF rfl rfl rfl (by decide) rfl 288 rfl (fun i20 l21 => ?_)
          refine zb_iload (j := 6) dX7_look_123 rfl ?_
          refine zb_iload_n (j := 3) dX7_look_125 rfl rfl ?_
          obtain ⟨o22, h⟩ := h
          refine zb_iadd dX7_look_126 o22 ?_
          refine zb_aload (j := 4) dX7_look_127 rfl ?_
          refine zb_iload (j := 7) dX7_look_129 rfl ?_
          refine zb_lI dX7_look_131 i1 l2 o11.1 o11.2 ?_
          obtain ⟨o23, h⟩ := h
          refine zb_iadd dX7_look_132 o23 ?_
          refine zb_dup2 dX7_look_133 ?_
          obtain ⟨o24, h⟩ := h
          refine zb_lL dX7_look_134 i20 l21 o24.1 o24.2 ?_
          refine zb_aload_n (j := 2) dX7_look_135 rfl rfl ?_
          refine zb_gFa 5 dX7_look_136 fl_X7_66 i_2 hW hF rfl rfl rfl (by decide) rfl 144 rfl (fun i25 l26 => ?_)
          refine zb_iload (j := 7) dX7_look_139 rfl ?_
          refine zb_bipush dX7_look_141 (by decide) (zb_inIc rfl) ?_
          obtain ⟨o27, h⟩ := h
          refine zb_imul dX7_look_143 o27 ?_
          refine zb_iload (j := 5) dX7_look_144 rfl ?_
          obtain ⟨o28, h⟩ := h
          refine zb_iadd dX7_look_146 o28 ?_
          obtain ⟨o29, h⟩ := h
          refine zb_lL dX7_look_147 i25 l26 o29.1 o29.2 ?_
          obtain ⟨o30, h⟩ := h
          refine zb_ladd dX7_look_148 o30 ?_
          refine zb_sL dX7_look_149 i20 l21 o24.1 o24.2 hF (fun m149 e149 hF => ?_)
          have h := h m149 e149
          obtain ⟨o31, h⟩ := h
          refine zb_iinc (j := 7) (L' := [(7, (0, (v7_81 + 1))), (0, (2, x0)), (1, (2, x1)), (2, (2, x2)), (3, (0, (m x1 1))), (4, (2, (E.2 x1 2))), (5, (0, v5_21)), (6, (0, (v5_21 * 24)))]) dX7_look_150 rfl o31 (by decide) rfl ?_
          refine zb_goto (tgt := 81) dX7_look_153 (by decide) ?_
          refine zb_sub (L' := [(0, (2, x0)), (1, (2, x1)), (2, (2, x2)), (3, (0, (m x1 1))), (4, (2, (E.2 x1 2))), (5, (0, v5_21)), (6, (0, (v5_21 * 24))), (7, (0, (v7_81 + 1)))]) [1, 2, 3, 4, 5, 6, 7, 0] rfl ?_
          exact (hX81 _ _).mp h hF
      unfold PL_X7_look_52 at h
      obtain ⟨X52, hX52⟩ : ∃ X : Int → zb_M → Prop, ∀ (v7_52 : Int) (m52l : zb_M), (X v7_52 m52l ↔ (zb_FIN E m52l → zb_WP (G, C, d + 1, 0, 0, zb_q E Q) F_X7_look 52 [(0, (2, x0)), (1, (2, x1)), (2, (2, x2)), (3, (0, (m x1 1))), (4, (2, (E.2 x1 2))), (5, (0, v5_21)), (6, (0, (v5_21 * 24))), (7, (0, v7_52))] [] E.1 m52l 0 0)) := ⟨fun v7_52 m52l => zb_FIN E m52l → zb_WP (G, C, d + 1, 0, 0, zb_q E Q) F_X7_look 52 [(0, (2, x0)), (1, (2, x1)), (2, (2, x2)), (3, (0, (m x1 1))), (4, (2, (E.2 x1 2))), (5, (0, v5_21)), (6, (0, (v5_21 * 24))), (7, (0, v7_52))] [] E.1 m52l 0 0, fun _ _ => Iff.rfl⟩
      refine (hX52 _ _).mp (h X52 (fun v7_52 m52l h => (hX52 _ _).mpr (fun hF => ?_))) hF
      refine zb_iload (j := 7) dX7_look_52 rfl ?_
      refine zb_aload_n (j := 0) dX7_look_54 rfl rfl ?_
      refine zb_gI 1 dX7_look_55 fl_X7_34 i_0 rfl rfl ?_
      refine zb_icmp_ge (tgt := 78) dX7_look_58 (by decide) (fun c32 => ?_) (fun c32 => ?_)
      · have h := h.1 c32
        refine zb_sub (L' := [(0, (2, x0)), (1, (2, x1)), (2, (2, x2)), (3, (0, (m x1 1))), (4, (2, (E.2 x1 2))), (5, (0, v5_21)), (6, (0, (v5_21 * 24)))]) [0, 1, 2, 3, 4, 5, 6] rfl ?_
        exact hJ78 _ hF h
      · have h := h.2 c32
        refine zb_aload_n (j := 0) dX7_look_61 rfl rfl ?_
        refine zb_gFa 0 dX7_look_62 fl_X7_11 i_0 hW hF rfl rfl rfl (by decide) rfl 288 rfl (fun i33 l34 => ?_)
        refine zb_iload (j := 6) dX7_look_65 rfl ?_
        refine zb_iload (j := 7) dX7_look_67 rfl ?_
        obtain ⟨o35, h⟩ := h
        refine zb_iadd dX7_look_69 o35 ?_
        refine zb_lconst dX7_look_70 rfl ?_
        obtain ⟨o36, h⟩ := h
        refine zb_sL dX7_look_71 i33 l34 o36.1 o36.2 hF (fun m71 e71 hF => ?_)
        have h := h m71 e71
        obtain ⟨o37, h⟩ := h
        refine zb_iinc (j := 7) (L' := [(7, (0, (v7_52 + 1))), (0, (2, x0)), (1, (2, x1)), (2, (2, x2)), (3, (0, (m x1 1))), (4, (2, (E.2 x1 2))), (5, (0, v5_21)), (6, (0, (v5_21 * 24)))]) dX7_look_72 rfl o37 (by decide) rfl ?_
        refine zb_goto (tgt := 52) dX7_look_75 (by decide) ?_
        refine zb_sub (L' := [(0, (2, x0)), (1, (2, x1)), (2, (2, x2)), (3, (0, (m x1 1))), (4, (2, (E.2 x1 2))), (5, (0, v5_21)), (6, (0, (v5_21 * 24))), (7, (0, (v7_52 + 1)))]) [1, 2, 3, 4, 5, 6, 7, 0] rfl ?_
        exact (hX52 _ _).mp h hF
    · have h := h.2 c5
      refine zb_goto (tgt := 156) dX7_look_39 (by decide) ?_
      obtain ⟨o38, h⟩ := h
      refine zb_iinc (j := 5) (L' := [(5, (0, (v5_21 + 1))), (0, (2, x0)), (1, (2, x1)), (2, (2, x2)), (3, (0, (m x1 1))), (4, (2, (E.2 x1 2)))]) dX7_look_156 rfl o38 (by decide) rfl ?_
      refine zb_goto (tgt := 21) dX7_look_159 (by decide) ?_
      refine zb_sub (L' := [(0, (2, x0)), (1, (2, x1)), (2, (2, x2)), (3, (0, (m x1 1))), (4, (2, (E.2 x1 2))), (5, (0, (v5_21 + 1)))]) [1, 2, 3, 4, 5, 0] rfl ?_
      exact (hX21 _ _).mp h hF
theorem dX7_divide_0 : decode cX7_divide 0 = .ok (.iconst 0, 1) := by decide +kernel
theorem dX7_divide_1 : decode cX7_divide 1 = .ok (.istore_n 2, 1) := by decide +kernel
theorem dX7_divide_2 : decode cX7_divide 2 = .ok (.iconst 0, 1) := by decide +kernel
theorem dX7_divide_3 : decode cX7_divide 3 = .ok (.istore_n 3, 1) := by decide +kernel
theorem dX7_divide_4 : decode cX7_divide 4 = .ok (.aload_n 1, 1) := by decide +kernel
theorem dX7_divide_5 : decode cX7_divide 5 = .ok (.getfield 69, 3) := by decide +kernel
theorem dX7_divide_8 : decode cX7_divide 8 = .ok (.astore 4, 2) := by decide +kernel
theorem dX7_divide_10 : decode cX7_divide 10 = .ok (.iconst 0, 1) := by decide +kernel
theorem dX7_divide_11 : decode cX7_divide 11 = .ok (.istore 5, 2) := by decide +kernel
theorem dX7_divide_13 : decode cX7_divide 13 = .ok (.iload 5, 2) := by decide +kernel
theorem dX7_divide_15 : decode cX7_divide 15 = .ok (.aload_n 1, 1) := by decide +kernel
theorem dX7_divide_16 : decode cX7_divide 16 = .ok (.getfield 52, 3) := by decide +kernel
theorem dX7_divide_19 : decode cX7_divide 19 = .ok (.if_icmp .ge 173, 3) := by decide +kernel
theorem dX7_divide_22 : decode cX7_divide 22 = .ok (.iload_n 2, 1) := by decide +kernel
theorem dX7_divide_23 : decode cX7_divide 23 = .ok (.aload_n 1, 1) := by decide +kernel
theorem dX7_divide_24 : decode cX7_divide 24 = .ok (.getfield 72, 3) := by decide +kernel
theorem dX7_divide_27 : decode cX7_divide 27 = .ok (.iload 5, 2) := by decide +kernel
theorem dX7_divide_29 : decode cX7_divide 29 = .ok (.iaload, 1) := by decide +kernel
theorem dX7_divide_30 : decode cX7_divide 30 = .ok (.iadd, 1) := by decide +kernel
theorem dX7_divide_31 : decode cX7_divide 31 = .ok (.istore 6, 2) := by decide +kernel
theorem dX7_divide_33 : decode cX7_divide 33 = .ok (.iload_n 2, 1) := by decide +kernel
theorem dX7_divide_34 : decode cX7_divide 34 = .ok (.istore 7, 2) := by decide +kernel
theorem dX7_divide_36 : decode cX7_divide 36 = .ok (.iload 7, 2) := by decide +kernel
theorem dX7_divide_38 : decode cX7_divide 38 = .ok (.iload 6, 2) := by decide +kernel
theorem dX7_divide_40 : decode cX7_divide 40 = .ok (.if_icmp .ge 67, 3) := by decide +kernel
theorem dX7_divide_43 : decode cX7_divide 43 = .ok (.aload 4, 2) := by decide +kernel
theorem dX7_divide_45 : decode cX7_divide 45 = .ok (.iload 7, 2) := by decide +kernel
theorem dX7_divide_47 : decode cX7_divide 47 = .ok (.iaload, 1) := by decide +kernel
theorem dX7_divide_48 : decode cX7_divide 48 = .ok (.istore 8, 2) := by decide +kernel
theorem dX7_divide_50 : decode cX7_divide 50 = .ok (.iload 7, 2) := by decide +kernel
theorem dX7_divide_52 : decode cX7_divide 52 = .ok (.istore 9, 2) := by decide +kernel
theorem dX7_divide_54 : decode cX7_divide 54 = .ok (.iload 9, 2) := by decide +kernel
theorem dX7_divide_56 : decode cX7_divide 56 = .ok (.iload_n 2, 1) := by decide +kernel
theorem dX7_divide_57 : decode cX7_divide 57 = .ok (.if_icmp .le 37, 3) := by decide +kernel
theorem dX7_divide_60 : decode cX7_divide 60 = .ok (.aload_n 0, 1) := by decide +kernel
theorem dX7_divide_61 : decode cX7_divide 61 = .ok (.aload 4, 2) := by decide +kernel
theorem dX7_divide_63 : decode cX7_divide 63 = .ok (.iload 9, 2) := by decide +kernel
theorem dX7_divide_65 : decode cX7_divide 65 = .ok (.iconst 1, 1) := by decide +kernel
theorem dX7_divide_66 : decode cX7_divide 66 = .ok (.isub, 1) := by decide +kernel
theorem dX7_divide_67 : decode cX7_divide 67 = .ok (.iaload, 1) := by decide +kernel
theorem dX7_divide_68 : decode cX7_divide 68 = .ok (.iload 8, 2) := by decide +kernel
theorem dX7_divide_70 : decode cX7_divide 70 = .ok (.invokevirtual 75, 3) := by decide +kernel
theorem dX7_divide_73 : decode cX7_divide 73 = .ok (.ifCond .le 21, 3) := by decide +kernel
theorem dX7_divide_76 : decode cX7_divide 76 = .ok (.aload 4, 2) := by decide +kernel
theorem dX7_divide_78 : decode cX7_divide 78 = .ok (.iload 9, 2) := by decide +kernel
theorem dX7_divide_80 : decode cX7_divide 80 = .ok (.aload 4, 2) := by decide +kernel
theorem dX7_divide_82 : decode cX7_divide 82 = .ok (.iload 9, 2) := by decide +kernel
theorem dX7_divide_84 : decode cX7_divide 84 = .ok (.iconst 1, 1) := by decide +kernel
theorem dX7_divide_85 : decode cX7_divide 85 = .ok (.isub, 1) := by decide +kernel
theorem dX7_divide_86 : decode cX7_divide 86 = .ok (.iaload, 1) := by decide +kernel
theorem dX7_divide_87 : decode cX7_divide 87 = .ok (.iastore, 1) := by decide +kernel
theorem dX7_divide_88 : decode cX7_divide 88 = .ok (.iinc 9 (-1), 3) := by decide +kernel
theorem dX7_divide_91 : decode cX7_divide 91 = .ok (.goto (-37), 3) := by decide +kernel
theorem dX7_divide_94 : decode cX7_divide 94 = .ok (.aload 4, 2) := by decide +kernel
theorem dX7_divide_96 : decode cX7_divide 96 = .ok (.iload 9, 2) := by decide +kernel
theorem dX7_divide_98 : decode cX7_divide 98 = .ok (.iload 8, 2) := by decide +kernel
theorem dX7_divide_100 : decode cX7_divide 100 = .ok (.iastore, 1) := by decide +kernel
theorem dX7_divide_101 : decode cX7_divide 101 = .ok (.iinc 7 1, 3) := by decide +kernel
theorem dX7_divide_104 : decode cX7_divide 104 = .ok (.goto (-68), 3) := by decide +kernel
theorem dX7_divide_107 : decode cX7_divide 107 = .ok (.iload_n 2, 1) := by decide +kernel
theorem dX7_divide_108 : decode cX7_divide 108 = .ok (.istore 7, 2) := by decide +kernel
theorem dX7_divide_110 : decode cX7_divide 110 = .ok (.iload 7, 2) := by decide +kernel
theorem dX7_divide_112 : decode cX7_divide 112 = .ok (.iload 6, 2) := by decide +kernel
theorem dX7_divide_114 : decode cX7_divide 114 = .ok (.if_icmp .ge 69, 3) := by decide +kernel
theorem dX7_divide_117 : decode cX7_divide 117 = .ok (.iload 7, 2) := by decide +kernel
theorem dX7_divide_119 : decode cX7_divide 119 = .ok (.iload_n 2, 1) := by decide +kernel
theorem dX7_divide_120 : decode cX7_divide 120 = .ok (.if_icmp .eq 22, 3) := by decide +kernel
theorem dX7_divide_123 : decode cX7_divide 123 = .ok (.aload_n 0, 1) := by decide +kernel
theorem dX7_divide_124 : decode cX7_divide 124 = .ok (.aload 4, 2) := by decide +kernel
theorem dX7_divide_126 : decode cX7_divide 126 = .ok (.iload 7, 2) := by decide +kernel
theorem dX7_divide_128 : decode cX7_divide 128 = .ok (.iconst 1, 1) := by decide +kernel
theorem dX7_divide_129 : decode cX7_divide 129 = .ok (.isub, 1) := by decide +kernel
theorem dX7_divide_130 : decode cX7_divide 130 = .ok (.iaload, 1) := by decide +kernel
theorem dX7_divide_131 : decode cX7_divide 131 = .ok (.aload 4, 2) := by decide +kernel
theorem dX7_divide_133 : decode cX7_divide 133 = .ok (.iload 7, 2) := by decide +kernel
theorem dX7_divide_135 : decode cX7_divide 135 = .ok (.iaload, 1) := by decide +kernel
theorem dX7_divide_136 : decode cX7_divide 136 = .ok (.invokevirtual 75, 3) := by decide +kernel
theorem dX7_divide_139 : decode cX7_divide 139 = .ok (.ifCond .eq 13, 3) := by decide +kernel
theorem dX7_divide_142 : decode cX7_divide 142 = .ok (.aload_n 0, 1) := by decide +kernel
theorem dX7_divide_143 : decode cX7_divide 143 = .ok (.getfield 19, 3) := by decide +kernel
theorem dX7_divide_146 : decode cX7_divide 146 = .ok (.iload_n 3, 1) := by decide +kernel
theorem dX7_divide_147 : decode cX7_divide 147 = .ok (.iinc 3 1, 3) := by decide +kernel
theorem dX7_divide_150 : decode cX7_divide 150 = .ok (.iconst 0, 1) := by decide +kernel
theorem dX7_divide_151 : decode cX7_divide 151 = .ok (.iastore, 1) := by decide +kernel
theorem dX7_divide_152 : decode cX7_divide 152 = .ok (.aload_n 0, 1) := by decide +kernel
theorem dX7_divide_153 : decode cX7_divide 153 = .ok (.getfield 15, 3) := by decide +kernel
theorem dX7_divide_156 : decode cX7_divide 156 = .ok (.aload 4, 2) := by decide +kernel
theorem dX7_divide_158 : decode cX7_divide 158 = .ok (.iload 7, 2) := by decide +kernel
theorem dX7_divide_160 : decode cX7_divide 160 = .ok (.iaload, 1) := by decide +kernel
theorem dX7_divide_161 : decode cX7_divide 161 = .ok (.iload_n 3, 1) := by decide +kernel
theorem dX7_divide_162 : decode cX7_divide 162 = .ok (.iconst 1, 1) := by decide +kernel
theorem dX7_divide_163 : decode cX7_divide 163 = .ok (.isub, 1) := by decide +kernel
theorem dX7_divide_164 : decode cX7_divide 164 = .ok (.iastore, 1) := by decide +kernel
theorem dX7_divide_165 : decode cX7_divide 165 = .ok (.aload_n 0, 1) := by decide +kernel
theorem dX7_divide_166 : decode cX7_divide 166 = .ok (.getfield 19, 3) := by decide +kernel
theorem dX7_divide_169 : decode cX7_divide 169 = .ok (.iload_n 3, 1) := by decide +kernel
theorem dX7_divide_170 : decode cX7_divide 170 = .ok (.iconst 1, 1) := by decide +kernel
theorem dX7_divide_171 : decode cX7_divide 171 = .ok (.isub, 1) := by decide +kernel
theorem dX7_divide_172 : decode cX7_divide 172 = .ok (.dup2, 1) := by decide +kernel
theorem dX7_divide_173 : decode cX7_divide 173 = .ok (.iaload, 1) := by decide +kernel
theorem dX7_divide_174 : decode cX7_divide 174 = .ok (.iconst 1, 1) := by decide +kernel
theorem dX7_divide_175 : decode cX7_divide 175 = .ok (.iadd, 1) := by decide +kernel
theorem dX7_divide_176 : decode cX7_divide 176 = .ok (.iastore, 1) := by decide +kernel
theorem dX7_divide_177 : decode cX7_divide 177 = .ok (.iinc 7 1, 3) := by decide +kernel
theorem dX7_divide_180 : decode cX7_divide 180 = .ok (.goto (-70), 3) := by decide +kernel
theorem dX7_divide_183 : decode cX7_divide 183 = .ok (.iload 6, 2) := by decide +kernel
theorem dX7_divide_185 : decode cX7_divide 185 = .ok (.istore_n 2, 1) := by decide +kernel
theorem dX7_divide_186 : decode cX7_divide 186 = .ok (.iinc 5 1, 3) := by decide +kernel
theorem dX7_divide_189 : decode cX7_divide 189 = .ok (.goto (-176), 3) := by decide +kernel
theorem dX7_divide_192 : decode cX7_divide 192 = .ok (.aload_n 1, 1) := by decide +kernel
theorem dX7_divide_193 : decode cX7_divide 193 = .ok (.iload_n 3, 1) := by decide +kernel
theorem dX7_divide_194 : decode cX7_divide 194 = .ok (.putfield 52, 3) := by decide +kernel
theorem dX7_divide_197 : decode cX7_divide 197 = .ok (.aload_n 0, 1) := by decide +kernel
theorem dX7_divide_198 : decode cX7_divide 198 = .ok (.getfield 15, 3) := by decide +kernel
theorem dX7_divide_201 : decode cX7_divide 201 = .ok (.iconst 0, 1) := by decide +kernel
theorem dX7_divide_202 : decode cX7_divide 202 = .ok (.aload_n 1, 1) := by decide +kernel
theorem dX7_divide_203 : decode cX7_divide 203 = .ok (.getfield 58, 3) := by decide +kernel
theorem dX7_divide_206 : decode cX7_divide 206 = .ok (.iconst 0, 1) := by decide +kernel
theorem dX7_divide_207 : decode cX7_divide 207 = .ok (.bipush 12, 2) := by decide +kernel
theorem dX7_divide_209 : decode cX7_divide 209 = .ok (.invokestatic 79, 3) := by decide +kernel
theorem dX7_divide_212 : decode cX7_divide 212 = .ok (.aload_n 0, 1) := by decide +kernel
theorem dX7_divide_213 : decode cX7_divide 213 = .ok (.getfield 19, 3) := by decide +kernel
theorem dX7_divide_216 : decode cX7_divide 216 = .ok (.iconst 0, 1) := by decide +kernel
theorem dX7_divide_217 : decode cX7_divide 217 = .ok (.aload_n 1, 1) := by decide +kernel
theorem dX7_divide_218 : decode cX7_divide 218 = .ok (.getfield 72, 3) := by decide +kernel
theorem dX7_divide_221 : decode cX7_divide 221 = .ok (.iconst 0, 1) := by decide +kernel
theorem dX7_divide_222 : decode cX7_divide 222 = .ok (.bipush 12, 2) := by decide +kernel
theorem dX7_divide_224 : decode cX7_divide 224 = .ok (.invokestatic 79, 3) := by decide +kernel
theorem dX7_divide_227 : decode cX7_divide 227 = .ok (.return_, 1) := by decide +kernel
def PJ_X7_divide_192 (d : Nat) (E : zb_E) (x0 : Int) (x1 : Int) (Q : Int → zb_M → Prop) (v3_192 : Int) (m192j : zb_M) : Prop :=
  ∀ m194, m194 = zb_up m192j x1 1 v3_192 → ((zb_cpo 0 0 12 12 12) ∧ (∀ m209, m209 = zb_cp m194 (E.2 x0 2) 0 (E.2 x1 2) 0 12 → (∀ m224, m224 = zb_cp m209 (E.2 x0 3) 0 (E.2 x1 3) 0 12 → (Q 0 m224))))
def PJ_X7_divide_183 (d : Nat) (E : zb_E) (x1 : Int) (v2_13 : Int) (v5_13 : Int) (m13l : zb_M) (X13 : Int → Int → Int → zb_M → Prop) (Q : Int → zb_M → Prop) (v3_183 : Int) (m183j : zb_M) : Prop :=
  (zb_inI (v5_13 + 1)) ∧ (X13 (v2_13 + (m13l (E.2 x1 3) v5_13)) v3_183 (v5_13 + 1) m183j)
def PJ_X7_divide_152 (d : Nat) (E : zb_E) (x0 : Int) (x1 : Int) (v7_110 : Int) (X110 : Int → Int → zb_M → Prop) (Q : Int → zb_M → Prop) (v3_152 : Int) (m152j : zb_M) : Prop :=
  (0 ≤ v7_110 ∧ v7_110 < 12) ∧ ((zb_inI (v3_152 - 1)) ∧ ((0 ≤ (m152j (E.2 x1 4) v7_110) ∧ (m152j (E.2 x1 4) v7_110) < 12) ∧ (∀ m164, m164 = zb_up m152j (E.2 x0 2) (m152j (E.2 x1 4) v7_110) (v3_152 - 1) → ((0 ≤ (v3_152 - 1) ∧ (v3_152 - 1) < 12) ∧ ((zb_inI ((m164 (E.2 x0 3) (v3_152 - 1)) + 1)) ∧ (∀ m176, m176 = zb_up m164 (E.2 x0 3) (v3_152 - 1) ((m164 (E.2 x0 3) (v3_152 - 1)) + 1) → ((zb_inI (v7_110 + 1)) ∧ (X110 v3_152 (v7_110 + 1) m176))))))))
def PJ_X7_divide_142 (d : Nat) (E : zb_E) (x0 : Int) (x1 : Int) (v3_110 : Int) (v7_110 : Int) (m110l : zb_M) (X110 : Int → Int → zb_M → Prop) (Q : Int → zb_M → Prop)  : Prop :=
  (zb_inI (v3_110 + 1)) ∧ ((0 ≤ v3_110 ∧ v3_110 < 12) ∧ (∀ m151, m151 = zb_up m110l (E.2 x0 3) v3_110 0 → (PJ_X7_divide_152 d E x0 x1 v7_110 X110 Q (v3_110 + 1) m151)))
def PL_X7_divide_110 (d : Nat) (E : zb_E) (x0 : Int) (x1 : Int) (v2_13 : Int) (v5_13 : Int) (m13l : zb_M) (Q : Int → zb_M → Prop) (K183_110 : Int → zb_M → Prop) (v3_110 : Int) (v7_110 : Int) (m110l : zb_M) : Prop :=
  ∀ X110 : Int → Int → zb_M → Prop, (∀ (v3_110 : Int) (v7_110 : Int) (m110l : zb_M), (((v2_13 + (m13l (E.2 x1 3) v5_13)) ≤ v7_110 → K183_110 v3_110 m110l) ∧ (¬ (v2_13 + (m13l (E.2 x1 3) v5_13)) ≤ v7_110 → (v7_110 = v2_13 → PJ_X7_divide_142 d E x0 x1 v3_110 v7_110 m110l X110 Q) ∧ (¬ v7_110 = v2_13 → (zb_inI (v7_110 - 1)) ∧ ((0 ≤ (v7_110 - 1) ∧ (v7_110 - 1) < 12) ∧ ((0 ≤ v7_110 ∧ v7_110 < 12) ∧ (zb_Tp K_X7_compare d [(2, x0), (0, (m110l (E.2 x1 4) (v7_110 - 1))), (0, (m110l (E.2 x1 4) v7_110))] E m110l (fun r136 => (r136 = 0 → PJ_X7_divide_152 d E x0 x1 v7_110 X110 Q v3_110 m110l) ∧ (¬ r136 = 0 → PJ_X7_divide_142 d E x0 x1 v3_110 v7_110 m110l X110 Q)))))))) → X110 v3_110 v7_110 m110l) → X110 v3_110 v7_110 m110l
def PJ_X7_divide_107 (d : Nat) (E : zb_E) (x0 : Int) (x1 : Int) (v2_13 : Int) (v3_13 : Int) (v5_13 : Int) (m13l : zb_M) (X13 : Int → Int → Int → zb_M → Prop) (Q : Int → zb_M → Prop) (m107j : zb_M) : Prop :=
  PL_X7_divide_110 d E x0 x1 v2_13 v5_13 m13l Q (PJ_X7_divide_183 d E x1 v2_13 v5_13 m13l X13 Q) v3_13 v2_13 m107j
def PJ_X7_divide_94 (d : Nat) (E : zb_E) (x1 : Int) (v7_36 : Int) (m36l : zb_M) (X36 : Int → zb_M → Prop) (Q : Int → zb_M → Prop) (v9_94 : Int) (m94j : zb_M) : Prop :=
  (0 ≤ v9_94 ∧ v9_94 < 12) ∧ (∀ m100, m100 = zb_up m94j (E.2 x1 4) v9_94 (m36l (E.2 x1 4) v7_36) → ((zb_inI (v7_36 + 1)) ∧ (X36 (v7_36 + 1) m100)))
def PL_X7_divide_54 (d : Nat) (E : zb_E) (x0 : Int) (x1 : Int) (v2_13 : Int) (v7_36 : Int) (m36l : zb_M) (Q : Int → zb_M → Prop) (K94_54 : Int → zb_M → Prop) (v9_54 : Int) (m54l : zb_M) : Prop :=
  ∀ X54 : Int → zb_M → Prop, (∀ (v9_54 : Int) (m54l : zb_M), ((v9_54 ≤ v2_13 → K94_54 v9_54 m54l) ∧ (¬ v9_54 ≤ v2_13 → (zb_inI (v9_54 - 1)) ∧ ((0 ≤ (v9_54 - 1) ∧ (v9_54 - 1) < 12) ∧ (zb_Tp K_X7_compare d [(2, x0), (0, (m54l (E.2 x1 4) (v9_54 - 1))), (0, (m36l (E.2 x1 4) v7_36))] E m54l (fun r70 => (r70 ≤ 0 → K94_54 v9_54 m54l) ∧ (¬ r70 ≤ 0 → (0 ≤ v9_54 ∧ v9_54 < 12) ∧ (∀ m87, m87 = zb_up m54l (E.2 x1 4) v9_54 (m54l (E.2 x1 4) (v9_54 - 1)) → ((zb_inI (v9_54 + (-1))) ∧ (X54 (v9_54 + (-1)) m87))))))))) → X54 v9_54 m54l) → X54 v9_54 m54l
def PL_X7_divide_36 (d : Nat) (E : zb_E) (x0 : Int) (x1 : Int) (v2_13 : Int) (v5_13 : Int) (m13l : zb_M) (Q : Int → zb_M → Prop) (K107_36 : zb_M → Prop) (v7_36 : Int) (m36l : zb_M) : Prop :=
  ∀ X36 : Int → zb_M → Prop, (∀ (v7_36 : Int) (m36l : zb_M), (((v2_13 + (m13l (E.2 x1 3) v5_13)) ≤ v7_36 → K107_36 m36l) ∧ (¬ (v2_13 + (m13l (E.2 x1 3) v5_13)) ≤ v7_36 → (0 ≤ v7_36 ∧ v7_36 < 12) ∧ (PL_X7_divide_54 d E x0 x1 v2_13 v7_36 m36l Q (PJ_X7_divide_94 d E x1 v7_36 m36l X36 Q) v7_36 m36l))) → X36 v7_36 m36l) → X36 v7_36 m36l
def PL_X7_divide_13 (d : Nat) (E : zb_E) (x0 : Int) (x1 : Int) (Q : Int → zb_M → Prop) (K192_13 : Int → zb_M → Prop) (v2_13 : Int) (v3_13 : Int) (v5_13 : Int) (m13l : zb_M) : Prop :=
  ∀ X13 : Int → Int → Int → zb_M → Prop, (∀ (v2_13 : Int) (v3_13 : Int) (v5_13 : Int) (m13l : zb_M), (((m13l x1 1) ≤ v5_13 → K192_13 v3_13 m13l) ∧ (¬ (m13l x1 1) ≤ v5_13 → (0 ≤ v5_13 ∧ v5_13 < 12) ∧ ((zb_inI (v2_13 + (m13l (E.2 x1 3) v5_13))) ∧ (PL_X7_divide_36 d E x0 x1 v2_13 v5_13 m13l Q (PJ_X7_divide_107 d E x0 x1 v2_13 v3_13 v5_13 m13l X13 Q) v2_13 m13l)))) → X13 v2_13 v3_13 v5_13 m13l) → X13 v2_13 v3_13 v5_13 m13l
def PM_X7_divide (d : Nat) (E : zb_E) (x0 : Int) (x1 : Int) (m : zb_M) (Q : Int → zb_M → Prop) : Prop :=
  PL_X7_divide_13 d E x0 x1 Q (PJ_X7_divide_192 d E x0 x1 Q) 0 0 0 m
set_option maxRecDepth 100000 in
set_option maxHeartbeats 4000000 in
theorem w_X7_divide {d : Nat} {E : zb_E} {x0 x1 : Int} {m : zb_M} {Q : Int → zb_M → Prop} (h : PM_X7_divide d E x0 x1 m Q) : zb_T K_X7_divide (d + 1) [(2, x0), (2, x1)] E m Q := by
  unfold PM_X7_divide at h
  refine zb_T_in gd_X7_divide rfl rfl (fun hW hA G C hF => ?_)
  have i_0 : zb_is E.1 x0 7 := zb_aH hA (by decide)
  have i_1 : zb_is E.1 x1 5 := zb_aH (zb_aT hA) (by decide)
  show zb_WP _ _ 0 [(0, (2, x0)), (1, (2, x1))] [] _ _ _ _
  refine zb_iconst dX7_divide_0 (zb_inIc rfl) ?_
  refine zb_istore_n (L' := [(2, (0, 0)), (0, (2, x0)), (1, (2, x1))]) dX7_divide_1 rfl (by decide) rfl ?_
  refine zb_iconst dX7_divide_2 (zb_inIc rfl) ?_
  refine zb_istore_n (L' := [(3, (0, 0)), (2, (0, 0)), (0, (2, x0)), (1, (2, x1))]) dX7_divide_3 rfl (by decide) rfl ?_
  refine zb_aload_n (j := 3) dX7_divide_4 rfl rfl ?_
  refine zb_gFa 4 dX7_divide_5 fl_X7_69 i_1 hW hF rfl rfl rfl (by decide) rfl 12 rfl (fun i1 l2 => ?_)
  refine zb_astore (L' := [(4, (2, (E.2 x1 4))), (3, (0, 0)), (2, (0, 0)), (0, (2, x0)), (1, (2, x1))]) dX7_divide_8 (by decide) rfl ?_
  refine zb_iconst dX7_divide_10 (zb_inIc rfl) ?_
  refine zb_istore (L' := [(5, (0, 0)), (4, (2, (E.2 x1 4))), (3, (0, 0)), (2, (0, 0)), (0, (2, x0)), (1, (2, x1))]) dX7_divide_11 (by decide) rfl ?_
  refine zb_sub (L' := [(0, (2, x0)), (1, (2, x1)), (2, (0, 0)), (3, (0, 0)), (4, (2, (E.2 x1 4))), (5, (0, 0))]) [4, 5, 3, 2, 1, 0] rfl ?_
  have hJ192 : ∀ (v3_192 : Int) (m192j : zb_M), zb_FIN E m192j → PJ_X7_divide_192 d E x0 x1 Q v3_192 m192j → zb_WP (G, C, d + 1, 0, 0, zb_q E Q) F_X7_divide 192 [(0, (2, x0)), (1, (2, x1)), (3, (0, v3_192))] [] E.1 m192j 0 0 := by
    intro v3_192 m192j hF h
    unfold PJ_X7_divide_192 at h
    refine zb_aload_n (j := 1) dX7_divide_192 rfl rfl ?_
    refine zb_iload_n (j := 2) dX7_divide_193 rfl rfl ?_
    refine zb_pF 1 dX7_divide_194 fl_X7_52 rfl rfl i_1 (Or.inl rfl) hF rfl rfl (fun m194 e194 hF => ?_)
    have h := h m194 e194
    refine zb_aload_n (j := 0) dX7_divide_197 rfl rfl ?_
    refine zb_gFa 2 dX7_divide_198 fl_X7_15 i_0 hW hF rfl rfl rfl (by decide) rfl 12 rfl (fun i3 l4 => ?_)
    refine zb_iconst dX7_divide_201 (zb_inIc rfl) ?_
    refine zb_aload_n (j := 1) dX7_divide_202 rfl rfl ?_
    refine zb_gFa 2 dX7_divide_203 fl_X7_58 i_1 hW hF rfl rfl rfl (by decide) rfl 12 rfl (fun i5 l6 => ?_)
    refine zb_iconst dX7_divide_206 (zb_inIc rfl) ?_
    refine zb_bipush dX7_divide_207 (by decide) (zb_inIc rfl) ?_
    obtain ⟨o7, h⟩ := h
    refine zb_cpI dX7_divide_209 lk_X7_79 i3 i5 l4 l6 o7 (Nat.succ_le_succ (Nat.zero_le _)) (Nat.le_of_ble_eq_true rfl) hF (fun m209 e209 hF => ?_)
    have h := h m209 e209
    refine zb_aload_n (j := 0) dX7_divide_212 rfl rfl ?_
    refine zb_gFa 3 dX7_divide_213 fl_X7_19 i_0 hW hF rfl rfl rfl (by decide) rfl 12 rfl (fun i8 l9 => ?_)
    refine zb_iconst dX7_divide_216 (zb_inIc rfl) ?_
    refine zb_aload_n (j := 1) dX7_divide_217 rfl rfl ?_
    refine zb_gFa 3 dX7_divide_218 fl_X7_72 i_1 hW hF rfl rfl rfl (by decide) rfl 12 rfl (fun i10 l11 => ?_)
    refine zb_iconst dX7_divide_221 (zb_inIc rfl) ?_
    refine zb_bipush dX7_divide_222 (by decide) (zb_inIc rfl) ?_
    refine zb_cpI dX7_divide_224 lk_X7_79 i8 i10 l9 l11 o7 (Nat.succ_le_succ (Nat.zero_le _)) (Nat.le_of_ble_eq_true rfl) hF (fun m224 e224 hF => ?_)
    have h := h m224 e224
    exact zb_rV dX7_divide_227 rfl hF h
  unfold PL_X7_divide_13 at h
  obtain ⟨X13, hX13⟩ : ∃ X : Int → Int → Int → zb_M → Prop, ∀ (v2_13 : Int) (v3_13 : Int) (v5_13 : Int) (m13l : zb_M), (X v2_13 v3_13 v5_13 m13l ↔ (zb_FIN E m13l → zb_WP (G, C, d + 1, 0, 0, zb_q E Q) F_X7_divide 13 [(0, (2, x0)), (1, (2, x1)), (2, (0, v2_13)), (3, (0, v3_13)), (4, (2, (E.2 x1 4))), (5, (0, v5_13))] [] E.1 m13l 0 0)) := ⟨fun v2_13 v3_13 v5_13 m13l => zb_FIN E m13l → zb_WP (G, C, d + 1, 0, 0, zb_q E Q) F_X7_divide 13 [(0, (2, x0)), (1, (2, x1)), (2, (0, v2_13)), (3, (0, v3_13)), (4, (2, (E.2 x1 4))), (5, (0, v5_13))] [] E.1 m13l 0 0, fun _ _ _ _ => Iff.rfl⟩
  refine (hX13 _ _ _ _).mp (h X13 (fun v2_13 v3_13 v5_13 m13l h => (hX13 _ _ _ _).mpr (fun hF => ?_))) hF
  refine zb_iload (j := 5) dX7_divide_13 rfl ?_
  refine zb_aload_n (j := 1) dX7_divide_15 rfl rfl ?_
  refine zb_gI 1 dX7_divide_16 fl_X7_52 i_1 rfl rfl ?_
  refine zb_icmp_ge (tgt := 192) dX7_divide_19 (by decide) (fun c12 => ?_) (fun c12 => ?_)
  · have h := h.1 c12
    refine zb_sub (L' := [(0, (2, x0)), (1, (2, x1)), (3, (0, v3_13))]) [0, 1, 3] rfl ?_
    exact hJ192 _ _ hF h
  · have h := h.2 c12
    refine zb_iload_n (j := 2) dX7_divide_22 rfl rfl ?_
    refine zb_aload_n (j := 1) dX7_divide_23 rfl rfl ?_
    refine zb_gFa 3 dX7_divide_24 fl_X7_72 i_1 hW hF rfl rfl rfl (by decide) rfl 12 rfl (fun i13 l14 => ?_)
    refine zb_iload (j := 5) dX7_divide_27 rfl ?_
    obtain ⟨o15, h⟩ := h
    refine zb_lI dX7_divide_29 i13 l14 o15.1 o15.2 ?_
    obtain ⟨o16, h⟩ := h
    refine zb_iadd dX7_divide_30 o16 ?_
    refine zb_istore (L' := [(6, (0, (v2_13 + (m13l (E.2 x1 3) v5_13)))), (0, (2, x0)), (1, (2, x1)), (2, (0, v2_13)), (3, (0, v3_13)), (4, (2, (E.2 x1 4))), (5, (0, v5_13))]) dX7_divide_31 (by decide) rfl ?_
    refine zb_iload_n (j := 3) dX7_divide_33 rfl rfl ?_
    refine zb_istore (L' := [(7, (0, v2_13)), (6, (0, (v2_13 + (m13l (E.2 x1 3) v5_13)))), (0, (2, x0)), (1, (2, x1)), (2, (0, v2_13)), (3, (0, v3_13)), (4, (2, (E.2 x1 4))), (5, (0, v5_13))]) dX7_divide_34 (by decide) rfl ?_
    refine zb_sub (L' := [(0, (2, x0)), (1, (2, x1)), (2, (0, v2_13)), (3, (0, v3_13)), (4, (2, (E.2 x1 4))), (5, (0, v5_13)), (6, (0, (v2_13 + (m13l (E.2 x1 3) v5_13)))), (7, (0, v2_13))]) [2, 3, 4, 5, 6, 7, 1, 0] rfl ?_
    have hJ107 : ∀ (m107j : zb_M), zb_FIN E m107j → PJ_X7_divide_107 d E x0 x1 v2_13 v3_13 v5_13 m13l X13 Q m107j → zb_WP (G, C, d + 1, 0, 0, zb_q E Q) F_X7_divide 107 [(0, (2, x0)), (1, (2, x1)), (2, (0, v2_13)), (3, (0, v3_13)), (4, (2, (E.2 x1 4))), (5, (0, v5_13)), (6, (0, (v2_13 + (m13l (E.2 x1 3) v5_13))))] [] E.1 m107j 0 0 := by
      intro m107j hF h
      unfold PJ_X7_divide_107 at h
      refine zb_iload_n (j := 2) dX7_divide_107 rfl rfl ?_
      refine zb_istore (L' := [(7, (0, v2_13)), (0, (2, x0)), (1, (2, x1)), (2, (0, v2_13)), (3, (0, v3_13)), (4, (2, (E.2 x1 4))), (5, (0, v5_13)), (6, (0, (v2_13 + (m13l (E.2 x1 3) v5_13))))]) dX7_divide_108 (by decide) rfl ?_
      refine zb_sub (L' := [(0, (2, x0)), (1, (2, x1)), (2, (0, v2_13)), (3, (0, v3_13)), (4, (2, (E.2 x1 4))), (5, (0, v5_13)), (6, (0, (v2_13 + (m13l (E.2 x1 3) v5_13)))), (7, (0, v2_13))]) [1, 2, 3, 4, 5, 6, 7, 0] rfl ?_
      have hJ183 : ∀ (v3_183 : Int) (m183j : zb_M), zb_FIN E m183j → PJ_X7_divide_183 d E x1 v2_13 v5_13 m13l X13 Q v3_183 m183j → zb_WP (G, C, d + 1, 0, 0, zb_q E Q) F_X7_divide 183 [(0, (2, x0)), (1, (2, x1)), (3, (0, v3_183)), (4, (2, (E.2 x1 4))), (5, (0, v5_13)), (6, (0, (v2_13 + (m13l (E.2 x1 3) v5_13))))] [] E.1 m183j 0 0 := by
        intro v3_183 m183j hF h
        unfold PJ_X7_divide_183 at h
        refine zb_iload (j := 5) dX7_divide_183 rfl ?_
        refine zb_istore_n (L' := [(2, (0, (v2_13 + (m13l (E.2 x1 3) v5_13)))), (0, (2, x0)), (1, (2, x1)), (3, (0, v3_183)), (4, (2, (E.2 x1 4))), (5, (0, v5_13)), (6, (0, (v2_13 + (m13l (E.2 x1 3) v5_13))))]) dX7_divide_185 rfl (by decide) rfl ?_
        obtain ⟨o17, h⟩ := h
        refine zb_iinc (j := 5) (L' := [(5, (0, (v5_13 + 1))), (2, (0, (v2_13 + (m13l (E.2 x1 3) v5_13)))), (0, (2, x0)), (1, (2, x1)), (3, (0, v3_183)), (4, (2, (E.2 x1 4))), (6, (0, (v2_13 + (m13l (E.2 x1 3) v5_13))))]) dX7_divide_186 rfl o17 (by decide) rfl ?_
        refine zb_goto (tgt := 13) dX7_divide_189 (by decide) ?_
        refine zb_sub (L' := [(0, (2, x0)), (1, (2, x1)), (2, (0, (v2_13 + (m13l (E.2 x1 3) v5_13)))), (3, (0, v3_183)), (4, (2, (E.2 x1 4))), (5, (0, (v5_13 + 1)))]) [2, 3, 1, 4, 5, 0] rfl ?_
        exact (hX13 _ _ _ _).mp h hF
      unfold PL_X7_divide_110 at h
      obtain ⟨X110, hX110⟩ : ∃ X : Int → Int → zb_M → Prop, ∀ (v3_110 : Int) (v7_110 : Int) (m110l : zb_M), (X v3_110 v7_110 m110l ↔ (zb_FIN E m110l → zb_WP (G, C, d + 1, 0, 0, zb_q E Q) F_X7_divide 110 [(0, (2, x0)), (1, (2, x1)), (2, (0, v2_13)), (3, (0, v3_110)), (4, (2, (E.2 x1 4))), (5, (0, v5_13)), (6, (0, (v2_13 + (m13l (E.2 x1 3) v5_13)))), (7, (0, v7_110))] [] E.1 m110l 0 0)) := ⟨fun v3_110 v7_110 m110l => zb_FIN E m110l → zb_WP (G, C, d + 1, 0, 0, zb_q E Q) F_X7_divide 110 [(0, (2, x0)), (1, (2, x1)), (2, (0, v2_13)), (3, (0, v3_110)), (4, (2, (E.2 x1 4))), (5, (0, v5_13)), (6, (0, (v2_13 + (m13l (E.2 x1 3) v5_13)))), (7, (0, v7_110))] [] E.1 m110l 0 0, fun _ _ _ => Iff.rfl⟩
      refine (hX110 _ _ _).mp (h X110 (fun v3_110 v7_110 m110l h => (hX110 _ _ _).mpr (fun hF => ?_))) hF
      refine zb_iload (j := 7) dX7_divide_110 rfl ?_
      refine zb_iload (j := 6) dX7_divide_112 rfl ?_
      refine zb_icmp_ge (tgt := 183) dX7_divide_114 (by decide) (fun c18 => ?_) (fun c18 => ?_)
      · have h := h.1 c18
        refine zb_sub (L' := [(0, (2, x0)), (1, (2, x1)), (3, (0, v3_110)), (4, (2, (E.2 x1 4))), (5, (0, v5_13)), (6, (0, (v2_13 + (m13l (E.2 x1 3) v5_13))))]) [0, 1, 3, 4, 5, 6] rfl ?_
        exact hJ183 _ _ hF h
      · have h := h.2 c18
        refine zb_iload (j := 7) dX7_divide_117 rfl ?_
        refine zb_iload_n (j := 2) dX7_divide_119 rfl rfl ?_
        have hJ152 : ∀ (v3_152 : Int) (m152j : zb_M), zb_FIN E m152j → PJ_X7_divide_152 d E x0 x1 v7_110 X110 Q v3_152 m152j → zb_WP (G, C, d + 1, 0, 0, zb_q E Q) F_X7_divide 152 [(0, (2, x0)), (1, (2, x1)), (2, (0, v2_13)), (3, (0, v3_152)), (4, (2, (E.2 x1 4))), (5, (0, v5_13)), (6, (0, (v2_13 + (m13l (E.2 x1 3) v5_13)))), (7, (0, v7_110))] [] E.1 m152j 0 0 := by
          intro v3_152 m152j hF h
          unfold PJ_X7_divide_152 at h
          refine zb_aload_n (j := 0) dX7_divide_152 rfl rfl ?_
          refine zb_gFa 2 dX7_divide_153 fl_X7_15 i_0 hW hF rfl rfl rfl (by decide) rfl 12 rfl (fun i19 l20 => ?_)
          refine zb_aload (j := 4) dX7_divide_156 rfl ?_
          refine zb_iload (j := 7) dX7_divide_158 rfl ?_
          obtain ⟨o21, h⟩ := h
          refine zb_lI dX7_divide_160 i1 l2 o21.1 o21.2 ?_
          refine zb_iload_n (j := 3) dX7_divide_161 rfl rfl ?_
          refine zb_iconst dX7_divide_162 (zb_inIc rfl) ?_
          obtain ⟨o22, h⟩ := h
          refine zb_isub dX7_divide_163 o22 ?_
          obtain ⟨o23, h⟩ := h
          refine zb_sI dX7_divide_164 i19 l20 o23.1 o23.2 hF (fun m164 e164 hF => ?_)
          have h := h m164 e164
          refine zb_aload_n (j := 0) dX7_divide_165 rfl rfl ?_
          refine zb_gFa 3 dX7_divide_166 fl_X7_19 i_0 hW hF rfl rfl rfl (by decide) rfl 12 rfl (fun i24 l25 => ?_)
          refine zb_iload_n (j := 3) dX7_divide_169 rfl rfl ?_
          refine zb_iconst dX7_divide_170 (zb_inIc rfl) ?_
          refine zb_isub dX7_divide_171 o22 ?_
          refine zb_dup2 dX7_divide_172 ?_
          obtain ⟨o26, h⟩ := h
          refine zb_lI dX7_divide_173 i24 l25 o26.1 o26.2 ?_
          refine zb_iconst dX7_divide_174 (zb_inIc rfl) ?_
          obtain ⟨o27, h⟩ := h
          refine zb_iadd dX7_divide_175 o27 ?_
          refine zb_sI dX7_divide_176 i24 l25 o26.1 o26.2 hF (fun m176 e176 hF => ?_)
          have h := h m176 e176
          obtain ⟨o28, h⟩ := h
          refine zb_iinc (j := 7) (L' := [(7, (0, (v7_110 + 1))), (0, (2, x0)), (1, (2, x1)), (2, (0, v2_13)), (3, (0, v3_152)), (4, (2, (E.2 x1 4))), (5, (0, v5_13)), (6, (0, (v2_13 + (m13l (E.2 x1 3) v5_13))))]) dX7_divide_177 rfl o28 (by decide) rfl ?_
          refine zb_goto (tgt := 110) dX7_divide_180 (by decide) ?_
          refine zb_sub (L' := [(0, (2, x0)), (1, (2, x1)), (2, (0, v2_13)), (3, (0, v3_152)), (4, (2, (E.2 x1 4))), (5, (0, v5_13)), (6, (0, (v2_13 + (m13l (E.2 x1 3) v5_13)))), (7, (0, (v7_110 + 1)))]) [1, 2, 3, 4, 5, 6, 7, 0] rfl ?_
          exact (hX110 _ _ _).mp h hF
        have hJ142 : zb_FIN E m110l → PJ_X7_divide_142 d E x0 x1 v3_110 v7_110 m110l X110 Q  → zb_WP (G, C, d + 1, 0, 0, zb_q E Q) F_X7_divide 142 [(0, (2, x0)), (1, (2, x1)), (2, (0, v2_13)), (3, (0, v3_110)), (4, (2, (E.2 x1 4))), (5, (0, v5_13)), (6, (0, (v2_13 + (m13l (E.2 x1 3) v5_13)))), (7, (0, v7_110))] [] E.1 m110l 0 0 := by
          intro  hF h
          unfold PJ_X7_divide_142 at h
          refine zb_aload_n (j := 0) dX7_divide_142 rfl rfl ?_
          refine zb_gFa 3 dX7_divide_143 fl_X7_19 i_0 hW hF rfl rfl rfl (by decide) rfl 12 rfl (fun i29 l30 => ?_)
          refine zb_iload_n (j := 3) dX7_divide_146 rfl rfl ?_
          obtain ⟨o31, h⟩ := h
          refine zb_iinc (j := 3) (L' := [(3, (0, (v3_110 + 1))), (0, (2, x0)), (1, (2, x1)), (2, (0, v2_13)), (4, (2, (E.2 x1 4))), (5, (0, v5_13)), (6, (0, (v2_13 + (m13l (E.2 x1 3) v5_13)))), (7, (0, v7_110))]) dX7_divide_147 rfl o31 (by decide) rfl ?_
          refine zb_iconst dX7_divide_150 (zb_inIc rfl) ?_
          obtain ⟨o32, h⟩ := h
          refine zb_sI dX7_divide_151 i29 l30 o32.1 o32.2 hF (fun m151 e151 hF => ?_)
          have h := h m151 e151
          refine zb_sub (L' := [(0, (2, x0)), (1, (2, x1)), (2, (0, v2_13)), (3, (0, (v3_110 + 1))), (4, (2, (E.2 x1 4))), (5, (0, v5_13)), (6, (0, (v2_13 + (m13l (E.2 x1 3) v5_13)))), (7, (0, v7_110))]) [1, 2, 3, 0, 4, 5, 6, 7] rfl ?_
          exact hJ152 _ _ hF h
        refine zb_icmp_eq (tgt := 142) dX7_divide_120 (by decide) (fun c33 => ?_) (fun c33 => ?_)
        · have h := h.1 c33
          exact hJ142 hF h
        · have h := h.2 c33
          refine zb_aload_n (j := 0) dX7_divide_123 rfl rfl ?_
          refine zb_aload (j := 4) dX7_divide_124 rfl ?_
          refine zb_iload (j := 7) dX7_divide_126 rfl ?_
          refine zb_iconst dX7_divide_128 (zb_inIc rfl) ?_
          obtain ⟨o34, h⟩ := h
          refine zb_isub dX7_divide_129 o34 ?_
          obtain ⟨o35, h⟩ := h
          refine zb_lI dX7_divide_130 i1 l2 o35.1 o35.2 ?_
          refine zb_aload (j := 4) dX7_divide_131 rfl ?_
          refine zb_iload (j := 7) dX7_divide_133 rfl ?_
          obtain ⟨o36, h⟩ := h
          refine zb_lI dX7_divide_135 i1 l2 o36.1 o36.2 ?_
          refine zb_cVp (As := [(0, (m110l (E.2 x1 4) (v7_110 - 1))), (0, (m110l (E.2 x1 4) v7_110))]) (As' := [(0, (m110l (E.2 x1 4) v7_110)), (0, (m110l (E.2 x1 4) (v7_110 - 1)))]) (st := []) dX7_divide_136 lk_X7_75 gd_X7_compare rfl rfl i_0 ⟨_, rfl, rfl⟩ h hW hF (zb_aR i_0 (zb_aI (zb_aI zb_a0))) (Nat.le_refl _) (Nat.le_of_ble_eq_true rfl) (fun r136 h => ?_)
          show zb_WP _ _ _ _ [(0, r136)] _ _ _ _
          refine zb_if_eq (tgt := 152) dX7_divide_139 (by decide) (fun c37 => ?_) (fun c37 => ?_)
          · have h := h.1 c37
            exact hJ152 _ _ hF h
          · have h := h.2 c37
            exact hJ142 hF h
    unfold PL_X7_divide_36 at h
    obtain ⟨X36, hX36⟩ : ∃ X : Int → zb_M → Prop, ∀ (v7_36 : Int) (m36l : zb_M), (X v7_36 m36l ↔ (zb_FIN E m36l → zb_WP (G, C, d + 1, 0, 0, zb_q E Q) F_X7_divide 36 [(0, (2, x0)), (1, (2, x1)), (2, (0, v2_13)), (3, (0, v3_13)), (4, (2, (E.2 x1 4))), (5, (0, v5_13)), (6, (0, (v2_13 + (m13l (E.2 x1 3) v5_13)))), (7, (0, v7_36))] [] E.1 m36l 0 0)) := ⟨fun v7_36 m36l => zb_FIN E m36l → zb_WP (G, C, d + 1, 0, 0, zb_q E Q) F_X7_divide 36 [(0, (2, x0)), (1, (2, x1)), (2, (0, v2_13)), (3, (0, v3_13)), (4, (2, (E.2 x1 4))), (5, (0, v5_13)), (6, (0, (v2_13 + (m13l (E.2 x1 3) v5_13)))), (7, (0, v7_36))] [] E.1 m36l 0 0, fun _ _ => Iff.rfl⟩
    refine (hX36 _ _).mp (h X36 (fun v7_36 m36l h => (hX36 _ _).mpr (fun hF => ?_))) hF
    refine zb_iload (j := 7) dX7_divide_36 rfl ?_
    refine zb_iload (j := 6) dX7_divide_38 rfl ?_
    refine zb_icmp_ge (tgt := 107) dX7_divide_40 (by decide) (fun c38 => ?_) (fun c38 => ?_)
    · have h := h.1 c38
      refine zb_sub (L' := [(0, (2, x0)), (1, (2, x1)), (2, (0, v2_13)), (3, (0, v3_13)), (4, (2, (E.2 x1 4))), (5, (0, v5_13)), (6, (0, (v2_13 + (m13l (E.2 x1 3) v5_13))))]) [0, 1, 2, 3, 4, 5, 6] rfl ?_
      exact hJ107 _ hF h
    · have h := h.2 c38
      refine zb_aload (j := 4) dX7_divide_43 rfl ?_
      refine zb_iload (j := 7) dX7_divide_45 rfl ?_
      obtain ⟨o39, h⟩ := h
      refine zb_lI dX7_divide_47 i1 l2 o39.1 o39.2 ?_
      refine zb_istore (L' := [(8, (0, (m36l (E.2 x1 4) v7_36))), (0, (2, x0)), (1, (2, x1)), (2, (0, v2_13)), (3, (0, v3_13)), (4, (2, (E.2 x1 4))), (5, (0, v5_13)), (6, (0, (v2_13 + (m13l (E.2 x1 3) v5_13)))), (7, (0, v7_36))]) dX7_divide_48 (by decide) rfl ?_
      refine zb_iload (j := 8) dX7_divide_50 rfl ?_
      refine zb_istore (L' := [(9, (0, v7_36)), (8, (0, (m36l (E.2 x1 4) v7_36))), (0, (2, x0)), (1, (2, x1)), (2, (0, v2_13)), (3, (0, v3_13)), (4, (2, (E.2 x1 4))), (5, (0, v5_13)), (6, (0, (v2_13 + (m13l (E.2 x1 3) v5_13)))), (7, (0, v7_36))]) dX7_divide_52 (by decide) rfl ?_
      refine zb_sub (L' := [(0, (2, x0)), (1, (2, x1)), (2, (0, v2_13)), (3, (0, v3_13)), (4, (2, (E.2 x1 4))), (5, (0, v5_13)), (6, (0, (v2_13 + (m13l (E.2 x1 3) v5_13)))), (7, (0, v7_36)), (8, (0, (m36l (E.2 x1 4) v7_36))), (9, (0, v7_36))]) [2, 3, 4, 5, 6, 7, 8, 9, 1, 0] rfl ?_
      have hJ94 : ∀ (v9_94 : Int) (m94j : zb_M), zb_FIN E m94j → PJ_X7_divide_94 d E x1 v7_36 m36l X36 Q v9_94 m94j → zb_WP (G, C, d + 1, 0, 0, zb_q E Q) F_X7_divide 94 [(0, (2, x0)), (1, (2, x1)), (2, (0, v2_13)), (3, (0, v3_13)), (4, (2, (E.2 x1 4))), (5, (0, v5_13)), (6, (0, (v2_13 + (m13l (E.2 x1 3) v5_13)))), (7, (0, v7_36)), (8, (0, (m36l (E.2 x1 4) v7_36))), (9, (0, v9_94))] [] E.1 m94j 0 0 := by
        intro v9_94 m94j hF h
        unfold PJ_X7_divide_94 at h
        refine zb_aload (j := 4) dX7_divide_94 rfl ?_
        refine zb_iload (j := 9) dX7_divide_96 rfl ?_
        refine zb_iload (j := 8) dX7_divide_98 rfl ?_
        obtain ⟨o40, h⟩ := h
        refine zb_sI dX7_divide_100 i1 l2 o40.1 o40.2 hF (fun m100 e100 hF => ?_)
        have h := h m100 e100
        obtain ⟨o41, h⟩ := h
        refine zb_iinc (j := 7) (L' := [(7, (0, (v7_36 + 1))), (0, (2, x0)), (1, (2, x1)), (2, (0, v2_13)), (3, (0, v3_13)), (4, (2, (E.2 x1 4))), (5, (0, v5_13)), (6, (0, (v2_13 + (m13l (E.2 x1 3) v5_13)))), (8, (0, (m36l (E.2 x1 4) v7_36))), (9, (0, v9_94))]) dX7_divide_101 rfl o41 (by decide) rfl ?_
        refine zb_goto (tgt := 36) dX7_divide_104 (by decide) ?_
        refine zb_sub (L' := [(0, (2, x0)), (1, (2, x1)), (2, (0, v2_13)), (3, (0, v3_13)), (4, (2, (E.2 x1 4))), (5, (0, v5_13)), (6, (0, (v2_13 + (m13l (E.2 x1 3) v5_13)))), (7, (0, (v7_36 + 1)))]) [1, 2, 3, 4, 5, 6, 7, 0] rfl ?_
        exact (hX36 _ _).mp h hF
      unfold PL_X7_divide_54 at h
      obtain ⟨X54, hX54⟩ : ∃ X : Int → zb_M → Prop, ∀ (v9_54 : Int) (m54l : zb_M), (X v9_54 m54l ↔ (zb_FIN E m54l → zb_WP (G, C, d + 1, 0, 0, zb_q E Q) F_X7_divide 54 [(0, (2, x0)), (1, (2, x1)), (2, (0, v2_13)), (3, (0, v3_13)), (4, (2, (E.2 x1 4))), (5, (0, v5_13)), (6, (0, (v2_13 + (m13l (E.2 x1 3) v5_13)))), (7, (0, v7_36)), (8, (0, (m36l (E.2 x1 4) v7_36))), (9, (0, v9_54))] [] E.1 m54l 0 0)) := ⟨fun v9_54 m54l => zb_FIN E m54l → zb_WP (G, C, d + 1, 0, 0, zb_q E Q) F_X7_divide 54 [(0, (2, x0)), (1, (2, x1)), (2, (0, v2_13)), (3, (0, v3_13)), (4, (2, (E.2 x1 4))), (5, (0, v5_13)), (6, (0, (v2_13 + (m13l (E.2 x1 3) v5_13)))), (7, (0, v7_36)), (8, (0, (m36l (E.2 x1 4) v7_36))), (9, (0, v9_54))] [] E.1 m54l 0 0, fun _ _ => Iff.rfl⟩
      refine (hX54 _ _).mp (h X54 (fun v9_54 m54l h => (hX54 _ _).mpr (fun hF => ?_))) hF
      refine zb_iload (j := 9) dX7_divide_54 rfl ?_
      refine zb_iload_n (j := 2) dX7_divide_56 rfl rfl ?_
      refine zb_icmp_le (tgt := 94) dX7_divide_57 (by decide) (fun c42 => ?_) (fun c42 => ?_)
      · have h := h.1 c42
        exact hJ94 _ _ hF h
      · have h := h.2 c42
        refine zb_aload_n (j := 0) dX7_divide_60 rfl rfl ?_
        refine zb_aload (j := 4) dX7_divide_61 rfl ?_
        refine zb_iload (j := 9) dX7_divide_63 rfl ?_
        refine zb_iconst dX7_divide_65 (zb_inIc rfl) ?_
        obtain ⟨o43, h⟩ := h
        refine zb_isub dX7_divide_66 o43 ?_
        obtain ⟨o44, h⟩ := h
        refine zb_lI dX7_divide_67 i1 l2 o44.1 o44.2 ?_
        refine zb_iload (j := 8) dX7_divide_68 rfl ?_
        refine zb_cVp (As := [(0, (m54l (E.2 x1 4) (v9_54 - 1))), (0, (m36l (E.2 x1 4) v7_36))]) (As' := [(0, (m36l (E.2 x1 4) v7_36)), (0, (m54l (E.2 x1 4) (v9_54 - 1)))]) (st := []) dX7_divide_70 lk_X7_75 gd_X7_compare rfl rfl i_0 ⟨_, rfl, rfl⟩ h hW hF (zb_aR i_0 (zb_aI (zb_aI zb_a0))) (Nat.le_refl _) (Nat.le_of_ble_eq_true rfl) (fun r70 h => ?_)
        show zb_WP _ _ _ _ [(0, r70)] _ _ _ _
        refine zb_if_le (tgt := 94) dX7_divide_73 (by decide) (fun c45 => ?_) (fun c45 => ?_)
        · have h := h.1 c45
          exact hJ94 _ _ hF h
        · have h := h.2 c45
          refine zb_aload (j := 4) dX7_divide_76 rfl ?_
          refine zb_iload (j := 9) dX7_divide_78 rfl ?_
          refine zb_aload (j := 4) dX7_divide_80 rfl ?_
          refine zb_iload (j := 9) dX7_divide_82 rfl ?_
          refine zb_iconst dX7_divide_84 (zb_inIc rfl) ?_
          refine zb_isub dX7_divide_85 o43 ?_
          refine zb_lI dX7_divide_86 i1 l2 o44.1 o44.2 ?_
          obtain ⟨o46, h⟩ := h
          refine zb_sI dX7_divide_87 i1 l2 o46.1 o46.2 hF (fun m87 e87 hF => ?_)
          have h := h m87 e87
          obtain ⟨o47, h⟩ := h
          refine zb_iinc (j := 9) (L' := [(9, (0, (v9_54 + (-1)))), (0, (2, x0)), (1, (2, x1)), (2, (0, v2_13)), (3, (0, v3_13)), (4, (2, (E.2 x1 4))), (5, (0, v5_13)), (6, (0, (v2_13 + (m13l (E.2 x1 3) v5_13)))), (7, (0, v7_36)), (8, (0, (m36l (E.2 x1 4) v7_36)))]) dX7_divide_88 rfl o47 (by decide) rfl ?_
          refine zb_goto (tgt := 54) dX7_divide_91 (by decide) ?_
          refine zb_sub (L' := [(0, (2, x0)), (1, (2, x1)), (2, (0, v2_13)), (3, (0, v3_13)), (4, (2, (E.2 x1 4))), (5, (0, v5_13)), (6, (0, (v2_13 + (m13l (E.2 x1 3) v5_13)))), (7, (0, v7_36)), (8, (0, (m36l (E.2 x1 4) v7_36))), (9, (0, (v9_54 + (-1))))]) [1, 2, 3, 4, 5, 6, 7, 8, 9, 0] rfl ?_
          exact (hX54 _ _).mp h hF
theorem dX7_compare_0 : decode cX7_compare 0 = .ok (.iconst 0, 1) := by decide +kernel
theorem dX7_compare_1 : decode cX7_compare 1 = .ok (.istore_n 3, 1) := by decide +kernel
theorem dX7_compare_2 : decode cX7_compare 2 = .ok (.iload_n 3, 1) := by decide +kernel
theorem dX7_compare_3 : decode cX7_compare 3 = .ok (.aload_n 0, 1) := by decide +kernel
theorem dX7_compare_4 : decode cX7_compare 4 = .ok (.getfield 34, 3) := by decide +kernel
theorem dX7_compare_7 : decode cX7_compare 7 = .ok (.if_icmp .ge 57, 3) := by decide +kernel
theorem dX7_compare_10 : decode cX7_compare 10 = .ok (.aload_n 0, 1) := by decide +kernel
theorem dX7_compare_11 : decode cX7_compare 11 = .ok (.getfield 11, 3) := by decide +kernel
theorem dX7_compare_14 : decode cX7_compare 14 = .ok (.iload_n 1, 1) := by decide +kernel
theorem dX7_compare_15 : decode cX7_compare 15 = .ok (.bipush 24, 2) := by decide +kernel
theorem dX7_compare_17 : decode cX7_compare 17 = .ok (.imul, 1) := by decide +kernel
theorem dX7_compare_18 : decode cX7_compare 18 = .ok (.iload_n 3, 1) := by decide +kernel
theorem dX7_compare_19 : decode cX7_compare 19 = .ok (.iadd, 1) := by decide +kernel
theorem dX7_compare_20 : decode cX7_compare 20 = .ok (.laload, 1) := by decide +kernel
theorem dX7_compare_21 : decode cX7_compare 21 = .ok (.lstore 4, 2) := by decide +kernel
theorem dX7_compare_23 : decode cX7_compare 23 = .ok (.aload_n 0, 1) := by decide +kernel
theorem dX7_compare_24 : decode cX7_compare 24 = .ok (.getfield 11, 3) := by decide +kernel
theorem dX7_compare_27 : decode cX7_compare 27 = .ok (.iload_n 2, 1) := by decide +kernel
theorem dX7_compare_28 : decode cX7_compare 28 = .ok (.bipush 24, 2) := by decide +kernel
theorem dX7_compare_30 : decode cX7_compare 30 = .ok (.imul, 1) := by decide +kernel
theorem dX7_compare_31 : decode cX7_compare 31 = .ok (.iload_n 3, 1) := by decide +kernel
theorem dX7_compare_32 : decode cX7_compare 32 = .ok (.iadd, 1) := by decide +kernel
theorem dX7_compare_33 : decode cX7_compare 33 = .ok (.laload, 1) := by decide +kernel
theorem dX7_compare_34 : decode cX7_compare 34 = .ok (.lstore 6, 2) := by decide +kernel
theorem dX7_compare_36 : decode cX7_compare 36 = .ok (.lload 4, 2) := by decide +kernel
theorem dX7_compare_38 : decode cX7_compare 38 = .ok (.lload 6, 2) := by decide +kernel
theorem dX7_compare_40 : decode cX7_compare 40 = .ok (.lcmp, 1) := by decide +kernel
theorem dX7_compare_41 : decode cX7_compare 41 = .ok (.ifCond .eq 17, 3) := by decide +kernel
theorem dX7_compare_44 : decode cX7_compare 44 = .ok (.lload 4, 2) := by decide +kernel
theorem dX7_compare_46 : decode cX7_compare 46 = .ok (.lload 6, 2) := by decide +kernel
theorem dX7_compare_48 : decode cX7_compare 48 = .ok (.lcmp, 1) := by decide +kernel
theorem dX7_compare_49 : decode cX7_compare 49 = .ok (.ifCond .ge 7, 3) := by decide +kernel
theorem dX7_compare_52 : decode cX7_compare 52 = .ok (.iconst (-1), 1) := by decide +kernel
theorem dX7_compare_53 : decode cX7_compare 53 = .ok (.goto 4, 3) := by decide +kernel
theorem dX7_compare_56 : decode cX7_compare 56 = .ok (.iconst 1, 1) := by decide +kernel
theorem dX7_compare_57 : decode cX7_compare 57 = .ok (.ireturn, 1) := by decide +kernel
theorem dX7_compare_58 : decode cX7_compare 58 = .ok (.iinc 3 1, 3) := by decide +kernel
theorem dX7_compare_61 : decode cX7_compare 61 = .ok (.goto (-59), 3) := by decide +kernel
theorem dX7_compare_64 : decode cX7_compare 64 = .ok (.iconst 0, 1) := by decide +kernel
theorem dX7_compare_65 : decode cX7_compare 65 = .ok (.ireturn, 1) := by decide +kernel
def PJ_X7_compare_44 (d : Nat) (E : zb_E)  (Q : Int → Prop) (v4_44 : Int) (v6_44 : Int) : Prop :=
  (0 ≤ (zb_cmp v4_44 v6_44) → Q 1) ∧ (¬ 0 ≤ (zb_cmp v4_44 v6_44) → Q (-1))
def PL_X7_compare_2 (d : Nat) (E : zb_E) (x0 : Int) (x1 : Int) (x2 : Int) (m : zb_M) (Q : Int → Prop) (K44_2 : Int → Int → Prop) (v3_2 : Int) : Prop :=
  ∀ X2 : Int → Prop, (∀ (v3_2 : Int), (((m x0 1) ≤ v3_2 → Q 0) ∧ (¬ (m x0 1) ≤ v3_2 → (zb_inI (x1 * 24)) ∧ ((zb_inI ((x1 * 24) + v3_2)) ∧ ((0 ≤ ((x1 * 24) + v3_2) ∧ ((x1 * 24) + v3_2) < 288) ∧ ((zb_inI (x2 * 24)) ∧ ((zb_inI ((x2 * 24) + v3_2)) ∧ ((0 ≤ ((x2 * 24) + v3_2) ∧ ((x2 * 24) + v3_2) < 288) ∧ (((zb_cmp (m (E.2 x0 0) ((x1 * 24) + v3_2)) (m (E.2 x0 0) ((x2 * 24) + v3_2))) = 0 → (zb_inI (v3_2 + 1)) ∧ (X2 (v3_2 + 1))) ∧ (¬ (zb_cmp (m (E.2 x0 0) ((x1 * 24) + v3_2)) (m (E.2 x0 0) ((x2 * 24) + v3_2))) = 0 → K44_2 (m (E.2 x0 0) ((x1 * 24) + v3_2)) (m (E.2 x0 0) ((x2 * 24) + v3_2))))))))))) → X2 v3_2) → X2 v3_2
def PM_X7_compare (d : Nat) (E : zb_E) (x0 : Int) (x1 : Int) (x2 : Int) (m : zb_M) (Q : Int → Prop) : Prop :=
  PL_X7_compare_2 d E x0 x1 x2 m Q (PJ_X7_compare_44 d E Q) 0
set_option maxRecDepth 100000 in
set_option maxHeartbeats 4000000 in
theorem w_X7_compare {d : Nat} {E : zb_E} {x0 x1 x2 : Int} {m : zb_M} {Q : Int → Prop} (h : PM_X7_compare d E x0 x1 x2 m Q) : zb_Tp K_X7_compare (d + 1) [(2, x0), (0, x1), (0, x2)] E m Q := by
  unfold PM_X7_compare at h
  refine zb_T_in gd_X7_compare rfl rfl (fun hW hA G C hF => ?_)
  have i_0 : zb_is E.1 x0 7 := zb_aH hA (by decide)
  show zb_WP _ _ 0 [(0, (2, x0)), (1, (0, x1)), (2, (0, x2))] [] _ _ _ _
  refine zb_iconst dX7_compare_0 (zb_inIc rfl) ?_
  refine zb_istore_n (L' := [(3, (0, 0)), (0, (2, x0)), (1, (0, x1)), (2, (0, x2))]) dX7_compare_1 rfl (by decide) rfl ?_
  refine zb_sub (L' := [(0, (2, x0)), (1, (0, x1)), (2, (0, x2)), (3, (0, 0))]) [1, 2, 3, 0] rfl ?_
  have hJ44 : ∀ (v4_44 : Int) (v6_44 : Int), zb_FIN E m → PJ_X7_compare_44 d E Q v4_44 v6_44 → zb_WP (G, C, d + 1, 0, 0, zb_q E (fun r m' => m' = m ∧ Q r)) F_X7_compare 44 [(4, (1, v4_44)), (6, (1, v6_44))] [] E.1 m 0 0 := by
    intro v4_44 v6_44 hF h
    unfold PJ_X7_compare_44 at h
    refine zb_lload (j := 0) dX7_compare_44 rfl ?_
    refine zb_lload (j := 1) dX7_compare_46 rfl ?_
    refine zb_lcmp dX7_compare_48 ?_
    refine zb_if_ge (tgt := 56) dX7_compare_49 (by decide) (fun c1 => ?_) (fun c1 => ?_)
    · have h := h.1 c1
      refine zb_iconst dX7_compare_56 (zb_inIc rfl) ?_
      exact zb_rI dX7_compare_57 rfl hF ⟨rfl, h⟩
    · have h := h.2 c1
      refine zb_iconst dX7_compare_52 (zb_inIc rfl) ?_
      refine zb_goto (tgt := 57) dX7_compare_53 (by decide) ?_
      exact zb_rI dX7_compare_57 rfl hF ⟨rfl, h⟩
  unfold PL_X7_compare_2 at h
  obtain ⟨X2, hX2⟩ : ∃ X : Int → Prop, ∀ (v3_2 : Int), (X v3_2 ↔ (zb_FIN E m → zb_WP (G, C, d + 1, 0, 0, zb_q E (fun r m' => m' = m ∧ Q r)) F_X7_compare 2 [(0, (2, x0)), (1, (0, x1)), (2, (0, x2)), (3, (0, v3_2))] [] E.1 m 0 0)) := ⟨fun v3_2 => zb_FIN E m → zb_WP (G, C, d + 1, 0, 0, zb_q E (fun r m' => m' = m ∧ Q r)) F_X7_compare 2 [(0, (2, x0)), (1, (0, x1)), (2, (0, x2)), (3, (0, v3_2))] [] E.1 m 0 0, fun _ => Iff.rfl⟩
  refine (hX2 _).mp (h X2 (fun v3_2 h => (hX2 _).mpr (fun hF => ?_))) hF
  refine zb_iload_n (j := 3) dX7_compare_2 rfl rfl ?_
  refine zb_aload_n (j := 0) dX7_compare_3 rfl rfl ?_
  refine zb_gI 1 dX7_compare_4 fl_X7_34 i_0 rfl rfl ?_
  refine zb_icmp_ge (tgt := 64) dX7_compare_7 (by decide) (fun c2 => ?_) (fun c2 => ?_)
  · have h := h.1 c2
    refine zb_iconst dX7_compare_64 (zb_inIc rfl) ?_
    exact zb_rI dX7_compare_65 rfl hF ⟨rfl, h⟩
  · have h := h.2 c2
    refine zb_aload_n (j := 0) dX7_compare_10 rfl rfl ?_
    refine zb_gFa 0 dX7_compare_11 fl_X7_11 i_0 hW hF rfl rfl rfl (by decide) rfl 288 rfl (fun i3 l4 => ?_)
    refine zb_iload_n (j := 1) dX7_compare_14 rfl rfl ?_
    refine zb_bipush dX7_compare_15 (by decide) (zb_inIc rfl) ?_
    obtain ⟨o5, h⟩ := h
    refine zb_imul dX7_compare_17 o5 ?_
    refine zb_iload_n (j := 3) dX7_compare_18 rfl rfl ?_
    obtain ⟨o6, h⟩ := h
    refine zb_iadd dX7_compare_19 o6 ?_
    obtain ⟨o7, h⟩ := h
    refine zb_lL dX7_compare_20 i3 l4 o7.1 o7.2 ?_
    refine zb_lstore (L' := [(4, (1, (m (E.2 x0 0) ((x1 * 24) + v3_2)))), (0, (2, x0)), (1, (0, x1)), (2, (0, x2)), (3, (0, v3_2))]) dX7_compare_21 (by decide) rfl ?_
    refine zb_aload_n (j := 1) dX7_compare_23 rfl rfl ?_
    refine zb_gFa 0 dX7_compare_24 fl_X7_11 i_0 hW hF rfl rfl rfl (by decide) rfl 288 rfl (fun i8 l9 => ?_)
    refine zb_iload_n (j := 3) dX7_compare_27 rfl rfl ?_
    refine zb_bipush dX7_compare_28 (by decide) (zb_inIc rfl) ?_
    obtain ⟨o10, h⟩ := h
    refine zb_imul dX7_compare_30 o10 ?_
    refine zb_iload_n (j := 4) dX7_compare_31 rfl rfl ?_
    obtain ⟨o11, h⟩ := h
    refine zb_iadd dX7_compare_32 o11 ?_
    obtain ⟨o12, h⟩ := h
    refine zb_lL dX7_compare_33 i8 l9 o12.1 o12.2 ?_
    refine zb_lstore (L' := [(6, (1, (m (E.2 x0 0) ((x2 * 24) + v3_2)))), (4, (1, (m (E.2 x0 0) ((x1 * 24) + v3_2)))), (0, (2, x0)), (1, (0, x1)), (2, (0, x2)), (3, (0, v3_2))]) dX7_compare_34 (by decide) rfl ?_
    refine zb_lload (j := 1) dX7_compare_36 rfl ?_
    refine zb_lload (j := 0) dX7_compare_38 rfl ?_
    refine zb_lcmp dX7_compare_40 ?_
    refine zb_if_eq (tgt := 58) dX7_compare_41 (by decide) (fun c13 => ?_) (fun c13 => ?_)
    · have h := h.1 c13
      obtain ⟨o14, h⟩ := h
      refine zb_iinc (j := 5) (L' := [(3, (0, (v3_2 + 1))), (6, (1, (m (E.2 x0 0) ((x2 * 24) + v3_2)))), (4, (1, (m (E.2 x0 0) ((x1 * 24) + v3_2)))), (0, (2, x0)), (1, (0, x1)), (2, (0, x2))]) dX7_compare_58 rfl o14 (by decide) rfl ?_
      refine zb_goto (tgt := 2) dX7_compare_61 (by decide) ?_
      refine zb_sub (L' := [(0, (2, x0)), (1, (0, x1)), (2, (0, x2)), (3, (0, (v3_2 + 1)))]) [3, 4, 5, 0] rfl ?_
      exact (hX2 _).mp h hF
    · have h := h.2 c13
      refine zb_sub (L' := [(4, (1, (m (E.2 x0 0) ((x1 * 24) + v3_2)))), (6, (1, (m (E.2 x0 0) ((x2 * 24) + v3_2))))]) [1, 0] rfl ?_
      exact hJ44 _ _ hF h
