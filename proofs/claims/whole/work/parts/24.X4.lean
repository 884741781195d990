/-! ===== SameBench$Net: instructions and walks (laid by gen/layout.py) ===== -/
theorem dX4_add_0 : decode cX4_add 0 = .ok (.aload_n 0, 1) := by decide +kernel
theorem dX4_add_1 : decode cX4_add 1 = .ok (.getfield 27, 3) := by decide +kernel
theorem dX4_add_4 : decode cX4_add 4 = .ok (.istore 4, 2) := by decide +kernel
theorem dX4_add_6 : decode cX4_add 6 = .ok (.aload_n 0, 1) := by decide +kernel
theorem dX4_add_7 : decode cX4_add 7 = .ok (.getfield 9, 3) := by decide +kernel
theorem dX4_add_10 : decode cX4_add 10 = .ok (.iload 4, 2) := by decide +kernel
theorem dX4_add_12 : decode cX4_add 12 = .ok (.iload_n 1, 1) := by decide +kernel
theorem dX4_add_13 : decode cX4_add 13 = .ok (.iastore, 1) := by decide +kernel
theorem dX4_add_14 : decode cX4_add 14 = .ok (.aload_n 0, 1) := by decide +kernel
theorem dX4_add_15 : decode cX4_add 15 = .ok (.getfield 15, 3) := by decide +kernel
theorem dX4_add_18 : decode cX4_add 18 = .ok (.iload 4, 2) := by decide +kernel
theorem dX4_add_20 : decode cX4_add 20 = .ok (.iload_n 2, 1) := by decide +kernel
theorem dX4_add_21 : decode cX4_add 21 = .ok (.iastore, 1) := by decide +kernel
theorem dX4_add_22 : decode cX4_add 22 = .ok (.aload_n 0, 1) := by decide +kernel
theorem dX4_add_23 : decode cX4_add 23 = .ok (.getfield 18, 3) := by decide +kernel
theorem dX4_add_26 : decode cX4_add 26 = .ok (.iload 4, 2) := by decide +kernel
theorem dX4_add_28 : decode cX4_add 28 = .ok (.iload_n 1, 1) := by decide +kernel
theorem dX4_add_29 : decode cX4_add 29 = .ok (.invokestatic 31, 3) := by decide +kernel
theorem dX4_add_32 : decode cX4_add 32 = .ok (.ifCond .eq 7, 3) := by decide +kernel
theorem dX4_add_35 : decode cX4_add 35 = .ok (.iload_n 3, 1) := by decide +kernel
theorem dX4_add_36 : decode cX4_add 36 = .ok (.goto 4, 3) := by decide +kernel
theorem dX4_add_39 : decode cX4_add 39 = .ok (.iconst 0, 1) := by decide +kernel
theorem dX4_add_40 : decode cX4_add 40 = .ok (.iastore, 1) := by decide +kernel
theorem dX4_add_41 : decode cX4_add 41 = .ok (.aload_n 0, 1) := by decide +kernel
theorem dX4_add_42 : decode cX4_add 42 = .ok (.iload 4, 2) := by decide +kernel
theorem dX4_add_44 : decode cX4_add 44 = .ok (.iconst (-1), 1) := by decide +kernel
theorem dX4_add_45 : decode cX4_add 45 = .ok (.invokevirtual 35, 3) := by decide +kernel
theorem dX4_add_48 : decode cX4_add 48 = .ok (.aload_n 0, 1) := by decide +kernel
theorem dX4_add_49 : decode cX4_add 49 = .ok (.iload 4, 2) := by decide +kernel
theorem dX4_add_51 : decode cX4_add 51 = .ok (.iconst 1, 1) := by decide +kernel
theorem dX4_add_52 : decode cX4_add 52 = .ok (.iadd, 1) := by decide +kernel
theorem dX4_add_53 : decode cX4_add 53 = .ok (.putfield 27, 3) := by decide +kernel
theorem dX4_add_56 : decode cX4_add 56 = .ok (.iload 4, 2) := by decide +kernel
theorem dX4_add_58 : decode cX4_add 58 = .ok (.ireturn, 1) := by decide +kernel
def PJ_X4_add_40 (d : Nat) (E : zb_E) (x0 : Int) (m : zb_M) (m21 : zb_M) (Q : Int → zb_M → Prop) (s2_40 : Int) : Prop :=
  ∀ m40, m40 = zb_up m21 (E.2 x0 3) (m x0 0) s2_40 → (zb_T K_X4_clearRow d [(2, x0), (0, (m x0 0)), (0, (-1))] E m40 (fun r45 m45 => (zb_inI ((m x0 0) + 1)) ∧ (∀ m53, m53 = zb_up m45 x0 0 ((m x0 0) + 1) → (Q (m x0 0) m53))))
def PM_X4_add (d : Nat) (E : zb_E) (x0 : Int) (x1 : Int) (x2 : Int) (x3 : Int) (m : zb_M) (Q : Int → zb_M → Prop) : Prop :=
  (0 ≤ (m x0 0) ∧ (m x0 0) < 12) ∧ (∀ m13, m13 = zb_up m (E.2 x0 1) (m x0 0) x1 → (∀ m21, m21 = zb_up m13 (E.2 x0 2) (m x0 0) x2 → (zb_Tp K_X11_isNamedKind d [(0, x1)] E m21 (fun r29 => (r29 = 0 → PJ_X4_add_40 d E x0 m m21 Q 0) ∧ (¬ r29 = 0 → PJ_X4_add_40 d E x0 m m21 Q x3)))))
set_option maxRecDepth 100000 in
set_option maxHeartbeats 4000000 in
theorem w_X4_add {d : Nat} {E : zb_E} {x0 x1 x2 x3 : Int} {m : zb_M} {Q : Int → zb_M → Prop} (h : PM_X4_add d E x0 x1 x2 x3 m Q) : zb_T K_X4_add (d + 1) [(2, x0), (0, x1), (0, x2), (0, x3)] E m Q := by
  unfold PM_X4_add at h
  refine zb_T_in gd_X4_add rfl rfl (fun hW hA G C hF => ?_)
  have i_0 : zb_is E.1 x0 4 := zb_aH hA (by decide)
  show zb_WP _ _ 0 [(0, (2, x0)), (1, (0, x1)), (2, (0, x2)), (3, (0, x3))] [] _ _ _ _
  refine zb_aload_n (j := 0) dX4_add_0 rfl rfl ?_
  refine zb_gI 0 dX4_add_1 fl_X4_27 i_0 rfl rfl ?_
  refine zb_istore (L' := [(4, (0, (m x0 0))), (0, (2, x0)), (1, (0, x1)), (2, (0, x2)), (3, (0, x3))]) dX4_add_4 (by decide) rfl ?_
  refine zb_aload_n (j := 1) dX4_add_6 rfl rfl ?_
  refine zb_gFa 1 dX4_add_7 fl_X4_9 i_0 hW hF rfl rfl rfl (by decide) rfl 12 rfl (fun i1 l2 => ?_)
  refine zb_iload (j := 0) dX4_add_10 rfl ?_
  refine zb_iload_n (j := 2) dX4_add_12 rfl rfl ?_
  obtain ⟨o3, h⟩ := h
  refine zb_sI dX4_add_13 i1 l2 o3.1 o3.2 hF (fun m13 e13 hF => ?_)
  have h := h m13 e13
  refine zb_aload_n (j := 1) dX4_add_14 rfl rfl ?_
  refine zb_gFa 2 dX4_add_15 fl_X4_15 i_0 hW hF rfl rfl rfl (by decide) rfl 12 rfl (fun i4 l5 => ?_)
  refine zb_iload (j := 0) dX4_add_18 rfl ?_
  refine zb_iload_n (j := 3) dX4_add_20 rfl rfl ?_
  refine zb_sI dX4_add_21 i4 l5 o3.1 o3.2 hF (fun m21 e21 hF => ?_)
  have h := h m21 e21
  refine zb_aload_n (j := 1) dX4_add_22 rfl rfl ?_
  refine zb_gFa 3 dX4_add_23 fl_X4_18 i_0 hW hF rfl rfl rfl (by decide) rfl 12 rfl (fun i6 l7 => ?_)
  refine zb_iload (j := 0) dX4_add_26 rfl ?_
  refine zb_iload_n (j := 2) dX4_add_28 rfl rfl ?_
  refine zb_cNp (As := [(0, x1)]) (As' := [(0, x1)]) (st := [(0, (m x0 0)), (2, (E.2 x0 3))]) dX4_add_29 lk_X4_31 gd_X11_isNamedKind rfl rfl h hW hF (zb_aI zb_a0) (Nat.le_refl _) (Nat.le_of_ble_eq_true rfl) (fun r29 h => ?_)
  show zb_WP _ _ _ _ [(0, r29), (0, (m x0 0)), (2, (E.2 x0 3))] _ _ _ _
  have hJ40 : ∀ (s2_40 : Int), zb_FIN E m21 → PJ_X4_add_40 d E x0 m m21 Q s2_40 → zb_WP (G, C, d + 1, 0, 0, zb_q E Q) F_X4_add 40 [(0, (2, x0)), (4, (0, (m x0 0)))] [(0, s2_40), (0, (m x0 0)), (2, (E.2 x0 3))] E.1 m21 0 0 := by
    intro s2_40 hF h
    unfold PJ_X4_add_40 at h
    refine zb_sI dX4_add_40 i6 l7 o3.1 o3.2 hF (fun m40 e40 hF => ?_)
    have h := h m40 e40
    refine zb_aload_n (j := 0) dX4_add_41 rfl rfl ?_
    refine zb_iload (j := 1) dX4_add_42 rfl ?_
    refine zb_iconst dX4_add_44 (zb_inIc rfl) ?_
    refine zb_cV (As := [(0, (m x0 0)), (0, (-1))]) (As' := [(0, (-1)), (0, (m x0 0))]) (st := []) dX4_add_45 lk_X4_35 gd_X4_clearRow rfl rfl i_0 ⟨_, rfl, rfl⟩ h hW hF (zb_aR i_0 (zb_aI (zb_aI zb_a0))) (Nat.le_refl _) (Nat.le_of_ble_eq_true rfl) (fun r45 m45 hF h => ?_)
    show zb_WP _ _ _ _ [] _ _ _ _
    refine zb_aload_n (j := 0) dX4_add_48 rfl rfl ?_
    refine zb_iload (j := 1) dX4_add_49 rfl ?_
    refine zb_iconst dX4_add_51 (zb_inIc rfl) ?_
    obtain ⟨o8, h⟩ := h
    refine zb_iadd dX4_add_52 o8 ?_
    refine zb_pF 0 dX4_add_53 fl_X4_27 rfl rfl i_0 (Or.inl rfl) hF rfl rfl (fun m53 e53 hF => ?_)
    have h := h m53 e53
    refine zb_iload (j := 1) dX4_add_56 rfl ?_
    exact zb_rI dX4_add_58 rfl hF h
  refine zb_if_eq (tgt := 39) dX4_add_32 (by decide) (fun c9 => ?_) (fun c9 => ?_)
  · have h := h.1 c9
    refine zb_iconst dX4_add_39 (zb_inIc rfl) ?_
    refine zb_sub (L' := [(0, (2, x0)), (4, (0, (m x0 0)))]) [1, 0] rfl ?_
    exact hJ40 _ hF h
  · have h := h.2 c9
    refine zb_iload_n (j := 4) dX4_add_35 rfl rfl ?_
    refine zb_goto (tgt := 40) dX4_add_36 (by decide) ?_
    refine zb_sub (L' := [(0, (2, x0)), (4, (0, (m x0 0)))]) [1, 0] rfl ?_
    exact hJ40 _ hF h
theorem dX4_clearRow_0 : decode cX4_clearRow 0 = .ok (.aload_n 0, 1) := by decide +kernel
theorem dX4_clearRow_1 : decode cX4_clearRow 1 = .ok (.getfield 21, 3) := by decide +kernel
theorem dX4_clearRow_4 : decode cX4_clearRow 4 = .ok (.iload_n 1, 1) := by decide +kernel
theorem dX4_clearRow_5 : decode cX4_clearRow 5 = .ok (.iload_n 2, 1) := by decide +kernel
theorem dX4_clearRow_6 : decode cX4_clearRow 6 = .ok (.iastore, 1) := by decide +kernel
theorem dX4_clearRow_7 : decode cX4_clearRow 7 = .ok (.iconst 0, 1) := by decide +kernel
theorem dX4_clearRow_8 : decode cX4_clearRow 8 = .ok (.istore_n 3, 1) := by decide +kernel
theorem dX4_clearRow_9 : decode cX4_clearRow 9 = .ok (.iload_n 3, 1) := by decide +kernel
theorem dX4_clearRow_10 : decode cX4_clearRow 10 = .ok (.bipush 12, 2) := by decide +kernel
theorem dX4_clearRow_12 : decode cX4_clearRow 12 = .ok (.if_icmp .ge 21, 3) := by decide +kernel
theorem dX4_clearRow_15 : decode cX4_clearRow 15 = .ok (.aload_n 0, 1) := by decide +kernel
theorem dX4_clearRow_16 : decode cX4_clearRow 16 = .ok (.getfield 24, 3) := by decide +kernel
theorem dX4_clearRow_19 : decode cX4_clearRow 19 = .ok (.iload_n 1, 1) := by decide +kernel
theorem dX4_clearRow_20 : decode cX4_clearRow 20 = .ok (.bipush 12, 2) := by decide +kernel
theorem dX4_clearRow_22 : decode cX4_clearRow 22 = .ok (.imul, 1) := by decide +kernel
theorem dX4_clearRow_23 : decode cX4_clearRow 23 = .ok (.iload_n 3, 1) := by decide +kernel
theorem dX4_clearRow_24 : decode cX4_clearRow 24 = .ok (.iadd, 1) := by decide +kernel
theorem dX4_clearRow_25 : decode cX4_clearRow 25 = .ok (.iconst 0, 1) := by decide +kernel
theorem dX4_clearRow_26 : decode cX4_clearRow 26 = .ok (.iastore, 1) := by decide +kernel
theorem dX4_clearRow_27 : decode cX4_clearRow 27 = .ok (.iinc 3 1, 3) := by decide +kernel
theorem dX4_clearRow_30 : decode cX4_clearRow 30 = .ok (.goto (-21), 3) := by decide +kernel
theorem dX4_clearRow_33 : decode cX4_clearRow 33 = .ok (.return_, 1) := by decide +kernel
def PL_X4_clearRow_9 (d : Nat) (E : zb_E) (x0 : Int) (x1 : Int) (Q : Int → zb_M → Prop)  (v3_9 : Int) (m9l : zb_M) : Prop :=
  ∀ X9 : Int → zb_M → Prop, (∀ (v3_9 : Int) (m9l : zb_M), ((12 ≤ v3_9 → Q 0 m9l) ∧ (¬ 12 ≤ v3_9 → (zb_inI (x1 * 12)) ∧ ((zb_inI ((x1 * 12) + v3_9)) ∧ ((0 ≤ ((x1 * 12) + v3_9) ∧ ((x1 * 12) + v3_9) < 144) ∧ (∀ m26, m26 = zb_up m9l (E.2 x0 5) ((x1 * 12) + v3_9) 0 → ((zb_inI (v3_9 + 1)) ∧ (X9 (v3_9 + 1) m26))))))) → X9 v3_9 m9l) → X9 v3_9 m9l
def PM_X4_clearRow (d : Nat) (E : zb_E) (x0 : Int) (x1 : Int) (x2 : Int) (m : zb_M) (Q : Int → zb_M → Prop) : Prop :=
  (0 ≤ x1 ∧ x1 < 12) ∧ (∀ m6, m6 = zb_up m (E.2 x0 4) x1 x2 → (PL_X4_clearRow_9 d E x0 x1 Q 0 m6))
set_option maxRecDepth 100000 in
set_option maxHeartbeats 4000000 in
theorem w_X4_clearRow {d : Nat} {E : zb_E} {x0 x1 x2 : Int} {m : zb_M} {Q : Int → zb_M → Prop} (h : PM_X4_clearRow d E x0 x1 x2 m Q) : zb_T K_X4_clearRow (d + 1) [(2, x0), (0, x1), (0, x2)] E m Q := by
  unfold PM_X4_clearRow at h
  refine zb_T_in gd_X4_clearRow rfl rfl (fun hW hA G C hF => ?_)
  have i_0 : zb_is E.1 x0 4 := zb_aH hA (by decide)
  show zb_WP _ _ 0 [(0, (2, x0)), (1, (0, x1)), (2, (0, x2))] [] _ _ _ _
  refine zb_aload_n (j := 0) dX4_clearRow_0 rfl rfl ?_
  refine zb_gFa 4 dX4_clearRow_1 fl_X4_21 i_0 hW hF rfl rfl rfl (by decide) rfl 12 rfl (fun i1 l2 => ?_)
  refine zb_iload_n (j := 1) dX4_clearRow_4 rfl rfl ?_
  refine zb_iload_n (j := 2) dX4_clearRow_5 rfl rfl ?_
  obtain ⟨o3, h⟩ := h
  refine zb_sI dX4_clearRow_6 i1 l2 o3.1 o3.2 hF (fun m6 e6 hF => ?_)
  have h := h m6 e6
  refine zb_iconst dX4_clearRow_7 (zb_inIc rfl) ?_
  refine zb_istore_n (L' := [(3, (0, 0)), (0, (2, x0)), (1, (0, x1)), (2, (0, x2))]) dX4_clearRow_8 rfl (by decide) rfl ?_
  refine zb_sub (L' := [(0, (2, x0)), (1, (0, x1)), (3, (0, 0))]) [1, 2, 0] rfl ?_
  unfold PL_X4_clearRow_9 at h
  obtain ⟨X9, hX9⟩ : ∃ X : Int → zb_M → Prop, ∀ (v3_9 : Int) (m9l : zb_M), (X v3_9 m9l ↔ (zb_FIN E m9l → zb_WP (G, C, d + 1, 0, 0, zb_q E Q) F_X4_clearRow 9 [(0, (2, x0)), (1, (0, x1)), (3, (0, v3_9))] [] E.1 m9l 0 0)) := ⟨fun v3_9 m9l => zb_FIN E m9l → zb_WP (G, C, d + 1, 0, 0, zb_q E Q) F_X4_clearRow 9 [(0, (2, x0)), (1, (0, x1)), (3, (0, v3_9))] [] E.1 m9l 0 0, fun _ _ => Iff.rfl⟩
  refine (hX9 _ _).mp (h X9 (fun v3_9 m9l h => (hX9 _ _).mpr (fun hF => ?_))) hF
  refine zb_iload_n (j := 2) dX4_clearRow_9 rfl rfl ?_
  refine zb_bipush dX4_clearRow_10 (by decide) (zb_inIc rfl) ?_
  refine zb_icmp_ge (tgt := 33) dX4_clearRow_12 (by decide) (fun c4 => ?_) (fun c4 => ?_)
  · have h := h.1 c4
    exact zb_rV dX4_clearRow_33 rfl hF h
  · have h := h.2 c4
    refine zb_aload_n (j := 0) dX4_clearRow_15 rfl rfl ?_
    refine zb_gFa 5 dX4_clearRow_16 fl_X4_24 i_0 hW hF rfl rfl rfl (by decide) rfl 144 rfl (fun i5 l6 => ?_)
    refine zb_iload_n (j := 1) dX4_clearRow_19 rfl rfl ?_
    refine zb_bipush dX4_clearRow_20 (by decide) (zb_inIc rfl) ?_
    obtain ⟨o7, h⟩ := h
    refine zb_imul dX4_clearRow_22 o7 ?_
    refine zb_iload_n (j := 2) dX4_clearRow_23 rfl rfl ?_
    obtain ⟨o8, h⟩ := h
    refine zb_iadd dX4_clearRow_24 o8 ?_
    refine zb_iconst dX4_clearRow_25 (zb_inIc rfl) ?_
    obtain ⟨o9, h⟩ := h
    refine zb_sI dX4_clearRow_26 i5 l6 o9.1 o9.2 hF (fun m26 e26 hF => ?_)
    have h := h m26 e26
    obtain ⟨o10, h⟩ := h
    refine zb_iinc (j := 2) (L' := [(3, (0, (v3_9 + 1))), (0, (2, x0)), (1, (0, x1))]) dX4_clearRow_27 rfl o10 (by decide) rfl ?_
    refine zb_goto (tgt := 9) dX4_clearRow_30 (by decide) ?_
    refine zb_sub (L' := [(0, (2, x0)), (1, (0, x1)), (3, (0, (v3_9 + 1)))]) [1, 2, 0] rfl ?_
    exact (hX9 _ _).mp h hF
theorem dX4_hasRow_0 : decode cX4_hasRow 0 = .ok (.aload_n 0, 1) := by decide +kernel
theorem dX4_hasRow_1 : decode cX4_hasRow 1 = .ok (.getfield 21, 3) := by decide +kernel
theorem dX4_hasRow_4 : decode cX4_hasRow 4 = .ok (.iload_n 1, 1) := by decide +kernel
theorem dX4_hasRow_5 : decode cX4_hasRow 5 = .ok (.iaload, 1) := by decide +kernel
theorem dX4_hasRow_6 : decode cX4_hasRow 6 = .ok (.iconst (-1), 1) := by decide +kernel
theorem dX4_hasRow_7 : decode cX4_hasRow 7 = .ok (.if_icmp .eq 7, 3) := by decide +kernel
theorem dX4_hasRow_10 : decode cX4_hasRow 10 = .ok (.iconst 1, 1) := by decide +kernel
theorem dX4_hasRow_11 : decode cX4_hasRow 11 = .ok (.goto 4, 3) := by decide +kernel
theorem dX4_hasRow_14 : decode cX4_hasRow 14 = .ok (.iconst 0, 1) := by decide +kernel
theorem dX4_hasRow_15 : decode cX4_hasRow 15 = .ok (.ireturn, 1) := by decide +kernel
def PM_X4_hasRow (d : Nat) (E : zb_E) (x0 : Int) (x1 : Int) (m : zb_M) (Q : Int → Prop) : Prop :=
  (0 ≤ x1 ∧ x1 < 12) ∧ (((m (E.2 x0 4) x1) = (-1) → Q 0) ∧ (¬ (m (E.2 x0 4) x1) = (-1) → Q 1))
set_option maxRecDepth 100000 in
set_option maxHeartbeats 4000000 in
theorem w_X4_hasRow {d : Nat} {E : zb_E} {x0 x1 : Int} {m : zb_M} {Q : Int → Prop} (h : PM_X4_hasRow d E x0 x1 m Q) : zb_Tp K_X4_hasRow (d + 1) [(2, x0), (0, x1)] E m Q := by
  unfold PM_X4_hasRow at h
  refine zb_T_in gd_X4_hasRow rfl rfl (fun hW hA G C hF => ?_)
  have i_0 : zb_is E.1 x0 4 := zb_aH hA (by decide)
  show zb_WP _ _ 0 [(0, (2, x0)), (1, (0, x1))] [] _ _ _ _
  refine zb_aload_n (j := 0) dX4_hasRow_0 rfl rfl ?_
  refine zb_gFa 4 dX4_hasRow_1 fl_X4_21 i_0 hW hF rfl rfl rfl (by decide) rfl 12 rfl (fun i1 l2 => ?_)
  refine zb_iload_n (j := 1) dX4_hasRow_4 rfl rfl ?_
  obtain ⟨o3, h⟩ := h
  refine zb_lI dX4_hasRow_5 i1 l2 o3.1 o3.2 ?_
  refine zb_iconst dX4_hasRow_6 (zb_inIc rfl) ?_
  refine zb_icmp_eq (tgt := 14) dX4_hasRow_7 (by decide) (fun c4 => ?_) (fun c4 => ?_)
  · have h := h.1 c4
    refine zb_iconst dX4_hasRow_14 (zb_inIc rfl) ?_
    exact zb_rZ dX4_hasRow_15 rfl hF (by decide) ⟨rfl, h⟩
  · have h := h.2 c4
    refine zb_iconst dX4_hasRow_10 (zb_inIc rfl) ?_
    refine zb_goto (tgt := 15) dX4_hasRow_11 (by decide) ?_
    exact zb_rZ dX4_hasRow_15 rfl hF (by decide) ⟨rfl, h⟩
theorem dX4_isNamed_0 : decode cX4_isNamed 0 = .ok (.aload_n 0, 1) := by decide +kernel
theorem dX4_isNamed_1 : decode cX4_isNamed 1 = .ok (.getfield 9, 3) := by decide +kernel
theorem dX4_isNamed_4 : decode cX4_isNamed 4 = .ok (.iload_n 1, 1) := by decide +kernel
theorem dX4_isNamed_5 : decode cX4_isNamed 5 = .ok (.iaload, 1) := by decide +kernel
theorem dX4_isNamed_6 : decode cX4_isNamed 6 = .ok (.invokestatic 31, 3) := by decide +kernel
theorem dX4_isNamed_9 : decode cX4_isNamed 9 = .ok (.ireturn, 1) := by decide +kernel
def PM_X4_isNamed (d : Nat) (E : zb_E) (x0 : Int) (x1 : Int) (m : zb_M) (Q : Int → Prop) : Prop :=
  (0 ≤ x1 ∧ x1 < 12) ∧ (zb_Tp K_X11_isNamedKind d [(0, (m (E.2 x0 1) x1))] E m (fun r6 => (r6 = 0 ∨ r6 = 1) ∧ (Q r6)))
set_option maxRecDepth 100000 in
set_option maxHeartbeats 4000000 in
theorem w_X4_isNamed {d : Nat} {E : zb_E} {x0 x1 : Int} {m : zb_M} {Q : Int → Prop} (h : PM_X4_isNamed d E x0 x1 m Q) : zb_Tp K_X4_isNamed (d + 1) [(2, x0), (0, x1)] E m Q := by
  unfold PM_X4_isNamed at h
  refine zb_T_in gd_X4_isNamed rfl rfl (fun hW hA G C hF => ?_)
  have i_0 : zb_is E.1 x0 4 := zb_aH hA (by decide)
  show zb_WP _ _ 0 [(0, (2, x0)), (1, (0, x1))] [] _ _ _ _
  refine zb_aload_n (j := 0) dX4_isNamed_0 rfl rfl ?_
  refine zb_gFa 1 dX4_isNamed_1 fl_X4_9 i_0 hW hF rfl rfl rfl (by decide) rfl 12 rfl (fun i1 l2 => ?_)
  refine zb_iload_n (j := 1) dX4_isNamed_4 rfl rfl ?_
  obtain ⟨o3, h⟩ := h
  refine zb_lI dX4_isNamed_5 i1 l2 o3.1 o3.2 ?_
  refine zb_cNp (As := [(0, (m (E.2 x0 1) x1))]) (As' := [(0, (m (E.2 x0 1) x1))]) (st := []) dX4_isNamed_6 lk_X4_31 gd_X11_isNamedKind rfl rfl h hW hF (zb_aI zb_a0) (Nat.le_refl _) (Nat.le_of_ble_eq_true rfl) (fun r6 h => ?_)
  show zb_WP _ _ _ _ [(0, r6)] _ _ _ _
  obtain ⟨o4, h⟩ := h
  exact zb_rZ dX4_isNamed_9 rfl hF o4 ⟨rfl, h⟩
theorem dX4_lineFrom_0 : decode cX4_lineFrom 0 = .ok (.aload_n 0, 1) := by decide +kernel
theorem dX4_lineFrom_1 : decode cX4_lineFrom 1 = .ok (.getfield 24, 3) := by decide +kernel
theorem dX4_lineFrom_4 : decode cX4_lineFrom 4 = .ok (.iload_n 1, 1) := by decide +kernel
theorem dX4_lineFrom_5 : decode cX4_lineFrom 5 = .ok (.bipush 12, 2) := by decide +kernel
theorem dX4_lineFrom_7 : decode cX4_lineFrom 7 = .ok (.imul, 1) := by decide +kernel
theorem dX4_lineFrom_8 : decode cX4_lineFrom 8 = .ok (.iload_n 2, 1) := by decide +kernel
theorem dX4_lineFrom_9 : decode cX4_lineFrom 9 = .ok (.iadd, 1) := by decide +kernel
theorem dX4_lineFrom_10 : decode cX4_lineFrom 10 = .ok (.iaload, 1) := by decide +kernel
theorem dX4_lineFrom_11 : decode cX4_lineFrom 11 = .ok (.ireturn, 1) := by decide +kernel
def PM_X4_lineFrom (d : Nat) (E : zb_E) (x0 : Int) (x1 : Int) (x2 : Int) (m : zb_M) (Q : Int → Prop) : Prop :=
  (zb_inI (x1 * 12)) ∧ ((zb_inI ((x1 * 12) + x2)) ∧ ((0 ≤ ((x1 * 12) + x2) ∧ ((x1 * 12) + x2) < 144) ∧ (Q (m (E.2 x0 5) ((x1 * 12) + x2)))))
set_option maxRecDepth 100000 in
set_option maxHeartbeats 4000000 in
theorem w_X4_lineFrom {d : Nat} {E : zb_E} {x0 x1 x2 : Int} {m : zb_M} {Q : Int → Prop} (h : PM_X4_lineFrom d E x0 x1 x2 m Q) : zb_Tp K_X4_lineFrom (d + 1) [(2, x0), (0, x1), (0, x2)] E m Q := by
  unfold PM_X4_lineFrom at h
  refine zb_T_in gd_X4_lineFrom rfl rfl (fun hW hA G C hF => ?_)
  have i_0 : zb_is E.1 x0 4 := zb_aH hA (by decide)
  show zb_WP _ _ 0 [(0, (2, x0)), (1, (0, x1)), (2, (0, x2))] [] _ _ _ _
  refine zb_aload_n (j := 0) dX4_lineFrom_0 rfl rfl ?_
  refine zb_gFa 5 dX4_lineFrom_1 fl_X4_24 i_0 hW hF rfl rfl rfl (by decide) rfl 144 rfl (fun i1 l2 => ?_)
  refine zb_iload_n (j := 1) dX4_lineFrom_4 rfl rfl ?_
  refine zb_bipush dX4_lineFrom_5 (by decide) (zb_inIc rfl) ?_
  obtain ⟨o3, h⟩ := h
  refine zb_imul dX4_lineFrom_7 o3 ?_
  refine zb_iload_n (j := 2) dX4_lineFrom_8 rfl rfl ?_
  obtain ⟨o4, h⟩ := h
  refine zb_iadd dX4_lineFrom_9 o4 ?_
  obtain ⟨o5, h⟩ := h
  refine zb_lI dX4_lineFrom_10 i1 l2 o5.1 o5.2 ?_
  exact zb_rI dX4_lineFrom_11 rfl hF ⟨rfl, h⟩
theorem dX4_keyOf_0 : decode cX4_keyOf 0 = .ok (.aload_n 0, 1) := by decide +kernel
theorem dX4_keyOf_1 : decode cX4_keyOf 1 = .ok (.getfield 15, 3) := by decide +kernel
theorem dX4_keyOf_4 : decode cX4_keyOf 4 = .ok (.iload_n 1, 1) := by decide +kernel
theorem dX4_keyOf_5 : decode cX4_keyOf 5 = .ok (.iaload, 1) := by decide +kernel
theorem dX4_keyOf_6 : decode cX4_keyOf 6 = .ok (.istore_n 2, 1) := by decide +kernel
theorem dX4_keyOf_7 : decode cX4_keyOf 7 = .ok (.aload_n 0, 1) := by decide +kernel
theorem dX4_keyOf_8 : decode cX4_keyOf 8 = .ok (.iload_n 1, 1) := by decide +kernel
theorem dX4_keyOf_9 : decode cX4_keyOf 9 = .ok (.invokevirtual 39, 3) := by decide +kernel
theorem dX4_keyOf_12 : decode cX4_keyOf 12 = .ok (.ifCond .eq 17, 3) := by decide +kernel
theorem dX4_keyOf_15 : decode cX4_keyOf 15 = .ok (.iload_n 2, 1) := by decide +kernel
theorem dX4_keyOf_16 : decode cX4_keyOf 16 = .ok (.bipush 10, 2) := by decide +kernel
theorem dX4_keyOf_18 : decode cX4_keyOf 18 = .ok (.aload_n 0, 1) := by decide +kernel
theorem dX4_keyOf_19 : decode cX4_keyOf 19 = .ok (.getfield 18, 3) := by decide +kernel
theorem dX4_keyOf_22 : decode cX4_keyOf 22 = .ok (.iload_n 1, 1) := by decide +kernel
theorem dX4_keyOf_23 : decode cX4_keyOf 23 = .ok (.iaload, 1) := by decide +kernel
theorem dX4_keyOf_24 : decode cX4_keyOf 24 = .ok (.iconst 1, 1) := by decide +kernel
theorem dX4_keyOf_25 : decode cX4_keyOf 25 = .ok (.iadd, 1) := by decide +kernel
theorem dX4_keyOf_26 : decode cX4_keyOf 26 = .ok (.imul, 1) := by decide +kernel
theorem dX4_keyOf_27 : decode cX4_keyOf 27 = .ok (.iadd, 1) := by decide +kernel
theorem dX4_keyOf_28 : decode cX4_keyOf 28 = .ok (.istore_n 2, 1) := by decide +kernel
theorem dX4_keyOf_29 : decode cX4_keyOf 29 = .ok (.aload_n 0, 1) := by decide +kernel
theorem dX4_keyOf_30 : decode cX4_keyOf 30 = .ok (.getfield 9, 3) := by decide +kernel
theorem dX4_keyOf_33 : decode cX4_keyOf 33 = .ok (.iload_n 1, 1) := by decide +kernel
theorem dX4_keyOf_34 : decode cX4_keyOf 34 = .ok (.iaload, 1) := by decide +kernel
theorem dX4_keyOf_35 : decode cX4_keyOf 35 = .ok (.iconst 2, 1) := by decide +kernel
theorem dX4_keyOf_36 : decode cX4_keyOf 36 = .ok (.if_icmp .ne 9, 3) := by decide +kernel
theorem dX4_keyOf_39 : decode cX4_keyOf 39 = .ok (.iinc 2 2000, 6) := by decide +kernel
theorem dX4_keyOf_45 : decode cX4_keyOf 45 = .ok (.aload_n 0, 1) := by decide +kernel
theorem dX4_keyOf_46 : decode cX4_keyOf 46 = .ok (.getfield 9, 3) := by decide +kernel
theorem dX4_keyOf_49 : decode cX4_keyOf 49 = .ok (.iload_n 1, 1) := by decide +kernel
theorem dX4_keyOf_50 : decode cX4_keyOf 50 = .ok (.iaload, 1) := by decide +kernel
theorem dX4_keyOf_51 : decode cX4_keyOf 51 = .ok (.iconst 3, 1) := by decide +kernel
theorem dX4_keyOf_52 : decode cX4_keyOf 52 = .ok (.if_icmp .ne 9, 3) := by decide +kernel
theorem dX4_keyOf_55 : decode cX4_keyOf 55 = .ok (.iinc 2 4000, 6) := by decide +kernel
theorem dX4_keyOf_61 : decode cX4_keyOf 61 = .ok (.iload_n 2, 1) := by decide +kernel
theorem dX4_keyOf_62 : decode cX4_keyOf 62 = .ok (.ireturn, 1) := by decide +kernel
def PJ_X4_keyOf_45 (d : Nat) (E : zb_E) (x0 : Int) (x1 : Int) (m : zb_M) (Q : Int → Prop) (v2_45 : Int) : Prop :=
  ((m (E.2 x0 1) x1) = 3 → (zb_inI (v2_45 + 4000)) ∧ (Q (v2_45 + 4000))) ∧ (¬ (m (E.2 x0 1) x1) = 3 → Q v2_45)
def PJ_X4_keyOf_29 (d : Nat) (E : zb_E) (x0 : Int) (x1 : Int) (m : zb_M) (Q : Int → Prop) (v2_29 : Int) : Prop :=
  ((m (E.2 x0 1) x1) = 2 → (zb_inI (v2_29 + 2000)) ∧ (PJ_X4_keyOf_45 d E x0 x1 m Q (v2_29 + 2000))) ∧ (¬ (m (E.2 x0 1) x1) = 2 → PJ_X4_keyOf_45 d E x0 x1 m Q v2_29)
def PM_X4_keyOf (d : Nat) (E : zb_E) (x0 : Int) (x1 : Int) (m : zb_M) (Q : Int → Prop) : Prop :=
  (0 ≤ x1 ∧ x1 < 12) ∧ (zb_Tp K_X4_isNamed d [(2, x0), (0, x1)] E m (fun r9 => (r9 = 0 → PJ_X4_keyOf_29 d E x0 x1 m Q (m (E.2 x0 2) x1)) ∧ (¬ r9 = 0 → (zb_inI ((m (E.2 x0 3) x1) + 1)) ∧ ((zb_inI (10 * ((m (E.2 x0 3) x1) + 1))) ∧ ((zb_inI ((m (E.2 x0 2) x1) + (10 * ((m (E.2 x0 3) x1) + 1)))) ∧ (PJ_X4_keyOf_29 d E x0 x1 m Q ((m (E.2 x0 2) x1) + (10 * ((m (E.2 x0 3) x1) + 1)))))))))
set_option maxRecDepth 100000 in
set_option maxHeartbeats 4000000 in
theorem w_X4_keyOf {d : Nat} {E : zb_E} {x0 x1 : Int} {m : zb_M} {Q : Int → Prop} (h : PM_X4_keyOf d E x0 x1 m Q) : zb_Tp K_X4_keyOf (d + 1) [(2, x0), (0, x1)] E m Q := by
  unfold PM_X4_keyOf at h
  refine zb_T_in gd_X4_keyOf rfl rfl (fun hW hA G C hF => ?_)
  have i_0 : zb_is E.1 x0 4 := zb_aH hA (by decide)
  show zb_WP _ _ 0 [(0, (2, x0)), (1, (0, x1))] [] _ _ _ _
  refine zb_aload_n (j := 0) dX4_keyOf_0 rfl rfl ?_
  refine zb_gFa 2 dX4_keyOf_1 fl_X4_15 i_0 hW hF rfl rfl rfl (by decide) rfl 12 rfl (fun i1 l2 => ?_)
  refine zb_iload_n (j := 1) dX4_keyOf_4 rfl rfl ?_
  obtain ⟨o3, h⟩ := h
  refine zb_lI dX4_keyOf_5 i1 l2 o3.1 o3.2 ?_
  refine zb_istore_n (L' := [(2, (0, (m (E.2 x0 2) x1))), (0, (2, x0)), (1, (0, x1))]) dX4_keyOf_6 rfl (by decide) rfl ?_
  refine zb_aload_n (j := 1) dX4_keyOf_7 rfl rfl ?_
  refine zb_iload_n (j := 2) dX4_keyOf_8 rfl rfl ?_
  refine zb_cVp (As := [(0, x1)]) (As' := [(0, x1)]) (st := []) dX4_keyOf_9 lk_X4_39 gd_X4_isNamed rfl rfl i_0 ⟨_, rfl, rfl⟩ h hW hF (zb_aR i_0 (zb_aI zb_a0)) (Nat.le_refl _) (Nat.le_of_ble_eq_true rfl) (fun r9 h => ?_)
  show zb_WP _ _ _ _ [(0, r9)] _ _ _ _
  have hJ29 : ∀ (v2_29 : Int), zb_FIN E m → PJ_X4_keyOf_29 d E x0 x1 m Q v2_29 → zb_WP (G, C, d + 1, 0, 0, zb_q E (fun r m' => m' = m ∧ Q r)) F_X4_keyOf 29 [(0, (2, x0)), (1, (0, x1)), (2, (0, v2_29))] [] E.1 m 0 0 := by
    intro v2_29 hF h
    unfold PJ_X4_keyOf_29 at h
    refine zb_aload_n (j := 0) dX4_keyOf_29 rfl rfl ?_
    refine zb_gFa 1 dX4_keyOf_30 fl_X4_9 i_0 hW hF rfl rfl rfl (by decide) rfl 12 rfl (fun i4 l5 => ?_)
    refine zb_iload_n (j := 1) dX4_keyOf_33 rfl rfl ?_
    refine zb_lI dX4_keyOf_34 i4 l5 o3.1 o3.2 ?_
    refine zb_iconst dX4_keyOf_35 (zb_inIc rfl) ?_
    have hJ45 : ∀ (v2_45 : Int), zb_FIN E m → PJ_X4_keyOf_45 d E x0 x1 m Q v2_45 → zb_WP (G, C, d + 1, 0, 0, zb_q E (fun r m' => m' = m ∧ Q r)) F_X4_keyOf 45 [(0, (2, x0)), (1, (0, x1)), (2, (0, v2_45))] [] E.1 m 0 0 := by
      intro v2_45 hF h
      unfold PJ_X4_keyOf_45 at h
      refine zb_aload_n (j := 0) dX4_keyOf_45 rfl rfl ?_
      refine zb_gFa 1 dX4_keyOf_46 fl_X4_9 i_0 hW hF rfl rfl rfl (by decide) rfl 12 rfl (fun i6 l7 => ?_)
      refine zb_iload_n (j := 1) dX4_keyOf_49 rfl rfl ?_
      refine zb_lI dX4_keyOf_50 i6 l7 o3.1 o3.2 ?_
      refine zb_iconst dX4_keyOf_51 (zb_inIc rfl) ?_
      refine zb_icmp_ne (tgt := 61) dX4_keyOf_52 (by decide) (fun c8 => ?_) (fun c8 => ?_)
      · have h := h.2 c8
        refine zb_iload_n (j := 2) dX4_keyOf_61 rfl rfl ?_
        exact zb_rI dX4_keyOf_62 rfl hF ⟨rfl, h⟩
      · have h := h.1 c8
        obtain ⟨o9, h⟩ := h
        refine zb_iincw (j := 2) (L' := [(2, (0, (v2_45 + 4000))), (0, (2, x0)), (1, (0, x1))]) dX4_keyOf_55 rfl o9 (by decide) rfl ?_
        refine zb_iload_n (j := 0) dX4_keyOf_61 rfl rfl ?_
        exact zb_rI dX4_keyOf_62 rfl hF ⟨rfl, h⟩
    refine zb_icmp_ne (tgt := 45) dX4_keyOf_36 (by decide) (fun c10 => ?_) (fun c10 => ?_)
    · have h := h.2 c10
      exact hJ45 _ hF h
    · have h := h.1 c10
      obtain ⟨o11, h⟩ := h
      refine zb_iincw (j := 2) (L' := [(2, (0, (v2_29 + 2000))), (0, (2, x0)), (1, (0, x1))]) dX4_keyOf_39 rfl o11 (by decide) rfl ?_
      refine zb_sub (L' := [(0, (2, x0)), (1, (0, x1)), (2, (0, (v2_29 + 2000)))]) [1, 2, 0] rfl ?_
      exact hJ45 _ hF h
  refine zb_if_eq (tgt := 29) dX4_keyOf_12 (by decide) (fun c12 => ?_) (fun c12 => ?_)
  · have h := h.1 c12
    refine zb_sub (L' := [(0, (2, x0)), (1, (0, x1)), (2, (0, (m (E.2 x0 2) x1)))]) [1, 2, 0] rfl ?_
    exact hJ29 _ hF h
  · have h := h.2 c12
    refine zb_iload_n (j := 0) dX4_keyOf_15 rfl rfl ?_
    refine zb_bipush dX4_keyOf_16 (by decide) (zb_inIc rfl) ?_
    refine zb_aload_n (j := 1) dX4_keyOf_18 rfl rfl ?_
    refine zb_gFa 3 dX4_keyOf_19 fl_X4_18 i_0 hW hF rfl rfl rfl (by decide) rfl 12 rfl (fun i13 l14 => ?_)
    refine zb_iload_n (j := 2) dX4_keyOf_22 rfl rfl ?_
    refine zb_lI dX4_keyOf_23 i13 l14 o3.1 o3.2 ?_
    refine zb_iconst dX4_keyOf_24 (zb_inIc rfl) ?_
    obtain ⟨o15, h⟩ := h
    refine zb_iadd dX4_keyOf_25 o15 ?_
    obtain ⟨o16, h⟩ := h
    refine zb_imul dX4_keyOf_26 o16 ?_
    obtain ⟨o17, h⟩ := h
    refine zb_iadd dX4_keyOf_27 o17 ?_
    refine zb_istore_n (L' := [(2, (0, ((m (E.2 x0 2) x1) + (10 * ((m (E.2 x0 3) x1) + 1))))), (0, (2, x0)), (1, (0, x1))]) dX4_keyOf_28 rfl (by decide) rfl ?_
    refine zb_sub (L' := [(0, (2, x0)), (1, (0, x1)), (2, (0, ((m (E.2 x0 2) x1) + (10 * ((m (E.2 x0 3) x1) + 1)))))]) [1, 2, 0] rfl ?_
    exact hJ29 _ hF h
theorem dX4_countShown_0 : decode cX4_countShown 0 = .ok (.iconst 0, 1) := by decide +kernel
theorem dX4_countShown_1 : decode cX4_countShown 1 = .ok (.istore_n 1, 1) := by decide +kernel
theorem dX4_countShown_2 : decode cX4_countShown 2 = .ok (.iconst 0, 1) := by decide +kernel
theorem dX4_countShown_3 : decode cX4_countShown 3 = .ok (.istore_n 2, 1) := by decide +kernel
theorem dX4_countShown_4 : decode cX4_countShown 4 = .ok (.iload_n 2, 1) := by decide +kernel
theorem dX4_countShown_5 : decode cX4_countShown 5 = .ok (.aload_n 0, 1) := by decide +kernel
theorem dX4_countShown_6 : decode cX4_countShown 6 = .ok (.getfield 27, 3) := by decide +kernel
theorem dX4_countShown_9 : decode cX4_countShown 9 = .ok (.if_icmp .ge 22, 3) := by decide +kernel
theorem dX4_countShown_12 : decode cX4_countShown 12 = .ok (.aload_n 0, 1) := by decide +kernel
theorem dX4_countShown_13 : decode cX4_countShown 13 = .ok (.getfield 9, 3) := by decide +kernel
theorem dX4_countShown_16 : decode cX4_countShown 16 = .ok (.iload_n 2, 1) := by decide +kernel
theorem dX4_countShown_17 : decode cX4_countShown 17 = .ok (.iaload, 1) := by decide +kernel
theorem dX4_countShown_18 : decode cX4_countShown 18 = .ok (.iconst 4, 1) := by decide +kernel
theorem dX4_countShown_19 : decode cX4_countShown 19 = .ok (.if_icmp .eq 6, 3) := by decide +kernel
theorem dX4_countShown_22 : decode cX4_countShown 22 = .ok (.iinc 1 1, 3) := by decide +kernel
theorem dX4_countShown_25 : decode cX4_countShown 25 = .ok (.iinc 2 1, 3) := by decide +kernel
theorem dX4_countShown_28 : decode cX4_countShown 28 = .ok (.goto (-24), 3) := by decide +kernel
theorem dX4_countShown_31 : decode cX4_countShown 31 = .ok (.iload_n 1, 1) := by decide +kernel
theorem dX4_countShown_32 : decode cX4_countShown 32 = .ok (.ireturn, 1) := by decide +kernel
def PL_X4_countShown_4 (d : Nat) (E : zb_E) (x0 : Int) (m : zb_M) (Q : Int → Prop)  (v1_4 : Int) (v2_4 : Int) : Prop :=
  ∀ X4 : Int → Int → Prop, (∀ (v1_4 : Int) (v2_4 : Int), (((m x0 0) ≤ v2_4 → Q v1_4) ∧ (¬ (m x0 0) ≤ v2_4 → (0 ≤ v2_4 ∧ v2_4 < 12) ∧ (((m (E.2 x0 1) v2_4) = 4 → (zb_inI (v2_4 + 1)) ∧ (X4 v1_4 (v2_4 + 1))) ∧ (¬ (m (E.2 x0 1) v2_4) = 4 → (zb_inI (v1_4 + 1)) ∧ ((zb_inI (v2_4 + 1)) ∧ (X4 (v1_4 + 1) (v2_4 + 1))))))) → X4 v1_4 v2_4) → X4 v1_4 v2_4
def PM_X4_countShown (d : Nat) (E : zb_E) (x0 : Int) (m : zb_M) (Q : Int → Prop) : Prop :=
  PL_X4_countShown_4 d E x0 m Q 0 0
set_option maxRecDepth 100000 in
set_option maxHeartbeats 4000000 in
theorem w_X4_countShown {d : Nat} {E : zb_E} {x0 : Int} {m : zb_M} {Q : Int → Prop} (h : PM_X4_countShown d E x0 m Q) : zb_Tp K_X4_countShown (d + 1) [(2, x0)] E m Q := by
  unfold PM_X4_countShown at h
  refine zb_T_in gd_X4_countShown rfl rfl (fun hW hA G C hF => ?_)
  have i_0 : zb_is E.1 x0 4 := zb_aH hA (by decide)
  show zb_WP _ _ 0 [(0, (2, x0))] [] _ _ _ _
  refine zb_iconst dX4_countShown_0 (zb_inIc rfl) ?_
  refine zb_istore_n (L' := [(1, (0, 0)), (0, (2, x0))]) dX4_countShown_1 rfl (by decide) rfl ?_
  refine zb_iconst dX4_countShown_2 (zb_inIc rfl) ?_
  refine zb_istore_n (L' := [(2, (0, 0)), (1, (0, 0)), (0, (2, x0))]) dX4_countShown_3 rfl (by decide) rfl ?_
  refine zb_sub (L' := [(0, (2, x0)), (1, (0, 0)), (2, (0, 0))]) [2, 1, 0] rfl ?_
  unfold PL_X4_countShown_4 at h
  obtain ⟨X4, hX4⟩ : ∃ X : Int → Int → Prop, ∀ (v1_4 : Int) (v2_4 : Int), (X v1_4 v2_4 ↔ (zb_FIN E m → zb_WP (G, C, d + 1, 0, 0, zb_q E (fun r m' => m' = m ∧ Q r)) F_X4_countShown 4 [(0, (2, x0)), (1, (0, v1_4)), (2, (0, v2_4))] [] E.1 m 0 0)) := ⟨fun v1_4 v2_4 => zb_FIN E m → zb_WP (G, C, d + 1, 0, 0, zb_q E (fun r m' => m' = m ∧ Q r)) F_X4_countShown 4 [(0, (2, x0)), (1, (0, v1_4)), (2, (0, v2_4))] [] E.1 m 0 0, fun _ _ => Iff.rfl⟩
  refine (hX4 _ _).mp (h X4 (fun v1_4 v2_4 h => (hX4 _ _).mpr (fun hF => ?_))) hF
  refine zb_iload_n (j := 2) dX4_countShown_4 rfl rfl ?_
  refine zb_aload_n (j := 0) dX4_countShown_5 rfl rfl ?_
  refine zb_gI 0 dX4_countShown_6 fl_X4_27 i_0 rfl rfl ?_
  refine zb_icmp_ge (tgt := 31) dX4_countShown_9 (by decide) (fun c1 => ?_) (fun c1 => ?_)
  · have h := h.1 c1
    refine zb_iload_n (j := 1) dX4_countShown_31 rfl rfl ?_
    exact zb_rI dX4_countShown_32 rfl hF ⟨rfl, h⟩
  · have h := h.2 c1
    refine zb_aload_n (j := 0) dX4_countShown_12 rfl rfl ?_
    refine zb_gFa 1 dX4_countShown_13 fl_X4_9 i_0 hW hF rfl rfl rfl (by decide) rfl 12 rfl (fun i2 l3 => ?_)
    refine zb_iload_n (j := 2) dX4_countShown_16 rfl rfl ?_
    obtain ⟨o4, h⟩ := h
    refine zb_lI dX4_countShown_17 i2 l3 o4.1 o4.2 ?_
    refine zb_iconst dX4_countShown_18 (zb_inIc rfl) ?_
    refine zb_icmp_eq (tgt := 25) dX4_countShown_19 (by decide) (fun c5 => ?_) (fun c5 => ?_)
    · have h := h.1 c5
      obtain ⟨o6, h⟩ := h
      refine zb_iinc (j := 2) (L' := [(2, (0, (v2_4 + 1))), (0, (2, x0)), (1, (0, v1_4))]) dX4_countShown_25 rfl o6 (by decide) rfl ?_
      refine zb_goto (tgt := 4) dX4_countShown_28 (by decide) ?_
      refine zb_sub (L' := [(0, (2, x0)), (1, (0, v1_4)), (2, (0, (v2_4 + 1)))]) [1, 2, 0] rfl ?_
      exact (hX4 _ _).mp h hF
    · have h := h.2 c5
      obtain ⟨o7, h⟩ := h
      refine zb_iinc (j := 1) (L' := [(1, (0, (v1_4 + 1))), (0, (2, x0)), (2, (0, v2_4))]) dX4_countShown_22 rfl o7 (by decide) rfl ?_
      obtain ⟨o8, h⟩ := h
      refine zb_iinc (j := 2) (L' := [(2, (0, (v2_4 + 1))), (1, (0, (v1_4 + 1))), (0, (2, x0))]) dX4_countShown_25 rfl o8 (by decide) rfl ?_
      refine zb_goto (tgt := 4) dX4_countShown_28 (by decide) ?_
      refine zb_sub (L' := [(0, (2, x0)), (1, (0, (v1_4 + 1))), (2, (0, (v2_4 + 1)))]) [2, 1, 0] rfl ?_
      exact (hX4 _ _).mp h hF
theorem dX4_isRight_0 : decode cX4_isRight 0 = .ok (.iconst 0, 1) := by decide +kernel
theorem dX4_isRight_1 : decode cX4_isRight 1 = .ok (.istore_n 1, 1) := by decide +kernel
theorem dX4_isRight_2 : decode cX4_isRight 2 = .ok (.iload_n 1, 1) := by decide +kernel
theorem dX4_isRight_3 : decode cX4_isRight 3 = .ok (.aload_n 0, 1) := by decide +kernel
theorem dX4_isRight_4 : decode cX4_isRight 4 = .ok (.getfield 27, 3) := by decide +kernel
theorem dX4_isRight_7 : decode cX4_isRight 7 = .ok (.if_icmp .ge 50, 3) := by decide +kernel
theorem dX4_isRight_10 : decode cX4_isRight 10 = .ok (.aload_n 0, 1) := by decide +kernel
theorem dX4_isRight_11 : decode cX4_isRight 11 = .ok (.getfield 9, 3) := by decide +kernel
theorem dX4_isRight_14 : decode cX4_isRight 14 = .ok (.iload_n 1, 1) := by decide +kernel
theorem dX4_isRight_15 : decode cX4_isRight 15 = .ok (.iaload, 1) := by decide +kernel
theorem dX4_isRight_16 : decode cX4_isRight 16 = .ok (.iconst 2, 1) := by decide +kernel
theorem dX4_isRight_17 : decode cX4_isRight 17 = .ok (.if_icmp .ne 13, 3) := by decide +kernel
theorem dX4_isRight_20 : decode cX4_isRight 20 = .ok (.aload_n 0, 1) := by decide +kernel
theorem dX4_isRight_21 : decode cX4_isRight 21 = .ok (.iload_n 1, 1) := by decide +kernel
theorem dX4_isRight_22 : decode cX4_isRight 22 = .ok (.invokevirtual 42, 3) := by decide +kernel
theorem dX4_isRight_25 : decode cX4_isRight 25 = .ok (.ifCond .eq 5, 3) := by decide +kernel
theorem dX4_isRight_28 : decode cX4_isRight 28 = .ok (.iconst 0, 1) := by decide +kernel
theorem dX4_isRight_29 : decode cX4_isRight 29 = .ok (.ireturn, 1) := by decide +kernel
theorem dX4_isRight_30 : decode cX4_isRight 30 = .ok (.aload_n 0, 1) := by decide +kernel
theorem dX4_isRight_31 : decode cX4_isRight 31 = .ok (.getfield 9, 3) := by decide +kernel
theorem dX4_isRight_34 : decode cX4_isRight 34 = .ok (.iload_n 1, 1) := by decide +kernel
theorem dX4_isRight_35 : decode cX4_isRight 35 = .ok (.iaload, 1) := by decide +kernel
theorem dX4_isRight_36 : decode cX4_isRight 36 = .ok (.iconst 3, 1) := by decide +kernel
theorem dX4_isRight_37 : decode cX4_isRight 37 = .ok (.if_icmp .ne 14, 3) := by decide +kernel
theorem dX4_isRight_40 : decode cX4_isRight 40 = .ok (.aload_n 0, 1) := by decide +kernel
theorem dX4_isRight_41 : decode cX4_isRight 41 = .ok (.iload_n 1, 1) := by decide +kernel
theorem dX4_isRight_42 : decode cX4_isRight 42 = .ok (.invokevirtual 42, 3) := by decide +kernel
theorem dX4_isRight_45 : decode cX4_isRight 45 = .ok (.iconst 1, 1) := by decide +kernel
theorem dX4_isRight_46 : decode cX4_isRight 46 = .ok (.if_icmp .eq 5, 3) := by decide +kernel
theorem dX4_isRight_49 : decode cX4_isRight 49 = .ok (.iconst 0, 1) := by decide +kernel
theorem dX4_isRight_50 : decode cX4_isRight 50 = .ok (.ireturn, 1) := by decide +kernel
theorem dX4_isRight_51 : decode cX4_isRight 51 = .ok (.iinc 1 1, 3) := by decide +kernel
theorem dX4_isRight_54 : decode cX4_isRight 54 = .ok (.goto (-52), 3) := by decide +kernel
theorem dX4_isRight_57 : decode cX4_isRight 57 = .ok (.iconst 1, 1) := by decide +kernel
theorem dX4_isRight_58 : decode cX4_isRight 58 = .ok (.ireturn, 1) := by decide +kernel
def PJ_X4_isRight_30 (d : Nat) (E : zb_E) (x0 : Int) (m : zb_M) (v1_2 : Int) (X2 : Int → Prop) (Q : Int → Prop)  : Prop :=
  ((m (E.2 x0 1) v1_2) = 3 → zb_Tp K_X4_countNamesakes d [(2, x0), (0, v1_2)] E m (fun r42 => (r42 = 1 → (zb_inI (v1_2 + 1)) ∧ (X2 (v1_2 + 1))) ∧ (¬ r42 = 1 → Q 0))) ∧ (¬ (m (E.2 x0 1) v1_2) = 3 → (zb_inI (v1_2 + 1)) ∧ (X2 (v1_2 + 1)))
def PL_X4_isRight_2 (d : Nat) (E : zb_E) (x0 : Int) (m : zb_M) (Q : Int → Prop)  (v1_2 : Int) : Prop :=
  ∀ X2 : Int → Prop, (∀ (v1_2 : Int), (((m x0 0) ≤ v1_2 → Q 1) ∧ (¬ (m x0 0) ≤ v1_2 → (0 ≤ v1_2 ∧ v1_2 < 12) ∧ (((m (E.2 x0 1) v1_2) = 2 → zb_Tp K_X4_countNamesakes d [(2, x0), (0, v1_2)] E m (fun r22 => (r22 = 0 → PJ_X4_isRight_30 d E x0 m v1_2 X2 Q) ∧ (¬ r22 = 0 → Q 0))) ∧ (¬ (m (E.2 x0 1) v1_2) = 2 → PJ_X4_isRight_30 d E x0 m v1_2 X2 Q)))) → X2 v1_2) → X2 v1_2
def PM_X4_isRight (d : Nat) (E : zb_E) (x0 : Int) (m : zb_M) (Q : Int → Prop) : Prop :=
  PL_X4_isRight_2 d E x0 m Q 0
set_option maxRecDepth 100000 in
set_option maxHeartbeats 4000000 in
theorem w_X4_isRight {d : Nat} {E : zb_E} {x0 : Int} {m : zb_M} {Q : Int → Prop} (h : PM_X4_isRight d E x0 m Q) : zb_Tp K_X4_isRight (d + 1) [(2, x0)] E m Q := by
  unfold PM_X4_isRight at h
  refine zb_T_in gd_X4_isRight rfl rfl (fun hW hA G C hF => ?_)
  have i_0 : zb_is E.1 x0 4 := zb_aH hA (by decide)
  show zb_WP _ _ 0 [(0, (2, x0))] [] _ _ _ _
  refine zb_iconst dX4_isRight_0 (zb_inIc rfl) ?_
  refine zb_istore_n (L' := [(1, (0, 0)), (0, (2, x0))]) dX4_isRight_1 rfl (by decide) rfl ?_
  refine zb_sub (L' := [(0, (2, x0)), (1, (0, 0))]) [1, 0] rfl ?_
  unfold PL_X4_isRight_2 at h
  obtain ⟨X2, hX2⟩ : ∃ X : Int → Prop, ∀ (v1_2 : Int), (X v1_2 ↔ (zb_FIN E m → zb_WP (G, C, d + 1, 0, 0, zb_q E (fun r m' => m' = m ∧ Q r)) F_X4_isRight 2 [(0, (2, x0)), (1, (0, v1_2))] [] E.1 m 0 0)) := ⟨fun v1_2 => zb_FIN E m → zb_WP (G, C, d + 1, 0, 0, zb_q E (fun r m' => m' = m ∧ Q r)) F_X4_isRight 2 [(0, (2, x0)), (1, (0, v1_2))] [] E.1 m 0 0, fun _ => Iff.rfl⟩
  refine (hX2 _).mp (h X2 (fun v1_2 h => (hX2 _).mpr (fun hF => ?_))) hF
  refine zb_iload_n (j := 1) dX4_isRight_2 rfl rfl ?_
  refine zb_aload_n (j := 0) dX4_isRight_3 rfl rfl ?_
  refine zb_gI 0 dX4_isRight_4 fl_X4_27 i_0 rfl rfl ?_
  refine zb_icmp_ge (tgt := 57) dX4_isRight_7 (by decide) (fun c1 => ?_) (fun c1 => ?_)
  · have h := h.1 c1
    refine zb_iconst dX4_isRight_57 (zb_inIc rfl) ?_
    exact zb_rZ dX4_isRight_58 rfl hF (by decide) ⟨rfl, h⟩
  · have h := h.2 c1
    refine zb_aload_n (j := 0) dX4_isRight_10 rfl rfl ?_
    refine zb_gFa 1 dX4_isRight_11 fl_X4_9 i_0 hW hF rfl rfl rfl (by decide) rfl 12 rfl (fun i2 l3 => ?_)
    refine zb_iload_n (j := 1) dX4_isRight_14 rfl rfl ?_
    obtain ⟨o4, h⟩ := h
    refine zb_lI dX4_isRight_15 i2 l3 o4.1 o4.2 ?_
    refine zb_iconst dX4_isRight_16 (zb_inIc rfl) ?_
    have hJ30 : zb_FIN E m → PJ_X4_isRight_30 d E x0 m v1_2 X2 Q  → zb_WP (G, C, d + 1, 0, 0, zb_q E (fun r m' => m' = m ∧ Q r)) F_X4_isRight 30 [(0, (2, x0)), (1, (0, v1_2))] [] E.1 m 0 0 := by
      intro  hF h
      unfold PJ_X4_isRight_30 at h
      refine zb_aload_n (j := 0) dX4_isRight_30 rfl rfl ?_
      refine zb_gFa 1 dX4_isRight_31 fl_X4_9 i_0 hW hF rfl rfl rfl (by decide) rfl 12 rfl (fun i5 l6 => ?_)
      refine zb_iload_n (j := 1) dX4_isRight_34 rfl rfl ?_
      refine zb_lI dX4_isRight_35 i5 l6 o4.1 o4.2 ?_
      refine zb_iconst dX4_isRight_36 (zb_inIc rfl) ?_
      refine zb_icmp_ne (tgt := 51) dX4_isRight_37 (by decide) (fun c7 => ?_) (fun c7 => ?_)
      · have h := h.2 c7
        obtain ⟨o8, h⟩ := h
        refine zb_iinc (j := 1) (L' := [(1, (0, (v1_2 + 1))), (0, (2, x0))]) dX4_isRight_51 rfl o8 (by decide) rfl ?_
        refine zb_goto (tgt := 2) dX4_isRight_54 (by decide) ?_
        refine zb_sub (L' := [(0, (2, x0)), (1, (0, (v1_2 + 1)))]) [1, 0] rfl ?_
        exact (hX2 _).mp h hF
      · have h := h.1 c7
        refine zb_aload_n (j := 0) dX4_isRight_40 rfl rfl ?_
        refine zb_iload_n (j := 1) dX4_isRight_41 rfl rfl ?_
        refine zb_cVp (As := [(0, v1_2)]) (As' := [(0, v1_2)]) (st := []) dX4_isRight_42 lk_X4_42 gd_X4_countNamesakes rfl rfl i_0 ⟨_, rfl, rfl⟩ h hW hF (zb_aR i_0 (zb_aI zb_a0)) (Nat.le_refl _) (Nat.le_of_ble_eq_true rfl) (fun r42 h => ?_)
        show zb_WP _ _ _ _ [(0, r42)] _ _ _ _
        refine zb_iconst dX4_isRight_45 (zb_inIc rfl) ?_
        refine zb_icmp_eq (tgt := 51) dX4_isRight_46 (by decide) (fun c9 => ?_) (fun c9 => ?_)
        · have h := h.1 c9
          obtain ⟨o10, h⟩ := h
          refine zb_iinc (j := 1) (L' := [(1, (0, (v1_2 + 1))), (0, (2, x0))]) dX4_isRight_51 rfl o10 (by decide) rfl ?_
          refine zb_goto (tgt := 2) dX4_isRight_54 (by decide) ?_
          refine zb_sub (L' := [(0, (2, x0)), (1, (0, (v1_2 + 1)))]) [1, 0] rfl ?_
          exact (hX2 _).mp h hF
        · have h := h.2 c9
          refine zb_iconst dX4_isRight_49 (zb_inIc rfl) ?_
          exact zb_rZ dX4_isRight_50 rfl hF (by decide) ⟨rfl, h⟩
    refine zb_icmp_ne (tgt := 30) dX4_isRight_17 (by decide) (fun c11 => ?_) (fun c11 => ?_)
    · have h := h.2 c11
      exact hJ30 hF h
    · have h := h.1 c11
      refine zb_aload_n (j := 0) dX4_isRight_20 rfl rfl ?_
      refine zb_iload_n (j := 1) dX4_isRight_21 rfl rfl ?_
      refine zb_cVp (As := [(0, v1_2)]) (As' := [(0, v1_2)]) (st := []) dX4_isRight_22 lk_X4_42 gd_X4_countNamesakes rfl rfl i_0 ⟨_, rfl, rfl⟩ h hW hF (zb_aR i_0 (zb_aI zb_a0)) (Nat.le_refl _) (Nat.le_of_ble_eq_true rfl) (fun r22 h => ?_)
      show zb_WP _ _ _ _ [(0, r22)] _ _ _ _
      refine zb_if_eq (tgt := 30) dX4_isRight_25 (by decide) (fun c12 => ?_) (fun c12 => ?_)
      · have h := h.1 c12
        exact hJ30 hF h
      · have h := h.2 c12
        refine zb_iconst dX4_isRight_28 (zb_inIc rfl) ?_
        exact zb_rZ dX4_isRight_29 rfl hF (by decide) ⟨rfl, h⟩
theorem dX4_countNamesakes_0 : decode cX4_countNamesakes 0 = .ok (.iconst 0, 1) := by decide +kernel
theorem dX4_countNamesakes_1 : decode cX4_countNamesakes 1 = .ok (.istore_n 2, 1) := by decide +kernel
theorem dX4_countNamesakes_2 : decode cX4_countNamesakes 2 = .ok (.iconst 0, 1) := by decide +kernel
theorem dX4_countNamesakes_3 : decode cX4_countNamesakes 3 = .ok (.istore_n 3, 1) := by decide +kernel
theorem dX4_countNamesakes_4 : decode cX4_countNamesakes 4 = .ok (.iload_n 3, 1) := by decide +kernel
theorem dX4_countNamesakes_5 : decode cX4_countNamesakes 5 = .ok (.aload_n 0, 1) := by decide +kernel
theorem dX4_countNamesakes_6 : decode cX4_countNamesakes 6 = .ok (.getfield 27, 3) := by decide +kernel
theorem dX4_countNamesakes_9 : decode cX4_countNamesakes 9 = .ok (.if_icmp .ge 40, 3) := by decide +kernel
theorem dX4_countNamesakes_12 : decode cX4_countNamesakes 12 = .ok (.iload_n 3, 1) := by decide +kernel
theorem dX4_countNamesakes_13 : decode cX4_countNamesakes 13 = .ok (.iload_n 1, 1) := by decide +kernel
theorem dX4_countNamesakes_14 : decode cX4_countNamesakes 14 = .ok (.if_icmp .eq 29, 3) := by decide +kernel
theorem dX4_countNamesakes_17 : decode cX4_countNamesakes 17 = .ok (.aload_n 0, 1) := by decide +kernel
theorem dX4_countNamesakes_18 : decode cX4_countNamesakes 18 = .ok (.iload_n 3, 1) := by decide +kernel
theorem dX4_countNamesakes_19 : decode cX4_countNamesakes 19 = .ok (.invokevirtual 39, 3) := by decide +kernel
theorem dX4_countNamesakes_22 : decode cX4_countNamesakes 22 = .ok (.ifCond .eq 21, 3) := by decide +kernel
theorem dX4_countNamesakes_25 : decode cX4_countNamesakes 25 = .ok (.aload_n 0, 1) := by decide +kernel
theorem dX4_countNamesakes_26 : decode cX4_countNamesakes 26 = .ok (.getfield 18, 3) := by decide +kernel
theorem dX4_countNamesakes_29 : decode cX4_countNamesakes 29 = .ok (.iload_n 3, 1) := by decide +kernel
theorem dX4_countNamesakes_30 : decode cX4_countNamesakes 30 = .ok (.iaload, 1) := by decide +kernel
theorem dX4_countNamesakes_31 : decode cX4_countNamesakes 31 = .ok (.aload_n 0, 1) := by decide +kernel
theorem dX4_countNamesakes_32 : decode cX4_countNamesakes 32 = .ok (.getfield 18, 3) := by decide +kernel
theorem dX4_countNamesakes_35 : decode cX4_countNamesakes 35 = .ok (.iload_n 1, 1) := by decide +kernel
theorem dX4_countNamesakes_36 : decode cX4_countNamesakes 36 = .ok (.iaload, 1) := by decide +kernel
theorem dX4_countNamesakes_37 : decode cX4_countNamesakes 37 = .ok (.if_icmp .ne 6, 3) := by decide +kernel
theorem dX4_countNamesakes_40 : decode cX4_countNamesakes 40 = .ok (.iinc 2 1, 3) := by decide +kernel
theorem dX4_countNamesakes_43 : decode cX4_countNamesakes 43 = .ok (.iinc 3 1, 3) := by decide +kernel
theorem dX4_countNamesakes_46 : decode cX4_countNamesakes 46 = .ok (.goto (-42), 3) := by decide +kernel
theorem dX4_countNamesakes_49 : decode cX4_countNamesakes 49 = .ok (.iload_n 2, 1) := by decide +kernel
theorem dX4_countNamesakes_50 : decode cX4_countNamesakes 50 = .ok (.ireturn, 1) := by decide +kernel
def PL_X4_countNamesakes_4 (d : Nat) (E : zb_E) (x0 : Int) (x1 : Int) (m : zb_M) (Q : Int → Prop)  (v2_4 : Int) (v3_4 : Int) : Prop :=
  ∀ X4 : Int → Int → Prop, (∀ (v2_4 : Int) (v3_4 : Int), (((m x0 0) ≤ v3_4 → Q v2_4) ∧ (¬ (m x0 0) ≤ v3_4 → (v3_4 = x1 → (zb_inI (v3_4 + 1)) ∧ (X4 v2_4 (v3_4 + 1))) ∧ (¬ v3_4 = x1 → zb_Tp K_X4_isNamed d [(2, x0), (0, v3_4)] E m (fun r19 => (r19 = 0 → (zb_inI (v3_4 + 1)) ∧ (X4 v2_4 (v3_4 + 1))) ∧ (¬ r19 = 0 → (0 ≤ v3_4 ∧ v3_4 < 12) ∧ ((0 ≤ x1 ∧ x1 < 12) ∧ (((m (E.2 x0 3) v3_4) = (m (E.2 x0 3) x1) → (zb_inI (v2_4 + 1)) ∧ ((zb_inI (v3_4 + 1)) ∧ (X4 (v2_4 + 1) (v3_4 + 1)))) ∧ (¬ (m (E.2 x0 3) v3_4) = (m (E.2 x0 3) x1) → (zb_inI (v3_4 + 1)) ∧ (X4 v2_4 (v3_4 + 1)))))))))) → X4 v2_4 v3_4) → X4 v2_4 v3_4
def PM_X4_countNamesakes (d : Nat) (E : zb_E) (x0 : Int) (x1 : Int) (m : zb_M) (Q : Int → Prop) : Prop :=
  PL_X4_countNamesakes_4 d E x0 x1 m Q 0 0
set_option maxRecDepth 100000 in
set_option maxHeartbeats 4000000 in
theorem w_X4_countNamesakes {d : Nat} {E : zb_E} {x0 x1 : Int} {m : zb_M} {Q : Int → Prop} (h : PM_X4_countNamesakes d E x0 x1 m Q) : zb_Tp K_X4_countNamesakes (d + 1) [(2, x0), (0, x1)] E m Q := by
  unfold PM_X4_countNamesakes at h
  refine zb_T_in gd_X4_countNamesakes rfl rfl (fun hW hA G C hF => ?_)
  have i_0 : zb_is E.1 x0 4 := zb_aH hA (by decide)
  show zb_WP _ _ 0 [(0, (2, x0)), (1, (0, x1))] [] _ _ _ _
  refine zb_iconst dX4_countNamesakes_0 (zb_inIc rfl) ?_
  refine zb_istore_n (L' := [(2, (0, 0)), (0, (2, x0)), (1, (0, x1))]) dX4_countNamesakes_1 rfl (by decide) rfl ?_
  refine zb_iconst dX4_countNamesakes_2 (zb_inIc rfl) ?_
  refine zb_istore_n (L' := [(3, (0, 0)), (2, (0, 0)), (0, (2, x0)), (1, (0, x1))]) dX4_countNamesakes_3 rfl (by decide) rfl ?_
  refine zb_sub (L' := [(0, (2, x0)), (1, (0, x1)), (2, (0, 0)), (3, (0, 0))]) [2, 3, 1, 0] rfl ?_
  unfold PL_X4_countNamesakes_4 at h
  obtain ⟨X4, hX4⟩ : ∃ X : Int → Int → Prop, ∀ (v2_4 : Int) (v3_4 : Int), (X v2_4 v3_4 ↔ (zb_FIN E m → zb_WP (G, C, d + 1, 0, 0, zb_q E (fun r m' => m' = m ∧ Q r)) F_X4_countNamesakes 4 [(0, (2, x0)), (1, (0, x1)), (2, (0, v2_4)), (3, (0, v3_4))] [] E.1 m 0 0)) := ⟨fun v2_4 v3_4 => zb_FIN E m → zb_WP (G, C, d + 1, 0, 0, zb_q E (fun r m' => m' = m ∧ Q r)) F_X4_countNamesakes 4 [(0, (2, x0)), (1, (0, x1)), (2, (0, v2_4)), (3, (0, v3_4))] [] E.1 m 0 0, fun _ _ => Iff.rfl⟩
  refine (hX4 _ _).mp (h X4 (fun v2_4 v3_4 h => (hX4 _ _).mpr (fun hF => ?_))) hF
  refine zb_iload_n (j := 3) dX4_countNamesakes_4 rfl rfl ?_
  refine zb_aload_n (j := 0) dX4_countNamesakes_5 rfl rfl ?_
  refine zb_gI 0 dX4_countNamesakes_6 fl_X4_27 i_0 rfl rfl ?_
  refine zb_icmp_ge (tgt := 49) dX4_countNamesakes_9 (by decide) (fun c1 => ?_) (fun c1 => ?_)
  · have h := h.1 c1
    refine zb_iload_n (j := 2) dX4_countNamesakes_49 rfl rfl ?_
    exact zb_rI dX4_countNamesakes_50 rfl hF ⟨rfl, h⟩
  · have h := h.2 c1
    refine zb_iload_n (j := 3) dX4_countNamesakes_12 rfl rfl ?_
    refine zb_iload_n (j := 1) dX4_countNamesakes_13 rfl rfl ?_
    refine zb_icmp_eq (tgt := 43) dX4_countNamesakes_14 (by decide) (fun c2 => ?_) (fun c2 => ?_)
    · have h := h.1 c2
      obtain ⟨o3, h⟩ := h
      refine zb_iinc (j := 3) (L' := [(3, (0, (v3_4 + 1))), (0, (2, x0)), (1, (0, x1)), (2, (0, v2_4))]) dX4_countNamesakes_43 rfl o3 (by decide) rfl ?_
      refine zb_goto (tgt := 4) dX4_countNamesakes_46 (by decide) ?_
      refine zb_sub (L' := [(0, (2, x0)), (1, (0, x1)), (2, (0, v2_4)), (3, (0, (v3_4 + 1)))]) [1, 2, 3, 0] rfl ?_
      exact (hX4 _ _).mp h hF
    · have h := h.2 c2
      refine zb_aload_n (j := 0) dX4_countNamesakes_17 rfl rfl ?_
      refine zb_iload_n (j := 3) dX4_countNamesakes_18 rfl rfl ?_
      refine zb_cVp (As := [(0, v3_4)]) (As' := [(0, v3_4)]) (st := []) dX4_countNamesakes_19 lk_X4_39 gd_X4_isNamed rfl rfl i_0 ⟨_, rfl, rfl⟩ h hW hF (zb_aR i_0 (zb_aI zb_a0)) (Nat.le_refl _) (Nat.le_of_ble_eq_true rfl) (fun r19 h => ?_)
      show zb_WP _ _ _ _ [(0, r19)] _ _ _ _
      refine zb_if_eq (tgt := 43) dX4_countNamesakes_22 (by decide) (fun c4 => ?_) (fun c4 => ?_)
      · have h := h.1 c4
        obtain ⟨o5, h⟩ := h
        refine zb_iinc (j := 3) (L' := [(3, (0, (v3_4 + 1))), (0, (2, x0)), (1, (0, x1)), (2, (0, v2_4))]) dX4_countNamesakes_43 rfl o5 (by decide) rfl ?_
        refine zb_goto (tgt := 4) dX4_countNamesakes_46 (by decide) ?_
        refine zb_sub (L' := [(0, (2, x0)), (1, (0, x1)), (2, (0, v2_4)), (3, (0, (v3_4 + 1)))]) [1, 2, 3, 0] rfl ?_
        exact (hX4 _ _).mp h hF
      · have h := h.2 c4
        refine zb_aload_n (j := 0) dX4_countNamesakes_25 rfl rfl ?_
        refine zb_gFa 3 dX4_countNamesakes_26 fl_X4_18 i_0 hW hF rfl rfl rfl (by decide) rfl 12 rfl (fun i6 l7 => ?_)
        refine zb_iload_n (j := 3) dX4_countNamesakes_29 rfl rfl ?_
        obtain ⟨o8, h⟩ := h
        refine zb_lI dX4_countNamesakes_30 i6 l7 o8.1 o8.2 ?_
        refine zb_aload_n (j := 0) dX4_countNamesakes_31 rfl rfl ?_
        refine zb_gFa 3 dX4_countNamesakes_32 fl_X4_18 i_0 hW hF rfl rfl rfl (by decide) rfl 12 rfl (fun i9 l10 => ?_)
        refine zb_iload_n (j := 1) dX4_countNamesakes_35 rfl rfl ?_
        obtain ⟨o11, h⟩ := h
        refine zb_lI dX4_countNamesakes_36 i9 l10 o11.1 o11.2 ?_
        refine zb_icmp_ne (tgt := 43) dX4_countNamesakes_37 (by decide) (fun c12 => ?_) (fun c12 => ?_)
        · have h := h.2 c12
          obtain ⟨o13, h⟩ := h
          refine zb_iinc (j := 3) (L' := [(3, (0, (v3_4 + 1))), (0, (2, x0)), (1, (0, x1)), (2, (0, v2_4))]) dX4_countNamesakes_43 rfl o13 (by decide) rfl ?_
          refine zb_goto (tgt := 4) dX4_countNamesakes_46 (by decide) ?_
          refine zb_sub (L' := [(0, (2, x0)), (1, (0, x1)), (2, (0, v2_4)), (3, (0, (v3_4 + 1)))]) [1, 2, 3, 0] rfl ?_
          exact (hX4 _ _).mp h hF
        · have h := h.1 c12
          obtain ⟨o14, h⟩ := h
          refine zb_iinc (j := 2) (L' := [(2, (0, (v2_4 + 1))), (0, (2, x0)), (1, (0, x1)), (3, (0, v3_4))]) dX4_countNamesakes_40 rfl o14 (by decide) rfl ?_
          obtain ⟨o15, h⟩ := h
          refine zb_iinc (j := 3) (L' := [(3, (0, (v3_4 + 1))), (2, (0, (v2_4 + 1))), (0, (2, x0)), (1, (0, x1))]) dX4_countNamesakes_43 rfl o15 (by decide) rfl ?_
          refine zb_goto (tgt := 4) dX4_countNamesakes_46 (by decide) ?_
          refine zb_sub (L' := [(0, (2, x0)), (1, (0, x1)), (2, (0, (v2_4 + 1))), (3, (0, (v3_4 + 1)))]) [2, 3, 1, 0] rfl ?_
          exact (hX4 _ _).mp h hF
theorem dX4_lengthenRows_0 : decode cX4_lengthenRows 0 = .ok (.iconst 0, 1) := by decide +kernel
theorem dX4_lengthenRows_1 : decode cX4_lengthenRows 1 = .ok (.istore_n 1, 1) := by decide +kernel
theorem dX4_lengthenRows_2 : decode cX4_lengthenRows 2 = .ok (.iload_n 1, 1) := by decide +kernel
theorem dX4_lengthenRows_3 : decode cX4_lengthenRows 3 = .ok (.aload_n 0, 1) := by decide +kernel
theorem dX4_lengthenRows_4 : decode cX4_lengthenRows 4 = .ok (.getfield 27, 3) := by decide +kernel
theorem dX4_lengthenRows_7 : decode cX4_lengthenRows 7 = .ok (.if_icmp .ge 25, 3) := by decide +kernel
theorem dX4_lengthenRows_10 : decode cX4_lengthenRows 10 = .ok (.aload_n 0, 1) := by decide +kernel
theorem dX4_lengthenRows_11 : decode cX4_lengthenRows 11 = .ok (.iload_n 1, 1) := by decide +kernel
theorem dX4_lengthenRows_12 : decode cX4_lengthenRows 12 = .ok (.invokevirtual 46, 3) := by decide +kernel
theorem dX4_lengthenRows_15 : decode cX4_lengthenRows 15 = .ok (.ifCond .eq 11, 3) := by decide +kernel
theorem dX4_lengthenRows_18 : decode cX4_lengthenRows 18 = .ok (.aload_n 0, 1) := by decide +kernel
theorem dX4_lengthenRows_19 : decode cX4_lengthenRows 19 = .ok (.getfield 21, 3) := by decide +kernel
theorem dX4_lengthenRows_22 : decode cX4_lengthenRows 22 = .ok (.iload_n 1, 1) := by decide +kernel
theorem dX4_lengthenRows_23 : decode cX4_lengthenRows 23 = .ok (.bipush 12, 2) := by decide +kernel
theorem dX4_lengthenRows_25 : decode cX4_lengthenRows 25 = .ok (.iastore, 1) := by decide +kernel
theorem dX4_lengthenRows_26 : decode cX4_lengthenRows 26 = .ok (.iinc 1 1, 3) := by decide +kernel
theorem dX4_lengthenRows_29 : decode cX4_lengthenRows 29 = .ok (.goto (-27), 3) := by decide +kernel
theorem dX4_lengthenRows_32 : decode cX4_lengthenRows 32 = .ok (.return_, 1) := by decide +kernel
def PL_X4_lengthenRows_2 (d : Nat) (E : zb_E) (x0 : Int) (Q : Int → zb_M → Prop)  (v1_2 : Int) (m2l : zb_M) : Prop :=
  ∀ X2 : Int → zb_M → Prop, (∀ (v1_2 : Int) (m2l : zb_M), (((m2l x0 0) ≤ v1_2 → Q 0 m2l) ∧ (¬ (m2l x0 0) ≤ v1_2 → zb_Tp K_X4_hasRow d [(2, x0), (0, v1_2)] E m2l (fun r12 => (r12 = 0 → (zb_inI (v1_2 + 1)) ∧ (X2 (v1_2 + 1) m2l)) ∧ (¬ r12 = 0 → (0 ≤ v1_2 ∧ v1_2 < 12) ∧ (∀ m25, m25 = zb_up m2l (E.2 x0 4) v1_2 12 → ((zb_inI (v1_2 + 1)) ∧ (X2 (v1_2 + 1) m25))))))) → X2 v1_2 m2l) → X2 v1_2 m2l
def PM_X4_lengthenRows (d : Nat) (E : zb_E) (x0 : Int) (m : zb_M) (Q : Int → zb_M → Prop) : Prop :=
  PL_X4_lengthenRows_2 d E x0 Q 0 m
set_option maxRecDepth 100000 in
set_option maxHeartbeats 4000000 in
theorem w_X4_lengthenRows {d : Nat} {E : zb_E} {x0 : Int} {m : zb_M} {Q : Int → zb_M → Prop} (h : PM_X4_lengthenRows d E x0 m Q) : zb_T K_X4_lengthenRows (d + 1) [(2, x0)] E m Q := by
  unfold PM_X4_lengthenRows at h
  refine zb_T_in gd_X4_lengthenRows rfl rfl (fun hW hA G C hF => ?_)
  have i_0 : zb_is E.1 x0 4 := zb_aH hA (by decide)
  show zb_WP _ _ 0 [(0, (2, x0))] [] _ _ _ _
  refine zb_iconst dX4_lengthenRows_0 (zb_inIc rfl) ?_
  refine zb_istore_n (L' := [(1, (0, 0)), (0, (2, x0))]) dX4_lengthenRows_1 rfl (by decide) rfl ?_
  refine zb_sub (L' := [(0, (2, x0)), (1, (0, 0))]) [1, 0] rfl ?_
  unfold PL_X4_lengthenRows_2 at h
  obtain ⟨X2, hX2⟩ : ∃ X : Int → zb_M → Prop, ∀ (v1_2 : Int) (m2l : zb_M), (X v1_2 m2l ↔ (zb_FIN E m2l → zb_WP (G, C, d + 1, 0, 0, zb_q E Q) F_X4_lengthenRows 2 [(0, (2, x0)), (1, (0, v1_2))] [] E.1 m2l 0 0)) := ⟨fun v1_2 m2l => zb_FIN E m2l → zb_WP (G, C, d + 1, 0, 0, zb_q E Q) F_X4_lengthenRows 2 [(0, (2, x0)), (1, (0, v1_2))] [] E.1 m2l 0 0, fun _ _ => Iff.rfl⟩
  refine (hX2 _ _).mp (h X2 (fun v1_2 m2l h => (hX2 _ _).mpr (fun hF => ?_))) hF
  refine zb_iload_n (j := 1) dX4_lengthenRows_2 rfl rfl ?_
  refine zb_aload_n (j := 0) dX4_lengthenRows_3 rfl rfl ?_
  refine zb_gI 0 dX4_lengthenRows_4 fl_X4_27 i_0 rfl rfl ?_
  refine zb_icmp_ge (tgt := 32) dX4_lengthenRows_7 (by decide) (fun c1 => ?_) (fun c1 => ?_)
  · have h := h.1 c1
    exact zb_rV dX4_lengthenRows_32 rfl hF h
  · have h := h.2 c1
    refine zb_aload_n (j := 0) dX4_lengthenRows_10 rfl rfl ?_
    refine zb_iload_n (j := 1) dX4_lengthenRows_11 rfl rfl ?_
    refine zb_cVp (As := [(0, v1_2)]) (As' := [(0, v1_2)]) (st := []) dX4_lengthenRows_12 lk_X4_46 gd_X4_hasRow rfl rfl i_0 ⟨_, rfl, rfl⟩ h hW hF (zb_aR i_0 (zb_aI zb_a0)) (Nat.le_refl _) (Nat.le_of_ble_eq_true rfl) (fun r12 h => ?_)
    show zb_WP _ _ _ _ [(0, r12)] _ _ _ _
    refine zb_if_eq (tgt := 26) dX4_lengthenRows_15 (by decide) (fun c2 => ?_) (fun c2 => ?_)
    · have h := h.1 c2
      obtain ⟨o3, h⟩ := h
      refine zb_iinc (j := 1) (L' := [(1, (0, (v1_2 + 1))), (0, (2, x0))]) dX4_lengthenRows_26 rfl o3 (by decide) rfl ?_
      refine zb_goto (tgt := 2) dX4_lengthenRows_29 (by decide) ?_
      refine zb_sub (L' := [(0, (2, x0)), (1, (0, (v1_2 + 1)))]) [1, 0] rfl ?_
      exact (hX2 _ _).mp h hF
    · have h := h.2 c2
      refine zb_aload_n (j := 0) dX4_lengthenRows_18 rfl rfl ?_
      refine zb_gFa 4 dX4_lengthenRows_19 fl_X4_21 i_0 hW hF rfl rfl rfl (by decide) rfl 12 rfl (fun i4 l5 => ?_)
      refine zb_iload_n (j := 1) dX4_lengthenRows_22 rfl rfl ?_
      refine zb_bipush dX4_lengthenRows_23 (by decide) (zb_inIc rfl) ?_
      obtain ⟨o6, h⟩ := h
      refine zb_sI dX4_lengthenRows_25 i4 l5 o6.1 o6.2 hF (fun m25 e25 hF => ?_)
      have h := h m25 e25
      obtain ⟨o7, h⟩ := h
      refine zb_iinc (j := 1) (L' := [(1, (0, (v1_2 + 1))), (0, (2, x0))]) dX4_lengthenRows_26 rfl o7 (by decide) rfl ?_
      refine zb_goto (tgt := 2) dX4_lengthenRows_29 (by decide) ?_
      refine zb_sub (L' := [(0, (2, x0)), (1, (0, (v1_2 + 1)))]) [1, 0] rfl ?_
      exact (hX2 _ _).mp h hF
theorem dX4_exchange_0 : decode cX4_exchange 0 = .ok (.aload_n 0, 1) := by decide +kernel
theorem dX4_exchange_1 : decode cX4_exchange 1 = .ok (.getfield 9, 3) := by decide +kernel
theorem dX4_exchange_4 : decode cX4_exchange 4 = .ok (.iload_n 1, 1) := by decide +kernel
theorem dX4_exchange_5 : decode cX4_exchange 5 = .ok (.iload_n 2, 1) := by decide +kernel
theorem dX4_exchange_6 : decode cX4_exchange 6 = .ok (.invokestatic 49, 3) := by decide +kernel
theorem dX4_exchange_9 : decode cX4_exchange 9 = .ok (.aload_n 0, 1) := by decide +kernel
theorem dX4_exchange_10 : decode cX4_exchange 10 = .ok (.getfield 15, 3) := by decide +kernel
theorem dX4_exchange_13 : decode cX4_exchange 13 = .ok (.iload_n 1, 1) := by decide +kernel
theorem dX4_exchange_14 : decode cX4_exchange 14 = .ok (.iload_n 2, 1) := by decide +kernel
theorem dX4_exchange_15 : decode cX4_exchange 15 = .ok (.invokestatic 49, 3) := by decide +kernel
theorem dX4_exchange_18 : decode cX4_exchange 18 = .ok (.aload_n 0, 1) := by decide +kernel
theorem dX4_exchange_19 : decode cX4_exchange 19 = .ok (.getfield 18, 3) := by decide +kernel
theorem dX4_exchange_22 : decode cX4_exchange 22 = .ok (.iload_n 1, 1) := by decide +kernel
theorem dX4_exchange_23 : decode cX4_exchange 23 = .ok (.iload_n 2, 1) := by decide +kernel
theorem dX4_exchange_24 : decode cX4_exchange 24 = .ok (.invokestatic 49, 3) := by decide +kernel
theorem dX4_exchange_27 : decode cX4_exchange 27 = .ok (.aload_n 0, 1) := by decide +kernel
theorem dX4_exchange_28 : decode cX4_exchange 28 = .ok (.getfield 21, 3) := by decide +kernel
theorem dX4_exchange_31 : decode cX4_exchange 31 = .ok (.iload_n 1, 1) := by decide +kernel
theorem dX4_exchange_32 : decode cX4_exchange 32 = .ok (.iload_n 2, 1) := by decide +kernel
theorem dX4_exchange_33 : decode cX4_exchange 33 = .ok (.invokestatic 49, 3) := by decide +kernel
theorem dX4_exchange_36 : decode cX4_exchange 36 = .ok (.iconst 0, 1) := by decide +kernel
theorem dX4_exchange_37 : decode cX4_exchange 37 = .ok (.istore_n 3, 1) := by decide +kernel
theorem dX4_exchange_38 : decode cX4_exchange 38 = .ok (.iload_n 3, 1) := by decide +kernel
theorem dX4_exchange_39 : decode cX4_exchange 39 = .ok (.bipush 12, 2) := by decide +kernel
theorem dX4_exchange_41 : decode cX4_exchange 41 = .ok (.if_icmp .ge 28, 3) := by decide +kernel
theorem dX4_exchange_44 : decode cX4_exchange 44 = .ok (.aload_n 0, 1) := by decide +kernel
theorem dX4_exchange_45 : decode cX4_exchange 45 = .ok (.getfield 24, 3) := by decide +kernel
theorem dX4_exchange_48 : decode cX4_exchange 48 = .ok (.iload_n 1, 1) := by decide +kernel
theorem dX4_exchange_49 : decode cX4_exchange 49 = .ok (.bipush 12, 2) := by decide +kernel
theorem dX4_exchange_51 : decode cX4_exchange 51 = .ok (.imul, 1) := by decide +kernel
theorem dX4_exchange_52 : decode cX4_exchange 52 = .ok (.iload_n 3, 1) := by decide +kernel
theorem dX4_exchange_53 : decode cX4_exchange 53 = .ok (.iadd, 1) := by decide +kernel
theorem dX4_exchange_54 : decode cX4_exchange 54 = .ok (.iload_n 2, 1) := by decide +kernel
theorem dX4_exchange_55 : decode cX4_exchange 55 = .ok (.bipush 12, 2) := by decide +kernel
theorem dX4_exchange_57 : decode cX4_exchange 57 = .ok (.imul, 1) := by decide +kernel
theorem dX4_exchange_58 : decode cX4_exchange 58 = .ok (.iload_n 3, 1) := by decide +kernel
theorem dX4_exchange_59 : decode cX4_exchange 59 = .ok (.iadd, 1) := by decide +kernel
theorem dX4_exchange_60 : decode cX4_exchange 60 = .ok (.invokestatic 49, 3) := by decide +kernel
theorem dX4_exchange_63 : decode cX4_exchange 63 = .ok (.iinc 3 1, 3) := by decide +kernel
theorem dX4_exchange_66 : decode cX4_exchange 66 = .ok (.goto (-28), 3) := by decide +kernel
theorem dX4_exchange_69 : decode cX4_exchange 69 = .ok (.iconst 0, 1) := by decide +kernel
theorem dX4_exchange_70 : decode cX4_exchange 70 = .ok (.istore_n 3, 1) := by decide +kernel
theorem dX4_exchange_71 : decode cX4_exchange 71 = .ok (.iload_n 3, 1) := by decide +kernel
theorem dX4_exchange_72 : decode cX4_exchange 72 = .ok (.aload_n 0, 1) := by decide +kernel
theorem dX4_exchange_73 : decode cX4_exchange 73 = .ok (.getfield 27, 3) := by decide +kernel
theorem dX4_exchange_76 : decode cX4_exchange 76 = .ok (.if_icmp .ge 28, 3) := by decide +kernel
theorem dX4_exchange_79 : decode cX4_exchange 79 = .ok (.aload_n 0, 1) := by decide +kernel
theorem dX4_exchange_80 : decode cX4_exchange 80 = .ok (.getfield 24, 3) := by decide +kernel
theorem dX4_exchange_83 : decode cX4_exchange 83 = .ok (.iload_n 3, 1) := by decide +kernel
theorem dX4_exchange_84 : decode cX4_exchange 84 = .ok (.bipush 12, 2) := by decide +kernel
theorem dX4_exchange_86 : decode cX4_exchange 86 = .ok (.imul, 1) := by decide +kernel
theorem dX4_exchange_87 : decode cX4_exchange 87 = .ok (.iload_n 1, 1) := by decide +kernel
theorem dX4_exchange_88 : decode cX4_exchange 88 = .ok (.iadd, 1) := by decide +kernel
theorem dX4_exchange_89 : decode cX4_exchange 89 = .ok (.iload_n 3, 1) := by decide +kernel
theorem dX4_exchange_90 : decode cX4_exchange 90 = .ok (.bipush 12, 2) := by decide +kernel
theorem dX4_exchange_92 : decode cX4_exchange 92 = .ok (.imul, 1) := by decide +kernel
theorem dX4_exchange_93 : decode cX4_exchange 93 = .ok (.iload_n 2, 1) := by decide +kernel
theorem dX4_exchange_94 : decode cX4_exchange 94 = .ok (.iadd, 1) := by decide +kernel
theorem dX4_exchange_95 : decode cX4_exchange 95 = .ok (.invokestatic 49, 3) := by decide +kernel
theorem dX4_exchange_98 : decode cX4_exchange 98 = .ok (.iinc 3 1, 3) := by decide +kernel
theorem dX4_exchange_101 : decode cX4_exchange 101 = .ok (.goto (-30), 3) := by decide +kernel
theorem dX4_exchange_104 : decode cX4_exchange 104 = .ok (.return_, 1) := by decide +kernel
def PL_X4_exchange_71 (d : Nat) (E : zb_E) (x0 : Int) (x1 : Int) (x2 : Int) (Q : Int → zb_M → Prop)  (v3_71 : Int) (m71l : zb_M) : Prop :=
  ∀ X71 : Int → zb_M → Prop, (∀ (v3_71 : Int) (m71l : zb_M), (((m71l x0 0) ≤ v3_71 → Q 0 m71l) ∧ (¬ (m71l x0 0) ≤ v3_71 → (zb_inI (v3_71 * 12)) ∧ ((zb_inI ((v3_71 * 12) + x1)) ∧ ((zb_inI ((v3_71 * 12) + x2)) ∧ (zb_T K_X4_exchangeIn d [(2, (E.2 x0 5)), (0, ((v3_71 * 12) + x1)), (0, ((v3_71 * 12) + x2))] E m71l (fun r95 m95 => (zb_inI (v3_71 + 1)) ∧ (X71 (v3_71 + 1) m95))))))) → X71 v3_71 m71l) → X71 v3_71 m71l
def PJ_X4_exchange_69 (d : Nat) (E : zb_E) (x0 : Int) (x1 : Int) (x2 : Int) (Q : Int → zb_M → Prop) (m69j : zb_M) : Prop :=
  PL_X4_exchange_71 d E x0 x1 x2 Q 0 m69j
def PL_X4_exchange_38 (d : Nat) (E : zb_E) (x0 : Int) (x1 : Int) (x2 : Int) (Q : Int → zb_M → Prop) (K69_38 : zb_M → Prop) (v3_38 : Int) (m38l : zb_M) : Prop :=
  ∀ X38 : Int → zb_M → Prop, (∀ (v3_38 : Int) (m38l : zb_M), ((12 ≤ v3_38 → K69_38 m38l) ∧ (¬ 12 ≤ v3_38 → (zb_inI (x1 * 12)) ∧ ((zb_inI ((x1 * 12) + v3_38)) ∧ ((zb_inI (x2 * 12)) ∧ ((zb_inI ((x2 * 12) + v3_38)) ∧ (zb_T K_X4_exchangeIn d [(2, (E.2 x0 5)), (0, ((x1 * 12) + v3_38)), (0, ((x2 * 12) + v3_38))] E m38l (fun r60 m60 => (zb_inI (v3_38 + 1)) ∧ (X38 (v3_38 + 1) m60)))))))) → X38 v3_38 m38l) → X38 v3_38 m38l
def PM_X4_exchange (d : Nat) (E : zb_E) (x0 : Int) (x1 : Int) (x2 : Int) (m : zb_M) (Q : Int → zb_M → Prop) : Prop :=
  zb_T K_X4_exchangeIn d [(2, (E.2 x0 1)), (0, x1), (0, x2)] E m (fun r6 m6 => zb_T K_X4_exchangeIn d [(2, (E.2 x0 2)), (0, x1), (0, x2)] E m6 (fun r15 m15 => zb_T K_X4_exchangeIn d [(2, (E.2 x0 3)), (0, x1), (0, x2)] E m15 (fun r24 m24 => zb_T K_X4_exchangeIn d [(2, (E.2 x0 4)), (0, x1), (0, x2)] E m24 (fun r33 m33 => PL_X4_exchange_38 d E x0 x1 x2 Q (PJ_X4_exchange_69 d E x0 x1 x2 Q) 0 m33))))
set_option maxRecDepth 100000 in
set_option maxHeartbeats 4000000 in
theorem w_X4_exchange {d : Nat} {E : zb_E} {x0 x1 x2 : Int} {m : zb_M} {Q : Int → zb_M → Prop} (h : PM_X4_exchange d E x0 x1 x2 m Q) : zb_T K_X4_exchange (d + 1) [(2, x0), (0, x1), (0, x2)] E m Q := by
  unfold PM_X4_exchange at h
  refine zb_T_in gd_X4_exchange rfl rfl (fun hW hA G C hF => ?_)
  have i_0 : zb_is E.1 x0 4 := zb_aH hA (by decide)
  show zb_WP _ _ 0 [(0, (2, x0)), (1, (0, x1)), (2, (0, x2))] [] _ _ _ _
  refine zb_aload_n (j := 0) dX4_exchange_0 rfl rfl ?_
  refine zb_gFa 1 dX4_exchange_1 fl_X4_9 i_0 hW hF rfl rfl rfl (by decide) rfl 12 rfl (fun i1 l2 => ?_)
  refine zb_iload_n (j := 1) dX4_exchange_4 rfl rfl ?_
  refine zb_iload_n (j := 2) dX4_exchange_5 rfl rfl ?_
  refine zb_cS (As := [(2, (E.2 x0 1)), (0, x1), (0, x2)]) (As' := [(0, x2), (0, x1), (2, (E.2 x0 1))]) (st := []) dX4_exchange_6 lk_X4_49 gd_X4_exchangeIn rfl rfl h hW hF (zb_aR i1 (zb_aI (zb_aI zb_a0))) (Nat.le_refl _) (Nat.le_of_ble_eq_true rfl) (fun r6 m6 hF h => ?_)
  show zb_WP _ _ _ _ [] _ _ _ _
  refine zb_aload_n (j := 0) dX4_exchange_9 rfl rfl ?_
  refine zb_gFa 2 dX4_exchange_10 fl_X4_15 i_0 hW hF rfl rfl rfl (by decide) rfl 12 rfl (fun i3 l4 => ?_)
  refine zb_iload_n (j := 1) dX4_exchange_13 rfl rfl ?_
  refine zb_iload_n (j := 2) dX4_exchange_14 rfl rfl ?_
  refine zb_cS (As := [(2, (E.2 x0 2)), (0, x1), (0, x2)]) (As' := [(0, x2), (0, x1), (2, (E.2 x0 2))]) (st := []) dX4_exchange_15 lk_X4_49 gd_X4_exchangeIn rfl rfl h hW hF (zb_aR i3 (zb_aI (zb_aI zb_a0))) (Nat.le_refl _) (Nat.le_of_ble_eq_true rfl) (fun r15 m15 hF h => ?_)
  show zb_WP _ _ _ _ [] _ _ _ _
  refine zb_aload_n (j := 0) dX4_exchange_18 rfl rfl ?_
  refine zb_gFa 3 dX4_exchange_19 fl_X4_18 i_0 hW hF rfl rfl rfl (by decide) rfl 12 rfl (fun i5 l6 => ?_)
  refine zb_iload_n (j := 1) dX4_exchange_22 rfl rfl ?_
  refine zb_iload_n (j := 2) dX4_exchange_23 rfl rfl ?_
  refine zb_cS (As := [(2, (E.2 x0 3)), (0, x1), (0, x2)]) (As' := [(0, x2), (0, x1), (2, (E.2 x0 3))]) (st := []) dX4_exchange_24 lk_X4_49 gd_X4_exchangeIn rfl rfl h hW hF (zb_aR i5 (zb_aI (zb_aI zb_a0))) (Nat.le_refl _) (Nat.le_of_ble_eq_true rfl) (fun r24 m24 hF h => ?_)
  show zb_WP _ _ _ _ [] _ _ _ _
  refine zb_aload_n (j := 0) dX4_exchange_27 rfl rfl ?_
  refine zb_gFa 4 dX4_exchange_28 fl_X4_21 i_0 hW hF rfl rfl rfl (by decide) rfl 12 rfl (fun i7 l8 => ?_)
  refine zb_iload_n (j := 1) dX4_exchange_31 rfl rfl ?_
  refine zb_iload_n (j := 2) dX4_exchange_32 rfl rfl ?_
  refine zb_cS (As := [(2, (E.2 x0 4)), (0, x1), (0, x2)]) (As' := [(0, x2), (0, x1), (2, (E.2 x0 4))]) (st := []) dX4_exchange_33 lk_X4_49 gd_X4_exchangeIn rfl rfl h hW hF (zb_aR i7 (zb_aI (zb_aI zb_a0))) (Nat.le_refl _) (Nat.le_of_ble_eq_true rfl) (fun r33 m33 hF h => ?_)
  show zb_WP _ _ _ _ [] _ _ _ _
  refine zb_iconst dX4_exchange_36 (zb_inIc rfl) ?_
  refine zb_istore_n (L' := [(3, (0, 0)), (0, (2, x0)), (1, (0, x1)), (2, (0, x2))]) dX4_exchange_37 rfl (by decide) rfl ?_
  refine zb_sub (L' := [(0, (2, x0)), (1, (0, x1)), (2, (0, x2)), (3, (0, 0))]) [1, 2, 3, 0] rfl ?_
  have hJ69 : ∀ (m69j : zb_M), zb_FIN E m69j → PJ_X4_exchange_69 d E x0 x1 x2 Q m69j → zb_WP (G, C, d + 1, 0, 0, zb_q E Q) F_X4_exchange 69 [(0, (2, x0)), (1, (0, x1)), (2, (0, x2))] [] E.1 m69j 0 0 := by
    intro m69j hF h
    unfold PJ_X4_exchange_69 at h
    refine zb_iconst dX4_exchange_69 (zb_inIc rfl) ?_
    refine zb_istore_n (L' := [(3, (0, 0)), (0, (2, x0)), (1, (0, x1)), (2, (0, x2))]) dX4_exchange_70 rfl (by decide) rfl ?_
    refine zb_sub (L' := [(0, (2, x0)), (1, (0, x1)), (2, (0, x2)), (3, (0, 0))]) [1, 2, 3, 0] rfl ?_
    unfold PL_X4_exchange_71 at h
    obtain ⟨X71, hX71⟩ : ∃ X : Int → zb_M → Prop, ∀ (v3_71 : Int) (m71l : zb_M), (X v3_71 m71l ↔ (zb_FIN E m71l → zb_WP (G, C, d + 1, 0, 0, zb_q E Q) F_X4_exchange 71 [(0, (2, x0)), (1, (0, x1)), (2, (0, x2)), (3, (0, v3_71))] [] E.1 m71l 0 0)) := ⟨fun v3_71 m71l => zb_FIN E m71l → zb_WP (G, C, d + 1, 0, 0, zb_q E Q) F_X4_exchange 71 [(0, (2, x0)), (1, (0, x1)), (2, (0, x2)), (3, (0, v3_71))] [] E.1 m71l 0 0, fun _ _ => Iff.rfl⟩
    refine (hX71 _ _).mp (h X71 (fun v3_71 m71l h => (hX71 _ _).mpr (fun hF => ?_))) hF
    refine zb_iload_n (j := 3) dX4_exchange_71 rfl rfl ?_
    refine zb_aload_n (j := 0) dX4_exchange_72 rfl rfl ?_
    refine zb_gI 0 dX4_exchange_73 fl_X4_27 i_0 rfl rfl ?_
    refine zb_icmp_ge (tgt := 104) dX4_exchange_76 (by decide) (fun c9 => ?_) (fun c9 => ?_)
    · have h := h.1 c9
      exact zb_rV dX4_exchange_104 rfl hF h
    · have h := h.2 c9
      refine zb_aload_n (j := 0) dX4_exchange_79 rfl rfl ?_
      refine zb_gFa 5 dX4_exchange_80 fl_X4_24 i_0 hW hF rfl rfl rfl (by decide) rfl 144 rfl (fun i10 l11 => ?_)
      refine zb_iload_n (j := 3) dX4_exchange_83 rfl rfl ?_
      refine zb_bipush dX4_exchange_84 (by decide) (zb_inIc rfl) ?_
      obtain ⟨o12, h⟩ := h
      refine zb_imul dX4_exchange_86 o12 ?_
      refine zb_iload_n (j := 1) dX4_exchange_87 rfl rfl ?_
      obtain ⟨o13, h⟩ := h
      refine zb_iadd dX4_exchange_88 o13 ?_
      refine zb_iload_n (j := 3) dX4_exchange_89 rfl rfl ?_
      refine zb_bipush dX4_exchange_90 (by decide) (zb_inIc rfl) ?_
      refine zb_imul dX4_exchange_92 o12 ?_
      refine zb_iload_n (j := 2) dX4_exchange_93 rfl rfl ?_
      obtain ⟨o14, h⟩ := h
      refine zb_iadd dX4_exchange_94 o14 ?_
      refine zb_cS (As := [(2, (E.2 x0 5)), (0, ((v3_71 * 12) + x1)), (0, ((v3_71 * 12) + x2))]) (As' := [(0, ((v3_71 * 12) + x2)), (0, ((v3_71 * 12) + x1)), (2, (E.2 x0 5))]) (st := []) dX4_exchange_95 lk_X4_49 gd_X4_exchangeIn rfl rfl h hW hF (zb_aR i10 (zb_aI (zb_aI zb_a0))) (Nat.le_refl _) (Nat.le_of_ble_eq_true rfl) (fun r95 m95 hF h => ?_)
      show zb_WP _ _ _ _ [] _ _ _ _
      obtain ⟨o15, h⟩ := h
      refine zb_iinc (j := 3) (L' := [(3, (0, (v3_71 + 1))), (0, (2, x0)), (1, (0, x1)), (2, (0, x2))]) dX4_exchange_98 rfl o15 (by decide) rfl ?_
      refine zb_goto (tgt := 71) dX4_exchange_101 (by decide) ?_
      refine zb_sub (L' := [(0, (2, x0)), (1, (0, x1)), (2, (0, x2)), (3, (0, (v3_71 + 1)))]) [1, 2, 3, 0] rfl ?_
      exact (hX71 _ _).mp h hF
  unfold PL_X4_exchange_38 at h
  obtain ⟨X38, hX38⟩ : ∃ X : Int → zb_M → Prop, ∀ (v3_38 : Int) (m38l : zb_M), (X v3_38 m38l ↔ (zb_FIN E m38l → zb_WP (G, C, d + 1, 0, 0, zb_q E Q) F_X4_exchange 38 [(0, (2, x0)), (1, (0, x1)), (2, (0, x2)), (3, (0, v3_38))] [] E.1 m38l 0 0)) := ⟨fun v3_38 m38l => zb_FIN E m38l → zb_WP (G, C, d + 1, 0, 0, zb_q E Q) F_X4_exchange 38 [(0, (2, x0)), (1, (0, x1)), (2, (0, x2)), (3, (0, v3_38))] [] E.1 m38l 0 0, fun _ _ => Iff.rfl⟩
  refine (hX38 _ _).mp (h X38 (fun v3_38 m38l h => (hX38 _ _).mpr (fun hF => ?_))) hF
  refine zb_iload_n (j := 3) dX4_exchange_38 rfl rfl ?_
  refine zb_bipush dX4_exchange_39 (by decide) (zb_inIc rfl) ?_
  refine zb_icmp_ge (tgt := 69) dX4_exchange_41 (by decide) (fun c16 => ?_) (fun c16 => ?_)
  · have h := h.1 c16
    refine zb_sub (L' := [(0, (2, x0)), (1, (0, x1)), (2, (0, x2))]) [0, 1, 2] rfl ?_
    exact hJ69 _ hF h
  · have h := h.2 c16
    refine zb_aload_n (j := 0) dX4_exchange_44 rfl rfl ?_
    refine zb_gFa 5 dX4_exchange_45 fl_X4_24 i_0 hW hF rfl rfl rfl (by decide) rfl 144 rfl (fun i17 l18 => ?_)
    refine zb_iload_n (j := 1) dX4_exchange_48 rfl rfl ?_
    refine zb_bipush dX4_exchange_49 (by decide) (zb_inIc rfl) ?_
    obtain ⟨o19, h⟩ := h
    refine zb_imul dX4_exchange_51 o19 ?_
    refine zb_iload_n (j := 3) dX4_exchange_52 rfl rfl ?_
    obtain ⟨o20, h⟩ := h
    refine zb_iadd dX4_exchange_53 o20 ?_
    refine zb_iload_n (j := 2) dX4_exchange_54 rfl rfl ?_
    refine zb_bipush dX4_exchange_55 (by decide) (zb_inIc rfl) ?_
    obtain ⟨o21, h⟩ := h
    refine zb_imul dX4_exchange_57 o21 ?_
    refine zb_iload_n (j := 3) dX4_exchange_58 rfl rfl ?_
    obtain ⟨o22, h⟩ := h
    refine zb_iadd dX4_exchange_59 o22 ?_
    refine zb_cS (As := [(2, (E.2 x0 5)), (0, ((x1 * 12) + v3_38)), (0, ((x2 * 12) + v3_38))]) (As' := [(0, ((x2 * 12) + v3_38)), (0, ((x1 * 12) + v3_38)), (2, (E.2 x0 5))]) (st := []) dX4_exchange_60 lk_X4_49 gd_X4_exchangeIn rfl rfl h hW hF (zb_aR i17 (zb_aI (zb_aI zb_a0))) (Nat.le_refl _) (Nat.le_of_ble_eq_true rfl) (fun r60 m60 hF h => ?_)
    show zb_WP _ _ _ _ [] _ _ _ _
    obtain ⟨o23, h⟩ := h
    refine zb_iinc (j := 3) (L' := [(3, (0, (v3_38 + 1))), (0, (2, x0)), (1, (0, x1)), (2, (0, x2))]) dX4_exchange_63 rfl o23 (by decide) rfl ?_
    refine zb_goto (tgt := 38) dX4_exchange_66 (by decide) ?_
    refine zb_sub (L' := [(0, (2, x0)), (1, (0, x1)), (2, (0, x2)), (3, (0, (v3_38 + 1)))]) [1, 2, 3, 0] rfl ?_
    exact (hX38 _ _).mp h hF
theorem dX4_exchangeIn_0 : decode cX4_exchangeIn 0 = .ok (.aload_n 0, 1) := by decide +kernel
theorem dX4_exchangeIn_1 : decode cX4_exchangeIn 1 = .ok (.iload_n 1, 1) := by decide +kernel
theorem dX4_exchangeIn_2 : decode cX4_exchangeIn 2 = .ok (.iaload, 1) := by decide +kernel
theorem dX4_exchangeIn_3 : decode cX4_exchangeIn 3 = .ok (.istore_n 3, 1) := by decide +kernel
theorem dX4_exchangeIn_4 : decode cX4_exchangeIn 4 = .ok (.aload_n 0, 1) := by decide +kernel
theorem dX4_exchangeIn_5 : decode cX4_exchangeIn 5 = .ok (.iload_n 1, 1) := by decide +kernel
theorem dX4_exchangeIn_6 : decode cX4_exchangeIn 6 = .ok (.aload_n 0, 1) := by decide +kernel
theorem dX4_exchangeIn_7 : decode cX4_exchangeIn 7 = .ok (.iload_n 2, 1) := by decide +kernel
theorem dX4_exchangeIn_8 : decode cX4_exchangeIn 8 = .ok (.iaload, 1) := by decide +kernel
theorem dX4_exchangeIn_9 : decode cX4_exchangeIn 9 = .ok (.iastore, 1) := by decide +kernel
theorem dX4_exchangeIn_10 : decode cX4_exchangeIn 10 = .ok (.aload_n 0, 1) := by decide +kernel
theorem dX4_exchangeIn_11 : decode cX4_exchangeIn 11 = .ok (.iload_n 2, 1) := by decide +kernel
theorem dX4_exchangeIn_12 : decode cX4_exchangeIn 12 = .ok (.iload_n 3, 1) := by decide +kernel
theorem dX4_exchangeIn_13 : decode cX4_exchangeIn 13 = .ok (.iastore, 1) := by decide +kernel
theorem dX4_exchangeIn_14 : decode cX4_exchangeIn 14 = .ok (.return_, 1) := by decide +kernel
def PM_X4_exchangeIn (d : Nat) (E : zb_E) (x0 : Int) (x1 : Int) (x2 : Int) (m : zb_M) (Q : Int → zb_M → Prop) : Prop :=
  (0 ≤ x1 ∧ x1 < (zb_len E.1 x0)) ∧ ((0 ≤ x2 ∧ x2 < (zb_len E.1 x0)) ∧ (∀ m9, m9 = zb_up m x0 x1 (m x0 x2) → (∀ m13, m13 = zb_up m9 x0 x2 (m x0 x1) → (Q 0 m13))))
set_option maxRecDepth 100000 in
set_option maxHeartbeats 4000000 in
theorem w_X4_exchangeIn {d : Nat} {E : zb_E} {x0 x1 x2 : Int} {m : zb_M} {Q : Int → zb_M → Prop} (h : PM_X4_exchangeIn d E x0 x1 x2 m Q) : zb_T K_X4_exchangeIn (d + 1) [(2, x0), (0, x1), (0, x2)] E m Q := by
  unfold PM_X4_exchangeIn at h
  refine zb_T_in gd_X4_exchangeIn rfl rfl (fun hW hA G C hF => ?_)
  have i_0 : zb_is E.1 x0 13 := zb_aH hA (by decide)
  show zb_WP _ _ 0 [(0, (2, x0)), (1, (0, x1)), (2, (0, x2))] [] _ _ _ _
  refine zb_aload_n (j := 0) dX4_exchangeIn_0 rfl rfl ?_
  refine zb_iload_n (j := 1) dX4_exchangeIn_1 rfl rfl ?_
  obtain ⟨o1, h⟩ := h
  refine zb_lI dX4_exchangeIn_2 i_0 rfl o1.1 o1.2 ?_
  refine zb_istore_n (L' := [(3, (0, (m x0 x1))), (0, (2, x0)), (1, (0, x1)), (2, (0, x2))]) dX4_exchangeIn_3 rfl (by decide) rfl ?_
  refine zb_aload_n (j := 1) dX4_exchangeIn_4 rfl rfl ?_
  refine zb_iload_n (j := 2) dX4_exchangeIn_5 rfl rfl ?_
  refine zb_aload_n (j := 1) dX4_exchangeIn_6 rfl rfl ?_
  refine zb_iload_n (j := 3) dX4_exchangeIn_7 rfl rfl ?_
  obtain ⟨o2, h⟩ := h
  refine zb_lI dX4_exchangeIn_8 i_0 rfl o2.1 o2.2 ?_
  refine zb_sI dX4_exchangeIn_9 i_0 rfl o1.1 o1.2 hF (fun m9 e9 hF => ?_)
  have h := h m9 e9
  refine zb_aload_n (j := 1) dX4_exchangeIn_10 rfl rfl ?_
  refine zb_iload_n (j := 3) dX4_exchangeIn_11 rfl rfl ?_
  refine zb_iload_n (j := 0) dX4_exchangeIn_12 rfl rfl ?_
  refine zb_sI dX4_exchangeIn_13 i_0 rfl o2.1 o2.2 hF (fun m13 e13 hF => ?_)
  have h := h m13 e13
  exact zb_rV dX4_exchangeIn_14 rfl hF h
theorem dX4_become_0 : decode cX4_become 0 = .ok (.aload_n 0, 1) := by decide +kernel
theorem dX4_become_1 : decode cX4_become 1 = .ok (.aload_n 1, 1) := by decide +kernel
theorem dX4_become_2 : decode cX4_become 2 = .ok (.getfield 27, 3) := by decide +kernel
theorem dX4_become_5 : decode cX4_become 5 = .ok (.putfield 27, 3) := by decide +kernel
theorem dX4_become_8 : decode cX4_become 8 = .ok (.aload_n 1, 1) := by decide +kernel
theorem dX4_become_9 : decode cX4_become 9 = .ok (.getfield 9, 3) := by decide +kernel
theorem dX4_become_12 : decode cX4_become 12 = .ok (.iconst 0, 1) := by decide +kernel
theorem dX4_become_13 : decode cX4_become 13 = .ok (.aload_n 0, 1) := by decide +kernel
theorem dX4_become_14 : decode cX4_become 14 = .ok (.getfield 9, 3) := by decide +kernel
theorem dX4_become_17 : decode cX4_become 17 = .ok (.iconst 0, 1) := by decide +kernel
theorem dX4_become_18 : decode cX4_become 18 = .ok (.bipush 12, 2) := by decide +kernel
theorem dX4_become_20 : decode cX4_become 20 = .ok (.invokestatic 53, 3) := by decide +kernel
theorem dX4_become_23 : decode cX4_become 23 = .ok (.aload_n 1, 1) := by decide +kernel
theorem dX4_become_24 : decode cX4_become 24 = .ok (.getfield 15, 3) := by decide +kernel
theorem dX4_become_27 : decode cX4_become 27 = .ok (.iconst 0, 1) := by decide +kernel
theorem dX4_become_28 : decode cX4_become 28 = .ok (.aload_n 0, 1) := by decide +kernel
theorem dX4_become_29 : decode cX4_become 29 = .ok (.getfield 15, 3) := by decide +kernel
theorem dX4_become_32 : decode cX4_become 32 = .ok (.iconst 0, 1) := by decide +kernel
theorem dX4_become_33 : decode cX4_become 33 = .ok (.bipush 12, 2) := by decide +kernel
theorem dX4_become_35 : decode cX4_become 35 = .ok (.invokestatic 53, 3) := by decide +kernel
theorem dX4_become_38 : decode cX4_become 38 = .ok (.aload_n 1, 1) := by decide +kernel
theorem dX4_become_39 : decode cX4_become 39 = .ok (.getfield 18, 3) := by decide +kernel
theorem dX4_become_42 : decode cX4_become 42 = .ok (.iconst 0, 1) := by decide +kernel
theorem dX4_become_43 : decode cX4_become 43 = .ok (.aload_n 0, 1) := by decide +kernel
theorem dX4_become_44 : decode cX4_become 44 = .ok (.getfield 18, 3) := by decide +kernel
theorem dX4_become_47 : decode cX4_become 47 = .ok (.iconst 0, 1) := by decide +kernel
theorem dX4_become_48 : decode cX4_become 48 = .ok (.bipush 12, 2) := by decide +kernel
theorem dX4_become_50 : decode cX4_become 50 = .ok (.invokestatic 53, 3) := by decide +kernel
theorem dX4_become_53 : decode cX4_become 53 = .ok (.aload_n 1, 1) := by decide +kernel
theorem dX4_become_54 : decode cX4_become 54 = .ok (.getfield 21, 3) := by decide +kernel
theorem dX4_become_57 : decode cX4_become 57 = .ok (.iconst 0, 1) := by decide +kernel
theorem dX4_become_58 : decode cX4_become 58 = .ok (.aload_n 0, 1) := by decide +kernel
theorem dX4_become_59 : decode cX4_become 59 = .ok (.getfield 21, 3) := by decide +kernel
theorem dX4_become_62 : decode cX4_become 62 = .ok (.iconst 0, 1) := by decide +kernel
theorem dX4_become_63 : decode cX4_become 63 = .ok (.bipush 12, 2) := by decide +kernel
theorem dX4_become_65 : decode cX4_become 65 = .ok (.invokestatic 53, 3) := by decide +kernel
theorem dX4_become_68 : decode cX4_become 68 = .ok (.aload_n 1, 1) := by decide +kernel
theorem dX4_become_69 : decode cX4_become 69 = .ok (.getfield 24, 3) := by decide +kernel
theorem dX4_become_72 : decode cX4_become 72 = .ok (.iconst 0, 1) := by decide +kernel
theorem dX4_become_73 : decode cX4_become 73 = .ok (.aload_n 0, 1) := by decide +kernel
theorem dX4_become_74 : decode cX4_become 74 = .ok (.getfield 24, 3) := by decide +kernel
theorem dX4_become_77 : decode cX4_become 77 = .ok (.iconst 0, 1) := by decide +kernel
theorem dX4_become_78 : decode cX4_become 78 = .ok (.sipush 144, 3) := by decide +kernel
theorem dX4_become_81 : decode cX4_become 81 = .ok (.invokestatic 53, 3) := by decide +kernel
theorem dX4_become_84 : decode cX4_become 84 = .ok (.return_, 1) := by decide +kernel
def PM_X4_become (d : Nat) (E : zb_E) (x0 : Int) (x1 : Int) (m : zb_M) (Q : Int → zb_M → Prop) : Prop :=
  ∀ m5, m5 = zb_up m x0 0 (m x1 0) → ((zb_cpo 0 0 12 12 12) ∧ (∀ m20, m20 = zb_cp m5 (E.2 x1 1) 0 (E.2 x0 1) 0 12 → (∀ m35, m35 = zb_cp m20 (E.2 x1 2) 0 (E.2 x0 2) 0 12 → (∀ m50, m50 = zb_cp m35 (E.2 x1 3) 0 (E.2 x0 3) 0 12 → (∀ m65, m65 = zb_cp m50 (E.2 x1 4) 0 (E.2 x0 4) 0 12 → ((zb_cpo 0 0 144 144 144) ∧ (∀ m81, m81 = zb_cp m65 (E.2 x1 5) 0 (E.2 x0 5) 0 144 → (Q 0 m81))))))))
set_option maxRecDepth 100000 in
set_option maxHeartbeats 4000000 in
theorem w_X4_become {d : Nat} {E : zb_E} {x0 x1 : Int} {m : zb_M} {Q : Int → zb_M → Prop} (h : PM_X4_become d E x0 x1 m Q) : zb_T K_X4_become (d + 1) [(2, x0), (2, x1)] E m Q := by
  unfold PM_X4_become at h
  refine zb_T_in gd_X4_become rfl rfl (fun hW hA G C hF => ?_)
  have i_0 : zb_is E.1 x0 4 := zb_aH hA (by decide)
  have i_1 : zb_is E.1 x1 4 := zb_aH (zb_aT hA) (by decide)
  show zb_WP _ _ 0 [(0, (2, x0)), (1, (2, x1))] [] _ _ _ _
  refine zb_aload_n (j := 0) dX4_become_0 rfl rfl ?_
  refine zb_aload_n (j := 1) dX4_become_1 rfl rfl ?_
  refine zb_gI 0 dX4_become_2 fl_X4_27 i_1 rfl rfl ?_
  refine zb_pF 0 dX4_become_5 fl_X4_27 rfl rfl i_0 (Or.inl rfl) hF rfl rfl (fun m5 e5 hF => ?_)
  have h := h m5 e5
  refine zb_aload_n (j := 1) dX4_become_8 rfl rfl ?_
  refine zb_gFa 1 dX4_become_9 fl_X4_9 i_1 hW hF rfl rfl rfl (by decide) rfl 12 rfl (fun i1 l2 => ?_)
  refine zb_iconst dX4_become_12 (zb_inIc rfl) ?_
  refine zb_aload_n (j := 0) dX4_become_13 rfl rfl ?_
  refine zb_gFa 1 dX4_become_14 fl_X4_9 i_0 hW hF rfl rfl rfl (by decide) rfl 12 rfl (fun i3 l4 => ?_)
  refine zb_iconst dX4_become_17 (zb_inIc rfl) ?_
  refine zb_bipush dX4_become_18 (by decide) (zb_inIc rfl) ?_
  obtain ⟨o5, h⟩ := h
  refine zb_cpI dX4_become_20 lk_X4_53 i1 i3 l2 l4 o5 (Nat.succ_le_succ (Nat.zero_le _)) (Nat.le_of_ble_eq_true rfl) hF (fun m20 e20 hF => ?_)
  have h := h m20 e20
  refine zb_aload_n (j := 1) dX4_become_23 rfl rfl ?_
  refine zb_gFa 2 dX4_become_24 fl_X4_15 i_1 hW hF rfl rfl rfl (by decide) rfl 12 rfl (fun i6 l7 => ?_)
  refine zb_iconst dX4_become_27 (zb_inIc rfl) ?_
  refine zb_aload_n (j := 0) dX4_become_28 rfl rfl ?_
  refine zb_gFa 2 dX4_become_29 fl_X4_15 i_0 hW hF rfl rfl rfl (by decide) rfl 12 rfl (fun i8 l9 => ?_)
  refine zb_iconst dX4_become_32 (zb_inIc rfl) ?_
  refine zb_bipush dX4_become_33 (by decide) (zb_inIc rfl) ?_
  refine zb_cpI dX4_become_35 lk_X4_53 i6 i8 l7 l9 o5 (Nat.succ_le_succ (Nat.zero_le _)) (Nat.le_of_ble_eq_true rfl) hF (fun m35 e35 hF => ?_)
  have h := h m35 e35
  refine zb_aload_n (j := 1) dX4_become_38 rfl rfl ?_
  refine zb_gFa 3 dX4_become_39 fl_X4_18 i_1 hW hF rfl rfl rfl (by decide) rfl 12 rfl (fun i10 l11 => ?_)
  refine zb_iconst dX4_become_42 (zb_inIc rfl) ?_
  refine zb_aload_n (j := 0) dX4_become_43 rfl rfl ?_
  refine zb_gFa 3 dX4_become_44 fl_X4_18 i_0 hW hF rfl rfl rfl (by decide) rfl 12 rfl (fun i12 l13 => ?_)
  refine zb_iconst dX4_become_47 (zb_inIc rfl) ?_
  refine zb_bipush dX4_become_48 (by decide) (zb_inIc rfl) ?_
  refine zb_cpI dX4_become_50 lk_X4_53 i10 i12 l11 l13 o5 (Nat.succ_le_succ (Nat.zero_le _)) (Nat.le_of_ble_eq_true rfl) hF (fun m50 e50 hF => ?_)
  have h := h m50 e50
  refine zb_aload_n (j := 1) dX4_become_53 rfl rfl ?_
  refine zb_gFa 4 dX4_become_54 fl_X4_21 i_1 hW hF rfl rfl rfl (by decide) rfl 12 rfl (fun i14 l15 => ?_)
  refine zb_iconst dX4_become_57 (zb_inIc rfl) ?_
  refine zb_aload_n (j := 0) dX4_become_58 rfl rfl ?_
  refine zb_gFa 4 dX4_become_59 fl_X4_21 i_0 hW hF rfl rfl rfl (by decide) rfl 12 rfl (fun i16 l17 => ?_)
  refine zb_iconst dX4_become_62 (zb_inIc rfl) ?_
  refine zb_bipush dX4_become_63 (by decide) (zb_inIc rfl) ?_
  refine zb_cpI dX4_become_65 lk_X4_53 i14 i16 l15 l17 o5 (Nat.succ_le_succ (Nat.zero_le _)) (Nat.le_of_ble_eq_true rfl) hF (fun m65 e65 hF => ?_)
  have h := h m65 e65
  refine zb_aload_n (j := 1) dX4_become_68 rfl rfl ?_
  refine zb_gFa 5 dX4_become_69 fl_X4_24 i_1 hW hF rfl rfl rfl (by decide) rfl 144 rfl (fun i18 l19 => ?_)
  refine zb_iconst dX4_become_72 (zb_inIc rfl) ?_
  refine zb_aload_n (j := 0) dX4_become_73 rfl rfl ?_
  refine zb_gFa 5 dX4_become_74 fl_X4_24 i_0 hW hF rfl rfl rfl (by decide) rfl 144 rfl (fun i20 l21 => ?_)
  refine zb_iconst dX4_become_77 (zb_inIc rfl) ?_
  refine zb_sipush dX4_become_78 (by decide) (zb_inIc rfl) ?_
  obtain ⟨o22, h⟩ := h
  refine zb_cpI dX4_become_81 lk_X4_53 i18 i20 l19 l21 o22 (Nat.succ_le_succ (Nat.zero_le _)) (Nat.le_of_ble_eq_true rfl) hF (fun m81 e81 hF => ?_)
  have h := h m81 e81
  exact zb_rV dX4_become_84 rfl hF h
theorem dX4_becomeNamed_0 : decode cX4_becomeNamed 0 = .ok (.aload_n 1, 1) := by decide +kernel
theorem dX4_becomeNamed_1 : decode cX4_becomeNamed 1 = .ok (.getfield 59, 3) := by decide +kernel
theorem dX4_becomeNamed_4 : decode cX4_becomeNamed 4 = .ok (.istore_n 2, 1) := by decide +kernel
theorem dX4_becomeNamed_5 : decode cX4_becomeNamed 5 = .ok (.aload_n 0, 1) := by decide +kernel
theorem dX4_becomeNamed_6 : decode cX4_becomeNamed 6 = .ok (.iconst 0, 1) := by decide +kernel
theorem dX4_becomeNamed_7 : decode cX4_becomeNamed 7 = .ok (.putfield 27, 3) := by decide +kernel
theorem dX4_becomeNamed_10 : decode cX4_becomeNamed 10 = .ok (.iconst 0, 1) := by decide +kernel
theorem dX4_becomeNamed_11 : decode cX4_becomeNamed 11 = .ok (.istore_n 3, 1) := by decide +kernel
theorem dX4_becomeNamed_12 : decode cX4_becomeNamed 12 = .ok (.iload_n 3, 1) := by decide +kernel
theorem dX4_becomeNamed_13 : decode cX4_becomeNamed 13 = .ok (.iload_n 2, 1) := by decide +kernel
theorem dX4_becomeNamed_14 : decode cX4_becomeNamed 14 = .ok (.if_icmp .ge 47, 3) := by decide +kernel
theorem dX4_becomeNamed_17 : decode cX4_becomeNamed 17 = .ok (.aload_n 0, 1) := by decide +kernel
theorem dX4_becomeNamed_18 : decode cX4_becomeNamed 18 = .ok (.iconst 0, 1) := by decide +kernel
theorem dX4_becomeNamed_19 : decode cX4_becomeNamed 19 = .ok (.iconst 0, 1) := by decide +kernel
theorem dX4_becomeNamed_20 : decode cX4_becomeNamed 20 = .ok (.iconst 0, 1) := by decide +kernel
theorem dX4_becomeNamed_21 : decode cX4_becomeNamed 21 = .ok (.invokevirtual 62, 3) := by decide +kernel
theorem dX4_becomeNamed_24 : decode cX4_becomeNamed 24 = .ok (.pop, 1) := by decide +kernel
theorem dX4_becomeNamed_25 : decode cX4_becomeNamed 25 = .ok (.aload_n 0, 1) := by decide +kernel
theorem dX4_becomeNamed_26 : decode cX4_becomeNamed 26 = .ok (.getfield 21, 3) := by decide +kernel
theorem dX4_becomeNamed_29 : decode cX4_becomeNamed 29 = .ok (.iload_n 3, 1) := by decide +kernel
theorem dX4_becomeNamed_30 : decode cX4_becomeNamed 30 = .ok (.iload_n 2, 1) := by decide +kernel
theorem dX4_becomeNamed_31 : decode cX4_becomeNamed 31 = .ok (.iastore, 1) := by decide +kernel
theorem dX4_becomeNamed_32 : decode cX4_becomeNamed 32 = .ok (.aload_n 1, 1) := by decide +kernel
theorem dX4_becomeNamed_33 : decode cX4_becomeNamed 33 = .ok (.getfield 66, 3) := by decide +kernel
theorem dX4_becomeNamed_36 : decode cX4_becomeNamed 36 = .ok (.iconst 1, 1) := by decide +kernel
theorem dX4_becomeNamed_37 : decode cX4_becomeNamed 37 = .ok (.iload_n 2, 1) := by decide +kernel
theorem dX4_becomeNamed_38 : decode cX4_becomeNamed 38 = .ok (.iadd, 1) := by decide +kernel
theorem dX4_becomeNamed_39 : decode cX4_becomeNamed 39 = .ok (.iload_n 3, 1) := by decide +kernel
theorem dX4_becomeNamed_40 : decode cX4_becomeNamed 40 = .ok (.iload_n 2, 1) := by decide +kernel
theorem dX4_becomeNamed_41 : decode cX4_becomeNamed 41 = .ok (.imul, 1) := by decide +kernel
theorem dX4_becomeNamed_42 : decode cX4_becomeNamed 42 = .ok (.iadd, 1) := by decide +kernel
theorem dX4_becomeNamed_43 : decode cX4_becomeNamed 43 = .ok (.aload_n 0, 1) := by decide +kernel
theorem dX4_becomeNamed_44 : decode cX4_becomeNamed 44 = .ok (.getfield 24, 3) := by decide +kernel
theorem dX4_becomeNamed_47 : decode cX4_becomeNamed 47 = .ok (.iload_n 3, 1) := by decide +kernel
theorem dX4_becomeNamed_48 : decode cX4_becomeNamed 48 = .ok (.bipush 12, 2) := by decide +kernel
theorem dX4_becomeNamed_50 : decode cX4_becomeNamed 50 = .ok (.imul, 1) := by decide +kernel
theorem dX4_becomeNamed_51 : decode cX4_becomeNamed 51 = .ok (.iload_n 2, 1) := by decide +kernel
theorem dX4_becomeNamed_52 : decode cX4_becomeNamed 52 = .ok (.invokestatic 53, 3) := by decide +kernel
theorem dX4_becomeNamed_55 : decode cX4_becomeNamed 55 = .ok (.iinc 3 1, 3) := by decide +kernel
theorem dX4_becomeNamed_58 : decode cX4_becomeNamed 58 = .ok (.goto (-46), 3) := by decide +kernel
theorem dX4_becomeNamed_61 : decode cX4_becomeNamed 61 = .ok (.return_, 1) := by decide +kernel
def PL_X4_becomeNamed_12 (d : Nat) (E : zb_E) (x0 : Int) (x1 : Int) (m : zb_M) (Q : Int → zb_M → Prop)  (v3_12 : Int) (m12l : zb_M) : Prop :=
  ∀ X12 : Int → zb_M → Prop, (∀ (v3_12 : Int) (m12l : zb_M), (((m x1 1) ≤ v3_12 → Q 0 m12l) ∧ (¬ (m x1 1) ≤ v3_12 → zb_T K_X4_add d [(2, x0), (0, 0), (0, 0), (0, 0)] E m12l (fun r21 m21 => (0 ≤ v3_12 ∧ v3_12 < 12) ∧ (∀ m31, m31 = zb_up m21 (E.2 x0 4) v3_12 (m x1 1) → ((zb_inI (1 + (m x1 1))) ∧ ((zb_inI (v3_12 * (m x1 1))) ∧ ((zb_inI ((1 + (m x1 1)) + (v3_12 * (m x1 1)))) ∧ ((zb_inI (v3_12 * 12)) ∧ ((zb_cpo ((1 + (m x1 1)) + (v3_12 * (m x1 1))) (v3_12 * 12) (m x1 1) 157 144) ∧ (∀ m52, m52 = zb_cp m31 (E.2 x1 5) ((1 + (m x1 1)) + (v3_12 * (m x1 1))) (E.2 x0 5) (v3_12 * 12) (m x1 1) → ((zb_inI (v3_12 + 1)) ∧ (X12 (v3_12 + 1) m52)))))))))))) → X12 v3_12 m12l) → X12 v3_12 m12l
def PM_X4_becomeNamed (d : Nat) (E : zb_E) (x0 : Int) (x1 : Int) (m : zb_M) (Q : Int → zb_M → Prop) : Prop :=
  ∀ m7, m7 = zb_up m x0 0 0 → (PL_X4_becomeNamed_12 d E x0 x1 m Q 0 m7)
set_option maxRecDepth 100000 in
set_option maxHeartbeats 4000000 in
theorem w_X4_becomeNamed {d : Nat} {E : zb_E} {x0 x1 : Int} {m : zb_M} {Q : Int → zb_M → Prop} (h : PM_X4_becomeNamed d E x0 x1 m Q) : zb_T K_X4_becomeNamed (d + 1) [(2, x0), (2, x1)] E m Q := by
  unfold PM_X4_becomeNamed at h
  refine zb_T_in gd_X4_becomeNamed rfl rfl (fun hW hA G C hF => ?_)
  have i_0 : zb_is E.1 x0 4 := zb_aH hA (by decide)
  have i_1 : zb_is E.1 x1 3 := zb_aH (zb_aT hA) (by decide)
  show zb_WP _ _ 0 [(0, (2, x0)), (1, (2, x1))] [] _ _ _ _
  refine zb_aload_n (j := 1) dX4_becomeNamed_0 rfl rfl ?_
  refine zb_gI 1 dX4_becomeNamed_1 fl_X4_59 i_1 rfl rfl ?_
  refine zb_istore_n (L' := [(2, (0, (m x1 1))), (0, (2, x0)), (1, (2, x1))]) dX4_becomeNamed_4 rfl (by decide) rfl ?_
  refine zb_aload_n (j := 1) dX4_becomeNamed_5 rfl rfl ?_
  refine zb_iconst dX4_becomeNamed_6 (zb_inIc rfl) ?_
  refine zb_pF 0 dX4_becomeNamed_7 fl_X4_27 rfl rfl i_0 (Or.inl rfl) hF rfl rfl (fun m7 e7 hF => ?_)
  have h := h m7 e7
  refine zb_iconst dX4_becomeNamed_10 (zb_inIc rfl) ?_
  refine zb_istore_n (L' := [(3, (0, 0)), (2, (0, (m x1 1))), (0, (2, x0)), (1, (2, x1))]) dX4_becomeNamed_11 rfl (by decide) rfl ?_
  refine zb_sub (L' := [(0, (2, x0)), (1, (2, x1)), (2, (0, (m x1 1))), (3, (0, 0))]) [2, 3, 1, 0] rfl ?_
  unfold PL_X4_becomeNamed_12 at h
  obtain ⟨X12, hX12⟩ : ∃ X : Int → zb_M → Prop, ∀ (v3_12 : Int) (m12l : zb_M), (X v3_12 m12l ↔ (zb_FIN E m12l → zb_WP (G, C, d + 1, 0, 0, zb_q E Q) F_X4_becomeNamed 12 [(0, (2, x0)), (1, (2, x1)), (2, (0, (m x1 1))), (3, (0, v3_12))] [] E.1 m12l 0 0)) := ⟨fun v3_12 m12l => zb_FIN E m12l → zb_WP (G, C, d + 1, 0, 0, zb_q E Q) F_X4_becomeNamed 12 [(0, (2, x0)), (1, (2, x1)), (2, (0, (m x1 1))), (3, (0, v3_12))] [] E.1 m12l 0 0, fun _ _ => Iff.rfl⟩
  refine (hX12 _ _).mp (h X12 (fun v3_12 m12l h => (hX12 _ _).mpr (fun hF => ?_))) hF
  refine zb_iload_n (j := 3) dX4_becomeNamed_12 rfl rfl ?_
  refine zb_iload_n (j := 2) dX4_becomeNamed_13 rfl rfl ?_
  refine zb_icmp_ge (tgt := 61) dX4_becomeNamed_14 (by decide) (fun c1 => ?_) (fun c1 => ?_)
  · have h := h.1 c1
    exact zb_rV dX4_becomeNamed_61 rfl hF h
  · have h := h.2 c1
    refine zb_aload_n (j := 0) dX4_becomeNamed_17 rfl rfl ?_
    refine zb_iconst dX4_becomeNamed_18 (zb_inIc rfl) ?_
    refine zb_iconst dX4_becomeNamed_19 (zb_inIc rfl) ?_
    refine zb_iconst dX4_becomeNamed_20 (zb_inIc rfl) ?_
    refine zb_cV (As := [(0, 0), (0, 0), (0, 0)]) (As' := [(0, 0), (0, 0), (0, 0)]) (st := []) dX4_becomeNamed_21 lk_X4_62 gd_X4_add rfl rfl i_0 ⟨_, rfl, rfl⟩ h hW hF (zb_aR i_0 (zb_aI (zb_aI (zb_aI zb_a0)))) (Nat.le_refl _) (Nat.le_of_ble_eq_true rfl) (fun r21 m21 hF h => ?_)
    show zb_WP _ _ _ _ [(0, r21)] _ _ _ _
    refine zb_pop dX4_becomeNamed_24 rfl ?_
    refine zb_aload_n (j := 0) dX4_becomeNamed_25 rfl rfl ?_
    refine zb_gFa 4 dX4_becomeNamed_26 fl_X4_21 i_0 hW hF rfl rfl rfl (by decide) rfl 12 rfl (fun i2 l3 => ?_)
    refine zb_iload_n (j := 3) dX4_becomeNamed_29 rfl rfl ?_
    refine zb_iload_n (j := 2) dX4_becomeNamed_30 rfl rfl ?_
    obtain ⟨o4, h⟩ := h
    refine zb_sI dX4_becomeNamed_31 i2 l3 o4.1 o4.2 hF (fun m31 e31 hF => ?_)
    have h := h m31 e31
    refine zb_aload_n (j := 1) dX4_becomeNamed_32 rfl rfl ?_
    refine zb_gFa 5 dX4_becomeNamed_33 fl_X4_66 i_1 hW hF rfl rfl rfl (by decide) rfl 157 rfl (fun i5 l6 => ?_)
    refine zb_iconst dX4_becomeNamed_36 (zb_inIc rfl) ?_
    refine zb_iload_n (j := 2) dX4_becomeNamed_37 rfl rfl ?_
    obtain ⟨o7, h⟩ := h
    refine zb_iadd dX4_becomeNamed_38 o7 ?_
    refine zb_iload_n (j := 3) dX4_becomeNamed_39 rfl rfl ?_
    refine zb_iload_n (j := 2) dX4_becomeNamed_40 rfl rfl ?_
    obtain ⟨o8, h⟩ := h
    refine zb_imul dX4_becomeNamed_41 o8 ?_
    obtain ⟨o9, h⟩ := h
    refine zb_iadd dX4_becomeNamed_42 o9 ?_
    refine zb_aload_n (j := 0) dX4_becomeNamed_43 rfl rfl ?_
    refine zb_gFa 5 dX4_becomeNamed_44 fl_X4_24 i_0 hW hF rfl rfl rfl (by decide) rfl 144 rfl (fun i10 l11 => ?_)
    refine zb_iload_n (j := 3) dX4_becomeNamed_47 rfl rfl ?_
    refine zb_bipush dX4_becomeNamed_48 (by decide) (zb_inIc rfl) ?_
    obtain ⟨o12, h⟩ := h
    refine zb_imul dX4_becomeNamed_50 o12 ?_
    refine zb_iload_n (j := 2) dX4_becomeNamed_51 rfl rfl ?_
    obtain ⟨o13, h⟩ := h
    refine zb_cpI dX4_becomeNamed_52 lk_X4_53 i5 i10 l6 l11 o13 (Nat.succ_le_succ (Nat.zero_le _)) (Nat.le_of_ble_eq_true rfl) hF (fun m52 e52 hF => ?_)
    have h := h m52 e52
    obtain ⟨o14, h⟩ := h
    refine zb_iinc (j := 3) (L' := [(3, (0, (v3_12 + 1))), (0, (2, x0)), (1, (2, x1)), (2, (0, (m x1 1)))]) dX4_becomeNamed_55 rfl o14 (by decide) rfl ?_
    refine zb_goto (tgt := 12) dX4_becomeNamed_58 (by decide) ?_
    refine zb_sub (L' := [(0, (2, x0)), (1, (2, x1)), (2, (0, (m x1 1))), (3, (0, (v3_12 + 1)))]) [1, 2, 3, 0] rfl ?_
    exact (hX12 _ _).mp h hF
