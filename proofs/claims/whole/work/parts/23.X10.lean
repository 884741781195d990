/-! ===== SameBench$Turning: instructions and walks (laid by gen/layout.py) ===== -/
theorem dX10_begin_0 : decode cX10_begin 0 = .ok (.aload_n 0, 1) := by decide +kernel
theorem dX10_begin_1 : decode cX10_begin 1 = .ok (.iconst 1, 1) := by decide +kernel
theorem dX10_begin_2 : decode cX10_begin 2 = .ok (.putfield 15, 3) := by decide +kernel
theorem dX10_begin_5 : decode cX10_begin 5 = .ok (.iconst 0, 1) := by decide +kernel
theorem dX10_begin_6 : decode cX10_begin 6 = .ok (.istore_n 1, 1) := by decide +kernel
theorem dX10_begin_7 : decode cX10_begin 7 = .ok (.iload_n 1, 1) := by decide +kernel
theorem dX10_begin_8 : decode cX10_begin 8 = .ok (.bipush 12, 2) := by decide +kernel
theorem dX10_begin_10 : decode cX10_begin 10 = .ok (.if_icmp .ge 16, 3) := by decide +kernel
theorem dX10_begin_13 : decode cX10_begin 13 = .ok (.aload_n 0, 1) := by decide +kernel
theorem dX10_begin_14 : decode cX10_begin 14 = .ok (.getfield 9, 3) := by decide +kernel
theorem dX10_begin_17 : decode cX10_begin 17 = .ok (.iload_n 1, 1) := by decide +kernel
theorem dX10_begin_18 : decode cX10_begin 18 = .ok (.iconst (-1), 1) := by decide +kernel
theorem dX10_begin_19 : decode cX10_begin 19 = .ok (.iastore, 1) := by decide +kernel
theorem dX10_begin_20 : decode cX10_begin 20 = .ok (.iinc 1 1, 3) := by decide +kernel
theorem dX10_begin_23 : decode cX10_begin 23 = .ok (.goto (-16), 3) := by decide +kernel
theorem dX10_begin_26 : decode cX10_begin 26 = .ok (.return_, 1) := by decide +kernel
def PL_X10_begin_7 (d : Nat) (E : zb_E) (x0 : Int) (Q : Int → zb_M → Prop)  (v1_7 : Int) (m7l : zb_M) : Prop :=
  ∀ X7 : Int → zb_M → Prop, (∀ (v1_7 : Int) (m7l : zb_M), ((12 ≤ v1_7 → Q 0 m7l) ∧ (¬ 12 ≤ v1_7 → (0 ≤ v1_7 ∧ v1_7 < 12) ∧ (∀ m19, m19 = zb_up m7l (E.2 x0 1) v1_7 (-1) → ((zb_inI (v1_7 + 1)) ∧ (X7 (v1_7 + 1) m19))))) → X7 v1_7 m7l) → X7 v1_7 m7l
def PM_X10_begin (d : Nat) (E : zb_E) (x0 : Int) (m : zb_M) (Q : Int → zb_M → Prop) : Prop :=
  ∀ m2, m2 = zb_up m x0 0 1 → (PL_X10_begin_7 d E x0 Q 0 m2)
set_option maxRecDepth 100000 in
set_option maxHeartbeats 4000000 in
theorem w_X10_begin {d : Nat} {E : zb_E} {x0 : Int} {m : zb_M} {Q : Int → zb_M → Prop} (h : PM_X10_begin d E x0 m Q) : zb_T K_X10_begin (d + 1) [(2, x0)] E m Q := by
  unfold PM_X10_begin at h
  refine zb_T_in gd_X10_begin rfl rfl (fun hW hA G C hF => ?_)
  have i_0 : zb_is E.1 x0 10 := zb_aH hA (by decide)
  show zb_WP _ _ 0 [(0, (2, x0))] [] _ _ _ _
  refine zb_aload_n (j := 0) dX10_begin_0 rfl rfl ?_
  refine zb_iconst dX10_begin_1 (zb_inIc rfl) ?_
  refine zb_pF 0 dX10_begin_2 fl_X10_15 rfl rfl i_0 (Or.inr (Or.inl ⟨rfl, (by decide)⟩)) hF rfl rfl (fun m2 e2 hF => ?_)
  have h := h m2 e2
  refine zb_iconst dX10_begin_5 (zb_inIc rfl) ?_
  refine zb_istore_n (L' := [(1, (0, 0)), (0, (2, x0))]) dX10_begin_6 rfl (by decide) rfl ?_
  refine zb_sub (L' := [(0, (2, x0)), (1, (0, 0))]) [1, 0] rfl ?_
  unfold PL_X10_begin_7 at h
  obtain ⟨X7, hX7⟩ : ∃ X : Int → zb_M → Prop, ∀ (v1_7 : Int) (m7l : zb_M), (X v1_7 m7l ↔ (zb_FIN E m7l → zb_WP (G, C, d + 1, 0, 0, zb_q E Q) F_X10_begin 7 [(0, (2, x0)), (1, (0, v1_7))] [] E.1 m7l 0 0)) := ⟨fun v1_7 m7l => zb_FIN E m7l → zb_WP (G, C, d + 1, 0, 0, zb_q E Q) F_X10_begin 7 [(0, (2, x0)), (1, (0, v1_7))] [] E.1 m7l 0 0, fun _ _ => Iff.rfl⟩
  refine (hX7 _ _).mp (h X7 (fun v1_7 m7l h => (hX7 _ _).mpr (fun hF => ?_))) hF
  refine zb_iload_n (j := 1) dX10_begin_7 rfl rfl ?_
  refine zb_bipush dX10_begin_8 (by decide) (zb_inIc rfl) ?_
  refine zb_icmp_ge (tgt := 26) dX10_begin_10 (by decide) (fun c1 => ?_) (fun c1 => ?_)
  · have h := h.1 c1
    exact zb_rV dX10_begin_26 rfl hF h
  · have h := h.2 c1
    refine zb_aload_n (j := 0) dX10_begin_13 rfl rfl ?_
    refine zb_gFa 1 dX10_begin_14 fl_X10_9 i_0 hW hF rfl rfl rfl (by decide) rfl 12 rfl (fun i2 l3 => ?_)
    refine zb_iload_n (j := 1) dX10_begin_17 rfl rfl ?_
    refine zb_iconst dX10_begin_18 (zb_inIc rfl) ?_
    obtain ⟨o4, h⟩ := h
    refine zb_sI dX10_begin_19 i2 l3 o4.1 o4.2 hF (fun m19 e19 hF => ?_)
    have h := h m19 e19
    obtain ⟨o5, h⟩ := h
    refine zb_iinc (j := 1) (L' := [(1, (0, (v1_7 + 1))), (0, (2, x0))]) dX10_begin_20 rfl o5 (by decide) rfl ?_
    refine zb_goto (tgt := 7) dX10_begin_23 (by decide) ?_
    refine zb_sub (L' := [(0, (2, x0)), (1, (0, (v1_7 + 1)))]) [1, 0] rfl ?_
    exact (hX7 _ _).mp h hF
theorem dX10_takeOrders_0 : decode cX10_takeOrders 0 = .ok (.aload_n 0, 1) := by decide +kernel
theorem dX10_takeOrders_1 : decode cX10_takeOrders 1 = .ok (.invokevirtual 19, 3) := by decide +kernel
theorem dX10_takeOrders_4 : decode cX10_takeOrders 4 = .ok (.iconst 0, 1) := by decide +kernel
theorem dX10_takeOrders_5 : decode cX10_takeOrders 5 = .ok (.istore_n 3, 1) := by decide +kernel
theorem dX10_takeOrders_6 : decode cX10_takeOrders 6 = .ok (.iload_n 3, 1) := by decide +kernel
theorem dX10_takeOrders_7 : decode cX10_takeOrders 7 = .ok (.aload_n 1, 1) := by decide +kernel
theorem dX10_takeOrders_8 : decode cX10_takeOrders 8 = .ok (.getfield 22, 3) := by decide +kernel
theorem dX10_takeOrders_11 : decode cX10_takeOrders 11 = .ok (.if_icmp .ge 26, 3) := by decide +kernel
theorem dX10_takeOrders_14 : decode cX10_takeOrders 14 = .ok (.aload_n 0, 1) := by decide +kernel
theorem dX10_takeOrders_15 : decode cX10_takeOrders 15 = .ok (.getfield 9, 3) := by decide +kernel
theorem dX10_takeOrders_18 : decode cX10_takeOrders 18 = .ok (.aload_n 1, 1) := by decide +kernel
theorem dX10_takeOrders_19 : decode cX10_takeOrders 19 = .ok (.getfield 28, 3) := by decide +kernel
theorem dX10_takeOrders_22 : decode cX10_takeOrders 22 = .ok (.iload_n 3, 1) := by decide +kernel
theorem dX10_takeOrders_23 : decode cX10_takeOrders 23 = .ok (.iaload, 1) := by decide +kernel
theorem dX10_takeOrders_24 : decode cX10_takeOrders 24 = .ok (.aload_n 2, 1) := by decide +kernel
theorem dX10_takeOrders_25 : decode cX10_takeOrders 25 = .ok (.getfield 28, 3) := by decide +kernel
theorem dX10_takeOrders_28 : decode cX10_takeOrders 28 = .ok (.iload_n 3, 1) := by decide +kernel
theorem dX10_takeOrders_29 : decode cX10_takeOrders 29 = .ok (.iaload, 1) := by decide +kernel
theorem dX10_takeOrders_30 : decode cX10_takeOrders 30 = .ok (.iastore, 1) := by decide +kernel
theorem dX10_takeOrders_31 : decode cX10_takeOrders 31 = .ok (.iinc 3 1, 3) := by decide +kernel
theorem dX10_takeOrders_34 : decode cX10_takeOrders 34 = .ok (.goto (-28), 3) := by decide +kernel
theorem dX10_takeOrders_37 : decode cX10_takeOrders 37 = .ok (.return_, 1) := by decide +kernel
def PL_X10_takeOrders_6 (d : Nat) (E : zb_E) (x0 : Int) (x1 : Int) (x2 : Int) (Q : Int → zb_M → Prop)  (v3_6 : Int) (m6l : zb_M) : Prop :=
  ∀ X6 : Int → zb_M → Prop, (∀ (v3_6 : Int) (m6l : zb_M), (((m6l x1 1) ≤ v3_6 → Q 0 m6l) ∧ (¬ (m6l x1 1) ≤ v3_6 → (0 ≤ v3_6 ∧ v3_6 < 12) ∧ ((0 ≤ (m6l (E.2 x1 6) v3_6) ∧ (m6l (E.2 x1 6) v3_6) < 12) ∧ (∀ m30, m30 = zb_up m6l (E.2 x0 1) (m6l (E.2 x1 6) v3_6) (m6l (E.2 x2 6) v3_6) → ((zb_inI (v3_6 + 1)) ∧ (X6 (v3_6 + 1) m30)))))) → X6 v3_6 m6l) → X6 v3_6 m6l
def PM_X10_takeOrders (d : Nat) (E : zb_E) (x0 : Int) (x1 : Int) (x2 : Int) (m : zb_M) (Q : Int → zb_M → Prop) : Prop :=
  zb_T K_X10_begin d [(2, x0)] E m (fun r1 m1 => PL_X10_takeOrders_6 d E x0 x1 x2 Q 0 m1)
set_option maxRecDepth 100000 in
set_option maxHeartbeats 4000000 in
theorem w_X10_takeOrders {d : Nat} {E : zb_E} {x0 x1 x2 : Int} {m : zb_M} {Q : Int → zb_M → Prop} (h : PM_X10_takeOrders d E x0 x1 x2 m Q) : zb_T K_X10_takeOrders (d + 1) [(2, x0), (2, x1), (2, x2)] E m Q := by
  unfold PM_X10_takeOrders at h
  refine zb_T_in gd_X10_takeOrders rfl rfl (fun hW hA G C hF => ?_)
  have i_0 : zb_is E.1 x0 10 := zb_aH hA (by decide)
  have i_1 : zb_is E.1 x1 3 := zb_aH (zb_aT hA) (by decide)
  have i_2 : zb_is E.1 x2 3 := zb_aH (zb_aT (zb_aT hA)) (by decide)
  show zb_WP _ _ 0 [(0, (2, x0)), (1, (2, x1)), (2, (2, x2))] [] _ _ _ _
  refine zb_aload_n (j := 0) dX10_takeOrders_0 rfl rfl ?_
  refine zb_cV (As := []) (As' := []) (st := []) dX10_takeOrders_1 lk_X10_19 gd_X10_begin rfl rfl i_0 ⟨_, rfl, rfl⟩ h hW hF (zb_aR i_0 zb_a0) (Nat.le_refl _) (Nat.le_of_ble_eq_true rfl) (fun r1 m1 hF h => ?_)
  show zb_WP _ _ _ _ [] _ _ _ _
  refine zb_iconst dX10_takeOrders_4 (zb_inIc rfl) ?_
  refine zb_istore_n (L' := [(3, (0, 0)), (0, (2, x0)), (1, (2, x1)), (2, (2, x2))]) dX10_takeOrders_5 rfl (by decide) rfl ?_
  refine zb_sub (L' := [(0, (2, x0)), (1, (2, x1)), (2, (2, x2)), (3, (0, 0))]) [1, 2, 3, 0] rfl ?_
  unfold PL_X10_takeOrders_6 at h
  obtain ⟨X6, hX6⟩ : ∃ X : Int → zb_M → Prop, ∀ (v3_6 : Int) (m6l : zb_M), (X v3_6 m6l ↔ (zb_FIN E m6l → zb_WP (G, C, d + 1, 0, 0, zb_q E Q) F_X10_takeOrders 6 [(0, (2, x0)), (1, (2, x1)), (2, (2, x2)), (3, (0, v3_6))] [] E.1 m6l 0 0)) := ⟨fun v3_6 m6l => zb_FIN E m6l → zb_WP (G, C, d + 1, 0, 0, zb_q E Q) F_X10_takeOrders 6 [(0, (2, x0)), (1, (2, x1)), (2, (2, x2)), (3, (0, v3_6))] [] E.1 m6l 0 0, fun _ _ => Iff.rfl⟩
  refine (hX6 _ _).mp (h X6 (fun v3_6 m6l h => (hX6 _ _).mpr (fun hF => ?_))) hF
  refine zb_iload_n (j := 3) dX10_takeOrders_6 rfl rfl ?_
  refine zb_aload_n (j := 1) dX10_takeOrders_7 rfl rfl ?_
  refine zb_gI 1 dX10_takeOrders_8 fl_X10_22 i_1 rfl rfl ?_
  refine zb_icmp_ge (tgt := 37) dX10_takeOrders_11 (by decide) (fun c1 => ?_) (fun c1 => ?_)
  · have h := h.1 c1
    exact zb_rV dX10_takeOrders_37 rfl hF h
  · have h := h.2 c1
    refine zb_aload_n (j := 0) dX10_takeOrders_14 rfl rfl ?_
    refine zb_gFa 1 dX10_takeOrders_15 fl_X10_9 i_0 hW hF rfl rfl rfl (by decide) rfl 12 rfl (fun i2 l3 => ?_)
    refine zb_aload_n (j := 1) dX10_takeOrders_18 rfl rfl ?_
    refine zb_gFa 6 dX10_takeOrders_19 fl_X10_28 i_1 hW hF rfl rfl rfl (by decide) rfl 12 rfl (fun i4 l5 => ?_)
    refine zb_iload_n (j := 3) dX10_takeOrders_22 rfl rfl ?_
    obtain ⟨o6, h⟩ := h
    refine zb_lI dX10_takeOrders_23 i4 l5 o6.1 o6.2 ?_
    refine zb_aload_n (j := 2) dX10_takeOrders_24 rfl rfl ?_
    refine zb_gFa 6 dX10_takeOrders_25 fl_X10_28 i_2 hW hF rfl rfl rfl (by decide) rfl 12 rfl (fun i7 l8 => ?_)
    refine zb_iload_n (j := 3) dX10_takeOrders_28 rfl rfl ?_
    refine zb_lI dX10_takeOrders_29 i7 l8 o6.1 o6.2 ?_
    obtain ⟨o9, h⟩ := h
    refine zb_sI dX10_takeOrders_30 i2 l3 o9.1 o9.2 hF (fun m30 e30 hF => ?_)
    have h := h m30 e30
    obtain ⟨o10, h⟩ := h
    refine zb_iinc (j := 3) (L' := [(3, (0, (v3_6 + 1))), (0, (2, x0)), (1, (2, x1)), (2, (2, x2))]) dX10_takeOrders_31 rfl o10 (by decide) rfl ?_
    refine zb_goto (tgt := 6) dX10_takeOrders_34 (by decide) ?_
    refine zb_sub (L' := [(0, (2, x0)), (1, (2, x1)), (2, (2, x2)), (3, (0, (v3_6 + 1)))]) [1, 2, 3, 0] rfl ?_
    exact (hX6 _ _).mp h hF
theorem dX10_take_0 : decode cX10_take 0 = .ok (.aload_n 0, 1) := by decide +kernel
theorem dX10_take_1 : decode cX10_take 1 = .ok (.invokevirtual 19, 3) := by decide +kernel
theorem dX10_take_4 : decode cX10_take 4 = .ok (.iconst 0, 1) := by decide +kernel
theorem dX10_take_5 : decode cX10_take 5 = .ok (.istore 4, 2) := by decide +kernel
theorem dX10_take_7 : decode cX10_take 7 = .ok (.iload 4, 2) := by decide +kernel
theorem dX10_take_9 : decode cX10_take 9 = .ok (.aload_n 1, 1) := by decide +kernel
theorem dX10_take_10 : decode cX10_take 10 = .ok (.getfield 31, 3) := by decide +kernel
theorem dX10_take_13 : decode cX10_take 13 = .ok (.if_icmp .ge 32, 3) := by decide +kernel
theorem dX10_take_16 : decode cX10_take 16 = .ok (.aload_n 0, 1) := by decide +kernel
theorem dX10_take_17 : decode cX10_take 17 = .ok (.getfield 9, 3) := by decide +kernel
theorem dX10_take_20 : decode cX10_take 20 = .ok (.aload_n 1, 1) := by decide +kernel
theorem dX10_take_21 : decode cX10_take 21 = .ok (.getfield 34, 3) := by decide +kernel
theorem dX10_take_24 : decode cX10_take 24 = .ok (.iload 4, 2) := by decide +kernel
theorem dX10_take_26 : decode cX10_take 26 = .ok (.iaload, 1) := by decide +kernel
theorem dX10_take_27 : decode cX10_take 27 = .ok (.aload_n 1, 1) := by decide +kernel
theorem dX10_take_28 : decode cX10_take 28 = .ok (.getfield 34, 3) := by decide +kernel
theorem dX10_take_31 : decode cX10_take 31 = .ok (.aload_n 2, 1) := by decide +kernel
theorem dX10_take_32 : decode cX10_take 32 = .ok (.iload_n 3, 1) := by decide +kernel
theorem dX10_take_33 : decode cX10_take 33 = .ok (.iload 4, 2) := by decide +kernel
theorem dX10_take_35 : decode cX10_take 35 = .ok (.iadd, 1) := by decide +kernel
theorem dX10_take_36 : decode cX10_take 36 = .ok (.iaload, 1) := by decide +kernel
theorem dX10_take_37 : decode cX10_take 37 = .ok (.iaload, 1) := by decide +kernel
theorem dX10_take_38 : decode cX10_take 38 = .ok (.iastore, 1) := by decide +kernel
theorem dX10_take_39 : decode cX10_take 39 = .ok (.iinc 4 1, 3) := by decide +kernel
theorem dX10_take_42 : decode cX10_take 42 = .ok (.goto (-35), 3) := by decide +kernel
theorem dX10_take_45 : decode cX10_take 45 = .ok (.return_, 1) := by decide +kernel
def PL_X10_take_7 (d : Nat) (E : zb_E) (x0 : Int) (x1 : Int) (x2 : Int) (x3 : Int) (Q : Int → zb_M → Prop)  (v4_7 : Int) (m7l : zb_M) : Prop :=
  ∀ X7 : Int → zb_M → Prop, (∀ (v4_7 : Int) (m7l : zb_M), (((m7l x1 0) ≤ v4_7 → Q 0 m7l) ∧ (¬ (m7l x1 0) ≤ v4_7 → (0 ≤ v4_7 ∧ v4_7 < 12) ∧ ((zb_inI (x3 + v4_7)) ∧ ((0 ≤ (x3 + v4_7) ∧ (x3 + v4_7) < (zb_len E.1 x2)) ∧ ((0 ≤ (m7l x2 (x3 + v4_7)) ∧ (m7l x2 (x3 + v4_7)) < 12) ∧ ((0 ≤ (m7l (E.2 x1 1) v4_7) ∧ (m7l (E.2 x1 1) v4_7) < 12) ∧ (∀ m38, m38 = zb_up m7l (E.2 x0 1) (m7l (E.2 x1 1) v4_7) (m7l (E.2 x1 1) (m7l x2 (x3 + v4_7))) → ((zb_inI (v4_7 + 1)) ∧ (X7 (v4_7 + 1) m38))))))))) → X7 v4_7 m7l) → X7 v4_7 m7l
def PM_X10_take (d : Nat) (E : zb_E) (x0 : Int) (x1 : Int) (x2 : Int) (x3 : Int) (m : zb_M) (Q : Int → zb_M → Prop) : Prop :=
  zb_T K_X10_begin d [(2, x0)] E m (fun r1 m1 => PL_X10_take_7 d E x0 x1 x2 x3 Q 0 m1)
set_option maxRecDepth 100000 in
set_option maxHeartbeats 4000000 in
theorem w_X10_take {d : Nat} {E : zb_E} {x0 x1 x2 x3 : Int} {m : zb_M} {Q : Int → zb_M → Prop} (h : PM_X10_take d E x0 x1 x2 x3 m Q) : zb_T K_X10_take (d + 1) [(2, x0), (2, x1), (2, x2), (0, x3)] E m Q := by
  unfold PM_X10_take at h
  refine zb_T_in gd_X10_take rfl rfl (fun hW hA G C hF => ?_)
  have i_0 : zb_is E.1 x0 10 := zb_aH hA (by decide)
  have i_1 : zb_is E.1 x1 6 := zb_aH (zb_aT hA) (by decide)
  have i_2 : zb_is E.1 x2 13 := zb_aH (zb_aT (zb_aT hA)) (by decide)
  show zb_WP _ _ 0 [(0, (2, x0)), (1, (2, x1)), (2, (2, x2)), (3, (0, x3))] [] _ _ _ _
  refine zb_aload_n (j := 0) dX10_take_0 rfl rfl ?_
  refine zb_cV (As := []) (As' := []) (st := []) dX10_take_1 lk_X10_19 gd_X10_begin rfl rfl i_0 ⟨_, rfl, rfl⟩ h hW hF (zb_aR i_0 zb_a0) (Nat.le_refl _) (Nat.le_of_ble_eq_true rfl) (fun r1 m1 hF h => ?_)
  show zb_WP _ _ _ _ [] _ _ _ _
  refine zb_iconst dX10_take_4 (zb_inIc rfl) ?_
  refine zb_istore (L' := [(4, (0, 0)), (0, (2, x0)), (1, (2, x1)), (2, (2, x2)), (3, (0, x3))]) dX10_take_5 (by decide) rfl ?_
  refine zb_sub (L' := [(0, (2, x0)), (1, (2, x1)), (2, (2, x2)), (3, (0, x3)), (4, (0, 0))]) [1, 2, 3, 4, 0] rfl ?_
  unfold PL_X10_take_7 at h
  obtain ⟨X7, hX7⟩ : ∃ X : Int → zb_M → Prop, ∀ (v4_7 : Int) (m7l : zb_M), (X v4_7 m7l ↔ (zb_FIN E m7l → zb_WP (G, C, d + 1, 0, 0, zb_q E Q) F_X10_take 7 [(0, (2, x0)), (1, (2, x1)), (2, (2, x2)), (3, (0, x3)), (4, (0, v4_7))] [] E.1 m7l 0 0)) := ⟨fun v4_7 m7l => zb_FIN E m7l → zb_WP (G, C, d + 1, 0, 0, zb_q E Q) F_X10_take 7 [(0, (2, x0)), (1, (2, x1)), (2, (2, x2)), (3, (0, x3)), (4, (0, v4_7))] [] E.1 m7l 0 0, fun _ _ => Iff.rfl⟩
  refine (hX7 _ _).mp (h X7 (fun v4_7 m7l h => (hX7 _ _).mpr (fun hF => ?_))) hF
  refine zb_iload (j := 4) dX10_take_7 rfl ?_
  refine zb_aload_n (j := 1) dX10_take_9 rfl rfl ?_
  refine zb_gI 0 dX10_take_10 fl_X10_31 i_1 rfl rfl ?_
  refine zb_icmp_ge (tgt := 45) dX10_take_13 (by decide) (fun c1 => ?_) (fun c1 => ?_)
  · have h := h.1 c1
    exact zb_rV dX10_take_45 rfl hF h
  · have h := h.2 c1
    refine zb_aload_n (j := 0) dX10_take_16 rfl rfl ?_
    refine zb_gFa 1 dX10_take_17 fl_X10_9 i_0 hW hF rfl rfl rfl (by decide) rfl 12 rfl (fun i2 l3 => ?_)
    refine zb_aload_n (j := 1) dX10_take_20 rfl rfl ?_
    refine zb_gFa 1 dX10_take_21 fl_X10_34 i_1 hW hF rfl rfl rfl (by decide) rfl 12 rfl (fun i4 l5 => ?_)
    refine zb_iload (j := 4) dX10_take_24 rfl ?_
    obtain ⟨o6, h⟩ := h
    refine zb_lI dX10_take_26 i4 l5 o6.1 o6.2 ?_
    refine zb_aload_n (j := 1) dX10_take_27 rfl rfl ?_
    refine zb_gFa 1 dX10_take_28 fl_X10_34 i_1 hW hF rfl rfl rfl (by decide) rfl 12 rfl (fun i7 l8 => ?_)
    refine zb_aload_n (j := 2) dX10_take_31 rfl rfl ?_
    refine zb_iload_n (j := 3) dX10_take_32 rfl rfl ?_
    refine zb_iload (j := 4) dX10_take_33 rfl ?_
    obtain ⟨o9, h⟩ := h
    refine zb_iadd dX10_take_35 o9 ?_
    obtain ⟨o10, h⟩ := h
    refine zb_lI dX10_take_36 i_2 rfl o10.1 o10.2 ?_
    obtain ⟨o11, h⟩ := h
    refine zb_lI dX10_take_37 i7 l8 o11.1 o11.2 ?_
    obtain ⟨o12, h⟩ := h
    refine zb_sI dX10_take_38 i2 l3 o12.1 o12.2 hF (fun m38 e38 hF => ?_)
    have h := h m38 e38
    obtain ⟨o13, h⟩ := h
    refine zb_iinc (j := 4) (L' := [(4, (0, (v4_7 + 1))), (0, (2, x0)), (1, (2, x1)), (2, (2, x2)), (3, (0, x3))]) dX10_take_39 rfl o13 (by decide) rfl ?_
    refine zb_goto (tgt := 7) dX10_take_42 (by decide) ?_
    refine zb_sub (L' := [(0, (2, x0)), (1, (2, x1)), (2, (2, x2)), (3, (0, x3)), (4, (0, (v4_7 + 1)))]) [1, 2, 3, 4, 0] rfl ?_
    exact (hX7 _ _).mp h hF
theorem dX10_leadsFrom_0 : decode cX10_leadsFrom 0 = .ok (.aload_n 0, 1) := by decide +kernel
theorem dX10_leadsFrom_1 : decode cX10_leadsFrom 1 = .ok (.getfield 15, 3) := by decide +kernel
theorem dX10_leadsFrom_4 : decode cX10_leadsFrom 4 = .ok (.ifCond .eq 26, 3) := by decide +kernel
theorem dX10_leadsFrom_7 : decode cX10_leadsFrom 7 = .ok (.iload_n 1, 1) := by decide +kernel
theorem dX10_leadsFrom_8 : decode cX10_leadsFrom 8 = .ok (.bipush 12, 2) := by decide +kernel
theorem dX10_leadsFrom_10 : decode cX10_leadsFrom 10 = .ok (.invokestatic 37, 3) := by decide +kernel
theorem dX10_leadsFrom_13 : decode cX10_leadsFrom 13 = .ok (.ifCond .eq 17, 3) := by decide +kernel
theorem dX10_leadsFrom_16 : decode cX10_leadsFrom 16 = .ok (.aload_n 0, 1) := by decide +kernel
theorem dX10_leadsFrom_17 : decode cX10_leadsFrom 17 = .ok (.getfield 9, 3) := by decide +kernel
theorem dX10_leadsFrom_20 : decode cX10_leadsFrom 20 = .ok (.iload_n 1, 1) := by decide +kernel
theorem dX10_leadsFrom_21 : decode cX10_leadsFrom 21 = .ok (.iaload, 1) := by decide +kernel
theorem dX10_leadsFrom_22 : decode cX10_leadsFrom 22 = .ok (.iconst (-1), 1) := by decide +kernel
theorem dX10_leadsFrom_23 : decode cX10_leadsFrom 23 = .ok (.if_icmp .eq 7, 3) := by decide +kernel
theorem dX10_leadsFrom_26 : decode cX10_leadsFrom 26 = .ok (.iconst 1, 1) := by decide +kernel
theorem dX10_leadsFrom_27 : decode cX10_leadsFrom 27 = .ok (.goto 4, 3) := by decide +kernel
theorem dX10_leadsFrom_30 : decode cX10_leadsFrom 30 = .ok (.iconst 0, 1) := by decide +kernel
theorem dX10_leadsFrom_31 : decode cX10_leadsFrom 31 = .ok (.ireturn, 1) := by decide +kernel
def PM_X10_leadsFrom (d : Nat) (E : zb_E) (x0 : Int) (x1 : Int) (m : zb_M) (Q : Int → Prop) : Prop :=
  ((m x0 0) = 0 → Q 0) ∧ (¬ (m x0 0) = 0 → zb_Tp K_X11_isBelow d [(0, x1), (0, 12)] E m (fun r10 => (r10 = 0 → Q 0) ∧ (¬ r10 = 0 → (0 ≤ x1 ∧ x1 < 12) ∧ (((m (E.2 x0 1) x1) = (-1) → Q 0) ∧ (¬ (m (E.2 x0 1) x1) = (-1) → Q 1)))))
set_option maxRecDepth 100000 in
set_option maxHeartbeats 4000000 in
theorem w_X10_leadsFrom {d : Nat} {E : zb_E} {x0 x1 : Int} {m : zb_M} {Q : Int → Prop} (h : PM_X10_leadsFrom d E x0 x1 m Q) : zb_Tp K_X10_leadsFrom (d + 1) [(2, x0), (0, x1)] E m Q := by
  unfold PM_X10_leadsFrom at h
  refine zb_T_in gd_X10_leadsFrom rfl rfl (fun hW hA G C hF => ?_)
  have i_0 : zb_is E.1 x0 10 := zb_aH hA (by decide)
  show zb_WP _ _ 0 [(0, (2, x0)), (1, (0, x1))] [] _ _ _ _
  refine zb_aload_n (j := 0) dX10_leadsFrom_0 rfl rfl ?_
  refine zb_gI 0 dX10_leadsFrom_1 fl_X10_15 i_0 rfl rfl ?_
  refine zb_if_eq (tgt := 30) dX10_leadsFrom_4 (by decide) (fun c1 => ?_) (fun c1 => ?_)
  · have h := h.1 c1
    refine zb_iconst dX10_leadsFrom_30 (zb_inIc rfl) ?_
    exact zb_rZ dX10_leadsFrom_31 rfl hF (by decide) ⟨rfl, h⟩
  · have h := h.2 c1
    refine zb_iload_n (j := 1) dX10_leadsFrom_7 rfl rfl ?_
    refine zb_bipush dX10_leadsFrom_8 (by decide) (zb_inIc rfl) ?_
    refine zb_cNp (As := [(0, x1), (0, 12)]) (As' := [(0, 12), (0, x1)]) (st := []) dX10_leadsFrom_10 lk_X10_37 gd_X11_isBelow rfl rfl h hW hF (zb_aI (zb_aI zb_a0)) (Nat.le_refl _) (Nat.le_of_ble_eq_true rfl) (fun r10 h => ?_)
    show zb_WP _ _ _ _ [(0, r10)] _ _ _ _
    refine zb_if_eq (tgt := 30) dX10_leadsFrom_13 (by decide) (fun c2 => ?_) (fun c2 => ?_)
    · have h := h.1 c2
      refine zb_iconst dX10_leadsFrom_30 (zb_inIc rfl) ?_
      exact zb_rZ dX10_leadsFrom_31 rfl hF (by decide) ⟨rfl, h⟩
    · have h := h.2 c2
      refine zb_aload_n (j := 0) dX10_leadsFrom_16 rfl rfl ?_
      refine zb_gFa 1 dX10_leadsFrom_17 fl_X10_9 i_0 hW hF rfl rfl rfl (by decide) rfl 12 rfl (fun i3 l4 => ?_)
      refine zb_iload_n (j := 1) dX10_leadsFrom_20 rfl rfl ?_
      obtain ⟨o5, h⟩ := h
      refine zb_lI dX10_leadsFrom_21 i3 l4 o5.1 o5.2 ?_
      refine zb_iconst dX10_leadsFrom_22 (zb_inIc rfl) ?_
      refine zb_icmp_eq (tgt := 30) dX10_leadsFrom_23 (by decide) (fun c6 => ?_) (fun c6 => ?_)
      · have h := h.1 c6
        refine zb_iconst dX10_leadsFrom_30 (zb_inIc rfl) ?_
        exact zb_rZ dX10_leadsFrom_31 rfl hF (by decide) ⟨rfl, h⟩
      · have h := h.2 c6
        refine zb_iconst dX10_leadsFrom_26 (zb_inIc rfl) ?_
        refine zb_goto (tgt := 31) dX10_leadsFrom_27 (by decide) ?_
        exact zb_rZ dX10_leadsFrom_31 rfl hF (by decide) ⟨rfl, h⟩
theorem dX10_isWithin_0 : decode cX10_isWithin 0 = .ok (.aload_n 0, 1) := by decide +kernel
theorem dX10_isWithin_1 : decode cX10_isWithin 1 = .ok (.getfield 15, 3) := by decide +kernel
theorem dX10_isWithin_4 : decode cX10_isWithin 4 = .ok (.ifCond .ne 5, 3) := by decide +kernel
theorem dX10_isWithin_7 : decode cX10_isWithin 7 = .ok (.iconst 0, 1) := by decide +kernel
theorem dX10_isWithin_8 : decode cX10_isWithin 8 = .ok (.ireturn, 1) := by decide +kernel
theorem dX10_isWithin_9 : decode cX10_isWithin 9 = .ok (.iconst 0, 1) := by decide +kernel
theorem dX10_isWithin_10 : decode cX10_isWithin 10 = .ok (.istore_n 2, 1) := by decide +kernel
theorem dX10_isWithin_11 : decode cX10_isWithin 11 = .ok (.iload_n 2, 1) := by decide +kernel
theorem dX10_isWithin_12 : decode cX10_isWithin 12 = .ok (.bipush 12, 2) := by decide +kernel
theorem dX10_isWithin_14 : decode cX10_isWithin 14 = .ok (.if_icmp .ge 47, 3) := by decide +kernel
theorem dX10_isWithin_17 : decode cX10_isWithin 17 = .ok (.aload_n 0, 1) := by decide +kernel
theorem dX10_isWithin_18 : decode cX10_isWithin 18 = .ok (.iload_n 2, 1) := by decide +kernel
theorem dX10_isWithin_19 : decode cX10_isWithin 19 = .ok (.invokevirtual 41, 3) := by decide +kernel
theorem dX10_isWithin_22 : decode cX10_isWithin 22 = .ok (.aload_n 1, 1) := by decide +kernel
theorem dX10_isWithin_23 : decode cX10_isWithin 23 = .ok (.iload_n 2, 1) := by decide +kernel
theorem dX10_isWithin_24 : decode cX10_isWithin 24 = .ok (.invokevirtual 41, 3) := by decide +kernel
theorem dX10_isWithin_27 : decode cX10_isWithin 27 = .ok (.if_icmp .eq 5, 3) := by decide +kernel
theorem dX10_isWithin_30 : decode cX10_isWithin 30 = .ok (.iconst 0, 1) := by decide +kernel
theorem dX10_isWithin_31 : decode cX10_isWithin 31 = .ok (.ireturn, 1) := by decide +kernel
theorem dX10_isWithin_32 : decode cX10_isWithin 32 = .ok (.aload_n 0, 1) := by decide +kernel
theorem dX10_isWithin_33 : decode cX10_isWithin 33 = .ok (.iload_n 2, 1) := by decide +kernel
theorem dX10_isWithin_34 : decode cX10_isWithin 34 = .ok (.invokevirtual 41, 3) := by decide +kernel
theorem dX10_isWithin_37 : decode cX10_isWithin 37 = .ok (.ifCond .eq 18, 3) := by decide +kernel
theorem dX10_isWithin_40 : decode cX10_isWithin 40 = .ok (.aload_n 1, 1) := by decide +kernel
theorem dX10_isWithin_41 : decode cX10_isWithin 41 = .ok (.aload_n 0, 1) := by decide +kernel
theorem dX10_isWithin_42 : decode cX10_isWithin 42 = .ok (.getfield 9, 3) := by decide +kernel
theorem dX10_isWithin_45 : decode cX10_isWithin 45 = .ok (.iload_n 2, 1) := by decide +kernel
theorem dX10_isWithin_46 : decode cX10_isWithin 46 = .ok (.iaload, 1) := by decide +kernel
theorem dX10_isWithin_47 : decode cX10_isWithin 47 = .ok (.invokevirtual 41, 3) := by decide +kernel
theorem dX10_isWithin_50 : decode cX10_isWithin 50 = .ok (.ifCond .ne 5, 3) := by decide +kernel
theorem dX10_isWithin_53 : decode cX10_isWithin 53 = .ok (.iconst 0, 1) := by decide +kernel
theorem dX10_isWithin_54 : decode cX10_isWithin 54 = .ok (.ireturn, 1) := by decide +kernel
theorem dX10_isWithin_55 : decode cX10_isWithin 55 = .ok (.iinc 2 1, 3) := by decide +kernel
theorem dX10_isWithin_58 : decode cX10_isWithin 58 = .ok (.goto (-47), 3) := by decide +kernel
theorem dX10_isWithin_61 : decode cX10_isWithin 61 = .ok (.iconst 1, 1) := by decide +kernel
theorem dX10_isWithin_62 : decode cX10_isWithin 62 = .ok (.ireturn, 1) := by decide +kernel
def PL_X10_isWithin_11 (d : Nat) (E : zb_E) (x0 : Int) (x1 : Int) (m : zb_M) (Q : Int → Prop)  (v2_11 : Int) : Prop :=
  ∀ X11 : Int → Prop, (∀ (v2_11 : Int), ((12 ≤ v2_11 → Q 1) ∧ (¬ 12 ≤ v2_11 → zb_Tp K_X10_leadsFrom d [(2, x0), (0, v2_11)] E m (fun r19 => zb_Tp K_X10_leadsFrom d [(2, x1), (0, v2_11)] E m (fun r24 => (r19 = r24 → zb_Tp K_X10_leadsFrom d [(2, x0), (0, v2_11)] E m (fun r34 => (r34 = 0 → (zb_inI (v2_11 + 1)) ∧ (X11 (v2_11 + 1))) ∧ (¬ r34 = 0 → (0 ≤ v2_11 ∧ v2_11 < 12) ∧ (zb_Tp K_X10_leadsFrom d [(2, x1), (0, (m (E.2 x0 1) v2_11))] E m (fun r47 => (r47 = 0 → Q 0) ∧ (¬ r47 = 0 → (zb_inI (v2_11 + 1)) ∧ (X11 (v2_11 + 1)))))))) ∧ (¬ r19 = r24 → Q 0))))) → X11 v2_11) → X11 v2_11
def PM_X10_isWithin (d : Nat) (E : zb_E) (x0 : Int) (x1 : Int) (m : zb_M) (Q : Int → Prop) : Prop :=
  ((m x0 0) = 0 → Q 0) ∧ (¬ (m x0 0) = 0 → PL_X10_isWithin_11 d E x0 x1 m Q 0)
set_option maxRecDepth 100000 in
set_option maxHeartbeats 4000000 in
theorem w_X10_isWithin {d : Nat} {E : zb_E} {x0 x1 : Int} {m : zb_M} {Q : Int → Prop} (h : PM_X10_isWithin d E x0 x1 m Q) : zb_Tp K_X10_isWithin (d + 1) [(2, x0), (2, x1)] E m Q := by
  unfold PM_X10_isWithin at h
  refine zb_T_in gd_X10_isWithin rfl rfl (fun hW hA G C hF => ?_)
  have i_0 : zb_is E.1 x0 10 := zb_aH hA (by decide)
  have i_1 : zb_is E.1 x1 10 := zb_aH (zb_aT hA) (by decide)
  show zb_WP _ _ 0 [(0, (2, x0)), (1, (2, x1))] [] _ _ _ _
  refine zb_aload_n (j := 0) dX10_isWithin_0 rfl rfl ?_
  refine zb_gI 0 dX10_isWithin_1 fl_X10_15 i_0 rfl rfl ?_
  refine zb_if_ne (tgt := 9) dX10_isWithin_4 (by decide) (fun c1 => ?_) (fun c1 => ?_)
  · have h := h.2 c1
    refine zb_iconst dX10_isWithin_9 (zb_inIc rfl) ?_
    refine zb_istore_n (L' := [(2, (0, 0)), (0, (2, x0)), (1, (2, x1))]) dX10_isWithin_10 rfl (by decide) rfl ?_
    refine zb_sub (L' := [(0, (2, x0)), (1, (2, x1)), (2, (0, 0))]) [1, 2, 0] rfl ?_
    unfold PL_X10_isWithin_11 at h
    obtain ⟨X11, hX11⟩ : ∃ X : Int → Prop, ∀ (v2_11 : Int), (X v2_11 ↔ (zb_FIN E m → zb_WP (G, C, d + 1, 0, 0, zb_q E (fun r m' => m' = m ∧ Q r)) F_X10_isWithin 11 [(0, (2, x0)), (1, (2, x1)), (2, (0, v2_11))] [] E.1 m 0 0)) := ⟨fun v2_11 => zb_FIN E m → zb_WP (G, C, d + 1, 0, 0, zb_q E (fun r m' => m' = m ∧ Q r)) F_X10_isWithin 11 [(0, (2, x0)), (1, (2, x1)), (2, (0, v2_11))] [] E.1 m 0 0, fun _ => Iff.rfl⟩
    refine (hX11 _).mp (h X11 (fun v2_11 h => (hX11 _).mpr (fun hF => ?_))) hF
    refine zb_iload_n (j := 2) dX10_isWithin_11 rfl rfl ?_
    refine zb_bipush dX10_isWithin_12 (by decide) (zb_inIc rfl) ?_
    refine zb_icmp_ge (tgt := 61) dX10_isWithin_14 (by decide) (fun c2 => ?_) (fun c2 => ?_)
    · have h := h.1 c2
      refine zb_iconst dX10_isWithin_61 (zb_inIc rfl) ?_
      exact zb_rZ dX10_isWithin_62 rfl hF (by decide) ⟨rfl, h⟩
    · have h := h.2 c2
      refine zb_aload_n (j := 0) dX10_isWithin_17 rfl rfl ?_
      refine zb_iload_n (j := 2) dX10_isWithin_18 rfl rfl ?_
      refine zb_cVp (As := [(0, v2_11)]) (As' := [(0, v2_11)]) (st := []) dX10_isWithin_19 lk_X10_41 gd_X10_leadsFrom rfl rfl i_0 ⟨_, rfl, rfl⟩ h hW hF (zb_aR i_0 (zb_aI zb_a0)) (Nat.le_refl _) (Nat.le_of_ble_eq_true rfl) (fun r19 h => ?_)
      show zb_WP _ _ _ _ [(0, r19)] _ _ _ _
      refine zb_aload_n (j := 1) dX10_isWithin_22 rfl rfl ?_
      refine zb_iload_n (j := 2) dX10_isWithin_23 rfl rfl ?_
      refine zb_cVp (As := [(0, v2_11)]) (As' := [(0, v2_11)]) (st := [(0, r19)]) dX10_isWithin_24 lk_X10_41 gd_X10_leadsFrom rfl rfl i_1 ⟨_, rfl, rfl⟩ h hW hF (zb_aR i_1 (zb_aI zb_a0)) (Nat.le_refl _) (Nat.le_of_ble_eq_true rfl) (fun r24 h => ?_)
      show zb_WP _ _ _ _ [(0, r24), (0, r19)] _ _ _ _
      refine zb_icmp_eq (tgt := 32) dX10_isWithin_27 (by decide) (fun c3 => ?_) (fun c3 => ?_)
      · have h := h.1 c3
        refine zb_aload_n (j := 0) dX10_isWithin_32 rfl rfl ?_
        refine zb_iload_n (j := 2) dX10_isWithin_33 rfl rfl ?_
        refine zb_cVp (As := [(0, v2_11)]) (As' := [(0, v2_11)]) (st := []) dX10_isWithin_34 lk_X10_41 gd_X10_leadsFrom rfl rfl i_0 ⟨_, rfl, rfl⟩ h hW hF (zb_aR i_0 (zb_aI zb_a0)) (Nat.le_refl _) (Nat.le_of_ble_eq_true rfl) (fun r34 h => ?_)
        show zb_WP _ _ _ _ [(0, r34)] _ _ _ _
        refine zb_if_eq (tgt := 55) dX10_isWithin_37 (by decide) (fun c4 => ?_) (fun c4 => ?_)
        · have h := h.1 c4
          obtain ⟨o5, h⟩ := h
          refine zb_iinc (j := 2) (L' := [(2, (0, (v2_11 + 1))), (0, (2, x0)), (1, (2, x1))]) dX10_isWithin_55 rfl o5 (by decide) rfl ?_
          refine zb_goto (tgt := 11) dX10_isWithin_58 (by decide) ?_
          refine zb_sub (L' := [(0, (2, x0)), (1, (2, x1)), (2, (0, (v2_11 + 1)))]) [1, 2, 0] rfl ?_
          exact (hX11 _).mp h hF
        · have h := h.2 c4
          refine zb_aload_n (j := 1) dX10_isWithin_40 rfl rfl ?_
          refine zb_aload_n (j := 0) dX10_isWithin_41 rfl rfl ?_
          refine zb_gFa 1 dX10_isWithin_42 fl_X10_9 i_0 hW hF rfl rfl rfl (by decide) rfl 12 rfl (fun i6 l7 => ?_)
          refine zb_iload_n (j := 2) dX10_isWithin_45 rfl rfl ?_
          obtain ⟨o8, h⟩ := h
          refine zb_lI dX10_isWithin_46 i6 l7 o8.1 o8.2 ?_
          refine zb_cVp (As := [(0, (m (E.2 x0 1) v2_11))]) (As' := [(0, (m (E.2 x0 1) v2_11))]) (st := []) dX10_isWithin_47 lk_X10_41 gd_X10_leadsFrom rfl rfl i_1 ⟨_, rfl, rfl⟩ h hW hF (zb_aR i_1 (zb_aI zb_a0)) (Nat.le_refl _) (Nat.le_of_ble_eq_true rfl) (fun r47 h => ?_)
          show zb_WP _ _ _ _ [(0, r47)] _ _ _ _
          refine zb_if_ne (tgt := 55) dX10_isWithin_50 (by decide) (fun c9 => ?_) (fun c9 => ?_)
          · have h := h.2 c9
            obtain ⟨o10, h⟩ := h
            refine zb_iinc (j := 2) (L' := [(2, (0, (v2_11 + 1))), (0, (2, x0)), (1, (2, x1))]) dX10_isWithin_55 rfl o10 (by decide) rfl ?_
            refine zb_goto (tgt := 11) dX10_isWithin_58 (by decide) ?_
            refine zb_sub (L' := [(0, (2, x0)), (1, (2, x1)), (2, (0, (v2_11 + 1)))]) [1, 2, 0] rfl ?_
            exact (hX11 _).mp h hF
          · have h := h.1 c9
            refine zb_iconst dX10_isWithin_53 (zb_inIc rfl) ?_
            exact zb_rZ dX10_isWithin_54 rfl hF (by decide) ⟨rfl, h⟩
      · have h := h.2 c3
        refine zb_iconst dX10_isWithin_30 (zb_inIc rfl) ?_
        exact zb_rZ dX10_isWithin_31 rfl hF (by decide) ⟨rfl, h⟩
  · have h := h.1 c1
    refine zb_iconst dX10_isWithin_7 (zb_inIc rfl) ?_
    exact zb_rZ dX10_isWithin_8 rfl hF (by decide) ⟨rfl, h⟩
theorem dX10_goOnBy_0 : decode cX10_goOnBy 0 = .ok (.iconst 0, 1) := by decide +kernel
theorem dX10_goOnBy_1 : decode cX10_goOnBy 1 = .ok (.istore_n 2, 1) := by decide +kernel
theorem dX10_goOnBy_2 : decode cX10_goOnBy 2 = .ok (.iload_n 2, 1) := by decide +kernel
theorem dX10_goOnBy_3 : decode cX10_goOnBy 3 = .ok (.bipush 12, 2) := by decide +kernel
theorem dX10_goOnBy_5 : decode cX10_goOnBy 5 = .ok (.if_icmp .ge 47, 3) := by decide +kernel
theorem dX10_goOnBy_8 : decode cX10_goOnBy 8 = .ok (.aload_n 0, 1) := by decide +kernel
theorem dX10_goOnBy_9 : decode cX10_goOnBy 9 = .ok (.iload_n 2, 1) := by decide +kernel
theorem dX10_goOnBy_10 : decode cX10_goOnBy 10 = .ok (.invokevirtual 41, 3) := by decide +kernel
theorem dX10_goOnBy_13 : decode cX10_goOnBy 13 = .ok (.ifCond .eq 33, 3) := by decide +kernel
theorem dX10_goOnBy_16 : decode cX10_goOnBy 16 = .ok (.aload_n 1, 1) := by decide +kernel
theorem dX10_goOnBy_17 : decode cX10_goOnBy 17 = .ok (.aload_n 0, 1) := by decide +kernel
theorem dX10_goOnBy_18 : decode cX10_goOnBy 18 = .ok (.getfield 9, 3) := by decide +kernel
theorem dX10_goOnBy_21 : decode cX10_goOnBy 21 = .ok (.iload_n 2, 1) := by decide +kernel
theorem dX10_goOnBy_22 : decode cX10_goOnBy 22 = .ok (.iaload, 1) := by decide +kernel
theorem dX10_goOnBy_23 : decode cX10_goOnBy 23 = .ok (.invokevirtual 41, 3) := by decide +kernel
theorem dX10_goOnBy_26 : decode cX10_goOnBy 26 = .ok (.ifCond .eq 20, 3) := by decide +kernel
theorem dX10_goOnBy_29 : decode cX10_goOnBy 29 = .ok (.aload_n 0, 1) := by decide +kernel
theorem dX10_goOnBy_30 : decode cX10_goOnBy 30 = .ok (.getfield 9, 3) := by decide +kernel
theorem dX10_goOnBy_33 : decode cX10_goOnBy 33 = .ok (.iload_n 2, 1) := by decide +kernel
theorem dX10_goOnBy_34 : decode cX10_goOnBy 34 = .ok (.aload_n 1, 1) := by decide +kernel
theorem dX10_goOnBy_35 : decode cX10_goOnBy 35 = .ok (.getfield 9, 3) := by decide +kernel
theorem dX10_goOnBy_38 : decode cX10_goOnBy 38 = .ok (.aload_n 0, 1) := by decide +kernel
theorem dX10_goOnBy_39 : decode cX10_goOnBy 39 = .ok (.getfield 9, 3) := by decide +kernel
theorem dX10_goOnBy_42 : decode cX10_goOnBy 42 = .ok (.iload_n 2, 1) := by decide +kernel
theorem dX10_goOnBy_43 : decode cX10_goOnBy 43 = .ok (.iaload, 1) := by decide +kernel
theorem dX10_goOnBy_44 : decode cX10_goOnBy 44 = .ok (.iaload, 1) := by decide +kernel
theorem dX10_goOnBy_45 : decode cX10_goOnBy 45 = .ok (.iastore, 1) := by decide +kernel
theorem dX10_goOnBy_46 : decode cX10_goOnBy 46 = .ok (.iinc 2 1, 3) := by decide +kernel
theorem dX10_goOnBy_49 : decode cX10_goOnBy 49 = .ok (.goto (-47), 3) := by decide +kernel
theorem dX10_goOnBy_52 : decode cX10_goOnBy 52 = .ok (.return_, 1) := by decide +kernel
def PL_X10_goOnBy_2 (d : Nat) (E : zb_E) (x0 : Int) (x1 : Int) (Q : Int → zb_M → Prop)  (v2_2 : Int) (m2l : zb_M) : Prop :=
  ∀ X2 : Int → zb_M → Prop, (∀ (v2_2 : Int) (m2l : zb_M), ((12 ≤ v2_2 → Q 0 m2l) ∧ (¬ 12 ≤ v2_2 → zb_Tp K_X10_leadsFrom d [(2, x0), (0, v2_2)] E m2l (fun r10 => (r10 = 0 → (zb_inI (v2_2 + 1)) ∧ (X2 (v2_2 + 1) m2l)) ∧ (¬ r10 = 0 → (0 ≤ v2_2 ∧ v2_2 < 12) ∧ (zb_Tp K_X10_leadsFrom d [(2, x1), (0, (m2l (E.2 x0 1) v2_2))] E m2l (fun r23 => (r23 = 0 → (zb_inI (v2_2 + 1)) ∧ (X2 (v2_2 + 1) m2l)) ∧ (¬ r23 = 0 → (0 ≤ (m2l (E.2 x0 1) v2_2) ∧ (m2l (E.2 x0 1) v2_2) < 12) ∧ (∀ m45, m45 = zb_up m2l (E.2 x0 1) v2_2 (m2l (E.2 x1 1) (m2l (E.2 x0 1) v2_2)) → ((zb_inI (v2_2 + 1)) ∧ (X2 (v2_2 + 1) m45)))))))))) → X2 v2_2 m2l) → X2 v2_2 m2l
def PM_X10_goOnBy (d : Nat) (E : zb_E) (x0 : Int) (x1 : Int) (m : zb_M) (Q : Int → zb_M → Prop) : Prop :=
  PL_X10_goOnBy_2 d E x0 x1 Q 0 m
set_option maxRecDepth 100000 in
set_option maxHeartbeats 4000000 in
theorem w_X10_goOnBy {d : Nat} {E : zb_E} {x0 x1 : Int} {m : zb_M} {Q : Int → zb_M → Prop} (h : PM_X10_goOnBy d E x0 x1 m Q) : zb_T K_X10_goOnBy (d + 1) [(2, x0), (2, x1)] E m Q := by
  unfold PM_X10_goOnBy at h
  refine zb_T_in gd_X10_goOnBy rfl rfl (fun hW hA G C hF => ?_)
  have i_0 : zb_is E.1 x0 10 := zb_aH hA (by decide)
  have i_1 : zb_is E.1 x1 10 := zb_aH (zb_aT hA) (by decide)
  show zb_WP _ _ 0 [(0, (2, x0)), (1, (2, x1))] [] _ _ _ _
  refine zb_iconst dX10_goOnBy_0 (zb_inIc rfl) ?_
  refine zb_istore_n (L' := [(2, (0, 0)), (0, (2, x0)), (1, (2, x1))]) dX10_goOnBy_1 rfl (by decide) rfl ?_
  refine zb_sub (L' := [(0, (2, x0)), (1, (2, x1)), (2, (0, 0))]) [1, 2, 0] rfl ?_
  unfold PL_X10_goOnBy_2 at h
  obtain ⟨X2, hX2⟩ : ∃ X : Int → zb_M → Prop, ∀ (v2_2 : Int) (m2l : zb_M), (X v2_2 m2l ↔ (zb_FIN E m2l → zb_WP (G, C, d + 1, 0, 0, zb_q E Q) F_X10_goOnBy 2 [(0, (2, x0)), (1, (2, x1)), (2, (0, v2_2))] [] E.1 m2l 0 0)) := ⟨fun v2_2 m2l => zb_FIN E m2l → zb_WP (G, C, d + 1, 0, 0, zb_q E Q) F_X10_goOnBy 2 [(0, (2, x0)), (1, (2, x1)), (2, (0, v2_2))] [] E.1 m2l 0 0, fun _ _ => Iff.rfl⟩
  refine (hX2 _ _).mp (h X2 (fun v2_2 m2l h => (hX2 _ _).mpr (fun hF => ?_))) hF
  refine zb_iload_n (j := 2) dX10_goOnBy_2 rfl rfl ?_
  refine zb_bipush dX10_goOnBy_3 (by decide) (zb_inIc rfl) ?_
  refine zb_icmp_ge (tgt := 52) dX10_goOnBy_5 (by decide) (fun c1 => ?_) (fun c1 => ?_)
  · have h := h.1 c1
    exact zb_rV dX10_goOnBy_52 rfl hF h
  · have h := h.2 c1
    refine zb_aload_n (j := 0) dX10_goOnBy_8 rfl rfl ?_
    refine zb_iload_n (j := 2) dX10_goOnBy_9 rfl rfl ?_
    refine zb_cVp (As := [(0, v2_2)]) (As' := [(0, v2_2)]) (st := []) dX10_goOnBy_10 lk_X10_41 gd_X10_leadsFrom rfl rfl i_0 ⟨_, rfl, rfl⟩ h hW hF (zb_aR i_0 (zb_aI zb_a0)) (Nat.le_refl _) (Nat.le_of_ble_eq_true rfl) (fun r10 h => ?_)
    show zb_WP _ _ _ _ [(0, r10)] _ _ _ _
    refine zb_if_eq (tgt := 46) dX10_goOnBy_13 (by decide) (fun c2 => ?_) (fun c2 => ?_)
    · have h := h.1 c2
      obtain ⟨o3, h⟩ := h
      refine zb_iinc (j := 2) (L' := [(2, (0, (v2_2 + 1))), (0, (2, x0)), (1, (2, x1))]) dX10_goOnBy_46 rfl o3 (by decide) rfl ?_
      refine zb_goto (tgt := 2) dX10_goOnBy_49 (by decide) ?_
      refine zb_sub (L' := [(0, (2, x0)), (1, (2, x1)), (2, (0, (v2_2 + 1)))]) [1, 2, 0] rfl ?_
      exact (hX2 _ _).mp h hF
    · have h := h.2 c2
      refine zb_aload_n (j := 1) dX10_goOnBy_16 rfl rfl ?_
      refine zb_aload_n (j := 0) dX10_goOnBy_17 rfl rfl ?_
      refine zb_gFa 1 dX10_goOnBy_18 fl_X10_9 i_0 hW hF rfl rfl rfl (by decide) rfl 12 rfl (fun i4 l5 => ?_)
      refine zb_iload_n (j := 2) dX10_goOnBy_21 rfl rfl ?_
      obtain ⟨o6, h⟩ := h
      refine zb_lI dX10_goOnBy_22 i4 l5 o6.1 o6.2 ?_
      refine zb_cVp (As := [(0, (m2l (E.2 x0 1) v2_2))]) (As' := [(0, (m2l (E.2 x0 1) v2_2))]) (st := []) dX10_goOnBy_23 lk_X10_41 gd_X10_leadsFrom rfl rfl i_1 ⟨_, rfl, rfl⟩ h hW hF (zb_aR i_1 (zb_aI zb_a0)) (Nat.le_refl _) (Nat.le_of_ble_eq_true rfl) (fun r23 h => ?_)
      show zb_WP _ _ _ _ [(0, r23)] _ _ _ _
      refine zb_if_eq (tgt := 46) dX10_goOnBy_26 (by decide) (fun c7 => ?_) (fun c7 => ?_)
      · have h := h.1 c7
        obtain ⟨o8, h⟩ := h
        refine zb_iinc (j := 2) (L' := [(2, (0, (v2_2 + 1))), (0, (2, x0)), (1, (2, x1))]) dX10_goOnBy_46 rfl o8 (by decide) rfl ?_
        refine zb_goto (tgt := 2) dX10_goOnBy_49 (by decide) ?_
        refine zb_sub (L' := [(0, (2, x0)), (1, (2, x1)), (2, (0, (v2_2 + 1)))]) [1, 2, 0] rfl ?_
        exact (hX2 _ _).mp h hF
      · have h := h.2 c7
        refine zb_aload_n (j := 0) dX10_goOnBy_29 rfl rfl ?_
        refine zb_gFa 1 dX10_goOnBy_30 fl_X10_9 i_0 hW hF rfl rfl rfl (by decide) rfl 12 rfl (fun i9 l10 => ?_)
        refine zb_iload_n (j := 2) dX10_goOnBy_33 rfl rfl ?_
        refine zb_aload_n (j := 1) dX10_goOnBy_34 rfl rfl ?_
        refine zb_gFa 1 dX10_goOnBy_35 fl_X10_9 i_1 hW hF rfl rfl rfl (by decide) rfl 12 rfl (fun i11 l12 => ?_)
        refine zb_aload_n (j := 0) dX10_goOnBy_38 rfl rfl ?_
        refine zb_gFa 1 dX10_goOnBy_39 fl_X10_9 i_0 hW hF rfl rfl rfl (by decide) rfl 12 rfl (fun i13 l14 => ?_)
        refine zb_iload_n (j := 2) dX10_goOnBy_42 rfl rfl ?_
        refine zb_lI dX10_goOnBy_43 i13 l14 o6.1 o6.2 ?_
        obtain ⟨o15, h⟩ := h
        refine zb_lI dX10_goOnBy_44 i11 l12 o15.1 o15.2 ?_
        refine zb_sI dX10_goOnBy_45 i9 l10 o6.1 o6.2 hF (fun m45 e45 hF => ?_)
        have h := h m45 e45
        obtain ⟨o16, h⟩ := h
        refine zb_iinc (j := 2) (L' := [(2, (0, (v2_2 + 1))), (0, (2, x0)), (1, (2, x1))]) dX10_goOnBy_46 rfl o16 (by decide) rfl ?_
        refine zb_goto (tgt := 2) dX10_goOnBy_49 (by decide) ?_
        refine zb_sub (L' := [(0, (2, x0)), (1, (2, x1)), (2, (0, (v2_2 + 1)))]) [1, 2, 0] rfl ?_
        exact (hX2 _ _).mp h hF
