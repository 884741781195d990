/-! ===== SameBench$Name: instructions and walks (laid by gen/layout.py) ===== -/
theorem dX3_differsAt_0 : decode cX3_differsAt 0 = .ok (.aload_n 0, 1) := by decide +kernel
theorem dX3_differsAt_1 : decode cX3_differsAt 1 = .ok (.getfield 18, 3) := by decide +kernel
theorem dX3_differsAt_4 : decode cX3_differsAt 4 = .ok (.aload_n 1, 1) := by decide +kernel
theorem dX3_differsAt_5 : decode cX3_differsAt 5 = .ok (.getfield 18, 3) := by decide +kernel
theorem dX3_differsAt_8 : decode cX3_differsAt 8 = .ok (.invokestatic 22, 3) := by decide +kernel
theorem dX3_differsAt_11 : decode cX3_differsAt 11 = .ok (.istore_n 2, 1) := by decide +kernel
theorem dX3_differsAt_12 : decode cX3_differsAt 12 = .ok (.iconst 0, 1) := by decide +kernel
theorem dX3_differsAt_13 : decode cX3_differsAt 13 = .ok (.istore_n 3, 1) := by decide +kernel
theorem dX3_differsAt_14 : decode cX3_differsAt 14 = .ok (.iload_n 3, 1) := by decide +kernel
theorem dX3_differsAt_15 : decode cX3_differsAt 15 = .ok (.iload_n 2, 1) := by decide +kernel
theorem dX3_differsAt_16 : decode cX3_differsAt 16 = .ok (.if_icmp .ge 26, 3) := by decide +kernel
theorem dX3_differsAt_19 : decode cX3_differsAt 19 = .ok (.aload_n 0, 1) := by decide +kernel
theorem dX3_differsAt_20 : decode cX3_differsAt 20 = .ok (.getfield 9, 3) := by decide +kernel
theorem dX3_differsAt_23 : decode cX3_differsAt 23 = .ok (.iload_n 3, 1) := by decide +kernel
theorem dX3_differsAt_24 : decode cX3_differsAt 24 = .ok (.iaload, 1) := by decide +kernel
theorem dX3_differsAt_25 : decode cX3_differsAt 25 = .ok (.aload_n 1, 1) := by decide +kernel
theorem dX3_differsAt_26 : decode cX3_differsAt 26 = .ok (.getfield 9, 3) := by decide +kernel
theorem dX3_differsAt_29 : decode cX3_differsAt 29 = .ok (.iload_n 3, 1) := by decide +kernel
theorem dX3_differsAt_30 : decode cX3_differsAt 30 = .ok (.iaload, 1) := by decide +kernel
theorem dX3_differsAt_31 : decode cX3_differsAt 31 = .ok (.if_icmp .eq 5, 3) := by decide +kernel
theorem dX3_differsAt_34 : decode cX3_differsAt 34 = .ok (.iload_n 3, 1) := by decide +kernel
theorem dX3_differsAt_35 : decode cX3_differsAt 35 = .ok (.ireturn, 1) := by decide +kernel
theorem dX3_differsAt_36 : decode cX3_differsAt 36 = .ok (.iinc 3 1, 3) := by decide +kernel
theorem dX3_differsAt_39 : decode cX3_differsAt 39 = .ok (.goto (-25), 3) := by decide +kernel
theorem dX3_differsAt_42 : decode cX3_differsAt 42 = .ok (.iconst (-1), 1) := by decide +kernel
theorem dX3_differsAt_43 : decode cX3_differsAt 43 = .ok (.ireturn, 1) := by decide +kernel
def PL_X3_differsAt_14 (d : Nat) (E : zb_E) (x0 : Int) (x1 : Int) (m : zb_M) (Q : Int → Prop)  (v3_14 : Int) : Prop :=
  ∀ X14 : Int → Prop, (∀ (v3_14 : Int), (((if (m x1 2) < (m x0 2) then (m x1 2) else (m x0 2)) ≤ v3_14 → Q (-1)) ∧ (¬ (if (m x1 2) < (m x0 2) then (m x1 2) else (m x0 2)) ≤ v3_14 → (0 ≤ v3_14 ∧ v3_14 < 157) ∧ (((m (E.2 x0 5) v3_14) = (m (E.2 x1 5) v3_14) → (zb_inI (v3_14 + 1)) ∧ (X14 (v3_14 + 1))) ∧ (¬ (m (E.2 x0 5) v3_14) = (m (E.2 x1 5) v3_14) → Q v3_14)))) → X14 v3_14) → X14 v3_14
def PM_X3_differsAt (d : Nat) (E : zb_E) (x0 : Int) (x1 : Int) (m : zb_M) (Q : Int → Prop) : Prop :=
  PL_X3_differsAt_14 d E x0 x1 m Q 0
set_option maxRecDepth 100000 in
set_option maxHeartbeats 4000000 in
theorem w_X3_differsAt {d : Nat} {E : zb_E} {x0 x1 : Int} {m : zb_M} {Q : Int → Prop} (h : PM_X3_differsAt d E x0 x1 m Q) : zb_Tp K_X3_differsAt (d + 1) [(2, x0), (2, x1)] E m Q := by
  unfold PM_X3_differsAt at h
  refine zb_T_in gd_X3_differsAt rfl rfl (fun hW hA G C hF => ?_)
  have i_0 : zb_is E.1 x0 3 := zb_aH hA (by decide)
  have i_1 : zb_is E.1 x1 3 := zb_aH (zb_aT hA) (by decide)
  show zb_WP _ _ 0 [(0, (2, x0)), (1, (2, x1))] [] _ _ _ _
  refine zb_aload_n (j := 0) dX3_differsAt_0 rfl rfl ?_
  refine zb_gI 2 dX3_differsAt_1 fl_X3_18 i_0 rfl rfl ?_
  refine zb_aload_n (j := 1) dX3_differsAt_4 rfl rfl ?_
  refine zb_gI 2 dX3_differsAt_5 fl_X3_18 i_1 rfl rfl ?_
  refine zb_mn dX3_differsAt_8 lk_X3_22 (Nat.succ_le_succ (Nat.zero_le _)) (Nat.le_refl _) (Nat.le_refl _) (Nat.le_of_ble_eq_true rfl) ?_
  refine zb_istore_n (L' := [(2, (0, (if (m x1 2) < (m x0 2) then (m x1 2) else (m x0 2)))), (0, (2, x0)), (1, (2, x1))]) dX3_differsAt_11 rfl (by decide) rfl ?_
  refine zb_iconst dX3_differsAt_12 (zb_inIc rfl) ?_
  refine zb_istore_n (L' := [(3, (0, 0)), (2, (0, (if (m x1 2) < (m x0 2) then (m x1 2) else (m x0 2)))), (0, (2, x0)), (1, (2, x1))]) dX3_differsAt_13 rfl (by decide) rfl ?_
  refine zb_sub (L' := [(0, (2, x0)), (1, (2, x1)), (2, (0, (if (m x1 2) < (m x0 2) then (m x1 2) else (m x0 2)))), (3, (0, 0))]) [2, 3, 1, 0] rfl ?_
  unfold PL_X3_differsAt_14 at h
  obtain ⟨X14, hX14⟩ : ∃ X : Int → Prop, ∀ (v3_14 : Int), (X v3_14 ↔ (zb_FIN E m → zb_WP (G, C, d + 1, 0, 0, zb_q E (fun r m' => m' = m ∧ Q r)) F_X3_differsAt 14 [(0, (2, x0)), (1, (2, x1)), (2, (0, (if (m x1 2) < (m x0 2) then (m x1 2) else (m x0 2)))), (3, (0, v3_14))] [] E.1 m 0 0)) := ⟨fun v3_14 => zb_FIN E m → zb_WP (G, C, d + 1, 0, 0, zb_q E (fun r m' => m' = m ∧ Q r)) F_X3_differsAt 14 [(0, (2, x0)), (1, (2, x1)), (2, (0, (if (m x1 2) < (m x0 2) then (m x1 2) else (m x0 2)))), (3, (0, v3_14))] [] E.1 m 0 0, fun _ => Iff.rfl⟩
  refine (hX14 _).mp (h X14 (fun v3_14 h => (hX14 _).mpr (fun hF => ?_))) hF
  refine zb_iload_n (j := 3) dX3_differsAt_14 rfl rfl ?_
  refine zb_iload_n (j := 2) dX3_differsAt_15 rfl rfl ?_
  refine zb_icmp_ge (tgt := 42) dX3_differsAt_16 (by decide) (fun c1 => ?_) (fun c1 => ?_)
  · have h := h.1 c1
    refine zb_iconst dX3_differsAt_42 (zb_inIc rfl) ?_
    exact zb_rI dX3_differsAt_43 rfl hF ⟨rfl, h⟩
  · have h := h.2 c1
    refine zb_aload_n (j := 0) dX3_differsAt_19 rfl rfl ?_
    refine zb_gFa 5 dX3_differsAt_20 fl_X3_9 i_0 hW hF rfl rfl rfl (by decide) rfl 157 rfl (fun i2 l3 => ?_)
    refine zb_iload_n (j := 3) dX3_differsAt_23 rfl rfl ?_
    obtain ⟨o4, h⟩ := h
    refine zb_lI dX3_differsAt_24 i2 l3 o4.1 o4.2 ?_
    refine zb_aload_n (j := 1) dX3_differsAt_25 rfl rfl ?_
    refine zb_gFa 5 dX3_differsAt_26 fl_X3_9 i_1 hW hF rfl rfl rfl (by decide) rfl 157 rfl (fun i5 l6 => ?_)
    refine zb_iload_n (j := 3) dX3_differsAt_29 rfl rfl ?_
    refine zb_lI dX3_differsAt_30 i5 l6 o4.1 o4.2 ?_
    refine zb_icmp_eq (tgt := 36) dX3_differsAt_31 (by decide) (fun c7 => ?_) (fun c7 => ?_)
    · have h := h.1 c7
      obtain ⟨o8, h⟩ := h
      refine zb_iinc (j := 3) (L' := [(3, (0, (v3_14 + 1))), (0, (2, x0)), (1, (2, x1)), (2, (0, (if (m x1 2) < (m x0 2) then (m x1 2) else (m x0 2))))]) dX3_differsAt_36 rfl o8 (by decide) rfl ?_
      refine zb_goto (tgt := 14) dX3_differsAt_39 (by decide) ?_
      refine zb_sub (L' := [(0, (2, x0)), (1, (2, x1)), (2, (0, (if (m x1 2) < (m x0 2) then (m x1 2) else (m x0 2)))), (3, (0, (v3_14 + 1)))]) [1, 2, 3, 0] rfl ?_
      exact (hX14 _).mp h hF
    · have h := h.2 c7
      refine zb_iload_n (j := 3) dX3_differsAt_34 rfl rfl ?_
      exact zb_rI dX3_differsAt_35 rfl hF ⟨rfl, h⟩
theorem dX3_isLessThan_0 : decode cX3_isLessThan 0 = .ok (.aload_n 0, 1) := by decide +kernel
theorem dX3_isLessThan_1 : decode cX3_isLessThan 1 = .ok (.aload_n 1, 1) := by decide +kernel
theorem dX3_isLessThan_2 : decode cX3_isLessThan 2 = .ok (.invokevirtual 28, 3) := by decide +kernel
theorem dX3_isLessThan_5 : decode cX3_isLessThan 5 = .ok (.istore_n 2, 1) := by decide +kernel
theorem dX3_isLessThan_6 : decode cX3_isLessThan 6 = .ok (.iload_n 2, 1) := by decide +kernel
theorem dX3_isLessThan_7 : decode cX3_isLessThan 7 = .ok (.ifCond .lt 22, 3) := by decide +kernel
theorem dX3_isLessThan_10 : decode cX3_isLessThan 10 = .ok (.aload_n 0, 1) := by decide +kernel
theorem dX3_isLessThan_11 : decode cX3_isLessThan 11 = .ok (.getfield 9, 3) := by decide +kernel
theorem dX3_isLessThan_14 : decode cX3_isLessThan 14 = .ok (.iload_n 2, 1) := by decide +kernel
theorem dX3_isLessThan_15 : decode cX3_isLessThan 15 = .ok (.iaload, 1) := by decide +kernel
theorem dX3_isLessThan_16 : decode cX3_isLessThan 16 = .ok (.aload_n 1, 1) := by decide +kernel
theorem dX3_isLessThan_17 : decode cX3_isLessThan 17 = .ok (.getfield 9, 3) := by decide +kernel
theorem dX3_isLessThan_20 : decode cX3_isLessThan 20 = .ok (.iload_n 2, 1) := by decide +kernel
theorem dX3_isLessThan_21 : decode cX3_isLessThan 21 = .ok (.iaload, 1) := by decide +kernel
theorem dX3_isLessThan_22 : decode cX3_isLessThan 22 = .ok (.if_icmp .ge 7, 3) := by decide +kernel
theorem dX3_isLessThan_25 : decode cX3_isLessThan 25 = .ok (.iconst 1, 1) := by decide +kernel
theorem dX3_isLessThan_26 : decode cX3_isLessThan 26 = .ok (.goto 4, 3) := by decide +kernel
theorem dX3_isLessThan_29 : decode cX3_isLessThan 29 = .ok (.iconst 0, 1) := by decide +kernel
theorem dX3_isLessThan_30 : decode cX3_isLessThan 30 = .ok (.ireturn, 1) := by decide +kernel
def PM_X3_isLessThan (d : Nat) (E : zb_E) (x0 : Int) (x1 : Int) (m : zb_M) (Q : Int → Prop) : Prop :=
  zb_Tp K_X3_differsAt d [(2, x0), (2, x1)] E m (fun r2 => (r2 < 0 → Q 0) ∧ (¬ r2 < 0 → (0 ≤ r2 ∧ r2 < 157) ∧ (((m (E.2 x1 5) r2) ≤ (m (E.2 x0 5) r2) → Q 0) ∧ (¬ (m (E.2 x1 5) r2) ≤ (m (E.2 x0 5) r2) → Q 1))))
set_option maxRecDepth 100000 in
set_option maxHeartbeats 4000000 in
theorem w_X3_isLessThan {d : Nat} {E : zb_E} {x0 x1 : Int} {m : zb_M} {Q : Int → Prop} (h : PM_X3_isLessThan d E x0 x1 m Q) : zb_Tp K_X3_isLessThan (d + 1) [(2, x0), (2, x1)] E m Q := by
  unfold PM_X3_isLessThan at h
  refine zb_T_in gd_X3_isLessThan rfl rfl (fun hW hA G C hF => ?_)
  have i_0 : zb_is E.1 x0 3 := zb_aH hA (by decide)
  have i_1 : zb_is E.1 x1 3 := zb_aH (zb_aT hA) (by decide)
  show zb_WP _ _ 0 [(0, (2, x0)), (1, (2, x1))] [] _ _ _ _
  refine zb_aload_n (j := 0) dX3_isLessThan_0 rfl rfl ?_
  refine zb_aload_n (j := 1) dX3_isLessThan_1 rfl rfl ?_
  refine zb_cVp (As := [(2, x1)]) (As' := [(2, x1)]) (st := []) dX3_isLessThan_2 lk_X3_28 gd_X3_differsAt rfl rfl i_0 ⟨_, rfl, rfl⟩ h hW hF (zb_aR i_0 (zb_aR i_1 zb_a0)) (Nat.le_refl _) (Nat.le_of_ble_eq_true rfl) (fun r2 h => ?_)
  show zb_WP _ _ _ _ [(0, r2)] _ _ _ _
  refine zb_istore_n (L' := [(2, (0, r2)), (0, (2, x0)), (1, (2, x1))]) dX3_isLessThan_5 rfl (by decide) rfl ?_
  refine zb_iload_n (j := 0) dX3_isLessThan_6 rfl rfl ?_
  refine zb_if_lt (tgt := 29) dX3_isLessThan_7 (by decide) (fun c1 => ?_) (fun c1 => ?_)
  · have h := h.1 c1
    refine zb_iconst dX3_isLessThan_29 (zb_inIc rfl) ?_
    exact zb_rZ dX3_isLessThan_30 rfl hF (by decide) ⟨rfl, h⟩
  · have h := h.2 c1
    refine zb_aload_n (j := 1) dX3_isLessThan_10 rfl rfl ?_
    refine zb_gFa 5 dX3_isLessThan_11 fl_X3_9 i_0 hW hF rfl rfl rfl (by decide) rfl 157 rfl (fun i2 l3 => ?_)
    refine zb_iload_n (j := 0) dX3_isLessThan_14 rfl rfl ?_
    obtain ⟨o4, h⟩ := h
    refine zb_lI dX3_isLessThan_15 i2 l3 o4.1 o4.2 ?_
    refine zb_aload_n (j := 2) dX3_isLessThan_16 rfl rfl ?_
    refine zb_gFa 5 dX3_isLessThan_17 fl_X3_9 i_1 hW hF rfl rfl rfl (by decide) rfl 157 rfl (fun i5 l6 => ?_)
    refine zb_iload_n (j := 0) dX3_isLessThan_20 rfl rfl ?_
    refine zb_lI dX3_isLessThan_21 i5 l6 o4.1 o4.2 ?_
    refine zb_icmp_ge (tgt := 29) dX3_isLessThan_22 (by decide) (fun c7 => ?_) (fun c7 => ?_)
    · have h := h.1 c7
      refine zb_iconst dX3_isLessThan_29 (zb_inIc rfl) ?_
      exact zb_rZ dX3_isLessThan_30 rfl hF (by decide) ⟨rfl, h⟩
    · have h := h.2 c7
      refine zb_iconst dX3_isLessThan_25 (zb_inIc rfl) ?_
      refine zb_goto (tgt := 30) dX3_isLessThan_26 (by decide) ?_
      exact zb_rZ dX3_isLessThan_30 rfl hF (by decide) ⟨rfl, h⟩
