/-! ===== SameBench$Lister: instructions and walks (laid by gen/layout.py) ===== -/
theorem dX2_bitOf_0 : decode cX2_bitOf 0 = .ok (.iload_n 0, 1) := by decide +kernel
theorem dX2_bitOf_1 : decode cX2_bitOf 1 = .ok (.iload_n 1, 1) := by decide +kernel
theorem dX2_bitOf_2 : decode cX2_bitOf 2 = .ok (.invokestatic 26, 3) := by decide +kernel
theorem dX2_bitOf_5 : decode cX2_bitOf 5 = .ok (.iload_n 0, 1) := by decide +kernel
theorem dX2_bitOf_6 : decode cX2_bitOf 6 = .ok (.iload_n 1, 1) := by decide +kernel
theorem dX2_bitOf_7 : decode cX2_bitOf 7 = .ok (.invokestatic 26, 3) := by decide +kernel
theorem dX2_bitOf_10 : decode cX2_bitOf 10 = .ok (.iconst 1, 1) := by decide +kernel
theorem dX2_bitOf_11 : decode cX2_bitOf 11 = .ok (.isub, 1) := by decide +kernel
theorem dX2_bitOf_12 : decode cX2_bitOf 12 = .ok (.imul, 1) := by decide +kernel
theorem dX2_bitOf_13 : decode cX2_bitOf 13 = .ok (.iconst 2, 1) := by decide +kernel
theorem dX2_bitOf_14 : decode cX2_bitOf 14 = .ok (.idiv, 1) := by decide +kernel
theorem dX2_bitOf_15 : decode cX2_bitOf 15 = .ok (.iload_n 0, 1) := by decide +kernel
theorem dX2_bitOf_16 : decode cX2_bitOf 16 = .ok (.iload_n 1, 1) := by decide +kernel
theorem dX2_bitOf_17 : decode cX2_bitOf 17 = .ok (.invokestatic 32, 3) := by decide +kernel
theorem dX2_bitOf_20 : decode cX2_bitOf 20 = .ok (.iadd, 1) := by decide +kernel
theorem dX2_bitOf_21 : decode cX2_bitOf 21 = .ok (.ireturn, 1) := by decide +kernel
def PM_X2_bitOf (d : Nat) (E : zb_E) (x0 : Int) (x1 : Int) (m : zb_M) (Q : Int → Prop) : Prop :=
  (zb_inI ((if x0 < x1 then x1 else x0) - 1)) ∧ ((zb_inI ((if x0 < x1 then x1 else x0) * ((if x0 < x1 then x1 else x0) - 1))) ∧ ((0 ≤ ((if x0 < x1 then x1 else x0) * ((if x0 < x1 then x1 else x0) - 1)) ∧ (0 : Int) < 2) ∧ ((zb_inI ((((if x0 < x1 then x1 else x0) * ((if x0 < x1 then x1 else x0) - 1)) / 2) + (if x1 < x0 then x1 else x0))) ∧ (Q ((((if x0 < x1 then x1 else x0) * ((if x0 < x1 then x1 else x0) - 1)) / 2) + (if x1 < x0 then x1 else x0))))))
set_option maxRecDepth 100000 in
set_option maxHeartbeats 4000000 in
theorem w_X2_bitOf {d : Nat} {E : zb_E} {x0 x1 : Int} {m : zb_M} {Q : Int → Prop} (h : PM_X2_bitOf d E x0 x1 m Q) : zb_Tp K_X2_bitOf (d + 1) [(0, x0), (0, x1)] E m Q := by
  unfold PM_X2_bitOf at h
  refine zb_T_in gd_X2_bitOf rfl rfl (fun hW hA G C hF => ?_)
  show zb_WP _ _ 0 [(0, (0, x0)), (1, (0, x1))] [] _ _ _ _
  refine zb_iload_n (j := 0) dX2_bitOf_0 rfl rfl ?_
  refine zb_iload_n (j := 1) dX2_bitOf_1 rfl rfl ?_
  refine zb_mx dX2_bitOf_2 lk_X2_26 (Nat.succ_le_succ (Nat.zero_le _)) (Nat.le_refl _) (Nat.le_refl _) (Nat.le_of_ble_eq_true rfl) ?_
  refine zb_iload_n (j := 0) dX2_bitOf_5 rfl rfl ?_
  refine zb_iload_n (j := 1) dX2_bitOf_6 rfl rfl ?_
  refine zb_mx dX2_bitOf_7 lk_X2_26 (Nat.succ_le_succ (Nat.zero_le _)) (Nat.le_refl _) (Nat.le_refl _) (Nat.le_of_ble_eq_true rfl) ?_
  refine zb_iconst dX2_bitOf_10 (zb_inIc rfl) ?_
  obtain ⟨o1, h⟩ := h
  refine zb_isub dX2_bitOf_11 o1 ?_
  obtain ⟨o2, h⟩ := h
  refine zb_imul dX2_bitOf_12 o2 ?_
  refine zb_iconst dX2_bitOf_13 (zb_inIc rfl) ?_
  obtain ⟨o3, h⟩ := h
  refine zb_idiv dX2_bitOf_14 o3.1 o3.2 ?_
  refine zb_iload_n (j := 0) dX2_bitOf_15 rfl rfl ?_
  refine zb_iload_n (j := 1) dX2_bitOf_16 rfl rfl ?_
  refine zb_mn dX2_bitOf_17 lk_X2_32 (Nat.succ_le_succ (Nat.zero_le _)) (Nat.le_refl _) (Nat.le_refl _) (Nat.le_of_ble_eq_true rfl) ?_
  obtain ⟨o4, h⟩ := h
  refine zb_iadd dX2_bitOf_20 o4 ?_
  exact zb_rI dX2_bitOf_21 rfl hF ⟨rfl, h⟩
theorem dX2_make_0 : decode cX2_make 0 = .ok (.aload_n 0, 1) := by decide +kernel
theorem dX2_make_1 : decode cX2_make 1 = .ok (.iconst 0, 1) := by decide +kernel
theorem dX2_make_2 : decode cX2_make 2 = .ok (.putfield 35, 3) := by decide +kernel
theorem dX2_make_5 : decode cX2_make 5 = .ok (.iconst 1, 1) := by decide +kernel
theorem dX2_make_6 : decode cX2_make 6 = .ok (.iload_n 1, 1) := by decide +kernel
theorem dX2_make_7 : decode cX2_make 7 = .ok (.iload_n 1, 1) := by decide +kernel
theorem dX2_make_8 : decode cX2_make 8 = .ok (.iconst 1, 1) := by decide +kernel
theorem dX2_make_9 : decode cX2_make 9 = .ok (.isub, 1) := by decide +kernel
theorem dX2_make_10 : decode cX2_make 10 = .ok (.imul, 1) := by decide +kernel
theorem dX2_make_11 : decode cX2_make 11 = .ok (.iconst 2, 1) := by decide +kernel
theorem dX2_make_12 : decode cX2_make 12 = .ok (.idiv, 1) := by decide +kernel
theorem dX2_make_13 : decode cX2_make 13 = .ok (.ishl, 1) := by decide +kernel
theorem dX2_make_14 : decode cX2_make 14 = .ok (.istore 5, 2) := by decide +kernel
theorem dX2_make_16 : decode cX2_make 16 = .ok (.iconst 0, 1) := by decide +kernel
theorem dX2_make_17 : decode cX2_make 17 = .ok (.istore 6, 2) := by decide +kernel
theorem dX2_make_19 : decode cX2_make 19 = .ok (.iload 6, 2) := by decide +kernel
theorem dX2_make_21 : decode cX2_make 21 = .ok (.iload 5, 2) := by decide +kernel
theorem dX2_make_23 : decode cX2_make 23 = .ok (.if_icmp .ge 17, 3) := by decide +kernel
theorem dX2_make_26 : decode cX2_make 26 = .ok (.aload_n 0, 1) := by decide +kernel
theorem dX2_make_27 : decode cX2_make 27 = .ok (.getfield 17, 3) := by decide +kernel
theorem dX2_make_30 : decode cX2_make 30 = .ok (.iload 6, 2) := by decide +kernel
theorem dX2_make_32 : decode cX2_make 32 = .ok (.iconst 0, 1) := by decide +kernel
theorem dX2_make_33 : decode cX2_make 33 = .ok (.bastore, 1) := by decide +kernel
theorem dX2_make_34 : decode cX2_make 34 = .ok (.iinc 6 1, 3) := by decide +kernel
theorem dX2_make_37 : decode cX2_make 37 = .ok (.goto (-18), 3) := by decide +kernel
theorem dX2_make_40 : decode cX2_make 40 = .ok (.iconst 0, 1) := by decide +kernel
theorem dX2_make_41 : decode cX2_make 41 = .ok (.istore 6, 2) := by decide +kernel
theorem dX2_make_43 : decode cX2_make 43 = .ok (.iload 6, 2) := by decide +kernel
theorem dX2_make_45 : decode cX2_make 45 = .ok (.iload 5, 2) := by decide +kernel
theorem dX2_make_47 : decode cX2_make 47 = .ok (.if_icmp .ge 77, 3) := by decide +kernel
theorem dX2_make_50 : decode cX2_make 50 = .ok (.aload_n 0, 1) := by decide +kernel
theorem dX2_make_51 : decode cX2_make 51 = .ok (.getfield 35, 3) := by decide +kernel
theorem dX2_make_54 : decode cX2_make 54 = .ok (.bipush 8, 2) := by decide +kernel
theorem dX2_make_56 : decode cX2_make 56 = .ok (.if_icmp .ge 68, 3) := by decide +kernel
theorem dX2_make_59 : decode cX2_make 59 = .ok (.iload 6, 2) := by decide +kernel
theorem dX2_make_61 : decode cX2_make 61 = .ok (.invokestatic 39, 3) := by decide +kernel
theorem dX2_make_64 : decode cX2_make 64 = .ok (.iload_n 2, 1) := by decide +kernel
theorem dX2_make_65 : decode cX2_make 65 = .ok (.if_icmp .ne 53, 3) := by decide +kernel
theorem dX2_make_68 : decode cX2_make 68 = .ok (.aload_n 0, 1) := by decide +kernel
theorem dX2_make_69 : decode cX2_make 69 = .ok (.getfield 17, 3) := by decide +kernel
theorem dX2_make_72 : decode cX2_make 72 = .ok (.iload 6, 2) := by decide +kernel
theorem dX2_make_74 : decode cX2_make 74 = .ok (.baload, 1) := by decide +kernel
theorem dX2_make_75 : decode cX2_make 75 = .ok (.ifCond .eq 6, 3) := by decide +kernel
theorem dX2_make_78 : decode cX2_make 78 = .ok (.goto 40, 3) := by decide +kernel
theorem dX2_make_81 : decode cX2_make 81 = .ok (.aload_n 0, 1) := by decide +kernel
theorem dX2_make_82 : decode cX2_make 82 = .ok (.iload_n 1, 1) := by decide +kernel
theorem dX2_make_83 : decode cX2_make 83 = .ok (.iload 6, 2) := by decide +kernel
theorem dX2_make_85 : decode cX2_make 85 = .ok (.invokevirtual 45, 3) := by decide +kernel
theorem dX2_make_88 : decode cX2_make 88 = .ok (.aload 4, 2) := by decide +kernel
theorem dX2_make_90 : decode cX2_make 90 = .ok (.iload_n 1, 1) := by decide +kernel
theorem dX2_make_91 : decode cX2_make 91 = .ok (.iload 6, 2) := by decide +kernel
theorem dX2_make_93 : decode cX2_make 93 = .ok (.invokevirtual 49, 3) := by decide +kernel
theorem dX2_make_96 : decode cX2_make 96 = .ok (.aload_n 3, 1) := by decide +kernel
theorem dX2_make_97 : decode cX2_make 97 = .ok (.aload 4, 2) := by decide +kernel
theorem dX2_make_99 : decode cX2_make 99 = .ok (.aload_n 0, 1) := by decide +kernel
theorem dX2_make_100 : decode cX2_make 100 = .ok (.getfield 13, 3) := by decide +kernel
theorem dX2_make_103 : decode cX2_make 103 = .ok (.aload_n 0, 1) := by decide +kernel
theorem dX2_make_104 : decode cX2_make 104 = .ok (.getfield 35, 3) := by decide +kernel
theorem dX2_make_107 : decode cX2_make 107 = .ok (.aaload, 1) := by decide +kernel
theorem dX2_make_108 : decode cX2_make 108 = .ok (.invokevirtual 54, 3) := by decide +kernel
theorem dX2_make_111 : decode cX2_make 111 = .ok (.ifCond .eq 7, 3) := by decide +kernel
theorem dX2_make_114 : decode cX2_make 114 = .ok (.aload_n 0, 1) := by decide +kernel
theorem dX2_make_115 : decode cX2_make 115 = .ok (.invokevirtual 60, 3) := by decide +kernel
theorem dX2_make_118 : decode cX2_make 118 = .ok (.iinc 6 1, 3) := by decide +kernel
theorem dX2_make_121 : decode cX2_make 121 = .ok (.goto (-78), 3) := by decide +kernel
theorem dX2_make_124 : decode cX2_make 124 = .ok (.return_, 1) := by decide +kernel
def PL_X2_make_43 (d : Nat) (E : zb_E) (x0 : Int) (x1 : Int) (x2 : Int) (x3 : Int) (x4 : Int) (Q : Int → zb_M → Prop)  (v6_43 : Int) (m43l : zb_M) : Prop :=
  ∀ X43 : Int → zb_M → Prop, (∀ (v6_43 : Int) (m43l : zb_M), (((zb_shl 1 ((x1 * (x1 - 1)) / 2)) ≤ v6_43 → Q 0 m43l) ∧ (¬ (zb_shl 1 ((x1 * (x1 - 1)) / 2)) ≤ v6_43 → (8 ≤ (m43l x0 1) → Q 0 m43l) ∧ (¬ 8 ≤ (m43l x0 1) → zb_Tp K_J6_bitCount_0f7a4 d [(0, v6_43)] E m43l (fun r61 => (r61 = x2 → (0 ≤ v6_43 ∧ v6_43 < 1024) ∧ (((m43l (E.2 x0 2) v6_43) = 0 → zb_T K_X2_meetAllOfSort d [(2, x0), (0, x1), (0, v6_43)] E m43l (fun r85 m85 => zb_T K_X6_takePairs d [(2, x4), (0, x1), (0, v6_43)] E m85 (fun r93 m93 => (0 ≤ (m93 x0 1) ∧ (m93 x0 1) < 8) ∧ ((zb_is E.1 (m93 (E.2 x0 0) (m93 x0 1)) 3) ∧ (zb_T K_X8_findName d [(2, x3), (2, x4), (2, (m93 (E.2 x0 0) (m93 x0 1)))] E m93 (fun r108 m108 => (r108 = 0 → (zb_inI (v6_43 + 1)) ∧ (X43 (v6_43 + 1) m108)) ∧ (¬ r108 = 0 → zb_T K_X2_putInPlace d [(2, x0)] E m108 (fun r115 m115 => (zb_inI (v6_43 + 1)) ∧ (X43 (v6_43 + 1) m115))))))))) ∧ (¬ (m43l (E.2 x0 2) v6_43) = 0 → (zb_inI (v6_43 + 1)) ∧ (X43 (v6_43 + 1) m43l)))) ∧ (¬ r61 = x2 → (zb_inI (v6_43 + 1)) ∧ (X43 (v6_43 + 1) m43l)))))) → X43 v6_43 m43l) → X43 v6_43 m43l
def PJ_X2_make_40 (d : Nat) (E : zb_E) (x0 : Int) (x1 : Int) (x2 : Int) (x3 : Int) (x4 : Int) (Q : Int → zb_M → Prop) (m40j : zb_M) : Prop :=
  PL_X2_make_43 d E x0 x1 x2 x3 x4 Q 0 m40j
def PL_X2_make_19 (d : Nat) (E : zb_E) (x0 : Int) (x1 : Int) (Q : Int → zb_M → Prop) (K40_19 : zb_M → Prop) (v6_19 : Int) (m19l : zb_M) : Prop :=
  ∀ X19 : Int → zb_M → Prop, (∀ (v6_19 : Int) (m19l : zb_M), (((zb_shl 1 ((x1 * (x1 - 1)) / 2)) ≤ v6_19 → K40_19 m19l) ∧ (¬ (zb_shl 1 ((x1 * (x1 - 1)) / 2)) ≤ v6_19 → (0 ≤ v6_19 ∧ v6_19 < 1024) ∧ (∀ m33, m33 = zb_up m19l (E.2 x0 2) v6_19 0 → ((zb_inI (v6_19 + 1)) ∧ (X19 (v6_19 + 1) m33))))) → X19 v6_19 m19l) → X19 v6_19 m19l
def PM_X2_make (d : Nat) (E : zb_E) (x0 : Int) (x1 : Int) (x2 : Int) (x3 : Int) (x4 : Int) (m : zb_M) (Q : Int → zb_M → Prop) : Prop :=
  ∀ m2, m2 = zb_up m x0 1 0 → ((zb_inI (x1 - 1)) ∧ ((zb_inI (x1 * (x1 - 1))) ∧ ((0 ≤ (x1 * (x1 - 1)) ∧ (0 : Int) < 2) ∧ (PL_X2_make_19 d E x0 x1 Q (PJ_X2_make_40 d E x0 x1 x2 x3 x4 Q) 0 m2))))
set_option maxRecDepth 100000 in
set_option maxHeartbeats 4000000 in
theorem w_X2_make {d : Nat} {E : zb_E} {x0 x1 x2 x3 x4 : Int} {m : zb_M} {Q : Int → zb_M → Prop} (h : PM_X2_make d E x0 x1 x2 x3 x4 m Q) : zb_T K_X2_make (d + 1) [(2, x0), (0, x1), (0, x2), (2, x3), (2, x4)] E m Q := by
  unfold PM_X2_make at h
  refine zb_T_in gd_X2_make rfl rfl (fun hW hA G C hF => ?_)
  have i_0 : zb_is E.1 x0 2 := zb_aH hA (by decide)
  have i_3 : zb_is E.1 x3 8 := zb_aH (zb_aT (zb_aT (zb_aT hA))) (by decide)
  have i_4 : zb_is E.1 x4 6 := zb_aH (zb_aT (zb_aT (zb_aT (zb_aT hA)))) (by decide)
  show zb_WP _ _ 0 [(0, (2, x0)), (1, (0, x1)), (2, (0, x2)), (3, (2, x3)), (4, (2, x4))] [] _ _ _ _
  refine zb_aload_n (j := 0) dX2_make_0 rfl rfl ?_
  refine zb_iconst dX2_make_1 (zb_inIc rfl) ?_
  refine zb_pF 1 dX2_make_2 fl_X2_35 rfl rfl i_0 (Or.inl rfl) hF rfl rfl (fun m2 e2 hF => ?_)
  have h := h m2 e2
  refine zb_iconst dX2_make_5 (zb_inIc rfl) ?_
  refine zb_iload_n (j := 1) dX2_make_6 rfl rfl ?_
  refine zb_iload_n (j := 1) dX2_make_7 rfl rfl ?_
  refine zb_iconst dX2_make_8 (zb_inIc rfl) ?_
  obtain ⟨o1, h⟩ := h
  refine zb_isub dX2_make_9 o1 ?_
  obtain ⟨o2, h⟩ := h
  refine zb_imul dX2_make_10 o2 ?_
  refine zb_iconst dX2_make_11 (zb_inIc rfl) ?_
  obtain ⟨o3, h⟩ := h
  refine zb_idiv dX2_make_12 o3.1 o3.2 ?_
  refine zb_ishl dX2_make_13 ?_
  refine zb_istore (L' := [(5, (0, (zb_shl 1 ((x1 * (x1 - 1)) / 2)))), (0, (2, x0)), (1, (0, x1)), (2, (0, x2)), (3, (2, x3)), (4, (2, x4))]) dX2_make_14 (by decide) rfl ?_
  refine zb_iconst dX2_make_16 (zb_inIc rfl) ?_
  refine zb_istore (L' := [(6, (0, 0)), (5, (0, (zb_shl 1 ((x1 * (x1 - 1)) / 2)))), (0, (2, x0)), (1, (0, x1)), (2, (0, x2)), (3, (2, x3)), (4, (2, x4))]) dX2_make_17 (by decide) rfl ?_
  refine zb_sub (L' := [(0, (2, x0)), (1, (0, x1)), (2, (0, x2)), (3, (2, x3)), (4, (2, x4)), (5, (0, (zb_shl 1 ((x1 * (x1 - 1)) / 2)))), (6, (0, 0))]) [2, 3, 4, 5, 6, 1, 0] rfl ?_
  have hJ40 : ∀ (m40j : zb_M), zb_FIN E m40j → PJ_X2_make_40 d E x0 x1 x2 x3 x4 Q m40j → zb_WP (G, C, d + 1, 0, 0, zb_q E Q) F_X2_make 40 [(0, (2, x0)), (1, (0, x1)), (2, (0, x2)), (3, (2, x3)), (4, (2, x4)), (5, (0, (zb_shl 1 ((x1 * (x1 - 1)) / 2))))] [] E.1 m40j 0 0 := by
    intro m40j hF h
    unfold PJ_X2_make_40 at h
    refine zb_iconst dX2_make_40 (zb_inIc rfl) ?_
    refine zb_istore (L' := [(6, (0, 0)), (0, (2, x0)), (1, (0, x1)), (2, (0, x2)), (3, (2, x3)), (4, (2, x4)), (5, (0, (zb_shl 1 ((x1 * (x1 - 1)) / 2))))]) dX2_make_41 (by decide) rfl ?_
    refine zb_sub (L' := [(0, (2, x0)), (1, (0, x1)), (2, (0, x2)), (3, (2, x3)), (4, (2, x4)), (5, (0, (zb_shl 1 ((x1 * (x1 - 1)) / 2)))), (6, (0, 0))]) [1, 2, 3, 4, 5, 6, 0] rfl ?_
    unfold PL_X2_make_43 at h
    obtain ⟨X43, hX43⟩ : ∃ X : Int → zb_M → Prop, ∀ (v6_43 : Int) (m43l : zb_M), (X v6_43 m43l ↔ (zb_FIN E m43l → zb_WP (G, C, d + 1, 0, 0, zb_q E Q) F_X2_make 43 [(0, (2, x0)), (1, (0, x1)), (2, (0, x2)), (3, (2, x3)), (4, (2, x4)), (5, (0, (zb_shl 1 ((x1 * (x1 - 1)) / 2)))), (6, (0, v6_43))] [] E.1 m43l 0 0)) := ⟨fun v6_43 m43l => zb_FIN E m43l → zb_WP (G, C, d + 1, 0, 0, zb_q E Q) F_X2_make 43 [(0, (2, x0)), (1, (0, x1)), (2, (0, x2)), (3, (2, x3)), (4, (2, x4)), (5, (0, (zb_shl 1 ((x1 * (x1 - 1)) / 2)))), (6, (0, v6_43))] [] E.1 m43l 0 0, fun _ _ => Iff.rfl⟩
    refine (hX43 _ _).mp (h X43 (fun v6_43 m43l h => (hX43 _ _).mpr (fun hF => ?_))) hF
    refine zb_iload (j := 6) dX2_make_43 rfl ?_
    refine zb_iload (j := 5) dX2_make_45 rfl ?_
    refine zb_icmp_ge (tgt := 124) dX2_make_47 (by decide) (fun c4 => ?_) (fun c4 => ?_)
    · have h := h.1 c4
      exact zb_rV dX2_make_124 rfl hF h
    · have h := h.2 c4
      refine zb_aload_n (j := 0) dX2_make_50 rfl rfl ?_
      refine zb_gI 1 dX2_make_51 fl_X2_35 i_0 rfl rfl ?_
      refine zb_bipush dX2_make_54 (by decide) (zb_inIc rfl) ?_
      refine zb_icmp_ge (tgt := 124) dX2_make_56 (by decide) (fun c5 => ?_) (fun c5 => ?_)
      · have h := h.1 c5
        exact zb_rV dX2_make_124 rfl hF h
      · have h := h.2 c5
        refine zb_iload (j := 6) dX2_make_59 rfl ?_
        refine zb_cSp (As := [(0, v6_43)]) (As' := [(0, v6_43)]) (st := []) dX2_make_61 lk_X2_39 gd_J6_bitCount_0f7a4 rfl rfl h hW hF (zb_aI zb_a0) (Nat.le_refl _) (Nat.le_of_ble_eq_true rfl) (fun r61 h => ?_)
        show zb_WP _ _ _ _ [(0, r61)] _ _ _ _
        refine zb_iload_n (j := 2) dX2_make_64 rfl rfl ?_
        refine zb_icmp_ne (tgt := 118) dX2_make_65 (by decide) (fun c6 => ?_) (fun c6 => ?_)
        · have h := h.2 c6
          obtain ⟨o7, h⟩ := h
          refine zb_iinc (j := 6) (L' := [(6, (0, (v6_43 + 1))), (0, (2, x0)), (1, (0, x1)), (2, (0, x2)), (3, (2, x3)), (4, (2, x4)), (5, (0, (zb_shl 1 ((x1 * (x1 - 1)) / 2))))]) dX2_make_118 rfl o7 (by decide) rfl ?_
          refine zb_goto (tgt := 43) dX2_make_121 (by decide) ?_
          refine zb_sub (L' := [(0, (2, x0)), (1, (0, x1)), (2, (0, x2)), (3, (2, x3)), (4, (2, x4)), (5, (0, (zb_shl 1 ((x1 * (x1 - 1)) / 2)))), (6, (0, (v6_43 + 1)))]) [1, 2, 3, 4, 5, 6, 0] rfl ?_
          exact (hX43 _ _).mp h hF
        · have h := h.1 c6
          refine zb_aload_n (j := 0) dX2_make_68 rfl rfl ?_
          refine zb_gFa 2 dX2_make_69 fl_X2_17 i_0 hW hF rfl rfl rfl (by decide) rfl 1024 rfl (fun i8 l9 => ?_)
          refine zb_iload (j := 6) dX2_make_72 rfl ?_
          obtain ⟨o10, h⟩ := h
          refine zb_lZ dX2_make_74 i8 l9 o10.1 o10.2 ?_
          refine zb_if_eq (tgt := 81) dX2_make_75 (by decide) (fun c11 => ?_) (fun c11 => ?_)
          · have h := h.1 c11
            refine zb_aload_n (j := 0) dX2_make_81 rfl rfl ?_
            refine zb_iload_n (j := 1) dX2_make_82 rfl rfl ?_
            refine zb_iload (j := 6) dX2_make_83 rfl ?_
            refine zb_cV (As := [(0, x1), (0, v6_43)]) (As' := [(0, v6_43), (0, x1)]) (st := []) dX2_make_85 lk_X2_45 gd_X2_meetAllOfSort rfl rfl i_0 ⟨_, rfl, rfl⟩ h hW hF (zb_aR i_0 (zb_aI (zb_aI zb_a0))) (Nat.le_refl _) (Nat.le_of_ble_eq_true rfl) (fun r85 m85 hF h => ?_)
            show zb_WP _ _ _ _ [] _ _ _ _
            refine zb_aload (j := 4) dX2_make_88 rfl ?_
            refine zb_iload_n (j := 1) dX2_make_90 rfl rfl ?_
            refine zb_iload (j := 6) dX2_make_91 rfl ?_
            refine zb_cV (As := [(0, x1), (0, v6_43)]) (As' := [(0, v6_43), (0, x1)]) (st := []) dX2_make_93 lk_X2_49 gd_X6_takePairs rfl rfl i_4 ⟨_, rfl, rfl⟩ h hW hF (zb_aR i_4 (zb_aI (zb_aI zb_a0))) (Nat.le_refl _) (Nat.le_of_ble_eq_true rfl) (fun r93 m93 hF h => ?_)
            show zb_WP _ _ _ _ [] _ _ _ _
            refine zb_aload_n (j := 3) dX2_make_96 rfl rfl ?_
            refine zb_aload (j := 4) dX2_make_97 rfl ?_
            refine zb_aload_n (j := 0) dX2_make_99 rfl rfl ?_
            refine zb_gFa 0 dX2_make_100 fl_X2_13 i_0 hW hF rfl rfl rfl (by decide) rfl 8 rfl (fun i12 l13 => ?_)
            refine zb_aload_n (j := 0) dX2_make_103 rfl rfl ?_
            refine zb_gI 1 dX2_make_104 fl_X2_35 i_0 rfl rfl ?_
            obtain ⟨o14, h⟩ := h
            obtain ⟨o15, h⟩ := h
            refine zb_lD dX2_make_107 i12 l13 o14.1 o14.2 o15 ?_
            refine zb_cV (As := [(2, x4), (2, (m93 (E.2 x0 0) (m93 x0 1)))]) (As' := [(2, (m93 (E.2 x0 0) (m93 x0 1))), (2, x4)]) (st := []) dX2_make_108 lk_X2_54 gd_X8_findName rfl rfl i_3 ⟨_, rfl, rfl⟩ h hW hF (zb_aR i_3 (zb_aR i_4 (zb_aR o15 zb_a0))) (Nat.le_refl _) (Nat.le_of_ble_eq_true rfl) (fun r108 m108 hF h => ?_)
            show zb_WP _ _ _ _ [(0, r108)] _ _ _ _
            refine zb_if_eq (tgt := 118) dX2_make_111 (by decide) (fun c16 => ?_) (fun c16 => ?_)
            · have h := h.1 c16
              obtain ⟨o17, h⟩ := h
              refine zb_iinc (j := 6) (L' := [(6, (0, (v6_43 + 1))), (0, (2, x0)), (1, (0, x1)), (2, (0, x2)), (3, (2, x3)), (4, (2, x4)), (5, (0, (zb_shl 1 ((x1 * (x1 - 1)) / 2))))]) dX2_make_118 rfl o17 (by decide) rfl ?_
              refine zb_goto (tgt := 43) dX2_make_121 (by decide) ?_
              refine zb_sub (L' := [(0, (2, x0)), (1, (0, x1)), (2, (0, x2)), (3, (2, x3)), (4, (2, x4)), (5, (0, (zb_shl 1 ((x1 * (x1 - 1)) / 2)))), (6, (0, (v6_43 + 1)))]) [1, 2, 3, 4, 5, 6, 0] rfl ?_
              exact (hX43 _ _).mp h hF
            · have h := h.2 c16
              refine zb_aload_n (j := 0) dX2_make_114 rfl rfl ?_
              refine zb_cV (As := []) (As' := []) (st := []) dX2_make_115 lk_X2_60 gd_X2_putInPlace rfl rfl i_0 ⟨_, rfl, rfl⟩ h hW hF (zb_aR i_0 zb_a0) (Nat.le_refl _) (Nat.le_of_ble_eq_true rfl) (fun r115 m115 hF h => ?_)
              show zb_WP _ _ _ _ [] _ _ _ _
              obtain ⟨o18, h⟩ := h
              refine zb_iinc (j := 6) (L' := [(6, (0, (v6_43 + 1))), (0, (2, x0)), (1, (0, x1)), (2, (0, x2)), (3, (2, x3)), (4, (2, x4)), (5, (0, (zb_shl 1 ((x1 * (x1 - 1)) / 2))))]) dX2_make_118 rfl o18 (by decide) rfl ?_
              refine zb_goto (tgt := 43) dX2_make_121 (by decide) ?_
              refine zb_sub (L' := [(0, (2, x0)), (1, (0, x1)), (2, (0, x2)), (3, (2, x3)), (4, (2, x4)), (5, (0, (zb_shl 1 ((x1 * (x1 - 1)) / 2)))), (6, (0, (v6_43 + 1)))]) [1, 2, 3, 4, 5, 6, 0] rfl ?_
              exact (hX43 _ _).mp h hF
          · have h := h.2 c11
            refine zb_goto (tgt := 118) dX2_make_78 (by decide) ?_
            obtain ⟨o19, h⟩ := h
            refine zb_iinc (j := 6) (L' := [(6, (0, (v6_43 + 1))), (0, (2, x0)), (1, (0, x1)), (2, (0, x2)), (3, (2, x3)), (4, (2, x4)), (5, (0, (zb_shl 1 ((x1 * (x1 - 1)) / 2))))]) dX2_make_118 rfl o19 (by decide) rfl ?_
            refine zb_goto (tgt := 43) dX2_make_121 (by decide) ?_
            refine zb_sub (L' := [(0, (2, x0)), (1, (0, x1)), (2, (0, x2)), (3, (2, x3)), (4, (2, x4)), (5, (0, (zb_shl 1 ((x1 * (x1 - 1)) / 2)))), (6, (0, (v6_43 + 1)))]) [1, 2, 3, 4, 5, 6, 0] rfl ?_
            exact (hX43 _ _).mp h hF
  unfold PL_X2_make_19 at h
  obtain ⟨X19, hX19⟩ : ∃ X : Int → zb_M → Prop, ∀ (v6_19 : Int) (m19l : zb_M), (X v6_19 m19l ↔ (zb_FIN E m19l → zb_WP (G, C, d + 1, 0, 0, zb_q E Q) F_X2_make 19 [(0, (2, x0)), (1, (0, x1)), (2, (0, x2)), (3, (2, x3)), (4, (2, x4)), (5, (0, (zb_shl 1 ((x1 * (x1 - 1)) / 2)))), (6, (0, v6_19))] [] E.1 m19l 0 0)) := ⟨fun v6_19 m19l => zb_FIN E m19l → zb_WP (G, C, d + 1, 0, 0, zb_q E Q) F_X2_make 19 [(0, (2, x0)), (1, (0, x1)), (2, (0, x2)), (3, (2, x3)), (4, (2, x4)), (5, (0, (zb_shl 1 ((x1 * (x1 - 1)) / 2)))), (6, (0, v6_19))] [] E.1 m19l 0 0, fun _ _ => Iff.rfl⟩
  refine (hX19 _ _).mp (h X19 (fun v6_19 m19l h => (hX19 _ _).mpr (fun hF => ?_))) hF
  refine zb_iload (j := 6) dX2_make_19 rfl ?_
  refine zb_iload (j := 5) dX2_make_21 rfl ?_
  refine zb_icmp_ge (tgt := 40) dX2_make_23 (by decide) (fun c20 => ?_) (fun c20 => ?_)
  · have h := h.1 c20
    refine zb_sub (L' := [(0, (2, x0)), (1, (0, x1)), (2, (0, x2)), (3, (2, x3)), (4, (2, x4)), (5, (0, (zb_shl 1 ((x1 * (x1 - 1)) / 2))))]) [0, 1, 2, 3, 4, 5] rfl ?_
    exact hJ40 _ hF h
  · have h := h.2 c20
    refine zb_aload_n (j := 0) dX2_make_26 rfl rfl ?_
    refine zb_gFa 2 dX2_make_27 fl_X2_17 i_0 hW hF rfl rfl rfl (by decide) rfl 1024 rfl (fun i21 l22 => ?_)
    refine zb_iload (j := 6) dX2_make_30 rfl ?_
    refine zb_iconst dX2_make_32 (zb_inIc rfl) ?_
    obtain ⟨o23, h⟩ := h
    refine zb_sZ dX2_make_33 i21 l22 o23.1 o23.2 (by decide) hF (fun m33 e33 hF => ?_)
    have h := h m33 e33
    obtain ⟨o24, h⟩ := h
    refine zb_iinc (j := 6) (L' := [(6, (0, (v6_19 + 1))), (0, (2, x0)), (1, (0, x1)), (2, (0, x2)), (3, (2, x3)), (4, (2, x4)), (5, (0, (zb_shl 1 ((x1 * (x1 - 1)) / 2))))]) dX2_make_34 rfl o24 (by decide) rfl ?_
    refine zb_goto (tgt := 19) dX2_make_37 (by decide) ?_
    refine zb_sub (L' := [(0, (2, x0)), (1, (0, x1)), (2, (0, x2)), (3, (2, x3)), (4, (2, x4)), (5, (0, (zb_shl 1 ((x1 * (x1 - 1)) / 2)))), (6, (0, (v6_19 + 1)))]) [1, 2, 3, 4, 5, 6, 0] rfl ?_
    exact (hX19 _ _).mp h hF
theorem dX2_meetAllOfSort_0 : decode cX2_meetAllOfSort 0 = .ok (.aload_n 0, 1) := by decide +kernel
theorem dX2_meetAllOfSort_1 : decode cX2_meetAllOfSort 1 = .ok (.getfield 21, 3) := by decide +kernel
theorem dX2_meetAllOfSort_4 : decode cX2_meetAllOfSort 4 = .ok (.iconst 0, 1) := by decide +kernel
theorem dX2_meetAllOfSort_5 : decode cX2_meetAllOfSort 5 = .ok (.iload_n 2, 1) := by decide +kernel
theorem dX2_meetAllOfSort_6 : decode cX2_meetAllOfSort 6 = .ok (.iastore, 1) := by decide +kernel
theorem dX2_meetAllOfSort_7 : decode cX2_meetAllOfSort 7 = .ok (.aload_n 0, 1) := by decide +kernel
theorem dX2_meetAllOfSort_8 : decode cX2_meetAllOfSort 8 = .ok (.getfield 17, 3) := by decide +kernel
theorem dX2_meetAllOfSort_11 : decode cX2_meetAllOfSort 11 = .ok (.iload_n 2, 1) := by decide +kernel
theorem dX2_meetAllOfSort_12 : decode cX2_meetAllOfSort 12 = .ok (.iconst 1, 1) := by decide +kernel
theorem dX2_meetAllOfSort_13 : decode cX2_meetAllOfSort 13 = .ok (.bastore, 1) := by decide +kernel
theorem dX2_meetAllOfSort_14 : decode cX2_meetAllOfSort 14 = .ok (.iconst 1, 1) := by decide +kernel
theorem dX2_meetAllOfSort_15 : decode cX2_meetAllOfSort 15 = .ok (.istore_n 3, 1) := by decide +kernel
theorem dX2_meetAllOfSort_16 : decode cX2_meetAllOfSort 16 = .ok (.iconst 0, 1) := by decide +kernel
theorem dX2_meetAllOfSort_17 : decode cX2_meetAllOfSort 17 = .ok (.istore 4, 2) := by decide +kernel
theorem dX2_meetAllOfSort_19 : decode cX2_meetAllOfSort 19 = .ok (.iload 4, 2) := by decide +kernel
theorem dX2_meetAllOfSort_21 : decode cX2_meetAllOfSort 21 = .ok (.sipush 1024, 3) := by decide +kernel
theorem dX2_meetAllOfSort_24 : decode cX2_meetAllOfSort 24 = .ok (.if_icmp .ge 79, 3) := by decide +kernel
theorem dX2_meetAllOfSort_27 : decode cX2_meetAllOfSort 27 = .ok (.iload 4, 2) := by decide +kernel
theorem dX2_meetAllOfSort_29 : decode cX2_meetAllOfSort 29 = .ok (.iload_n 3, 1) := by decide +kernel
theorem dX2_meetAllOfSort_30 : decode cX2_meetAllOfSort 30 = .ok (.if_icmp .ge 73, 3) := by decide +kernel
theorem dX2_meetAllOfSort_33 : decode cX2_meetAllOfSort 33 = .ok (.iconst 0, 1) := by decide +kernel
theorem dX2_meetAllOfSort_34 : decode cX2_meetAllOfSort 34 = .ok (.istore 5, 2) := by decide +kernel
theorem dX2_meetAllOfSort_36 : decode cX2_meetAllOfSort 36 = .ok (.iload 5, 2) := by decide +kernel
theorem dX2_meetAllOfSort_38 : decode cX2_meetAllOfSort 38 = .ok (.iconst 1, 1) := by decide +kernel
theorem dX2_meetAllOfSort_39 : decode cX2_meetAllOfSort 39 = .ok (.iadd, 1) := by decide +kernel
theorem dX2_meetAllOfSort_40 : decode cX2_meetAllOfSort 40 = .ok (.iload_n 1, 1) := by decide +kernel
theorem dX2_meetAllOfSort_41 : decode cX2_meetAllOfSort 41 = .ok (.if_icmp .ge 56, 3) := by decide +kernel
theorem dX2_meetAllOfSort_44 : decode cX2_meetAllOfSort 44 = .ok (.iload_n 1, 1) := by decide +kernel
theorem dX2_meetAllOfSort_45 : decode cX2_meetAllOfSort 45 = .ok (.aload_n 0, 1) := by decide +kernel
theorem dX2_meetAllOfSort_46 : decode cX2_meetAllOfSort 46 = .ok (.getfield 21, 3) := by decide +kernel
theorem dX2_meetAllOfSort_49 : decode cX2_meetAllOfSort 49 = .ok (.iload 4, 2) := by decide +kernel
theorem dX2_meetAllOfSort_51 : decode cX2_meetAllOfSort 51 = .ok (.iaload, 1) := by decide +kernel
theorem dX2_meetAllOfSort_52 : decode cX2_meetAllOfSort 52 = .ok (.iload 5, 2) := by decide +kernel
theorem dX2_meetAllOfSort_54 : decode cX2_meetAllOfSort 54 = .ok (.invokestatic 63, 3) := by decide +kernel
theorem dX2_meetAllOfSort_57 : decode cX2_meetAllOfSort 57 = .ok (.istore 6, 2) := by decide +kernel
theorem dX2_meetAllOfSort_59 : decode cX2_meetAllOfSort 59 = .ok (.aload_n 0, 1) := by decide +kernel
theorem dX2_meetAllOfSort_60 : decode cX2_meetAllOfSort 60 = .ok (.getfield 17, 3) := by decide +kernel
theorem dX2_meetAllOfSort_63 : decode cX2_meetAllOfSort 63 = .ok (.iload 6, 2) := by decide +kernel
theorem dX2_meetAllOfSort_65 : decode cX2_meetAllOfSort 65 = .ok (.baload, 1) := by decide +kernel
theorem dX2_meetAllOfSort_66 : decode cX2_meetAllOfSort 66 = .ok (.ifCond .eq 6, 3) := by decide +kernel
theorem dX2_meetAllOfSort_69 : decode cX2_meetAllOfSort 69 = .ok (.goto 22, 3) := by decide +kernel
theorem dX2_meetAllOfSort_72 : decode cX2_meetAllOfSort 72 = .ok (.aload_n 0, 1) := by decide +kernel
theorem dX2_meetAllOfSort_73 : decode cX2_meetAllOfSort 73 = .ok (.getfield 17, 3) := by decide +kernel
theorem dX2_meetAllOfSort_76 : decode cX2_meetAllOfSort 76 = .ok (.iload 6, 2) := by decide +kernel
theorem dX2_meetAllOfSort_78 : decode cX2_meetAllOfSort 78 = .ok (.iconst 1, 1) := by decide +kernel
theorem dX2_meetAllOfSort_79 : decode cX2_meetAllOfSort 79 = .ok (.bastore, 1) := by decide +kernel
theorem dX2_meetAllOfSort_80 : decode cX2_meetAllOfSort 80 = .ok (.aload_n 0, 1) := by decide +kernel
theorem dX2_meetAllOfSort_81 : decode cX2_meetAllOfSort 81 = .ok (.getfield 21, 3) := by decide +kernel
theorem dX2_meetAllOfSort_84 : decode cX2_meetAllOfSort 84 = .ok (.iload_n 3, 1) := by decide +kernel
theorem dX2_meetAllOfSort_85 : decode cX2_meetAllOfSort 85 = .ok (.iinc 3 1, 3) := by decide +kernel
theorem dX2_meetAllOfSort_88 : decode cX2_meetAllOfSort 88 = .ok (.iload 6, 2) := by decide +kernel
theorem dX2_meetAllOfSort_90 : decode cX2_meetAllOfSort 90 = .ok (.iastore, 1) := by decide +kernel
theorem dX2_meetAllOfSort_91 : decode cX2_meetAllOfSort 91 = .ok (.iinc 5 1, 3) := by decide +kernel
theorem dX2_meetAllOfSort_94 : decode cX2_meetAllOfSort 94 = .ok (.goto (-58), 3) := by decide +kernel
theorem dX2_meetAllOfSort_97 : decode cX2_meetAllOfSort 97 = .ok (.iinc 4 1, 3) := by decide +kernel
theorem dX2_meetAllOfSort_100 : decode cX2_meetAllOfSort 100 = .ok (.goto (-81), 3) := by decide +kernel
theorem dX2_meetAllOfSort_103 : decode cX2_meetAllOfSort 103 = .ok (.return_, 1) := by decide +kernel
def PJ_X2_meetAllOfSort_97 (d : Nat) (E : zb_E) (v4_19 : Int) (X19 : Int → Int → zb_M → Prop) (Q : Int → zb_M → Prop) (v3_97 : Int) (m97j : zb_M) : Prop :=
  (zb_inI (v4_19 + 1)) ∧ (X19 v3_97 (v4_19 + 1) m97j)
def PL_X2_meetAllOfSort_36 (d : Nat) (E : zb_E) (x0 : Int) (x1 : Int) (v4_19 : Int) (Q : Int → zb_M → Prop) (K97_36 : Int → zb_M → Prop) (v3_36 : Int) (v5_36 : Int) (m36l : zb_M) : Prop :=
  ∀ X36 : Int → Int → zb_M → Prop, (∀ (v3_36 : Int) (v5_36 : Int) (m36l : zb_M), ((zb_inI (v5_36 + 1)) ∧ ((x1 ≤ (v5_36 + 1) → K97_36 v3_36 m36l) ∧ (¬ x1 ≤ (v5_36 + 1) → (0 ≤ v4_19 ∧ v4_19 < 1024) ∧ (zb_Tp K_X2_exchanged d [(0, x1), (0, (m36l (E.2 x0 3) v4_19)), (0, v5_36)] E m36l (fun r54 => (0 ≤ r54 ∧ r54 < 1024) ∧ (((m36l (E.2 x0 2) r54) = 0 → ∀ m79, m79 = zb_up m36l (E.2 x0 2) r54 1 → ((zb_inI (v3_36 + 1)) ∧ ((0 ≤ v3_36 ∧ v3_36 < 1024) ∧ (∀ m90, m90 = zb_up m79 (E.2 x0 3) v3_36 r54 → (X36 (v3_36 + 1) (v5_36 + 1) m90))))) ∧ (¬ (m36l (E.2 x0 2) r54) = 0 → X36 v3_36 (v5_36 + 1) m36l))))))) → X36 v3_36 v5_36 m36l) → X36 v3_36 v5_36 m36l
def PL_X2_meetAllOfSort_19 (d : Nat) (E : zb_E) (x0 : Int) (x1 : Int) (Q : Int → zb_M → Prop)  (v3_19 : Int) (v4_19 : Int) (m19l : zb_M) : Prop :=
  ∀ X19 : Int → Int → zb_M → Prop, (∀ (v3_19 : Int) (v4_19 : Int) (m19l : zb_M), ((1024 ≤ v4_19 → Q 0 m19l) ∧ (¬ 1024 ≤ v4_19 → (v3_19 ≤ v4_19 → Q 0 m19l) ∧ (¬ v3_19 ≤ v4_19 → PL_X2_meetAllOfSort_36 d E x0 x1 v4_19 Q (PJ_X2_meetAllOfSort_97 d E v4_19 X19 Q) v3_19 0 m19l))) → X19 v3_19 v4_19 m19l) → X19 v3_19 v4_19 m19l
def PM_X2_meetAllOfSort (d : Nat) (E : zb_E) (x0 : Int) (x1 : Int) (x2 : Int) (m : zb_M) (Q : Int → zb_M → Prop) : Prop :=
  ∀ m6, m6 = zb_up m (E.2 x0 3) 0 x2 → ((0 ≤ x2 ∧ x2 < 1024) ∧ (∀ m13, m13 = zb_up m6 (E.2 x0 2) x2 1 → (PL_X2_meetAllOfSort_19 d E x0 x1 Q 1 0 m13)))
set_option maxRecDepth 100000 in
set_option maxHeartbeats 4000000 in
theorem w_X2_meetAllOfSort {d : Nat} {E : zb_E} {x0 x1 x2 : Int} {m : zb_M} {Q : Int → zb_M → Prop} (h : PM_X2_meetAllOfSort d E x0 x1 x2 m Q) : zb_T K_X2_meetAllOfSort (d + 1) [(2, x0), (0, x1), (0, x2)] E m Q := by
  unfold PM_X2_meetAllOfSort at h
  refine zb_T_in gd_X2_meetAllOfSort rfl rfl (fun hW hA G C hF => ?_)
  have i_0 : zb_is E.1 x0 2 := zb_aH hA (by decide)
  show zb_WP _ _ 0 [(0, (2, x0)), (1, (0, x1)), (2, (0, x2))] [] _ _ _ _
  refine zb_aload_n (j := 0) dX2_meetAllOfSort_0 rfl rfl ?_
  refine zb_gFa 3 dX2_meetAllOfSort_1 fl_X2_21 i_0 hW hF rfl rfl rfl (by decide) rfl 1024 rfl (fun i1 l2 => ?_)
  refine zb_iconst dX2_meetAllOfSort_4 (zb_inIc rfl) ?_
  refine zb_iload_n (j := 2) dX2_meetAllOfSort_5 rfl rfl ?_
  refine zb_sI dX2_meetAllOfSort_6 i1 l2 (by decide) (by decide) hF (fun m6 e6 hF => ?_)
  have h := h m6 e6
  refine zb_aload_n (j := 0) dX2_meetAllOfSort_7 rfl rfl ?_
  refine zb_gFa 2 dX2_meetAllOfSort_8 fl_X2_17 i_0 hW hF rfl rfl rfl (by decide) rfl 1024 rfl (fun i3 l4 => ?_)
  refine zb_iload_n (j := 2) dX2_meetAllOfSort_11 rfl rfl ?_
  refine zb_iconst dX2_meetAllOfSort_12 (zb_inIc rfl) ?_
  obtain ⟨o5, h⟩ := h
  refine zb_sZ dX2_meetAllOfSort_13 i3 l4 o5.1 o5.2 (by decide) hF (fun m13 e13 hF => ?_)
  have h := h m13 e13
  refine zb_iconst dX2_meetAllOfSort_14 (zb_inIc rfl) ?_
  refine zb_istore_n (L' := [(3, (0, 1)), (0, (2, x0)), (1, (0, x1)), (2, (0, x2))]) dX2_meetAllOfSort_15 rfl (by decide) rfl ?_
  refine zb_iconst dX2_meetAllOfSort_16 (zb_inIc rfl) ?_
  refine zb_istore (L' := [(4, (0, 0)), (3, (0, 1)), (0, (2, x0)), (1, (0, x1)), (2, (0, x2))]) dX2_meetAllOfSort_17 (by decide) rfl ?_
  refine zb_sub (L' := [(0, (2, x0)), (1, (0, x1)), (3, (0, 1)), (4, (0, 0))]) [2, 3, 1, 0] rfl ?_
  unfold PL_X2_meetAllOfSort_19 at h
  obtain ⟨X19, hX19⟩ : ∃ X : Int → Int → zb_M → Prop, ∀ (v3_19 : Int) (v4_19 : Int) (m19l : zb_M), (X v3_19 v4_19 m19l ↔ (zb_FIN E m19l → zb_WP (G, C, d + 1, 0, 0, zb_q E Q) F_X2_meetAllOfSort 19 [(0, (2, x0)), (1, (0, x1)), (3, (0, v3_19)), (4, (0, v4_19))] [] E.1 m19l 0 0)) := ⟨fun v3_19 v4_19 m19l => zb_FIN E m19l → zb_WP (G, C, d + 1, 0, 0, zb_q E Q) F_X2_meetAllOfSort 19 [(0, (2, x0)), (1, (0, x1)), (3, (0, v3_19)), (4, (0, v4_19))] [] E.1 m19l 0 0, fun _ _ _ => Iff.rfl⟩
  refine (hX19 _ _ _).mp (h X19 (fun v3_19 v4_19 m19l h => (hX19 _ _ _).mpr (fun hF => ?_))) hF
  refine zb_iload (j := 3) dX2_meetAllOfSort_19 rfl ?_
  refine zb_sipush dX2_meetAllOfSort_21 (by decide) (zb_inIc rfl) ?_
  refine zb_icmp_ge (tgt := 103) dX2_meetAllOfSort_24 (by decide) (fun c6 => ?_) (fun c6 => ?_)
  · have h := h.1 c6
    exact zb_rV dX2_meetAllOfSort_103 rfl hF h
  · have h := h.2 c6
    refine zb_iload (j := 3) dX2_meetAllOfSort_27 rfl ?_
    refine zb_iload_n (j := 2) dX2_meetAllOfSort_29 rfl rfl ?_
    refine zb_icmp_ge (tgt := 103) dX2_meetAllOfSort_30 (by decide) (fun c7 => ?_) (fun c7 => ?_)
    · have h := h.1 c7
      exact zb_rV dX2_meetAllOfSort_103 rfl hF h
    · have h := h.2 c7
      refine zb_iconst dX2_meetAllOfSort_33 (zb_inIc rfl) ?_
      refine zb_istore (L' := [(5, (0, 0)), (0, (2, x0)), (1, (0, x1)), (3, (0, v3_19)), (4, (0, v4_19))]) dX2_meetAllOfSort_34 (by decide) rfl ?_
      refine zb_sub (L' := [(0, (2, x0)), (1, (0, x1)), (3, (0, v3_19)), (4, (0, v4_19)), (5, (0, 0))]) [1, 2, 3, 4, 0] rfl ?_
      have hJ97 : ∀ (v3_97 : Int) (m97j : zb_M), zb_FIN E m97j → PJ_X2_meetAllOfSort_97 d E v4_19 X19 Q v3_97 m97j → zb_WP (G, C, d + 1, 0, 0, zb_q E Q) F_X2_meetAllOfSort 97 [(0, (2, x0)), (1, (0, x1)), (3, (0, v3_97)), (4, (0, v4_19))] [] E.1 m97j 0 0 := by
        intro v3_97 m97j hF h
        unfold PJ_X2_meetAllOfSort_97 at h
        obtain ⟨o8, h⟩ := h
        refine zb_iinc (j := 3) (L' := [(4, (0, (v4_19 + 1))), (0, (2, x0)), (1, (0, x1)), (3, (0, v3_97))]) dX2_meetAllOfSort_97 rfl o8 (by decide) rfl ?_
        refine zb_goto (tgt := 19) dX2_meetAllOfSort_100 (by decide) ?_
        refine zb_sub (L' := [(0, (2, x0)), (1, (0, x1)), (3, (0, v3_97)), (4, (0, (v4_19 + 1)))]) [1, 2, 3, 0] rfl ?_
        exact (hX19 _ _ _).mp h hF
      unfold PL_X2_meetAllOfSort_36 at h
      obtain ⟨X36, hX36⟩ : ∃ X : Int → Int → zb_M → Prop, ∀ (v3_36 : Int) (v5_36 : Int) (m36l : zb_M), (X v3_36 v5_36 m36l ↔ (zb_FIN E m36l → zb_WP (G, C, d + 1, 0, 0, zb_q E Q) F_X2_meetAllOfSort 36 [(0, (2, x0)), (1, (0, x1)), (3, (0, v3_36)), (4, (0, v4_19)), (5, (0, v5_36))] [] E.1 m36l 0 0)) := ⟨fun v3_36 v5_36 m36l => zb_FIN E m36l → zb_WP (G, C, d + 1, 0, 0, zb_q E Q) F_X2_meetAllOfSort 36 [(0, (2, x0)), (1, (0, x1)), (3, (0, v3_36)), (4, (0, v4_19)), (5, (0, v5_36))] [] E.1 m36l 0 0, fun _ _ _ => Iff.rfl⟩
      refine (hX36 _ _ _).mp (h X36 (fun v3_36 v5_36 m36l h => (hX36 _ _ _).mpr (fun hF => ?_))) hF
      refine zb_iload (j := 4) dX2_meetAllOfSort_36 rfl ?_
      refine zb_iconst dX2_meetAllOfSort_38 (zb_inIc rfl) ?_
      obtain ⟨o9, h⟩ := h
      refine zb_iadd dX2_meetAllOfSort_39 o9 ?_
      refine zb_iload_n (j := 1) dX2_meetAllOfSort_40 rfl rfl ?_
      refine zb_icmp_ge (tgt := 97) dX2_meetAllOfSort_41 (by decide) (fun c10 => ?_) (fun c10 => ?_)
      · have h := h.1 c10
        refine zb_sub (L' := [(0, (2, x0)), (1, (0, x1)), (3, (0, v3_36)), (4, (0, v4_19))]) [0, 1, 2, 3] rfl ?_
        exact hJ97 _ _ hF h
      · have h := h.2 c10
        refine zb_iload_n (j := 1) dX2_meetAllOfSort_44 rfl rfl ?_
        refine zb_aload_n (j := 0) dX2_meetAllOfSort_45 rfl rfl ?_
        refine zb_gFa 3 dX2_meetAllOfSort_46 fl_X2_21 i_0 hW hF rfl rfl rfl (by decide) rfl 1024 rfl (fun i11 l12 => ?_)
        refine zb_iload (j := 3) dX2_meetAllOfSort_49 rfl ?_
        obtain ⟨o13, h⟩ := h
        refine zb_lI dX2_meetAllOfSort_51 i11 l12 o13.1 o13.2 ?_
        refine zb_iload (j := 4) dX2_meetAllOfSort_52 rfl ?_
        refine zb_cSp (As := [(0, x1), (0, (m36l (E.2 x0 3) v4_19)), (0, v5_36)]) (As' := [(0, v5_36), (0, (m36l (E.2 x0 3) v4_19)), (0, x1)]) (st := []) dX2_meetAllOfSort_54 lk_X2_63 gd_X2_exchanged rfl rfl h hW hF (zb_aI (zb_aI (zb_aI zb_a0))) (Nat.le_refl _) (Nat.le_of_ble_eq_true rfl) (fun r54 h => ?_)
        show zb_WP _ _ _ _ [(0, r54)] _ _ _ _
        refine zb_istore (L' := [(6, (0, r54)), (0, (2, x0)), (1, (0, x1)), (3, (0, v3_36)), (4, (0, v4_19)), (5, (0, v5_36))]) dX2_meetAllOfSort_57 (by decide) rfl ?_
        refine zb_aload_n (j := 1) dX2_meetAllOfSort_59 rfl rfl ?_
        refine zb_gFa 2 dX2_meetAllOfSort_60 fl_X2_17 i_0 hW hF rfl rfl rfl (by decide) rfl 1024 rfl (fun i14 l15 => ?_)
        refine zb_iload (j := 0) dX2_meetAllOfSort_63 rfl ?_
        obtain ⟨o16, h⟩ := h
        refine zb_lZ dX2_meetAllOfSort_65 i14 l15 o16.1 o16.2 ?_
        refine zb_if_eq (tgt := 72) dX2_meetAllOfSort_66 (by decide) (fun c17 => ?_) (fun c17 => ?_)
        · have h := h.1 c17
          refine zb_aload_n (j := 1) dX2_meetAllOfSort_72 rfl rfl ?_
          refine zb_gFa 2 dX2_meetAllOfSort_73 fl_X2_17 i_0 hW hF rfl rfl rfl (by decide) rfl 1024 rfl (fun i18 l19 => ?_)
          refine zb_iload (j := 0) dX2_meetAllOfSort_76 rfl ?_
          refine zb_iconst dX2_meetAllOfSort_78 (zb_inIc rfl) ?_
          refine zb_sZ dX2_meetAllOfSort_79 i18 l19 o16.1 o16.2 (by decide) hF (fun m79 e79 hF => ?_)
          have h := h m79 e79
          refine zb_aload_n (j := 1) dX2_meetAllOfSort_80 rfl rfl ?_
          refine zb_gFa 3 dX2_meetAllOfSort_81 fl_X2_21 i_0 hW hF rfl rfl rfl (by decide) rfl 1024 rfl (fun i20 l21 => ?_)
          refine zb_iload_n (j := 3) dX2_meetAllOfSort_84 rfl rfl ?_
          obtain ⟨o22, h⟩ := h
          refine zb_iinc (j := 3) (L' := [(3, (0, (v3_36 + 1))), (6, (0, r54)), (0, (2, x0)), (1, (0, x1)), (4, (0, v4_19)), (5, (0, v5_36))]) dX2_meetAllOfSort_85 rfl o22 (by decide) rfl ?_
          refine zb_iload (j := 1) dX2_meetAllOfSort_88 rfl ?_
          obtain ⟨o23, h⟩ := h
          refine zb_sI dX2_meetAllOfSort_90 i20 l21 o23.1 o23.2 hF (fun m90 e90 hF => ?_)
          have h := h m90 e90
          refine zb_iinc (j := 5) (L' := [(5, (0, (v5_36 + 1))), (3, (0, (v3_36 + 1))), (6, (0, r54)), (0, (2, x0)), (1, (0, x1)), (4, (0, v4_19))]) dX2_meetAllOfSort_91 rfl o9 (by decide) rfl ?_
          refine zb_goto (tgt := 36) dX2_meetAllOfSort_94 (by decide) ?_
          refine zb_sub (L' := [(0, (2, x0)), (1, (0, x1)), (3, (0, (v3_36 + 1))), (4, (0, v4_19)), (5, (0, (v5_36 + 1)))]) [3, 4, 1, 5, 0] rfl ?_
          exact (hX36 _ _ _).mp h hF
        · have h := h.2 c17
          refine zb_goto (tgt := 91) dX2_meetAllOfSort_69 (by decide) ?_
          refine zb_iinc (j := 5) (L' := [(5, (0, (v5_36 + 1))), (6, (0, r54)), (0, (2, x0)), (1, (0, x1)), (3, (0, v3_36)), (4, (0, v4_19))]) dX2_meetAllOfSort_91 rfl o9 (by decide) rfl ?_
          refine zb_goto (tgt := 36) dX2_meetAllOfSort_94 (by decide) ?_
          refine zb_sub (L' := [(0, (2, x0)), (1, (0, x1)), (3, (0, v3_36)), (4, (0, v4_19)), (5, (0, (v5_36 + 1)))]) [2, 3, 4, 5, 0] rfl ?_
          exact (hX36 _ _ _).mp h hF
theorem dX2_exchanged_0 : decode cX2_exchanged 0 = .ok (.iconst 0, 1) := by decide +kernel
theorem dX2_exchanged_1 : decode cX2_exchanged 1 = .ok (.istore_n 3, 1) := by decide +kernel
theorem dX2_exchanged_2 : decode cX2_exchanged 2 = .ok (.iconst 1, 1) := by decide +kernel
theorem dX2_exchanged_3 : decode cX2_exchanged 3 = .ok (.istore 4, 2) := by decide +kernel
theorem dX2_exchanged_5 : decode cX2_exchanged 5 = .ok (.iload 4, 2) := by decide +kernel
theorem dX2_exchanged_7 : decode cX2_exchanged 7 = .ok (.iload_n 0, 1) := by decide +kernel
theorem dX2_exchanged_8 : decode cX2_exchanged 8 = .ok (.if_icmp .ge 62, 3) := by decide +kernel
theorem dX2_exchanged_11 : decode cX2_exchanged 11 = .ok (.iconst 0, 1) := by decide +kernel
theorem dX2_exchanged_12 : decode cX2_exchanged 12 = .ok (.istore 5, 2) := by decide +kernel
theorem dX2_exchanged_14 : decode cX2_exchanged 14 = .ok (.iload 5, 2) := by decide +kernel
theorem dX2_exchanged_16 : decode cX2_exchanged 16 = .ok (.iload 4, 2) := by decide +kernel
theorem dX2_exchanged_18 : decode cX2_exchanged 18 = .ok (.if_icmp .ge 46, 3) := by decide +kernel
theorem dX2_exchanged_21 : decode cX2_exchanged 21 = .ok (.iload_n 1, 1) := by decide +kernel
theorem dX2_exchanged_22 : decode cX2_exchanged 22 = .ok (.iload 4, 2) := by decide +kernel
theorem dX2_exchanged_24 : decode cX2_exchanged 24 = .ok (.iload 5, 2) := by decide +kernel
theorem dX2_exchanged_26 : decode cX2_exchanged 26 = .ok (.invokestatic 67, 3) := by decide +kernel
theorem dX2_exchanged_29 : decode cX2_exchanged 29 = .ok (.ishr, 1) := by decide +kernel
theorem dX2_exchanged_30 : decode cX2_exchanged 30 = .ok (.iconst 1, 1) := by decide +kernel
theorem dX2_exchanged_31 : decode cX2_exchanged 31 = .ok (.iand, 1) := by decide +kernel
theorem dX2_exchanged_32 : decode cX2_exchanged 32 = .ok (.ifCond .ne 6, 3) := by decide +kernel
theorem dX2_exchanged_35 : decode cX2_exchanged 35 = .ok (.goto 23, 3) := by decide +kernel
theorem dX2_exchanged_38 : decode cX2_exchanged 38 = .ok (.iload_n 3, 1) := by decide +kernel
theorem dX2_exchanged_39 : decode cX2_exchanged 39 = .ok (.iconst 1, 1) := by decide +kernel
theorem dX2_exchanged_40 : decode cX2_exchanged 40 = .ok (.iload 4, 2) := by decide +kernel
theorem dX2_exchanged_42 : decode cX2_exchanged 42 = .ok (.iload_n 2, 1) := by decide +kernel
theorem dX2_exchanged_43 : decode cX2_exchanged 43 = .ok (.invokestatic 70, 3) := by decide +kernel
theorem dX2_exchanged_46 : decode cX2_exchanged 46 = .ok (.iload 5, 2) := by decide +kernel
theorem dX2_exchanged_48 : decode cX2_exchanged 48 = .ok (.iload_n 2, 1) := by decide +kernel
theorem dX2_exchanged_49 : decode cX2_exchanged 49 = .ok (.invokestatic 70, 3) := by decide +kernel
theorem dX2_exchanged_52 : decode cX2_exchanged 52 = .ok (.invokestatic 67, 3) := by decide +kernel
theorem dX2_exchanged_55 : decode cX2_exchanged 55 = .ok (.ishl, 1) := by decide +kernel
theorem dX2_exchanged_56 : decode cX2_exchanged 56 = .ok (.ior, 1) := by decide +kernel
theorem dX2_exchanged_57 : decode cX2_exchanged 57 = .ok (.istore_n 3, 1) := by decide +kernel
theorem dX2_exchanged_58 : decode cX2_exchanged 58 = .ok (.iinc 5 1, 3) := by decide +kernel
theorem dX2_exchanged_61 : decode cX2_exchanged 61 = .ok (.goto (-47), 3) := by decide +kernel
theorem dX2_exchanged_64 : decode cX2_exchanged 64 = .ok (.iinc 4 1, 3) := by decide +kernel
theorem dX2_exchanged_67 : decode cX2_exchanged 67 = .ok (.goto (-62), 3) := by decide +kernel
theorem dX2_exchanged_70 : decode cX2_exchanged 70 = .ok (.iload_n 3, 1) := by decide +kernel
theorem dX2_exchanged_71 : decode cX2_exchanged 71 = .ok (.ireturn, 1) := by decide +kernel
def PJ_X2_exchanged_64 (d : Nat) (E : zb_E) (v4_5 : Int) (X5 : Int → Int → Prop) (Q : Int → Prop) (v3_64 : Int) : Prop :=
  (zb_inI (v4_5 + 1)) ∧ (X5 v3_64 (v4_5 + 1))
def PL_X2_exchanged_14 (d : Nat) (E : zb_E) (x1 : Int) (x2 : Int) (m : zb_M) (v4_5 : Int) (Q : Int → Prop) (K64_14 : Int → Prop) (v3_14 : Int) (v5_14 : Int) : Prop :=
  ∀ X14 : Int → Int → Prop, (∀ (v3_14 : Int) (v5_14 : Int), ((v4_5 ≤ v5_14 → K64_14 v3_14) ∧ (¬ v4_5 ≤ v5_14 → zb_Tp K_X2_bitOf d [(0, v4_5), (0, v5_14)] E m (fun r26 => ((zb_and (zb_shr x1 r26) 1) = 0 → (zb_inI (v5_14 + 1)) ∧ (X14 v3_14 (v5_14 + 1))) ∧ (¬ (zb_and (zb_shr x1 r26) 1) = 0 → zb_Tp K_X2_neighbourOf d [(0, v4_5), (0, x2)] E m (fun r43 => zb_Tp K_X2_neighbourOf d [(0, v5_14), (0, x2)] E m (fun r49 => zb_Tp K_X2_bitOf d [(0, r43), (0, r49)] E m (fun r52 => (zb_inI (v5_14 + 1)) ∧ (X14 (zb_or v3_14 (zb_shl 1 r52)) (v5_14 + 1))))))))) → X14 v3_14 v5_14) → X14 v3_14 v5_14
def PL_X2_exchanged_5 (d : Nat) (E : zb_E) (x0 : Int) (x1 : Int) (x2 : Int) (m : zb_M) (Q : Int → Prop)  (v3_5 : Int) (v4_5 : Int) : Prop :=
  ∀ X5 : Int → Int → Prop, (∀ (v3_5 : Int) (v4_5 : Int), ((x0 ≤ v4_5 → Q v3_5) ∧ (¬ x0 ≤ v4_5 → PL_X2_exchanged_14 d E x1 x2 m v4_5 Q (PJ_X2_exchanged_64 d E v4_5 X5 Q) v3_5 0)) → X5 v3_5 v4_5) → X5 v3_5 v4_5
def PM_X2_exchanged (d : Nat) (E : zb_E) (x0 : Int) (x1 : Int) (x2 : Int) (m : zb_M) (Q : Int → Prop) : Prop :=
  PL_X2_exchanged_5 d E x0 x1 x2 m Q 0 1
set_option maxRecDepth 100000 in
set_option maxHeartbeats 4000000 in
theorem w_X2_exchanged {d : Nat} {E : zb_E} {x0 x1 x2 : Int} {m : zb_M} {Q : Int → Prop} (h : PM_X2_exchanged d E x0 x1 x2 m Q) : zb_Tp K_X2_exchanged (d + 1) [(0, x0), (0, x1), (0, x2)] E m Q := by
  unfold PM_X2_exchanged at h
  refine zb_T_in gd_X2_exchanged rfl rfl (fun hW hA G C hF => ?_)
  show zb_WP _ _ 0 [(0, (0, x0)), (1, (0, x1)), (2, (0, x2))] [] _ _ _ _
  refine zb_iconst dX2_exchanged_0 (zb_inIc rfl) ?_
  refine zb_istore_n (L' := [(3, (0, 0)), (0, (0, x0)), (1, (0, x1)), (2, (0, x2))]) dX2_exchanged_1 rfl (by decide) rfl ?_
  refine zb_iconst dX2_exchanged_2 (zb_inIc rfl) ?_
  refine zb_istore (L' := [(4, (0, 1)), (3, (0, 0)), (0, (0, x0)), (1, (0, x1)), (2, (0, x2))]) dX2_exchanged_3 (by decide) rfl ?_
  refine zb_sub (L' := [(0, (0, x0)), (1, (0, x1)), (2, (0, x2)), (3, (0, 0)), (4, (0, 1))]) [2, 3, 4, 1, 0] rfl ?_
  unfold PL_X2_exchanged_5 at h
  obtain ⟨X5, hX5⟩ : ∃ X : Int → Int → Prop, ∀ (v3_5 : Int) (v4_5 : Int), (X v3_5 v4_5 ↔ (zb_FIN E m → zb_WP (G, C, d + 1, 0, 0, zb_q E (fun r m' => m' = m ∧ Q r)) F_X2_exchanged 5 [(0, (0, x0)), (1, (0, x1)), (2, (0, x2)), (3, (0, v3_5)), (4, (0, v4_5))] [] E.1 m 0 0)) := ⟨fun v3_5 v4_5 => zb_FIN E m → zb_WP (G, C, d + 1, 0, 0, zb_q E (fun r m' => m' = m ∧ Q r)) F_X2_exchanged 5 [(0, (0, x0)), (1, (0, x1)), (2, (0, x2)), (3, (0, v3_5)), (4, (0, v4_5))] [] E.1 m 0 0, fun _ _ => Iff.rfl⟩
  refine (hX5 _ _).mp (h X5 (fun v3_5 v4_5 h => (hX5 _ _).mpr (fun hF => ?_))) hF
  refine zb_iload (j := 4) dX2_exchanged_5 rfl ?_
  refine zb_iload_n (j := 0) dX2_exchanged_7 rfl rfl ?_
  refine zb_icmp_ge (tgt := 70) dX2_exchanged_8 (by decide) (fun c1 => ?_) (fun c1 => ?_)
  · have h := h.1 c1
    refine zb_iload_n (j := 3) dX2_exchanged_70 rfl rfl ?_
    exact zb_rI dX2_exchanged_71 rfl hF ⟨rfl, h⟩
  · have h := h.2 c1
    refine zb_iconst dX2_exchanged_11 (zb_inIc rfl) ?_
    refine zb_istore (L' := [(5, (0, 0)), (0, (0, x0)), (1, (0, x1)), (2, (0, x2)), (3, (0, v3_5)), (4, (0, v4_5))]) dX2_exchanged_12 (by decide) rfl ?_
    refine zb_sub (L' := [(0, (0, x0)), (1, (0, x1)), (2, (0, x2)), (3, (0, v3_5)), (4, (0, v4_5)), (5, (0, 0))]) [1, 2, 3, 4, 5, 0] rfl ?_
    have hJ64 : ∀ (v3_64 : Int), zb_FIN E m → PJ_X2_exchanged_64 d E v4_5 X5 Q v3_64 → zb_WP (G, C, d + 1, 0, 0, zb_q E (fun r m' => m' = m ∧ Q r)) F_X2_exchanged 64 [(0, (0, x0)), (1, (0, x1)), (2, (0, x2)), (3, (0, v3_64)), (4, (0, v4_5))] [] E.1 m 0 0 := by
      intro v3_64 hF h
      unfold PJ_X2_exchanged_64 at h
      obtain ⟨o2, h⟩ := h
      refine zb_iinc (j := 4) (L' := [(4, (0, (v4_5 + 1))), (0, (0, x0)), (1, (0, x1)), (2, (0, x2)), (3, (0, v3_64))]) dX2_exchanged_64 rfl o2 (by decide) rfl ?_
      refine zb_goto (tgt := 5) dX2_exchanged_67 (by decide) ?_
      refine zb_sub (L' := [(0, (0, x0)), (1, (0, x1)), (2, (0, x2)), (3, (0, v3_64)), (4, (0, (v4_5 + 1)))]) [1, 2, 3, 4, 0] rfl ?_
      exact (hX5 _ _).mp h hF
    unfold PL_X2_exchanged_14 at h
    obtain ⟨X14, hX14⟩ : ∃ X : Int → Int → Prop, ∀ (v3_14 : Int) (v5_14 : Int), (X v3_14 v5_14 ↔ (zb_FIN E m → zb_WP (G, C, d + 1, 0, 0, zb_q E (fun r m' => m' = m ∧ Q r)) F_X2_exchanged 14 [(0, (0, x0)), (1, (0, x1)), (2, (0, x2)), (3, (0, v3_14)), (4, (0, v4_5)), (5, (0, v5_14))] [] E.1 m 0 0)) := ⟨fun v3_14 v5_14 => zb_FIN E m → zb_WP (G, C, d + 1, 0, 0, zb_q E (fun r m' => m' = m ∧ Q r)) F_X2_exchanged 14 [(0, (0, x0)), (1, (0, x1)), (2, (0, x2)), (3, (0, v3_14)), (4, (0, v4_5)), (5, (0, v5_14))] [] E.1 m 0 0, fun _ _ => Iff.rfl⟩
    refine (hX14 _ _).mp (h X14 (fun v3_14 v5_14 h => (hX14 _ _).mpr (fun hF => ?_))) hF
    refine zb_iload (j := 5) dX2_exchanged_14 rfl ?_
    refine zb_iload (j := 4) dX2_exchanged_16 rfl ?_
    refine zb_icmp_ge (tgt := 64) dX2_exchanged_18 (by decide) (fun c3 => ?_) (fun c3 => ?_)
    · have h := h.1 c3
      refine zb_sub (L' := [(0, (0, x0)), (1, (0, x1)), (2, (0, x2)), (3, (0, v3_14)), (4, (0, v4_5))]) [0, 1, 2, 3, 4] rfl ?_
      exact hJ64 _ hF h
    · have h := h.2 c3
      refine zb_iload_n (j := 1) dX2_exchanged_21 rfl rfl ?_
      refine zb_iload (j := 4) dX2_exchanged_22 rfl ?_
      refine zb_iload (j := 5) dX2_exchanged_24 rfl ?_
      refine zb_cSp (As := [(0, v4_5), (0, v5_14)]) (As' := [(0, v5_14), (0, v4_5)]) (st := [(0, x1)]) dX2_exchanged_26 lk_X2_67 gd_X2_bitOf rfl rfl h hW hF (zb_aI (zb_aI zb_a0)) (Nat.le_refl _) (Nat.le_of_ble_eq_true rfl) (fun r26 h => ?_)
      show zb_WP _ _ _ _ [(0, r26), (0, x1)] _ _ _ _
      refine zb_ishr dX2_exchanged_29 ?_
      refine zb_iconst dX2_exchanged_30 (zb_inIc rfl) ?_
      refine zb_iand dX2_exchanged_31 ?_
      refine zb_if_ne (tgt := 38) dX2_exchanged_32 (by decide) (fun c4 => ?_) (fun c4 => ?_)
      · have h := h.2 c4
        refine zb_iload_n (j := 3) dX2_exchanged_38 rfl rfl ?_
        refine zb_iconst dX2_exchanged_39 (zb_inIc rfl) ?_
        refine zb_iload (j := 4) dX2_exchanged_40 rfl ?_
        refine zb_iload_n (j := 2) dX2_exchanged_42 rfl rfl ?_
        refine zb_cSp (As := [(0, v4_5), (0, x2)]) (As' := [(0, x2), (0, v4_5)]) (st := [(0, 1), (0, v3_14)]) dX2_exchanged_43 lk_X2_70 gd_X2_neighbourOf rfl rfl h hW hF (zb_aI (zb_aI zb_a0)) (Nat.le_refl _) (Nat.le_of_ble_eq_true rfl) (fun r43 h => ?_)
        show zb_WP _ _ _ _ [(0, r43), (0, 1), (0, v3_14)] _ _ _ _
        refine zb_iload (j := 5) dX2_exchanged_46 rfl ?_
        refine zb_iload_n (j := 2) dX2_exchanged_48 rfl rfl ?_
        refine zb_cSp (As := [(0, v5_14), (0, x2)]) (As' := [(0, x2), (0, v5_14)]) (st := [(0, r43), (0, 1), (0, v3_14)]) dX2_exchanged_49 lk_X2_70 gd_X2_neighbourOf rfl rfl h hW hF (zb_aI (zb_aI zb_a0)) (Nat.le_refl _) (Nat.le_of_ble_eq_true rfl) (fun r49 h => ?_)
        show zb_WP _ _ _ _ [(0, r49), (0, r43), (0, 1), (0, v3_14)] _ _ _ _
        refine zb_cSp (As := [(0, r43), (0, r49)]) (As' := [(0, r49), (0, r43)]) (st := [(0, 1), (0, v3_14)]) dX2_exchanged_52 lk_X2_67 gd_X2_bitOf rfl rfl h hW hF (zb_aI (zb_aI zb_a0)) (Nat.le_refl _) (Nat.le_of_ble_eq_true rfl) (fun r52 h => ?_)
        show zb_WP _ _ _ _ [(0, r52), (0, 1), (0, v3_14)] _ _ _ _
        refine zb_ishl dX2_exchanged_55 ?_
        refine zb_ior dX2_exchanged_56 ?_
        refine zb_istore_n (L' := [(3, (0, (zb_or v3_14 (zb_shl 1 r52)))), (0, (0, x0)), (1, (0, x1)), (2, (0, x2)), (4, (0, v4_5)), (5, (0, v5_14))]) dX2_exchanged_57 rfl (by decide) rfl ?_
        obtain ⟨o5, h⟩ := h
        refine zb_iinc (j := 5) (L' := [(5, (0, (v5_14 + 1))), (3, (0, (zb_or v3_14 (zb_shl 1 r52)))), (0, (0, x0)), (1, (0, x1)), (2, (0, x2)), (4, (0, v4_5))]) dX2_exchanged_58 rfl o5 (by decide) rfl ?_
        refine zb_goto (tgt := 14) dX2_exchanged_61 (by decide) ?_
        refine zb_sub (L' := [(0, (0, x0)), (1, (0, x1)), (2, (0, x2)), (3, (0, (zb_or v3_14 (zb_shl 1 r52)))), (4, (0, v4_5)), (5, (0, (v5_14 + 1)))]) [2, 3, 4, 1, 5, 0] rfl ?_
        exact (hX14 _ _).mp h hF
      · have h := h.1 c4
        refine zb_goto (tgt := 58) dX2_exchanged_35 (by decide) ?_
        obtain ⟨o6, h⟩ := h
        refine zb_iinc (j := 5) (L' := [(5, (0, (v5_14 + 1))), (0, (0, x0)), (1, (0, x1)), (2, (0, x2)), (3, (0, v3_14)), (4, (0, v4_5))]) dX2_exchanged_58 rfl o6 (by decide) rfl ?_
        refine zb_goto (tgt := 14) dX2_exchanged_61 (by decide) ?_
        refine zb_sub (L' := [(0, (0, x0)), (1, (0, x1)), (2, (0, x2)), (3, (0, v3_14)), (4, (0, v4_5)), (5, (0, (v5_14 + 1)))]) [1, 2, 3, 4, 5, 0] rfl ?_
        exact (hX14 _ _).mp h hF
theorem dX2_neighbourOf_0 : decode cX2_neighbourOf 0 = .ok (.iload_n 0, 1) := by decide +kernel
theorem dX2_neighbourOf_1 : decode cX2_neighbourOf 1 = .ok (.iload_n 1, 1) := by decide +kernel
theorem dX2_neighbourOf_2 : decode cX2_neighbourOf 2 = .ok (.if_icmp .ne 7, 3) := by decide +kernel
theorem dX2_neighbourOf_5 : decode cX2_neighbourOf 5 = .ok (.iload_n 1, 1) := by decide +kernel
theorem dX2_neighbourOf_6 : decode cX2_neighbourOf 6 = .ok (.iconst 1, 1) := by decide +kernel
theorem dX2_neighbourOf_7 : decode cX2_neighbourOf 7 = .ok (.iadd, 1) := by decide +kernel
theorem dX2_neighbourOf_8 : decode cX2_neighbourOf 8 = .ok (.ireturn, 1) := by decide +kernel
theorem dX2_neighbourOf_9 : decode cX2_neighbourOf 9 = .ok (.iload_n 0, 1) := by decide +kernel
theorem dX2_neighbourOf_10 : decode cX2_neighbourOf 10 = .ok (.iload_n 1, 1) := by decide +kernel
theorem dX2_neighbourOf_11 : decode cX2_neighbourOf 11 = .ok (.iconst 1, 1) := by decide +kernel
theorem dX2_neighbourOf_12 : decode cX2_neighbourOf 12 = .ok (.iadd, 1) := by decide +kernel
theorem dX2_neighbourOf_13 : decode cX2_neighbourOf 13 = .ok (.if_icmp .ne 7, 3) := by decide +kernel
theorem dX2_neighbourOf_16 : decode cX2_neighbourOf 16 = .ok (.iload_n 1, 1) := by decide +kernel
theorem dX2_neighbourOf_17 : decode cX2_neighbourOf 17 = .ok (.goto 4, 3) := by decide +kernel
theorem dX2_neighbourOf_20 : decode cX2_neighbourOf 20 = .ok (.iload_n 0, 1) := by decide +kernel
theorem dX2_neighbourOf_21 : decode cX2_neighbourOf 21 = .ok (.ireturn, 1) := by decide +kernel
def PM_X2_neighbourOf (d : Nat) (E : zb_E) (x0 : Int) (x1 : Int) (m : zb_M) (Q : Int → Prop) : Prop :=
  (x0 = x1 → (zb_inI (x1 + 1)) ∧ (Q (x1 + 1))) ∧ (¬ x0 = x1 → (zb_inI (x1 + 1)) ∧ ((x0 = (x1 + 1) → Q x1) ∧ (¬ x0 = (x1 + 1) → Q x0)))
set_option maxRecDepth 100000 in
set_option maxHeartbeats 4000000 in
theorem w_X2_neighbourOf {d : Nat} {E : zb_E} {x0 x1 : Int} {m : zb_M} {Q : Int → Prop} (h : PM_X2_neighbourOf d E x0 x1 m Q) : zb_Tp K_X2_neighbourOf (d + 1) [(0, x0), (0, x1)] E m Q := by
  unfold PM_X2_neighbourOf at h
  refine zb_T_in gd_X2_neighbourOf rfl rfl (fun hW hA G C hF => ?_)
  show zb_WP _ _ 0 [(0, (0, x0)), (1, (0, x1))] [] _ _ _ _
  refine zb_iload_n (j := 0) dX2_neighbourOf_0 rfl rfl ?_
  refine zb_iload_n (j := 1) dX2_neighbourOf_1 rfl rfl ?_
  refine zb_icmp_ne (tgt := 9) dX2_neighbourOf_2 (by decide) (fun c1 => ?_) (fun c1 => ?_)
  · have h := h.2 c1
    refine zb_iload_n (j := 0) dX2_neighbourOf_9 rfl rfl ?_
    refine zb_iload_n (j := 1) dX2_neighbourOf_10 rfl rfl ?_
    refine zb_iconst dX2_neighbourOf_11 (zb_inIc rfl) ?_
    obtain ⟨o2, h⟩ := h
    refine zb_iadd dX2_neighbourOf_12 o2 ?_
    refine zb_icmp_ne (tgt := 20) dX2_neighbourOf_13 (by decide) (fun c3 => ?_) (fun c3 => ?_)
    · have h := h.2 c3
      refine zb_iload_n (j := 0) dX2_neighbourOf_20 rfl rfl ?_
      exact zb_rI dX2_neighbourOf_21 rfl hF ⟨rfl, h⟩
    · have h := h.1 c3
      refine zb_iload_n (j := 1) dX2_neighbourOf_16 rfl rfl ?_
      refine zb_goto (tgt := 21) dX2_neighbourOf_17 (by decide) ?_
      exact zb_rI dX2_neighbourOf_21 rfl hF ⟨rfl, h⟩
  · have h := h.1 c1
    refine zb_iload_n (j := 1) dX2_neighbourOf_5 rfl rfl ?_
    refine zb_iconst dX2_neighbourOf_6 (zb_inIc rfl) ?_
    obtain ⟨o4, h⟩ := h
    refine zb_iadd dX2_neighbourOf_7 o4 ?_
    exact zb_rI dX2_neighbourOf_8 rfl hF ⟨rfl, h⟩
theorem dX2_putInPlace_0 : decode cX2_putInPlace 0 = .ok (.aload_n 0, 1) := by decide +kernel
theorem dX2_putInPlace_1 : decode cX2_putInPlace 1 = .ok (.getfield 13, 3) := by decide +kernel
theorem dX2_putInPlace_4 : decode cX2_putInPlace 4 = .ok (.aload_n 0, 1) := by decide +kernel
theorem dX2_putInPlace_5 : decode cX2_putInPlace 5 = .ok (.getfield 35, 3) := by decide +kernel
theorem dX2_putInPlace_8 : decode cX2_putInPlace 8 = .ok (.aaload, 1) := by decide +kernel
theorem dX2_putInPlace_9 : decode cX2_putInPlace 9 = .ok (.astore_n 1, 1) := by decide +kernel
theorem dX2_putInPlace_10 : decode cX2_putInPlace 10 = .ok (.aload_n 0, 1) := by decide +kernel
theorem dX2_putInPlace_11 : decode cX2_putInPlace 11 = .ok (.getfield 35, 3) := by decide +kernel
theorem dX2_putInPlace_14 : decode cX2_putInPlace 14 = .ok (.istore_n 2, 1) := by decide +kernel
theorem dX2_putInPlace_15 : decode cX2_putInPlace 15 = .ok (.iload_n 2, 1) := by decide +kernel
theorem dX2_putInPlace_16 : decode cX2_putInPlace 16 = .ok (.ifCond .le 38, 3) := by decide +kernel
theorem dX2_putInPlace_19 : decode cX2_putInPlace 19 = .ok (.aload_n 1, 1) := by decide +kernel
theorem dX2_putInPlace_20 : decode cX2_putInPlace 20 = .ok (.aload_n 0, 1) := by decide +kernel
theorem dX2_putInPlace_21 : decode cX2_putInPlace 21 = .ok (.getfield 13, 3) := by decide +kernel
theorem dX2_putInPlace_24 : decode cX2_putInPlace 24 = .ok (.iload_n 2, 1) := by decide +kernel
theorem dX2_putInPlace_25 : decode cX2_putInPlace 25 = .ok (.iconst 1, 1) := by decide +kernel
theorem dX2_putInPlace_26 : decode cX2_putInPlace 26 = .ok (.isub, 1) := by decide +kernel
theorem dX2_putInPlace_27 : decode cX2_putInPlace 27 = .ok (.aaload, 1) := by decide +kernel
theorem dX2_putInPlace_28 : decode cX2_putInPlace 28 = .ok (.invokevirtual 73, 3) := by decide +kernel
theorem dX2_putInPlace_31 : decode cX2_putInPlace 31 = .ok (.ifCond .eq 23, 3) := by decide +kernel
theorem dX2_putInPlace_34 : decode cX2_putInPlace 34 = .ok (.aload_n 0, 1) := by decide +kernel
theorem dX2_putInPlace_35 : decode cX2_putInPlace 35 = .ok (.getfield 13, 3) := by decide +kernel
theorem dX2_putInPlace_38 : decode cX2_putInPlace 38 = .ok (.iload_n 2, 1) := by decide +kernel
theorem dX2_putInPlace_39 : decode cX2_putInPlace 39 = .ok (.aload_n 0, 1) := by decide +kernel
theorem dX2_putInPlace_40 : decode cX2_putInPlace 40 = .ok (.getfield 13, 3) := by decide +kernel
theorem dX2_putInPlace_43 : decode cX2_putInPlace 43 = .ok (.iload_n 2, 1) := by decide +kernel
theorem dX2_putInPlace_44 : decode cX2_putInPlace 44 = .ok (.iconst 1, 1) := by decide +kernel
theorem dX2_putInPlace_45 : decode cX2_putInPlace 45 = .ok (.isub, 1) := by decide +kernel
theorem dX2_putInPlace_46 : decode cX2_putInPlace 46 = .ok (.aaload, 1) := by decide +kernel
theorem dX2_putInPlace_47 : decode cX2_putInPlace 47 = .ok (.aastore, 1) := by decide +kernel
theorem dX2_putInPlace_48 : decode cX2_putInPlace 48 = .ok (.iinc 2 (-1), 3) := by decide +kernel
theorem dX2_putInPlace_51 : decode cX2_putInPlace 51 = .ok (.goto (-36), 3) := by decide +kernel
theorem dX2_putInPlace_54 : decode cX2_putInPlace 54 = .ok (.aload_n 0, 1) := by decide +kernel
theorem dX2_putInPlace_55 : decode cX2_putInPlace 55 = .ok (.getfield 13, 3) := by decide +kernel
theorem dX2_putInPlace_58 : decode cX2_putInPlace 58 = .ok (.iload_n 2, 1) := by decide +kernel
theorem dX2_putInPlace_59 : decode cX2_putInPlace 59 = .ok (.aload_n 1, 1) := by decide +kernel
theorem dX2_putInPlace_60 : decode cX2_putInPlace 60 = .ok (.aastore, 1) := by decide +kernel
theorem dX2_putInPlace_61 : decode cX2_putInPlace 61 = .ok (.aload_n 0, 1) := by decide +kernel
theorem dX2_putInPlace_62 : decode cX2_putInPlace 62 = .ok (.dup, 1) := by decide +kernel
theorem dX2_putInPlace_63 : decode cX2_putInPlace 63 = .ok (.getfield 35, 3) := by decide +kernel
theorem dX2_putInPlace_66 : decode cX2_putInPlace 66 = .ok (.iconst 1, 1) := by decide +kernel
theorem dX2_putInPlace_67 : decode cX2_putInPlace 67 = .ok (.iadd, 1) := by decide +kernel
theorem dX2_putInPlace_68 : decode cX2_putInPlace 68 = .ok (.putfield 35, 3) := by decide +kernel
theorem dX2_putInPlace_71 : decode cX2_putInPlace 71 = .ok (.return_, 1) := by decide +kernel
def PJ_X2_putInPlace_54 (d : Nat) (E : zb_E) (x0 : Int) (m : zb_M) (Q : Int → zb_M → Prop) (v2_54 : Int) (m54j : zb_M) : Prop :=
  (0 ≤ v2_54 ∧ v2_54 < 8) ∧ (∀ m60, m60 = zb_up m54j (E.2 x0 0) v2_54 (m (E.2 x0 0) (m x0 1)) → ((zb_inI ((m60 x0 1) + 1)) ∧ (∀ m68, m68 = zb_up m60 x0 1 ((m60 x0 1) + 1) → (Q 0 m68))))
def PL_X2_putInPlace_15 (d : Nat) (E : zb_E) (x0 : Int) (m : zb_M) (Q : Int → zb_M → Prop) (K54_15 : Int → zb_M → Prop) (v2_15 : Int) (m15l : zb_M) : Prop :=
  ∀ X15 : Int → zb_M → Prop, (∀ (v2_15 : Int) (m15l : zb_M), ((v2_15 ≤ 0 → K54_15 v2_15 m15l) ∧ (¬ v2_15 ≤ 0 → (zb_inI (v2_15 - 1)) ∧ ((0 ≤ (v2_15 - 1) ∧ (v2_15 - 1) < 8) ∧ ((zb_is E.1 (m15l (E.2 x0 0) (v2_15 - 1)) 3) ∧ (zb_Tp K_X3_isLessThan d [(2, (m (E.2 x0 0) (m x0 1))), (2, (m15l (E.2 x0 0) (v2_15 - 1)))] E m15l (fun r28 => (r28 = 0 → K54_15 v2_15 m15l) ∧ (¬ r28 = 0 → (0 ≤ v2_15 ∧ v2_15 < 8) ∧ (∀ m47, m47 = zb_up m15l (E.2 x0 0) v2_15 (m15l (E.2 x0 0) (v2_15 - 1)) → ((zb_inI (v2_15 + (-1))) ∧ (X15 (v2_15 + (-1)) m47)))))))))) → X15 v2_15 m15l) → X15 v2_15 m15l
def PM_X2_putInPlace (d : Nat) (E : zb_E) (x0 : Int) (m : zb_M) (Q : Int → zb_M → Prop) : Prop :=
  (0 ≤ (m x0 1) ∧ (m x0 1) < 8) ∧ ((zb_is E.1 (m (E.2 x0 0) (m x0 1)) 3) ∧ (PL_X2_putInPlace_15 d E x0 m Q (PJ_X2_putInPlace_54 d E x0 m Q) (m x0 1) m))
set_option maxRecDepth 100000 in
set_option maxHeartbeats 4000000 in
theorem w_X2_putInPlace {d : Nat} {E : zb_E} {x0 : Int} {m : zb_M} {Q : Int → zb_M → Prop} (h : PM_X2_putInPlace d E x0 m Q) : zb_T K_X2_putInPlace (d + 1) [(2, x0)] E m Q := by
  unfold PM_X2_putInPlace at h
  refine zb_T_in gd_X2_putInPlace rfl rfl (fun hW hA G C hF => ?_)
  have i_0 : zb_is E.1 x0 2 := zb_aH hA (by decide)
  show zb_WP _ _ 0 [(0, (2, x0))] [] _ _ _ _
  refine zb_aload_n (j := 0) dX2_putInPlace_0 rfl rfl ?_
  refine zb_gFa 0 dX2_putInPlace_1 fl_X2_13 i_0 hW hF rfl rfl rfl (by decide) rfl 8 rfl (fun i1 l2 => ?_)
  refine zb_aload_n (j := 0) dX2_putInPlace_4 rfl rfl ?_
  refine zb_gI 1 dX2_putInPlace_5 fl_X2_35 i_0 rfl rfl ?_
  obtain ⟨o3, h⟩ := h
  obtain ⟨o4, h⟩ := h
  refine zb_lD dX2_putInPlace_8 i1 l2 o3.1 o3.2 o4 ?_
  refine zb_astore_n (L' := [(1, (2, (m (E.2 x0 0) (m x0 1)))), (0, (2, x0))]) dX2_putInPlace_9 rfl (by decide) rfl ?_
  refine zb_aload_n (j := 1) dX2_putInPlace_10 rfl rfl ?_
  refine zb_gI 1 dX2_putInPlace_11 fl_X2_35 i_0 rfl rfl ?_
  refine zb_istore_n (L' := [(2, (0, (m x0 1))), (1, (2, (m (E.2 x0 0) (m x0 1)))), (0, (2, x0))]) dX2_putInPlace_14 rfl (by decide) rfl ?_
  refine zb_sub (L' := [(0, (2, x0)), (1, (2, (m (E.2 x0 0) (m x0 1)))), (2, (0, (m x0 1)))]) [2, 1, 0] rfl ?_
  have hJ54 : ∀ (v2_54 : Int) (m54j : zb_M), zb_FIN E m54j → PJ_X2_putInPlace_54 d E x0 m Q v2_54 m54j → zb_WP (G, C, d + 1, 0, 0, zb_q E Q) F_X2_putInPlace 54 [(0, (2, x0)), (1, (2, (m (E.2 x0 0) (m x0 1)))), (2, (0, v2_54))] [] E.1 m54j 0 0 := by
    intro v2_54 m54j hF h
    unfold PJ_X2_putInPlace_54 at h
    refine zb_aload_n (j := 0) dX2_putInPlace_54 rfl rfl ?_
    refine zb_gFa 0 dX2_putInPlace_55 fl_X2_13 i_0 hW hF rfl rfl rfl (by decide) rfl 8 rfl (fun i5 l6 => ?_)
    refine zb_iload_n (j := 2) dX2_putInPlace_58 rfl rfl ?_
    refine zb_aload_n (j := 1) dX2_putInPlace_59 rfl rfl ?_
    obtain ⟨o7, h⟩ := h
    refine zb_sD dX2_putInPlace_60 i5 l6 o7.1 o7.2 o4 hF (fun m60 e60 hF => ?_)
    have h := h m60 e60
    refine zb_aload_n (j := 0) dX2_putInPlace_61 rfl rfl ?_
    refine zb_dup dX2_putInPlace_62 rfl ?_
    refine zb_gI 1 dX2_putInPlace_63 fl_X2_35 i_0 rfl rfl ?_
    refine zb_iconst dX2_putInPlace_66 (zb_inIc rfl) ?_
    obtain ⟨o8, h⟩ := h
    refine zb_iadd dX2_putInPlace_67 o8 ?_
    refine zb_pF 1 dX2_putInPlace_68 fl_X2_35 rfl rfl i_0 (Or.inl rfl) hF rfl rfl (fun m68 e68 hF => ?_)
    have h := h m68 e68
    exact zb_rV dX2_putInPlace_71 rfl hF h
  unfold PL_X2_putInPlace_15 at h
  obtain ⟨X15, hX15⟩ : ∃ X : Int → zb_M → Prop, ∀ (v2_15 : Int) (m15l : zb_M), (X v2_15 m15l ↔ (zb_FIN E m15l → zb_WP (G, C, d + 1, 0, 0, zb_q E Q) F_X2_putInPlace 15 [(0, (2, x0)), (1, (2, (m (E.2 x0 0) (m x0 1)))), (2, (0, v2_15))] [] E.1 m15l 0 0)) := ⟨fun v2_15 m15l => zb_FIN E m15l → zb_WP (G, C, d + 1, 0, 0, zb_q E Q) F_X2_putInPlace 15 [(0, (2, x0)), (1, (2, (m (E.2 x0 0) (m x0 1)))), (2, (0, v2_15))] [] E.1 m15l 0 0, fun _ _ => Iff.rfl⟩
  refine (hX15 _ _).mp (h X15 (fun v2_15 m15l h => (hX15 _ _).mpr (fun hF => ?_))) hF
  refine zb_iload_n (j := 2) dX2_putInPlace_15 rfl rfl ?_
  refine zb_if_le (tgt := 54) dX2_putInPlace_16 (by decide) (fun c9 => ?_) (fun c9 => ?_)
  · have h := h.1 c9
    exact hJ54 _ _ hF h
  · have h := h.2 c9
    refine zb_aload_n (j := 1) dX2_putInPlace_19 rfl rfl ?_
    refine zb_aload_n (j := 0) dX2_putInPlace_20 rfl rfl ?_
    refine zb_gFa 0 dX2_putInPlace_21 fl_X2_13 i_0 hW hF rfl rfl rfl (by decide) rfl 8 rfl (fun i10 l11 => ?_)
    refine zb_iload_n (j := 2) dX2_putInPlace_24 rfl rfl ?_
    refine zb_iconst dX2_putInPlace_25 (zb_inIc rfl) ?_
    obtain ⟨o12, h⟩ := h
    refine zb_isub dX2_putInPlace_26 o12 ?_
    obtain ⟨o13, h⟩ := h
    obtain ⟨o14, h⟩ := h
    refine zb_lD dX2_putInPlace_27 i10 l11 o13.1 o13.2 o14 ?_
    refine zb_cVp (As := [(2, (m15l (E.2 x0 0) (v2_15 - 1)))]) (As' := [(2, (m15l (E.2 x0 0) (v2_15 - 1)))]) (st := []) dX2_putInPlace_28 lk_X2_73 gd_X3_isLessThan rfl rfl o4 ⟨_, rfl, rfl⟩ h hW hF (zb_aR o4 (zb_aR o14 zb_a0)) (Nat.le_refl _) (Nat.le_of_ble_eq_true rfl) (fun r28 h => ?_)
    show zb_WP _ _ _ _ [(0, r28)] _ _ _ _
    refine zb_if_eq (tgt := 54) dX2_putInPlace_31 (by decide) (fun c15 => ?_) (fun c15 => ?_)
    · have h := h.1 c15
      exact hJ54 _ _ hF h
    · have h := h.2 c15
      refine zb_aload_n (j := 0) dX2_putInPlace_34 rfl rfl ?_
      refine zb_gFa 0 dX2_putInPlace_35 fl_X2_13 i_0 hW hF rfl rfl rfl (by decide) rfl 8 rfl (fun i16 l17 => ?_)
      refine zb_iload_n (j := 2) dX2_putInPlace_38 rfl rfl ?_
      refine zb_aload_n (j := 0) dX2_putInPlace_39 rfl rfl ?_
      refine zb_gFa 0 dX2_putInPlace_40 fl_X2_13 i_0 hW hF rfl rfl rfl (by decide) rfl 8 rfl (fun i18 l19 => ?_)
      refine zb_iload_n (j := 2) dX2_putInPlace_43 rfl rfl ?_
      refine zb_iconst dX2_putInPlace_44 (zb_inIc rfl) ?_
      refine zb_isub dX2_putInPlace_45 o12 ?_
      refine zb_lD dX2_putInPlace_46 i18 l19 o13.1 o13.2 o14 ?_
      obtain ⟨o20, h⟩ := h
      refine zb_sD dX2_putInPlace_47 i16 l17 o20.1 o20.2 o14 hF (fun m47 e47 hF => ?_)
      have h := h m47 e47
      obtain ⟨o21, h⟩ := h
      refine zb_iinc (j := 2) (L' := [(2, (0, (v2_15 + (-1)))), (0, (2, x0)), (1, (2, (m (E.2 x0 0) (m x0 1))))]) dX2_putInPlace_48 rfl o21 (by decide) rfl ?_
      refine zb_goto (tgt := 15) dX2_putInPlace_51 (by decide) ?_
      refine zb_sub (L' := [(0, (2, x0)), (1, (2, (m (E.2 x0 0) (m x0 1)))), (2, (0, (v2_15 + (-1))))]) [1, 2, 0] rfl ?_
      exact (hX15 _ _).mp h hF
