/-! ===== java/lang/Integer: instructions and walks (laid by gen/layout.py) ===== -/
theorem dJ6_bitCount_0f7a4_0 : decode cJ6_bitCount_0f7a4 0 = .ok (.iload_n 0, 1) := by decide +kernel
theorem dJ6_bitCount_0f7a4_1 : decode cJ6_bitCount_0f7a4 1 = .ok (.iload_n 0, 1) := by decide +kernel
theorem dJ6_bitCount_0f7a4_2 : decode cJ6_bitCount_0f7a4 2 = .ok (.iconst 1, 1) := by decide +kernel
theorem dJ6_bitCount_0f7a4_3 : decode cJ6_bitCount_0f7a4 3 = .ok (.iushr, 1) := by decide +kernel
theorem dJ6_bitCount_0f7a4_4 : decode cJ6_bitCount_0f7a4 4 = .ok (.ldc_w 265, 3) := by decide +kernel
theorem dJ6_bitCount_0f7a4_7 : decode cJ6_bitCount_0f7a4 7 = .ok (.iand, 1) := by decide +kernel
theorem dJ6_bitCount_0f7a4_8 : decode cJ6_bitCount_0f7a4 8 = .ok (.isub, 1) := by decide +kernel
theorem dJ6_bitCount_0f7a4_9 : decode cJ6_bitCount_0f7a4 9 = .ok (.istore_n 0, 1) := by decide +kernel
theorem dJ6_bitCount_0f7a4_10 : decode cJ6_bitCount_0f7a4 10 = .ok (.iload_n 0, 1) := by decide +kernel
theorem dJ6_bitCount_0f7a4_11 : decode cJ6_bitCount_0f7a4 11 = .ok (.ldc_w 266, 3) := by decide +kernel
theorem dJ6_bitCount_0f7a4_14 : decode cJ6_bitCount_0f7a4 14 = .ok (.iand, 1) := by decide +kernel
theorem dJ6_bitCount_0f7a4_15 : decode cJ6_bitCount_0f7a4 15 = .ok (.iload_n 0, 1) := by decide +kernel
theorem dJ6_bitCount_0f7a4_16 : decode cJ6_bitCount_0f7a4 16 = .ok (.iconst 2, 1) := by decide +kernel
theorem dJ6_bitCount_0f7a4_17 : decode cJ6_bitCount_0f7a4 17 = .ok (.iushr, 1) := by decide +kernel
theorem dJ6_bitCount_0f7a4_18 : decode cJ6_bitCount_0f7a4 18 = .ok (.ldc_w 266, 3) := by decide +kernel
theorem dJ6_bitCount_0f7a4_21 : decode cJ6_bitCount_0f7a4 21 = .ok (.iand, 1) := by decide +kernel
theorem dJ6_bitCount_0f7a4_22 : decode cJ6_bitCount_0f7a4 22 = .ok (.iadd, 1) := by decide +kernel
theorem dJ6_bitCount_0f7a4_23 : decode cJ6_bitCount_0f7a4 23 = .ok (.istore_n 0, 1) := by decide +kernel
theorem dJ6_bitCount_0f7a4_24 : decode cJ6_bitCount_0f7a4 24 = .ok (.iload_n 0, 1) := by decide +kernel
theorem dJ6_bitCount_0f7a4_25 : decode cJ6_bitCount_0f7a4 25 = .ok (.iload_n 0, 1) := by decide +kernel
theorem dJ6_bitCount_0f7a4_26 : decode cJ6_bitCount_0f7a4 26 = .ok (.iconst 4, 1) := by decide +kernel
theorem dJ6_bitCount_0f7a4_27 : decode cJ6_bitCount_0f7a4 27 = .ok (.iushr, 1) := by decide +kernel
theorem dJ6_bitCount_0f7a4_28 : decode cJ6_bitCount_0f7a4 28 = .ok (.iadd, 1) := by decide +kernel
theorem dJ6_bitCount_0f7a4_29 : decode cJ6_bitCount_0f7a4 29 = .ok (.ldc_w 267, 3) := by decide +kernel
theorem dJ6_bitCount_0f7a4_32 : decode cJ6_bitCount_0f7a4 32 = .ok (.iand, 1) := by decide +kernel
theorem dJ6_bitCount_0f7a4_33 : decode cJ6_bitCount_0f7a4 33 = .ok (.istore_n 0, 1) := by decide +kernel
theorem dJ6_bitCount_0f7a4_34 : decode cJ6_bitCount_0f7a4 34 = .ok (.iload_n 0, 1) := by decide +kernel
theorem dJ6_bitCount_0f7a4_35 : decode cJ6_bitCount_0f7a4 35 = .ok (.iload_n 0, 1) := by decide +kernel
theorem dJ6_bitCount_0f7a4_36 : decode cJ6_bitCount_0f7a4 36 = .ok (.bipush 8, 2) := by decide +kernel
theorem dJ6_bitCount_0f7a4_38 : decode cJ6_bitCount_0f7a4 38 = .ok (.iushr, 1) := by decide +kernel
theorem dJ6_bitCount_0f7a4_39 : decode cJ6_bitCount_0f7a4 39 = .ok (.iadd, 1) := by decide +kernel
theorem dJ6_bitCount_0f7a4_40 : decode cJ6_bitCount_0f7a4 40 = .ok (.istore_n 0, 1) := by decide +kernel
theorem dJ6_bitCount_0f7a4_41 : decode cJ6_bitCount_0f7a4 41 = .ok (.iload_n 0, 1) := by decide +kernel
theorem dJ6_bitCount_0f7a4_42 : decode cJ6_bitCount_0f7a4 42 = .ok (.iload_n 0, 1) := by decide +kernel
theorem dJ6_bitCount_0f7a4_43 : decode cJ6_bitCount_0f7a4 43 = .ok (.bipush 16, 2) := by decide +kernel
theorem dJ6_bitCount_0f7a4_45 : decode cJ6_bitCount_0f7a4 45 = .ok (.iushr, 1) := by decide +kernel
theorem dJ6_bitCount_0f7a4_46 : decode cJ6_bitCount_0f7a4 46 = .ok (.iadd, 1) := by decide +kernel
theorem dJ6_bitCount_0f7a4_47 : decode cJ6_bitCount_0f7a4 47 = .ok (.istore_n 0, 1) := by decide +kernel
theorem dJ6_bitCount_0f7a4_48 : decode cJ6_bitCount_0f7a4 48 = .ok (.iload_n 0, 1) := by decide +kernel
theorem dJ6_bitCount_0f7a4_49 : decode cJ6_bitCount_0f7a4 49 = .ok (.bipush 63, 2) := by decide +kernel
theorem dJ6_bitCount_0f7a4_51 : decode cJ6_bitCount_0f7a4 51 = .ok (.iand, 1) := by decide +kernel
theorem dJ6_bitCount_0f7a4_52 : decode cJ6_bitCount_0f7a4 52 = .ok (.ireturn, 1) := by decide +kernel
def PM_J6_bitCount_0f7a4 (d : Nat) (E : zb_E) (x0 : Int) (m : zb_M) (Q : Int → Prop) : Prop :=
  (zb_inI (x0 - (zb_and (zb_ushr x0 1) 1431655765))) ∧ ((zb_inI ((zb_and (x0 - (zb_and (zb_ushr x0 1) 1431655765)) 858993459) + (zb_and (zb_ushr (x0 - (zb_and (zb_ushr x0 1) 1431655765)) 2) 858993459))) ∧ ((zb_inI (((zb_and (x0 - (zb_and (zb_ushr x0 1) 1431655765)) 858993459) + (zb_and (zb_ushr (x0 - (zb_and (zb_ushr x0 1) 1431655765)) 2) 858993459)) + (zb_ushr ((zb_and (x0 - (zb_and (zb_ushr x0 1) 1431655765)) 858993459) + (zb_and (zb_ushr (x0 - (zb_and (zb_ushr x0 1) 1431655765)) 2) 858993459)) 4))) ∧ ((zb_inI ((zb_and (((zb_and (x0 - (zb_and (zb_ushr x0 1) 1431655765)) 858993459) + (zb_and (zb_ushr (x0 - (zb_and (zb_ushr x0 1) 1431655765)) 2) 858993459)) + (zb_ushr ((zb_and (x0 - (zb_and (zb_ushr x0 1) 1431655765)) 858993459) + (zb_and (zb_ushr (x0 - (zb_and (zb_ushr x0 1) 1431655765)) 2) 858993459)) 4)) 252645135) + (zb_ushr (zb_and (((zb_and (x0 - (zb_and (zb_ushr x0 1) 1431655765)) 858993459) + (zb_and (zb_ushr (x0 - (zb_and (zb_ushr x0 1) 1431655765)) 2) 858993459)) + (zb_ushr ((zb_and (x0 - (zb_and (zb_ushr x0 1) 1431655765)) 858993459) + (zb_and (zb_ushr (x0 - (zb_and (zb_ushr x0 1) 1431655765)) 2) 858993459)) 4)) 252645135) 8))) ∧ ((zb_inI (((zb_and (((zb_and (x0 - (zb_and (zb_ushr x0 1) 1431655765)) 858993459) + (zb_and (zb_ushr (x0 - (zb_and (zb_ushr x0 1) 1431655765)) 2) 858993459)) + (zb_ushr ((zb_and (x0 - (zb_and (zb_ushr x0 1) 1431655765)) 858993459) + (zb_and (zb_ushr (x0 - (zb_and (zb_ushr x0 1) 1431655765)) 2) 858993459)) 4)) 252645135) + (zb_ushr (zb_and (((zb_and (x0 - (zb_and (zb_ushr x0 1) 1431655765)) 858993459) + (zb_and (zb_ushr (x0 - (zb_and (zb_ushr x0 1) 1431655765)) 2) 858993459)) + (zb_ushr ((zb_and (x0 - (zb_and (zb_ushr x0 1) 1431655765)) 858993459) + (zb_and (zb_ushr (x0 - (zb_and (zb_ushr x0 1) 1431655765)) 2) 858993459)) 4)) 252645135) 8)) + (zb_ushr ((zb_and (((zb_and (x0 - (zb_and (zb_ushr x0 1) 1431655765)) 858993459) + (zb_and (zb_ushr (x0 - (zb_and (zb_ushr x0 1) 1431655765)) 2) 858993459)) + (zb_ushr ((zb_and (x0 - (zb_and (zb_ushr x0 1) 1431655765)) 858993459) + (zb_and (zb_ushr (x0 - (zb_and (zb_ushr x0 1) 1431655765)) 2) 858993459)) 4)) 252645135) + (zb_ushr (zb_and (((zb_and (x0 - (zb_and (zb_ushr x0 1) 1431655765)) 858993459) + (zb_and (zb_ushr (x0 - (zb_and (zb_ushr x0 1) 1431655765)) 2) 858993459)) + (zb_ushr ((zb_and (x0 - (zb_and (zb_ushr x0 1) 1431655765)) 858993459) + (zb_and (zb_ushr (x0 - (zb_and (zb_ushr x0 1) 1431655765)) 2) 858993459)) 4)) 252645135) 8)) 16))) ∧ (Q (zb_and (((zb_and (((zb_and (x0 - (zb_and (zb_ushr x0 1) 1431655765)) 858993459) + (zb_and (zb_ushr (x0 - (zb_and (zb_ushr x0 1) 1431655765)) 2) 858993459)) + (zb_ushr ((zb_and (x0 - (zb_and (zb_ushr x0 1) 1431655765)) 858993459) + (zb_and (zb_ushr (x0 - (zb_and (zb_ushr x0 1) 1431655765)) 2) 858993459)) 4)) 252645135) + (zb_ushr (zb_and (((zb_and (x0 - (zb_and (zb_ushr x0 1) 1431655765)) 858993459) + (zb_and (zb_ushr (x0 - (zb_and (zb_ushr x0 1) 1431655765)) 2) 858993459)) + (zb_ushr ((zb_and (x0 - (zb_and (zb_ushr x0 1) 1431655765)) 858993459) + (zb_and (zb_ushr (x0 - (zb_and (zb_ushr x0 1) 1431655765)) 2) 858993459)) 4)) 252645135) 8)) + (zb_ushr ((zb_and (((zb_and (x0 - (zb_and (zb_ushr x0 1) 1431655765)) 858993459) + (zb_and (zb_ushr (x0 - (zb_and (zb_ushr x0 1) 1431655765)) 2) 858993459)) + (zb_ushr ((zb_and (x0 - (zb_and (zb_ushr x0 1) 1431655765)) 858993459) + (zb_and (zb_ushr (x0 - (zb_and (zb_ushr x0 1) 1431655765)) 2) 858993459)) 4)) 252645135) + (zb_ushr (zb_and (((zb_and (x0 - (zb_and (zb_ushr x0 1) 1431655765)) 858993459) + (zb_and (zb_ushr (x0 - (zb_and (zb_ushr x0 1) 1431655765)) 2) 858993459)) + (zb_ushr ((zb_and (x0 - (zb_and (zb_ushr x0 1) 1431655765)) 858993459) + (zb_and (zb_ushr (x0 - (zb_and (zb_ushr x0 1) 1431655765)) 2) 858993459)) 4)) 252645135) 8)) 16)) 63))))))
set_option maxRecDepth 100000 in
set_option maxHeartbeats 4000000 in
theorem w_J6_bitCount_0f7a4 {d : Nat} {E : zb_E} {x0 : Int} {m : zb_M} {Q : Int → Prop} (h : PM_J6_bitCount_0f7a4 d E x0 m Q) : zb_Tp K_J6_bitCount_0f7a4 (d + 1) [(0, x0)] E m Q := by
  unfold PM_J6_bitCount_0f7a4 at h
  refine zb_T_in gd_J6_bitCount_0f7a4 rfl rfl (fun hW hA G C hF => ?_)
  show zb_WP _ _ 0 [(0, (0, x0))] [] _ _ _ _
  refine zb_iload_n (j := 0) dJ6_bitCount_0f7a4_0 rfl rfl ?_
  refine zb_iload_n (j := 0) dJ6_bitCount_0f7a4_1 rfl rfl ?_
  refine zb_iconst dJ6_bitCount_0f7a4_2 (zb_inIc rfl) ?_
  refine zb_iushr dJ6_bitCount_0f7a4_3 ?_
  refine zb_ldcw dJ6_bitCount_0f7a4_4 co_J6_265 (zb_inIc rfl) ?_
  refine zb_iand dJ6_bitCount_0f7a4_7 ?_
  obtain ⟨o1, h⟩ := h
  refine zb_isub dJ6_bitCount_0f7a4_8 o1 ?_
  refine zb_istore_n (L' := [(0, (0, (x0 - (zb_and (zb_ushr x0 1) 1431655765))))]) dJ6_bitCount_0f7a4_9 rfl (by decide) rfl ?_
  refine zb_iload_n (j := 0) dJ6_bitCount_0f7a4_10 rfl rfl ?_
  refine zb_ldcw dJ6_bitCount_0f7a4_11 co_J6_266 (zb_inIc rfl) ?_
  refine zb_iand dJ6_bitCount_0f7a4_14 ?_
  refine zb_iload_n (j := 0) dJ6_bitCount_0f7a4_15 rfl rfl ?_
  refine zb_iconst dJ6_bitCount_0f7a4_16 (zb_inIc rfl) ?_
  refine zb_iushr dJ6_bitCount_0f7a4_17 ?_
  refine zb_ldcw dJ6_bitCount_0f7a4_18 co_J6_266 (zb_inIc rfl) ?_
  refine zb_iand dJ6_bitCount_0f7a4_21 ?_
  obtain ⟨o2, h⟩ := h
  refine zb_iadd dJ6_bitCount_0f7a4_22 o2 ?_
  refine zb_istore_n (L' := [(0, (0, ((zb_and (x0 - (zb_and (zb_ushr x0 1) 1431655765)) 858993459) + (zb_and (zb_ushr (x0 - (zb_and (zb_ushr x0 1) 1431655765)) 2) 858993459))))]) dJ6_bitCount_0f7a4_23 rfl (by decide) rfl ?_
  refine zb_iload_n (j := 0) dJ6_bitCount_0f7a4_24 rfl rfl ?_
  refine zb_iload_n (j := 0) dJ6_bitCount_0f7a4_25 rfl rfl ?_
  refine zb_iconst dJ6_bitCount_0f7a4_26 (zb_inIc rfl) ?_
  refine zb_iushr dJ6_bitCount_0f7a4_27 ?_
  obtain ⟨o3, h⟩ := h
  refine zb_iadd dJ6_bitCount_0f7a4_28 o3 ?_
  refine zb_ldcw dJ6_bitCount_0f7a4_29 co_J6_267 (zb_inIc rfl) ?_
  refine zb_iand dJ6_bitCount_0f7a4_32 ?_
  refine zb_istore_n (L' := [(0, (0, (zb_and (((zb_and (x0 - (zb_and (zb_ushr x0 1) 1431655765)) 858993459) + (zb_and (zb_ushr (x0 - (zb_and (zb_ushr x0 1) 1431655765)) 2) 858993459)) + (zb_ushr ((zb_and (x0 - (zb_and (zb_ushr x0 1) 1431655765)) 858993459) + (zb_and (zb_ushr (x0 - (zb_and (zb_ushr x0 1) 1431655765)) 2) 858993459)) 4)) 252645135)))]) dJ6_bitCount_0f7a4_33 rfl (by decide) rfl ?_
  refine zb_iload_n (j := 0) dJ6_bitCount_0f7a4_34 rfl rfl ?_
  refine zb_iload_n (j := 0) dJ6_bitCount_0f7a4_35 rfl rfl ?_
  refine zb_bipush dJ6_bitCount_0f7a4_36 (by decide) (zb_inIc rfl) ?_
  refine zb_iushr dJ6_bitCount_0f7a4_38 ?_
  obtain ⟨o4, h⟩ := h
  refine zb_iadd dJ6_bitCount_0f7a4_39 o4 ?_
  refine zb_istore_n (L' := [(0, (0, ((zb_and (((zb_and (x0 - (zb_and (zb_ushr x0 1) 1431655765)) 858993459) + (zb_and (zb_ushr (x0 - (zb_and (zb_ushr x0 1) 1431655765)) 2) 858993459)) + (zb_ushr ((zb_and (x0 - (zb_and (zb_ushr x0 1) 1431655765)) 858993459) + (zb_and (zb_ushr (x0 - (zb_and (zb_ushr x0 1) 1431655765)) 2) 858993459)) 4)) 252645135) + (zb_ushr (zb_and (((zb_and (x0 - (zb_and (zb_ushr x0 1) 1431655765)) 858993459) + (zb_and (zb_ushr (x0 - (zb_and (zb_ushr x0 1) 1431655765)) 2) 858993459)) + (zb_ushr ((zb_and (x0 - (zb_and (zb_ushr x0 1) 1431655765)) 858993459) + (zb_and (zb_ushr (x0 - (zb_and (zb_ushr x0 1) 1431655765)) 2) 858993459)) 4)) 252645135) 8))))]) dJ6_bitCount_0f7a4_40 rfl (by decide) rfl ?_
  refine zb_iload_n (j := 0) dJ6_bitCount_0f7a4_41 rfl rfl ?_
  refine zb_iload_n (j := 0) dJ6_bitCount_0f7a4_42 rfl rfl ?_
  refine zb_bipush dJ6_bitCount_0f7a4_43 (by decide) (zb_inIc rfl) ?_
  refine zb_iushr dJ6_bitCount_0f7a4_45 ?_
  obtain ⟨o5, h⟩ := h
  refine zb_iadd dJ6_bitCount_0f7a4_46 o5 ?_
  refine zb_istore_n (L' := [(0, (0, (((zb_and (((zb_and (x0 - (zb_and (zb_ushr x0 1) 1431655765)) 858993459) + (zb_and (zb_ushr (x0 - (zb_and (zb_ushr x0 1) 1431655765)) 2) 858993459)) + (zb_ushr ((zb_and (x0 - (zb_and (zb_ushr x0 1) 1431655765)) 858993459) + (zb_and (zb_ushr (x0 - (zb_and (zb_ushr x0 1) 1431655765)) 2) 858993459)) 4)) 252645135) + (zb_ushr (zb_and (((zb_and (x0 - (zb_and (zb_ushr x0 1) 1431655765)) 858993459) + (zb_and (zb_ushr (x0 - (zb_and (zb_ushr x0 1) 1431655765)) 2) 858993459)) + (zb_ushr ((zb_and (x0 - (zb_and (zb_ushr x0 1) 1431655765)) 858993459) + (zb_and (zb_ushr (x0 - (zb_and (zb_ushr x0 1) 1431655765)) 2) 858993459)) 4)) 252645135) 8)) + (zb_ushr ((zb_and (((zb_and (x0 - (zb_and (zb_ushr x0 1) 1431655765)) 858993459) + (zb_and (zb_ushr (x0 - (zb_and (zb_ushr x0 1) 1431655765)) 2) 858993459)) + (zb_ushr ((zb_and (x0 - (zb_and (zb_ushr x0 1) 1431655765)) 858993459) + (zb_and (zb_ushr (x0 - (zb_and (zb_ushr x0 1) 1431655765)) 2) 858993459)) 4)) 252645135) + (zb_ushr (zb_and (((zb_and (x0 - (zb_and (zb_ushr x0 1) 1431655765)) 858993459) + (zb_and (zb_ushr (x0 - (zb_and (zb_ushr x0 1) 1431655765)) 2) 858993459)) + (zb_ushr ((zb_and (x0 - (zb_and (zb_ushr x0 1) 1431655765)) 858993459) + (zb_and (zb_ushr (x0 - (zb_and (zb_ushr x0 1) 1431655765)) 2) 858993459)) 4)) 252645135) 8)) 16))))]) dJ6_bitCount_0f7a4_47 rfl (by decide) rfl ?_
  refine zb_iload_n (j := 0) dJ6_bitCount_0f7a4_48 rfl rfl ?_
  refine zb_bipush dJ6_bitCount_0f7a4_49 (by decide) (zb_inIc rfl) ?_
  refine zb_iand dJ6_bitCount_0f7a4_51 ?_
  exact zb_rI dJ6_bitCount_0f7a4_52 rfl hF ⟨rfl, h⟩
