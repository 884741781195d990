/-! ===== SameBench$Tree: instructions and walks (laid by gen/layout.py) ===== -/
theorem dX8_findName_0 : decode cX8_findName 0 = .ok (.aload_n 0, 1) := by decide +kernel
theorem dX8_findName_1 : decode cX8_findName 1 = .ok (.aload_n 1, 1) := by decide +kernel
theorem dX8_findName_2 : decode cX8_findName 2 = .ok (.putfield 31, 3) := by decide +kernel
theorem dX8_findName_5 : decode cX8_findName 5 = .ok (.aload_n 0, 1) := by decide +kernel
theorem dX8_findName_6 : decode cX8_findName 6 = .ok (.aload_n 2, 1) := by decide +kernel
theorem dX8_findName_7 : decode cX8_findName 7 = .ok (.putfield 35, 3) := by decide +kernel
theorem dX8_findName_10 : decode cX8_findName 10 = .ok (.aload_n 0, 1) := by decide +kernel
theorem dX8_findName_11 : decode cX8_findName 11 = .ok (.getfield 35, 3) := by decide +kernel
theorem dX8_findName_14 : decode cX8_findName 14 = .ok (.aload_n 0, 1) := by decide +kernel
theorem dX8_findName_15 : decode cX8_findName 15 = .ok (.getfield 31, 3) := by decide +kernel
theorem dX8_findName_18 : decode cX8_findName 18 = .ok (.getfield 39, 3) := by decide +kernel
theorem dX8_findName_21 : decode cX8_findName 21 = .ok (.putfield 45, 3) := by decide +kernel
theorem dX8_findName_24 : decode cX8_findName 24 = .ok (.aload_n 0, 1) := by decide +kernel
theorem dX8_findName_25 : decode cX8_findName 25 = .ok (.getfield 35, 3) := by decide +kernel
theorem dX8_findName_28 : decode cX8_findName 28 = .ok (.iconst 1, 1) := by decide +kernel
theorem dX8_findName_29 : decode cX8_findName 29 = .ok (.aload_n 0, 1) := by decide +kernel
theorem dX8_findName_30 : decode cX8_findName 30 = .ok (.getfield 31, 3) := by decide +kernel
theorem dX8_findName_33 : decode cX8_findName 33 = .ok (.getfield 39, 3) := by decide +kernel
theorem dX8_findName_36 : decode cX8_findName 36 = .ok (.iadd, 1) := by decide +kernel
theorem dX8_findName_37 : decode cX8_findName 37 = .ok (.aload_n 0, 1) := by decide +kernel
theorem dX8_findName_38 : decode cX8_findName 38 = .ok (.getfield 31, 3) := by decide +kernel
theorem dX8_findName_41 : decode cX8_findName 41 = .ok (.getfield 39, 3) := by decide +kernel
theorem dX8_findName_44 : decode cX8_findName 44 = .ok (.aload_n 0, 1) := by decide +kernel
theorem dX8_findName_45 : decode cX8_findName 45 = .ok (.getfield 31, 3) := by decide +kernel
theorem dX8_findName_48 : decode cX8_findName 48 = .ok (.getfield 39, 3) := by decide +kernel
theorem dX8_findName_51 : decode cX8_findName 51 = .ok (.imul, 1) := by decide +kernel
theorem dX8_findName_52 : decode cX8_findName 52 = .ok (.iadd, 1) := by decide +kernel
theorem dX8_findName_53 : decode cX8_findName 53 = .ok (.putfield 48, 3) := by decide +kernel
theorem dX8_findName_56 : decode cX8_findName 56 = .ok (.aload_n 0, 1) := by decide +kernel
theorem dX8_findName_57 : decode cX8_findName 57 = .ok (.getfield 35, 3) := by decide +kernel
theorem dX8_findName_60 : decode cX8_findName 60 = .ok (.iconst 0, 1) := by decide +kernel
theorem dX8_findName_61 : decode cX8_findName 61 = .ok (.putfield 51, 3) := by decide +kernel
theorem dX8_findName_64 : decode cX8_findName 64 = .ok (.aload_n 0, 1) := by decide +kernel
theorem dX8_findName_65 : decode cX8_findName 65 = .ok (.getfield 35, 3) := by decide +kernel
theorem dX8_findName_68 : decode cX8_findName 68 = .ok (.iconst 0, 1) := by decide +kernel
theorem dX8_findName_69 : decode cX8_findName 69 = .ok (.putfield 54, 3) := by decide +kernel
theorem dX8_findName_72 : decode cX8_findName 72 = .ok (.aload_n 0, 1) := by decide +kernel
theorem dX8_findName_73 : decode cX8_findName 73 = .ok (.invokevirtual 57, 3) := by decide +kernel
theorem dX8_findName_76 : decode cX8_findName 76 = .ok (.aload_n 0, 1) := by decide +kernel
theorem dX8_findName_77 : decode cX8_findName 77 = .ok (.getfield 27, 3) := by decide +kernel
theorem dX8_findName_80 : decode cX8_findName 80 = .ok (.aload_n 0, 1) := by decide +kernel
theorem dX8_findName_81 : decode cX8_findName 81 = .ok (.getfield 13, 3) := by decide +kernel
theorem dX8_findName_84 : decode cX8_findName 84 = .ok (.iconst 0, 1) := by decide +kernel
theorem dX8_findName_85 : decode cX8_findName 85 = .ok (.aaload, 1) := by decide +kernel
theorem dX8_findName_86 : decode cX8_findName 86 = .ok (.aload_n 0, 1) := by decide +kernel
theorem dX8_findName_87 : decode cX8_findName 87 = .ok (.getfield 31, 3) := by decide +kernel
theorem dX8_findName_90 : decode cX8_findName 90 = .ok (.invokevirtual 60, 3) := by decide +kernel
theorem dX8_findName_93 : decode cX8_findName 93 = .ok (.aload_n 0, 1) := by decide +kernel
theorem dX8_findName_94 : decode cX8_findName 94 = .ok (.iconst 0, 1) := by decide +kernel
theorem dX8_findName_95 : decode cX8_findName 95 = .ok (.invokestatic 66, 3) := by decide +kernel
theorem dX8_findName_98 : decode cX8_findName 98 = .ok (.aload_n 0, 1) := by decide +kernel
theorem dX8_findName_99 : decode cX8_findName 99 = .ok (.getfield 35, 3) := by decide +kernel
theorem dX8_findName_102 : decode cX8_findName 102 = .ok (.aload_n 0, 1) := by decide +kernel
theorem dX8_findName_103 : decode cX8_findName 103 = .ok (.getfield 35, 3) := by decide +kernel
theorem dX8_findName_106 : decode cX8_findName 106 = .ok (.getfield 51, 3) := by decide +kernel
theorem dX8_findName_109 : decode cX8_findName 109 = .ok (.sipush 3000, 3) := by decide +kernel
theorem dX8_findName_112 : decode cX8_findName 112 = .ok (.if_icmp .gt 7, 3) := by decide +kernel
theorem dX8_findName_115 : decode cX8_findName 115 = .ok (.iconst 1, 1) := by decide +kernel
theorem dX8_findName_116 : decode cX8_findName 116 = .ok (.goto 4, 3) := by decide +kernel
theorem dX8_findName_119 : decode cX8_findName 119 = .ok (.iconst 0, 1) := by decide +kernel
theorem dX8_findName_120 : decode cX8_findName 120 = .ok (.putfield 70, 3) := by decide +kernel
theorem dX8_findName_123 : decode cX8_findName 123 = .ok (.aload_n 0, 1) := by decide +kernel
theorem dX8_findName_124 : decode cX8_findName 124 = .ok (.getfield 35, 3) := by decide +kernel
theorem dX8_findName_127 : decode cX8_findName 127 = .ok (.getfield 70, 3) := by decide +kernel
theorem dX8_findName_130 : decode cX8_findName 130 = .ok (.ireturn, 1) := by decide +kernel
def PM_X8_findName (d : Nat) (E : zb_E) (x0 : Int) (x1 : Int) (x2 : Int) (m : zb_M) (Q : Int → zb_M → Prop) : Prop :=
  ∀ m2, m2 = zb_up m x0 4 x1 → (∀ m7, m7 = zb_up m2 x0 5 x2 → ((zb_is E.1 (m7 x0 5) 3) ∧ ((zb_is E.1 (m7 x0 4) 6) ∧ (∀ m21, m21 = zb_up m7 (m7 x0 5) 1 (m7 (m7 x0 4) 0) → ((zb_is E.1 (m21 x0 5) 3) ∧ ((zb_is E.1 (m21 x0 4) 6) ∧ ((zb_inI (1 + (m21 (m21 x0 4) 0))) ∧ ((zb_inI ((m21 (m21 x0 4) 0) * (m21 (m21 x0 4) 0))) ∧ ((zb_inI ((1 + (m21 (m21 x0 4) 0)) + ((m21 (m21 x0 4) 0) * (m21 (m21 x0 4) 0)))) ∧ (∀ m53, m53 = zb_up m21 (m21 x0 5) 2 ((1 + (m21 (m21 x0 4) 0)) + ((m21 (m21 x0 4) 0) * (m21 (m21 x0 4) 0))) → ((zb_is E.1 (m53 x0 5) 3) ∧ (∀ m61, m61 = zb_up m53 (m53 x0 5) 3 0 → ((zb_is E.1 (m61 x0 5) 3) ∧ (∀ m69, m69 = zb_up m61 (m61 x0 5) 4 0 → (zb_T K_X8_findTwins d [(2, x0)] E m69 (fun r73 m73 => (zb_is E.1 (m73 x0 4) 6) ∧ (zb_T K_X7_begin d [(2, (E.2 x0 0)), (2, (E.2 (E.2 x0 1) 0)), (2, (m73 x0 4))] E m73 (fun r90 m90 => zb_T K_X8_grow d [(2, x0), (0, 0)] E m90 (fun r95 m95 => (zb_is E.1 (m95 x0 5) 3) ∧ ((3000 < (m95 (m95 x0 5) 3) → ∀ m120, m120 = zb_up m95 (m95 x0 5) 0 0 → ((zb_is E.1 (m120 x0 5) 3) ∧ (((m120 (m120 x0 5) 0) = 0 ∨ (m120 (m120 x0 5) 0) = 1) ∧ (Q (m120 (m120 x0 5) 0) m120)))) ∧ (¬ 3000 < (m95 (m95 x0 5) 3) → ∀ m120, m120 = zb_up m95 (m95 x0 5) 0 1 → ((zb_is E.1 (m120 x0 5) 3) ∧ (((m120 (m120 x0 5) 0) = 0 ∨ (m120 (m120 x0 5) 0) = 1) ∧ (Q (m120 (m120 x0 5) 0) m120))))))))))))))))))))))))
set_option maxRecDepth 100000 in
set_option maxHeartbeats 4000000 in
theorem w_X8_findName {d : Nat} {E : zb_E} {x0 x1 x2 : Int} {m : zb_M} {Q : Int → zb_M → Prop} (h : PM_X8_findName d E x0 x1 x2 m Q) : zb_T K_X8_findName (d + 1) [(2, x0), (2, x1), (2, x2)] E m Q := by
  unfold PM_X8_findName at h
  refine zb_T_in gd_X8_findName rfl rfl (fun hW hA G C hF => ?_)
  have i_0 : zb_is E.1 x0 8 := zb_aH hA (by decide)
  have i_1 : zb_is E.1 x1 6 := zb_aH (zb_aT hA) (by decide)
  have i_2 : zb_is E.1 x2 3 := zb_aH (zb_aT (zb_aT hA)) (by decide)
  show zb_WP _ _ 0 [(0, (2, x0)), (1, (2, x1)), (2, (2, x2))] [] _ _ _ _
  refine zb_aload_n (j := 0) dX8_findName_0 rfl rfl ?_
  refine zb_aload_n (j := 1) dX8_findName_1 rfl rfl ?_
  refine zb_pF 4 dX8_findName_2 fl_X8_31 rfl rfl i_0 (Or.inr (Or.inr rfl)) hF rfl rfl (fun m2 e2 hF => ?_)
  have h := h m2 e2
  refine zb_aload_n (j := 0) dX8_findName_5 rfl rfl ?_
  refine zb_aload_n (j := 2) dX8_findName_6 rfl rfl ?_
  refine zb_pF 5 dX8_findName_7 fl_X8_35 rfl rfl i_0 (Or.inr (Or.inr rfl)) hF rfl rfl (fun m7 e7 hF => ?_)
  have h := h m7 e7
  refine zb_aload_n (j := 0) dX8_findName_10 rfl rfl ?_
  obtain ⟨o1, h⟩ := h
  refine zb_gD 5 dX8_findName_11 fl_X8_35 i_0 rfl rfl o1 ?_
  refine zb_aload_n (j := 0) dX8_findName_14 rfl rfl ?_
  obtain ⟨o2, h⟩ := h
  refine zb_gD 4 dX8_findName_15 fl_X8_31 i_0 rfl rfl o2 ?_
  refine zb_gI 0 dX8_findName_18 fl_X8_39 o2 rfl rfl ?_
  refine zb_pF 1 dX8_findName_21 fl_X8_45 rfl rfl o1 (Or.inl rfl) hF rfl rfl (fun m21 e21 hF => ?_)
  have h := h m21 e21
  refine zb_aload_n (j := 0) dX8_findName_24 rfl rfl ?_
  obtain ⟨o3, h⟩ := h
  refine zb_gD 5 dX8_findName_25 fl_X8_35 i_0 rfl rfl o3 ?_
  refine zb_iconst dX8_findName_28 (zb_inIc rfl) ?_
  refine zb_aload_n (j := 0) dX8_findName_29 rfl rfl ?_
  obtain ⟨o4, h⟩ := h
  refine zb_gD 4 dX8_findName_30 fl_X8_31 i_0 rfl rfl o4 ?_
  refine zb_gI 0 dX8_findName_33 fl_X8_39 o4 rfl rfl ?_
  obtain ⟨o5, h⟩ := h
  refine zb_iadd dX8_findName_36 o5 ?_
  refine zb_aload_n (j := 0) dX8_findName_37 rfl rfl ?_
  refine zb_gD 4 dX8_findName_38 fl_X8_31 i_0 rfl rfl o4 ?_
  refine zb_gI 0 dX8_findName_41 fl_X8_39 o4 rfl rfl ?_
  refine zb_aload_n (j := 0) dX8_findName_44 rfl rfl ?_
  refine zb_gD 4 dX8_findName_45 fl_X8_31 i_0 rfl rfl o4 ?_
  refine zb_gI 0 dX8_findName_48 fl_X8_39 o4 rfl rfl ?_
  obtain ⟨o6, h⟩ := h
  refine zb_imul dX8_findName_51 o6 ?_
  obtain ⟨o7, h⟩ := h
  refine zb_iadd dX8_findName_52 o7 ?_
  refine zb_pF 2 dX8_findName_53 fl_X8_48 rfl rfl o3 (Or.inl rfl) hF rfl rfl (fun m53 e53 hF => ?_)
  have h := h m53 e53
  refine zb_aload_n (j := 0) dX8_findName_56 rfl rfl ?_
  obtain ⟨o8, h⟩ := h
  refine zb_gD 5 dX8_findName_57 fl_X8_35 i_0 rfl rfl o8 ?_
  refine zb_iconst dX8_findName_60 (zb_inIc rfl) ?_
  refine zb_pF 3 dX8_findName_61 fl_X8_51 rfl rfl o8 (Or.inl rfl) hF rfl rfl (fun m61 e61 hF => ?_)
  have h := h m61 e61
  refine zb_aload_n (j := 0) dX8_findName_64 rfl rfl ?_
  obtain ⟨o9, h⟩ := h
  refine zb_gD 5 dX8_findName_65 fl_X8_35 i_0 rfl rfl o9 ?_
  refine zb_iconst dX8_findName_68 (zb_inIc rfl) ?_
  refine zb_pF 4 dX8_findName_69 fl_X8_54 rfl rfl o9 (Or.inl rfl) hF rfl rfl (fun m69 e69 hF => ?_)
  have h := h m69 e69
  refine zb_aload_n (j := 0) dX8_findName_72 rfl rfl ?_
  refine zb_cV (As := []) (As' := []) (st := []) dX8_findName_73 lk_X8_57 gd_X8_findTwins rfl rfl i_0 ⟨_, rfl, rfl⟩ h hW hF (zb_aR i_0 zb_a0) (Nat.le_refl _) (Nat.le_of_ble_eq_true rfl) (fun r73 m73 hF h => ?_)
  show zb_WP _ _ _ _ [] _ _ _ _
  refine zb_aload_n (j := 0) dX8_findName_76 rfl rfl ?_
  refine zb_gFo 0 dX8_findName_77 fl_X8_27 i_0 hW hF rfl rfl rfl rfl (fun i10 => ?_)
  refine zb_aload_n (j := 0) dX8_findName_80 rfl rfl ?_
  refine zb_gFa 1 dX8_findName_81 fl_X8_13 i_0 hW hF rfl rfl rfl (by decide) rfl 13 rfl (fun i11 l12 => ?_)
  refine zb_iconst dX8_findName_84 (zb_inIc rfl) ?_
  refine zb_lA 4 dX8_findName_85 i11 (by decide) l12 hW hF (by decide) (by decide) (fun i13 => ?_)
  refine zb_aload_n (j := 0) dX8_findName_86 rfl rfl ?_
  obtain ⟨o14, h⟩ := h
  refine zb_gD 4 dX8_findName_87 fl_X8_31 i_0 rfl rfl o14 ?_
  refine zb_cV (As := [(2, (E.2 (E.2 x0 1) 0)), (2, (m73 x0 4))]) (As' := [(2, (m73 x0 4)), (2, (E.2 (E.2 x0 1) 0))]) (st := []) dX8_findName_90 lk_X8_60 gd_X7_begin rfl rfl i10 ⟨_, rfl, rfl⟩ h hW hF (zb_aR i10 (zb_aR i13 (zb_aR o14 zb_a0))) (Nat.le_refl _) (Nat.le_of_ble_eq_true rfl) (fun r90 m90 hF h => ?_)
  show zb_WP _ _ _ _ [] _ _ _ _
  refine zb_aload_n (j := 0) dX8_findName_93 rfl rfl ?_
  refine zb_iconst dX8_findName_94 (zb_inIc rfl) ?_
  refine zb_cS (As := [(2, x0), (0, 0)]) (As' := [(0, 0), (2, x0)]) (st := []) dX8_findName_95 lk_X8_66 gd_X8_grow rfl rfl h hW hF (zb_aR i_0 (zb_aI zb_a0)) (Nat.le_refl _) (Nat.le_of_ble_eq_true rfl) (fun r95 m95 hF h => ?_)
  show zb_WP _ _ _ _ [] _ _ _ _
  refine zb_aload_n (j := 0) dX8_findName_98 rfl rfl ?_
  obtain ⟨o15, h⟩ := h
  refine zb_gD 5 dX8_findName_99 fl_X8_35 i_0 rfl rfl o15 ?_
  refine zb_aload_n (j := 0) dX8_findName_102 rfl rfl ?_
  refine zb_gD 5 dX8_findName_103 fl_X8_35 i_0 rfl rfl o15 ?_
  refine zb_gI 3 dX8_findName_106 fl_X8_51 o15 rfl rfl ?_
  refine zb_sipush dX8_findName_109 (by decide) (zb_inIc rfl) ?_
  refine zb_icmp_gt (tgt := 119) dX8_findName_112 (by decide) (fun c16 => ?_) (fun c16 => ?_)
  · have h := h.1 c16
    refine zb_iconst dX8_findName_119 (zb_inIc rfl) ?_
    refine zb_pF 0 dX8_findName_120 fl_X8_70 rfl rfl o15 (Or.inr (Or.inl ⟨rfl, (by decide)⟩)) hF rfl rfl (fun m120 e120 hF => ?_)
    have h := h m120 e120
    refine zb_aload_n (j := 0) dX8_findName_123 rfl rfl ?_
    obtain ⟨o17, h⟩ := h
    refine zb_gD 5 dX8_findName_124 fl_X8_35 i_0 rfl rfl o17 ?_
    refine zb_gI 0 dX8_findName_127 fl_X8_70 o17 rfl rfl ?_
    obtain ⟨o18, h⟩ := h
    exact zb_rZ dX8_findName_130 rfl hF o18 h
  · have h := h.2 c16
    refine zb_iconst dX8_findName_115 (zb_inIc rfl) ?_
    refine zb_goto (tgt := 120) dX8_findName_116 (by decide) ?_
    refine zb_pF 0 dX8_findName_120 fl_X8_70 rfl rfl o15 (Or.inr (Or.inl ⟨rfl, (by decide)⟩)) hF rfl rfl (fun m120 e120 hF => ?_)
    have h := h m120 e120
    refine zb_aload_n (j := 0) dX8_findName_123 rfl rfl ?_
    obtain ⟨o19, h⟩ := h
    refine zb_gD 5 dX8_findName_124 fl_X8_35 i_0 rfl rfl o19 ?_
    refine zb_gI 0 dX8_findName_127 fl_X8_70 o19 rfl rfl ?_
    obtain ⟨o20, h⟩ := h
    exact zb_rZ dX8_findName_130 rfl hF o20 h
theorem dX8_findTwins_0 : decode cX8_findTwins 0 = .ok (.iconst 0, 1) := by decide +kernel
theorem dX8_findTwins_1 : decode cX8_findTwins 1 = .ok (.istore_n 1, 1) := by decide +kernel
theorem dX8_findTwins_2 : decode cX8_findTwins 2 = .ok (.iload_n 1, 1) := by decide +kernel
theorem dX8_findTwins_3 : decode cX8_findTwins 3 = .ok (.aload_n 0, 1) := by decide +kernel
theorem dX8_findTwins_4 : decode cX8_findTwins 4 = .ok (.getfield 31, 3) := by decide +kernel
theorem dX8_findTwins_7 : decode cX8_findTwins 7 = .ok (.getfield 39, 3) := by decide +kernel
theorem dX8_findTwins_10 : decode cX8_findTwins 10 = .ok (.if_icmp .ge 42, 3) := by decide +kernel
theorem dX8_findTwins_13 : decode cX8_findTwins 13 = .ok (.iconst 0, 1) := by decide +kernel
theorem dX8_findTwins_14 : decode cX8_findTwins 14 = .ok (.istore_n 2, 1) := by decide +kernel
theorem dX8_findTwins_15 : decode cX8_findTwins 15 = .ok (.iload_n 2, 1) := by decide +kernel
theorem dX8_findTwins_16 : decode cX8_findTwins 16 = .ok (.iload_n 1, 1) := by decide +kernel
theorem dX8_findTwins_17 : decode cX8_findTwins 17 = .ok (.if_icmp .ge 29, 3) := by decide +kernel
theorem dX8_findTwins_20 : decode cX8_findTwins 20 = .ok (.aload_n 0, 1) := by decide +kernel
theorem dX8_findTwins_21 : decode cX8_findTwins 21 = .ok (.getfield 19, 3) := by decide +kernel
theorem dX8_findTwins_24 : decode cX8_findTwins 24 = .ok (.iload_n 1, 1) := by decide +kernel
theorem dX8_findTwins_25 : decode cX8_findTwins 25 = .ok (.bipush 12, 2) := by decide +kernel
theorem dX8_findTwins_27 : decode cX8_findTwins 27 = .ok (.imul, 1) := by decide +kernel
theorem dX8_findTwins_28 : decode cX8_findTwins 28 = .ok (.iload_n 2, 1) := by decide +kernel
theorem dX8_findTwins_29 : decode cX8_findTwins 29 = .ok (.iadd, 1) := by decide +kernel
theorem dX8_findTwins_30 : decode cX8_findTwins 30 = .ok (.aload_n 0, 1) := by decide +kernel
theorem dX8_findTwins_31 : decode cX8_findTwins 31 = .ok (.getfield 31, 3) := by decide +kernel
theorem dX8_findTwins_34 : decode cX8_findTwins 34 = .ok (.iload_n 1, 1) := by decide +kernel
theorem dX8_findTwins_35 : decode cX8_findTwins 35 = .ok (.iload_n 2, 1) := by decide +kernel
theorem dX8_findTwins_36 : decode cX8_findTwins 36 = .ok (.invokevirtual 74, 3) := by decide +kernel
theorem dX8_findTwins_39 : decode cX8_findTwins 39 = .ok (.bastore, 1) := by decide +kernel
theorem dX8_findTwins_40 : decode cX8_findTwins 40 = .ok (.iinc 2 1, 3) := by decide +kernel
theorem dX8_findTwins_43 : decode cX8_findTwins 43 = .ok (.goto (-28), 3) := by decide +kernel
theorem dX8_findTwins_46 : decode cX8_findTwins 46 = .ok (.iinc 1 1, 3) := by decide +kernel
theorem dX8_findTwins_49 : decode cX8_findTwins 49 = .ok (.goto (-47), 3) := by decide +kernel
theorem dX8_findTwins_52 : decode cX8_findTwins 52 = .ok (.return_, 1) := by decide +kernel
def PJ_X8_findTwins_46 (d : Nat) (E : zb_E) (v1_2 : Int) (X2 : Int → zb_M → Prop) (Q : Int → zb_M → Prop) (m46j : zb_M) : Prop :=
  (zb_inI (v1_2 + 1)) ∧ (X2 (v1_2 + 1) m46j)
def PL_X8_findTwins_15 (d : Nat) (E : zb_E) (x0 : Int) (v1_2 : Int) (Q : Int → zb_M → Prop) (K46_15 : zb_M → Prop) (v2_15 : Int) (m15l : zb_M) : Prop :=
  ∀ X15 : Int → zb_M → Prop, (∀ (v2_15 : Int) (m15l : zb_M), ((v1_2 ≤ v2_15 → K46_15 m15l) ∧ (¬ v1_2 ≤ v2_15 → (zb_inI (v1_2 * 12)) ∧ ((zb_inI ((v1_2 * 12) + v2_15)) ∧ ((zb_is E.1 (m15l x0 4) 6) ∧ (zb_Tp K_X6_areTwins d [(2, (m15l x0 4)), (0, v1_2), (0, v2_15)] E m15l (fun r36 => (0 ≤ ((v1_2 * 12) + v2_15) ∧ ((v1_2 * 12) + v2_15) < 144) ∧ ((r36 = 0 ∨ r36 = 1) ∧ (∀ m39, m39 = zb_up m15l (E.2 x0 2) ((v1_2 * 12) + v2_15) r36 → ((zb_inI (v2_15 + 1)) ∧ (X15 (v2_15 + 1) m39)))))))))) → X15 v2_15 m15l) → X15 v2_15 m15l
def PL_X8_findTwins_2 (d : Nat) (E : zb_E) (x0 : Int) (Q : Int → zb_M → Prop)  (v1_2 : Int) (m2l : zb_M) : Prop :=
  ∀ X2 : Int → zb_M → Prop, (∀ (v1_2 : Int) (m2l : zb_M), ((zb_is E.1 (m2l x0 4) 6) ∧ (((m2l (m2l x0 4) 0) ≤ v1_2 → Q 0 m2l) ∧ (¬ (m2l (m2l x0 4) 0) ≤ v1_2 → PL_X8_findTwins_15 d E x0 v1_2 Q (PJ_X8_findTwins_46 d E v1_2 X2 Q) 0 m2l))) → X2 v1_2 m2l) → X2 v1_2 m2l
def PM_X8_findTwins (d : Nat) (E : zb_E) (x0 : Int) (m : zb_M) (Q : Int → zb_M → Prop) : Prop :=
  PL_X8_findTwins_2 d E x0 Q 0 m
set_option maxRecDepth 100000 in
set_option maxHeartbeats 4000000 in
theorem w_X8_findTwins {d : Nat} {E : zb_E} {x0 : Int} {m : zb_M} {Q : Int → zb_M → Prop} (h : PM_X8_findTwins d E x0 m Q) : zb_T K_X8_findTwins (d + 1) [(2, x0)] E m Q := by
  unfold PM_X8_findTwins at h
  refine zb_T_in gd_X8_findTwins rfl rfl (fun hW hA G C hF => ?_)
  have i_0 : zb_is E.1 x0 8 := zb_aH hA (by decide)
  show zb_WP _ _ 0 [(0, (2, x0))] [] _ _ _ _
  refine zb_iconst dX8_findTwins_0 (zb_inIc rfl) ?_
  refine zb_istore_n (L' := [(1, (0, 0)), (0, (2, x0))]) dX8_findTwins_1 rfl (by decide) rfl ?_
  refine zb_sub (L' := [(0, (2, x0)), (1, (0, 0))]) [1, 0] rfl ?_
  unfold PL_X8_findTwins_2 at h
  obtain ⟨X2, hX2⟩ : ∃ X : Int → zb_M → Prop, ∀ (v1_2 : Int) (m2l : zb_M), (X v1_2 m2l ↔ (zb_FIN E m2l → zb_WP (G, C, d + 1, 0, 0, zb_q E Q) F_X8_findTwins 2 [(0, (2, x0)), (1, (0, v1_2))] [] E.1 m2l 0 0)) := ⟨fun v1_2 m2l => zb_FIN E m2l → zb_WP (G, C, d + 1, 0, 0, zb_q E Q) F_X8_findTwins 2 [(0, (2, x0)), (1, (0, v1_2))] [] E.1 m2l 0 0, fun _ _ => Iff.rfl⟩
  refine (hX2 _ _).mp (h X2 (fun v1_2 m2l h => (hX2 _ _).mpr (fun hF => ?_))) hF
  refine zb_iload_n (j := 1) dX8_findTwins_2 rfl rfl ?_
  refine zb_aload_n (j := 0) dX8_findTwins_3 rfl rfl ?_
  obtain ⟨o1, h⟩ := h
  refine zb_gD 4 dX8_findTwins_4 fl_X8_31 i_0 rfl rfl o1 ?_
  refine zb_gI 0 dX8_findTwins_7 fl_X8_39 o1 rfl rfl ?_
  refine zb_icmp_ge (tgt := 52) dX8_findTwins_10 (by decide) (fun c2 => ?_) (fun c2 => ?_)
  · have h := h.1 c2
    exact zb_rV dX8_findTwins_52 rfl hF h
  · have h := h.2 c2
    refine zb_iconst dX8_findTwins_13 (zb_inIc rfl) ?_
    refine zb_istore_n (L' := [(2, (0, 0)), (0, (2, x0)), (1, (0, v1_2))]) dX8_findTwins_14 rfl (by decide) rfl ?_
    refine zb_sub (L' := [(0, (2, x0)), (1, (0, v1_2)), (2, (0, 0))]) [1, 2, 0] rfl ?_
    have hJ46 : ∀ (m46j : zb_M), zb_FIN E m46j → PJ_X8_findTwins_46 d E v1_2 X2 Q m46j → zb_WP (G, C, d + 1, 0, 0, zb_q E Q) F_X8_findTwins 46 [(0, (2, x0)), (1, (0, v1_2))] [] E.1 m46j 0 0 := by
      intro m46j hF h
      unfold PJ_X8_findTwins_46 at h
      obtain ⟨o3, h⟩ := h
      refine zb_iinc (j := 1) (L' := [(1, (0, (v1_2 + 1))), (0, (2, x0))]) dX8_findTwins_46 rfl o3 (by decide) rfl ?_
      refine zb_goto (tgt := 2) dX8_findTwins_49 (by decide) ?_
      refine zb_sub (L' := [(0, (2, x0)), (1, (0, (v1_2 + 1)))]) [1, 0] rfl ?_
      exact (hX2 _ _).mp h hF
    unfold PL_X8_findTwins_15 at h
    obtain ⟨X15, hX15⟩ : ∃ X : Int → zb_M → Prop, ∀ (v2_15 : Int) (m15l : zb_M), (X v2_15 m15l ↔ (zb_FIN E m15l → zb_WP (G, C, d + 1, 0, 0, zb_q E Q) F_X8_findTwins 15 [(0, (2, x0)), (1, (0, v1_2)), (2, (0, v2_15))] [] E.1 m15l 0 0)) := ⟨fun v2_15 m15l => zb_FIN E m15l → zb_WP (G, C, d + 1, 0, 0, zb_q E Q) F_X8_findTwins 15 [(0, (2, x0)), (1, (0, v1_2)), (2, (0, v2_15))] [] E.1 m15l 0 0, fun _ _ => Iff.rfl⟩
    refine (hX15 _ _).mp (h X15 (fun v2_15 m15l h => (hX15 _ _).mpr (fun hF => ?_))) hF
    refine zb_iload_n (j := 2) dX8_findTwins_15 rfl rfl ?_
    refine zb_iload_n (j := 1) dX8_findTwins_16 rfl rfl ?_
    refine zb_icmp_ge (tgt := 46) dX8_findTwins_17 (by decide) (fun c4 => ?_) (fun c4 => ?_)
    · have h := h.1 c4
      refine zb_sub (L' := [(0, (2, x0)), (1, (0, v1_2))]) [0, 1] rfl ?_
      exact hJ46 _ hF h
    · have h := h.2 c4
      refine zb_aload_n (j := 0) dX8_findTwins_20 rfl rfl ?_
      refine zb_gFa 2 dX8_findTwins_21 fl_X8_19 i_0 hW hF rfl rfl rfl (by decide) rfl 144 rfl (fun i5 l6 => ?_)
      refine zb_iload_n (j := 1) dX8_findTwins_24 rfl rfl ?_
      refine zb_bipush dX8_findTwins_25 (by decide) (zb_inIc rfl) ?_
      obtain ⟨o7, h⟩ := h
      refine zb_imul dX8_findTwins_27 o7 ?_
      refine zb_iload_n (j := 2) dX8_findTwins_28 rfl rfl ?_
      obtain ⟨o8, h⟩ := h
      refine zb_iadd dX8_findTwins_29 o8 ?_
      refine zb_aload_n (j := 0) dX8_findTwins_30 rfl rfl ?_
      obtain ⟨o9, h⟩ := h
      refine zb_gD 4 dX8_findTwins_31 fl_X8_31 i_0 rfl rfl o9 ?_
      refine zb_iload_n (j := 1) dX8_findTwins_34 rfl rfl ?_
      refine zb_iload_n (j := 2) dX8_findTwins_35 rfl rfl ?_
      refine zb_cVp (As := [(0, v1_2), (0, v2_15)]) (As' := [(0, v2_15), (0, v1_2)]) (st := [(0, ((v1_2 * 12) + v2_15)), (2, (E.2 x0 2))]) dX8_findTwins_36 lk_X8_74 gd_X6_areTwins rfl rfl o9 ⟨_, rfl, rfl⟩ h hW hF (zb_aR o9 (zb_aI (zb_aI zb_a0))) (Nat.le_refl _) (Nat.le_of_ble_eq_true rfl) (fun r36 h => ?_)
      show zb_WP _ _ _ _ [(0, r36), (0, ((v1_2 * 12) + v2_15)), (2, (E.2 x0 2))] _ _ _ _
      obtain ⟨o10, h⟩ := h
      obtain ⟨o11, h⟩ := h
      refine zb_sZ dX8_findTwins_39 i5 l6 o10.1 o10.2 o11 hF (fun m39 e39 hF => ?_)
      have h := h m39 e39
      obtain ⟨o12, h⟩ := h
      refine zb_iinc (j := 2) (L' := [(2, (0, (v2_15 + 1))), (0, (2, x0)), (1, (0, v1_2))]) dX8_findTwins_40 rfl o12 (by decide) rfl ?_
      refine zb_goto (tgt := 15) dX8_findTwins_43 (by decide) ?_
      refine zb_sub (L' := [(0, (2, x0)), (1, (0, v1_2)), (2, (0, (v2_15 + 1)))]) [1, 2, 0] rfl ?_
      exact (hX15 _ _).mp h hF
theorem dX8_grow_0 : decode cX8_grow 0 = .ok (.aload_n 0, 1) := by decide +kernel
theorem dX8_grow_1 : decode cX8_grow 1 = .ok (.getfield 13, 3) := by decide +kernel
theorem dX8_grow_4 : decode cX8_grow 4 = .ok (.iload_n 1, 1) := by decide +kernel
theorem dX8_grow_5 : decode cX8_grow 5 = .ok (.aaload, 1) := by decide +kernel
theorem dX8_grow_6 : decode cX8_grow 6 = .ok (.astore_n 2, 1) := by decide +kernel
theorem dX8_grow_7 : decode cX8_grow 7 = .ok (.aload_n 0, 1) := by decide +kernel
theorem dX8_grow_8 : decode cX8_grow 8 = .ok (.getfield 35, 3) := by decide +kernel
theorem dX8_grow_11 : decode cX8_grow 11 = .ok (.dup, 1) := by decide +kernel
theorem dX8_grow_12 : decode cX8_grow 12 = .ok (.getfield 54, 3) := by decide +kernel
theorem dX8_grow_15 : decode cX8_grow 15 = .ok (.iconst 1, 1) := by decide +kernel
theorem dX8_grow_16 : decode cX8_grow 16 = .ok (.iadd, 1) := by decide +kernel
theorem dX8_grow_17 : decode cX8_grow 17 = .ok (.putfield 54, 3) := by decide +kernel
theorem dX8_grow_20 : decode cX8_grow 20 = .ok (.aload_n 2, 1) := by decide +kernel
theorem dX8_grow_21 : decode cX8_grow 21 = .ok (.invokevirtual 78, 3) := by decide +kernel
theorem dX8_grow_24 : decode cX8_grow 24 = .ok (.ifCond .eq 9, 3) := by decide +kernel
theorem dX8_grow_27 : decode cX8_grow 27 = .ok (.aload_n 0, 1) := by decide +kernel
theorem dX8_grow_28 : decode cX8_grow 28 = .ok (.aload_n 2, 1) := by decide +kernel
theorem dX8_grow_29 : decode cX8_grow 29 = .ok (.invokevirtual 84, 3) := by decide +kernel
theorem dX8_grow_32 : decode cX8_grow 32 = .ok (.return_, 1) := by decide +kernel
theorem dX8_grow_33 : decode cX8_grow 33 = .ok (.iload_n 1, 1) := by decide +kernel
theorem dX8_grow_34 : decode cX8_grow 34 = .ok (.bipush 12, 2) := by decide +kernel
theorem dX8_grow_36 : decode cX8_grow 36 = .ok (.if_icmp .lt 4, 3) := by decide +kernel
theorem dX8_grow_39 : decode cX8_grow 39 = .ok (.return_, 1) := by decide +kernel
theorem dX8_grow_40 : decode cX8_grow 40 = .ok (.aload_n 2, 1) := by decide +kernel
theorem dX8_grow_41 : decode cX8_grow 41 = .ok (.invokevirtual 88, 3) := by decide +kernel
theorem dX8_grow_44 : decode cX8_grow 44 = .ok (.istore_n 3, 1) := by decide +kernel
theorem dX8_grow_45 : decode cX8_grow 45 = .ok (.aload_n 0, 1) := by decide +kernel
theorem dX8_grow_46 : decode cX8_grow 46 = .ok (.getfield 13, 3) := by decide +kernel
theorem dX8_grow_49 : decode cX8_grow 49 = .ok (.iload_n 1, 1) := by decide +kernel
theorem dX8_grow_50 : decode cX8_grow 50 = .ok (.iconst 1, 1) := by decide +kernel
theorem dX8_grow_51 : decode cX8_grow 51 = .ok (.iadd, 1) := by decide +kernel
theorem dX8_grow_52 : decode cX8_grow 52 = .ok (.aaload, 1) := by decide +kernel
theorem dX8_grow_53 : decode cX8_grow 53 = .ok (.astore 4, 2) := by decide +kernel
theorem dX8_grow_55 : decode cX8_grow 55 = .ok (.iconst 0, 1) := by decide +kernel
theorem dX8_grow_56 : decode cX8_grow 56 = .ok (.istore 5, 2) := by decide +kernel
theorem dX8_grow_58 : decode cX8_grow 58 = .ok (.iload 5, 2) := by decide +kernel
theorem dX8_grow_60 : decode cX8_grow 60 = .ok (.aload_n 2, 1) := by decide +kernel
theorem dX8_grow_61 : decode cX8_grow 61 = .ok (.getfield 92, 3) := by decide +kernel
theorem dX8_grow_64 : decode cX8_grow 64 = .ok (.if_icmp .ge 79, 3) := by decide +kernel
theorem dX8_grow_67 : decode cX8_grow 67 = .ok (.aload_n 0, 1) := by decide +kernel
theorem dX8_grow_68 : decode cX8_grow 68 = .ok (.getfield 35, 3) := by decide +kernel
theorem dX8_grow_71 : decode cX8_grow 71 = .ok (.getfield 51, 3) := by decide +kernel
theorem dX8_grow_74 : decode cX8_grow 74 = .ok (.sipush 3000, 3) := by decide +kernel
theorem dX8_grow_77 : decode cX8_grow 77 = .ok (.if_icmp .gt 66, 3) := by decide +kernel
theorem dX8_grow_80 : decode cX8_grow 80 = .ok (.aload_n 2, 1) := by decide +kernel
theorem dX8_grow_81 : decode cX8_grow 81 = .ok (.getfield 93, 3) := by decide +kernel
theorem dX8_grow_84 : decode cX8_grow 84 = .ok (.iload 5, 2) := by decide +kernel
theorem dX8_grow_86 : decode cX8_grow 86 = .ok (.iaload, 1) := by decide +kernel
theorem dX8_grow_87 : decode cX8_grow 87 = .ok (.iload_n 3, 1) := by decide +kernel
theorem dX8_grow_88 : decode cX8_grow 88 = .ok (.if_icmp .ne 49, 3) := by decide +kernel
theorem dX8_grow_91 : decode cX8_grow 91 = .ok (.aload_n 0, 1) := by decide +kernel
theorem dX8_grow_92 : decode cX8_grow 92 = .ok (.aload_n 2, 1) := by decide +kernel
theorem dX8_grow_93 : decode cX8_grow 93 = .ok (.iload 5, 2) := by decide +kernel
theorem dX8_grow_95 : decode cX8_grow 95 = .ok (.invokevirtual 96, 3) := by decide +kernel
theorem dX8_grow_98 : decode cX8_grow 98 = .ok (.ifCond .eq 6, 3) := by decide +kernel
theorem dX8_grow_101 : decode cX8_grow 101 = .ok (.goto 36, 3) := by decide +kernel
theorem dX8_grow_104 : decode cX8_grow 104 = .ok (.aload 4, 2) := by decide +kernel
theorem dX8_grow_106 : decode cX8_grow 106 = .ok (.aload_n 2, 1) := by decide +kernel
theorem dX8_grow_107 : decode cX8_grow 107 = .ok (.invokevirtual 100, 3) := by decide +kernel
theorem dX8_grow_110 : decode cX8_grow 110 = .ok (.aload 4, 2) := by decide +kernel
theorem dX8_grow_112 : decode cX8_grow 112 = .ok (.iload 5, 2) := by decide +kernel
theorem dX8_grow_114 : decode cX8_grow 114 = .ok (.invokevirtual 103, 3) := by decide +kernel
theorem dX8_grow_117 : decode cX8_grow 117 = .ok (.aload_n 0, 1) := by decide +kernel
theorem dX8_grow_118 : decode cX8_grow 118 = .ok (.getfield 27, 3) := by decide +kernel
theorem dX8_grow_121 : decode cX8_grow 121 = .ok (.aload 4, 2) := by decide +kernel
theorem dX8_grow_123 : decode cX8_grow 123 = .ok (.aload_n 0, 1) := by decide +kernel
theorem dX8_grow_124 : decode cX8_grow 124 = .ok (.getfield 31, 3) := by decide +kernel
theorem dX8_grow_127 : decode cX8_grow 127 = .ok (.invokevirtual 107, 3) := by decide +kernel
theorem dX8_grow_130 : decode cX8_grow 130 = .ok (.aload_n 0, 1) := by decide +kernel
theorem dX8_grow_131 : decode cX8_grow 131 = .ok (.iload_n 1, 1) := by decide +kernel
theorem dX8_grow_132 : decode cX8_grow 132 = .ok (.iconst 1, 1) := by decide +kernel
theorem dX8_grow_133 : decode cX8_grow 133 = .ok (.iadd, 1) := by decide +kernel
theorem dX8_grow_134 : decode cX8_grow 134 = .ok (.invokestatic 66, 3) := by decide +kernel
theorem dX8_grow_137 : decode cX8_grow 137 = .ok (.iinc 5 1, 3) := by decide +kernel
theorem dX8_grow_140 : decode cX8_grow 140 = .ok (.goto (-82), 3) := by decide +kernel
theorem dX8_grow_143 : decode cX8_grow 143 = .ok (.return_, 1) := by decide +kernel
def PL_X8_grow_58 (d : Nat) (E : zb_E) (x0 : Int) (x1 : Int) (r41 : Int) (Q : Int → zb_M → Prop)  (v5_58 : Int) (m58l : zb_M) : Prop :=
  ∀ X58 : Int → zb_M → Prop, (∀ (v5_58 : Int) (m58l : zb_M), (((m58l (E.2 (E.2 x0 1) x1) 0) ≤ v5_58 → Q 0 m58l) ∧ (¬ (m58l (E.2 (E.2 x0 1) x1) 0) ≤ v5_58 → (zb_is E.1 (m58l x0 5) 3) ∧ ((3000 < (m58l (m58l x0 5) 3) → Q 0 m58l) ∧ (¬ 3000 < (m58l (m58l x0 5) 3) → (0 ≤ v5_58 ∧ v5_58 < 12) ∧ (((m58l (E.2 (E.2 (E.2 x0 1) x1) 2) v5_58) = r41 → zb_Tp K_X8_hasLesserTwin d [(2, x0), (2, (E.2 (E.2 x0 1) x1)), (0, v5_58)] E m58l (fun r95 => (r95 = 0 → zb_T K_X5_become d [(2, (E.2 (E.2 x0 1) (x1 + 1))), (2, (E.2 (E.2 x0 1) x1))] E m58l (fun r107 m107 => zb_T K_X5_setApart d [(2, (E.2 (E.2 x0 1) (x1 + 1))), (0, v5_58)] E m107 (fun r114 m114 => (zb_is E.1 (m114 x0 4) 6) ∧ (zb_T K_X7_settle d [(2, (E.2 x0 0)), (2, (E.2 (E.2 x0 1) (x1 + 1))), (2, (m114 x0 4))] E m114 (fun r127 m127 => zb_T K_X8_grow d [(2, x0), (0, (x1 + 1))] E m127 (fun r134 m134 => (zb_inI (v5_58 + 1)) ∧ (X58 (v5_58 + 1) m134))))))) ∧ (¬ r95 = 0 → (zb_inI (v5_58 + 1)) ∧ (X58 (v5_58 + 1) m58l)))) ∧ (¬ (m58l (E.2 (E.2 (E.2 x0 1) x1) 2) v5_58) = r41 → (zb_inI (v5_58 + 1)) ∧ (X58 (v5_58 + 1) m58l))))))) → X58 v5_58 m58l) → X58 v5_58 m58l
def PM_X8_grow (d : Nat) (E : zb_E) (x0 : Int) (x1 : Int) (m : zb_M) (Q : Int → zb_M → Prop) : Prop :=
  (0 ≤ x1 ∧ x1 < 13) ∧ ((zb_is E.1 (m x0 5) 3) ∧ ((zb_inI ((m (m x0 5) 4) + 1)) ∧ (∀ m17, m17 = zb_up m (m x0 5) 4 ((m (m x0 5) 4) + 1) → (zb_Tp K_X5_isAllAlone d [(2, (E.2 (E.2 x0 1) x1))] E m17 (fun r21 => (r21 = 0 → (x1 < 12 → zb_Tp K_X5_firstBigHeap d [(2, (E.2 (E.2 x0 1) x1))] E m17 (fun r41 => (zb_inI (x1 + 1)) ∧ ((0 ≤ (x1 + 1) ∧ (x1 + 1) < 13) ∧ (PL_X8_grow_58 d E x0 x1 r41 Q 0 m17)))) ∧ (¬ x1 < 12 → Q 0 m17)) ∧ (¬ r21 = 0 → zb_T K_X8_addLeaf d [(2, x0), (2, (E.2 (E.2 x0 1) x1))] E m17 (fun r29 m29 => Q 0 m29)))))))
set_option maxRecDepth 100000 in
set_option maxHeartbeats 4000000 in
theorem w_X8_grow {d : Nat} {E : zb_E} {x0 x1 : Int} {m : zb_M} {Q : Int → zb_M → Prop} (h : PM_X8_grow d E x0 x1 m Q) : zb_T K_X8_grow (d + 1) [(2, x0), (0, x1)] E m Q := by
  unfold PM_X8_grow at h
  refine zb_T_in gd_X8_grow rfl rfl (fun hW hA G C hF => ?_)
  have i_0 : zb_is E.1 x0 8 := zb_aH hA (by decide)
  show zb_WP _ _ 0 [(0, (2, x0)), (1, (0, x1))] [] _ _ _ _
  refine zb_aload_n (j := 0) dX8_grow_0 rfl rfl ?_
  refine zb_gFa 1 dX8_grow_1 fl_X8_13 i_0 hW hF rfl rfl rfl (by decide) rfl 13 rfl (fun i1 l2 => ?_)
  refine zb_iload_n (j := 1) dX8_grow_4 rfl rfl ?_
  obtain ⟨o3, h⟩ := h
  refine zb_lA 4 dX8_grow_5 i1 (by decide) l2 hW hF o3.1 o3.2 (fun i4 => ?_)
  refine zb_astore_n (L' := [(2, (2, (E.2 (E.2 x0 1) x1))), (0, (2, x0)), (1, (0, x1))]) dX8_grow_6 rfl (by decide) rfl ?_
  refine zb_aload_n (j := 1) dX8_grow_7 rfl rfl ?_
  obtain ⟨o5, h⟩ := h
  refine zb_gD 5 dX8_grow_8 fl_X8_35 i_0 rfl rfl o5 ?_
  refine zb_dup dX8_grow_11 rfl ?_
  refine zb_gI 4 dX8_grow_12 fl_X8_54 o5 rfl rfl ?_
  refine zb_iconst dX8_grow_15 (zb_inIc rfl) ?_
  obtain ⟨o6, h⟩ := h
  refine zb_iadd dX8_grow_16 o6 ?_
  refine zb_pF 4 dX8_grow_17 fl_X8_54 rfl rfl o5 (Or.inl rfl) hF rfl rfl (fun m17 e17 hF => ?_)
  have h := h m17 e17
  refine zb_aload_n (j := 0) dX8_grow_20 rfl rfl ?_
  refine zb_cVp (As := []) (As' := []) (st := []) dX8_grow_21 lk_X8_78 gd_X5_isAllAlone rfl rfl i4 ⟨_, rfl, rfl⟩ h hW hF (zb_aR i4 zb_a0) (Nat.le_refl _) (Nat.le_of_ble_eq_true rfl) (fun r21 h => ?_)
  show zb_WP _ _ _ _ [(0, r21)] _ _ _ _
  refine zb_if_eq (tgt := 33) dX8_grow_24 (by decide) (fun c7 => ?_) (fun c7 => ?_)
  · have h := h.1 c7
    refine zb_iload_n (j := 2) dX8_grow_33 rfl rfl ?_
    refine zb_bipush dX8_grow_34 (by decide) (zb_inIc rfl) ?_
    refine zb_icmp_lt (tgt := 40) dX8_grow_36 (by decide) (fun c8 => ?_) (fun c8 => ?_)
    · have h := h.1 c8
      refine zb_aload_n (j := 0) dX8_grow_40 rfl rfl ?_
      refine zb_cVp (As := []) (As' := []) (st := []) dX8_grow_41 lk_X8_88 gd_X5_firstBigHeap rfl rfl i4 ⟨_, rfl, rfl⟩ h hW hF (zb_aR i4 zb_a0) (Nat.le_refl _) (Nat.le_of_ble_eq_true rfl) (fun r41 h => ?_)
      show zb_WP _ _ _ _ [(0, r41)] _ _ _ _
      refine zb_istore_n (L' := [(3, (0, r41)), (2, (2, (E.2 (E.2 x0 1) x1))), (0, (2, x0)), (1, (0, x1))]) dX8_grow_44 rfl (by decide) rfl ?_
      refine zb_aload_n (j := 2) dX8_grow_45 rfl rfl ?_
      refine zb_gFa 1 dX8_grow_46 fl_X8_13 i_0 hW hF rfl rfl rfl (by decide) rfl 13 rfl (fun i9 l10 => ?_)
      refine zb_iload_n (j := 3) dX8_grow_49 rfl rfl ?_
      refine zb_iconst dX8_grow_50 (zb_inIc rfl) ?_
      obtain ⟨o11, h⟩ := h
      refine zb_iadd dX8_grow_51 o11 ?_
      obtain ⟨o12, h⟩ := h
      refine zb_lA 4 dX8_grow_52 i9 (by decide) l10 hW hF o12.1 o12.2 (fun i13 => ?_)
      refine zb_astore (L' := [(4, (2, (E.2 (E.2 x0 1) (x1 + 1)))), (3, (0, r41)), (2, (2, (E.2 (E.2 x0 1) x1))), (0, (2, x0)), (1, (0, x1))]) dX8_grow_53 (by decide) rfl ?_
      refine zb_iconst dX8_grow_55 (zb_inIc rfl) ?_
      refine zb_istore (L' := [(5, (0, 0)), (4, (2, (E.2 (E.2 x0 1) (x1 + 1)))), (3, (0, r41)), (2, (2, (E.2 (E.2 x0 1) x1))), (0, (2, x0)), (1, (0, x1))]) dX8_grow_56 (by decide) rfl ?_
      refine zb_sub (L' := [(0, (2, x0)), (1, (0, x1)), (2, (2, (E.2 (E.2 x0 1) x1))), (3, (0, r41)), (4, (2, (E.2 (E.2 x0 1) (x1 + 1)))), (5, (0, 0))]) [4, 5, 3, 2, 1, 0] rfl ?_
      unfold PL_X8_grow_58 at h
      obtain ⟨X58, hX58⟩ : ∃ X : Int → zb_M → Prop, ∀ (v5_58 : Int) (m58l : zb_M), (X v5_58 m58l ↔ (zb_FIN E m58l → zb_WP (G, C, d + 1, 0, 0, zb_q E Q) F_X8_grow 58 [(0, (2, x0)), (1, (0, x1)), (2, (2, (E.2 (E.2 x0 1) x1))), (3, (0, r41)), (4, (2, (E.2 (E.2 x0 1) (x1 + 1)))), (5, (0, v5_58))] [] E.1 m58l 0 0)) := ⟨fun v5_58 m58l => zb_FIN E m58l → zb_WP (G, C, d + 1, 0, 0, zb_q E Q) F_X8_grow 58 [(0, (2, x0)), (1, (0, x1)), (2, (2, (E.2 (E.2 x0 1) x1))), (3, (0, r41)), (4, (2, (E.2 (E.2 x0 1) (x1 + 1)))), (5, (0, v5_58))] [] E.1 m58l 0 0, fun _ _ => Iff.rfl⟩
      refine (hX58 _ _).mp (h X58 (fun v5_58 m58l h => (hX58 _ _).mpr (fun hF => ?_))) hF
      refine zb_iload (j := 5) dX8_grow_58 rfl ?_
      refine zb_aload_n (j := 2) dX8_grow_60 rfl rfl ?_
      refine zb_gI 0 dX8_grow_61 fl_X8_92 i4 rfl rfl ?_
      refine zb_icmp_ge (tgt := 143) dX8_grow_64 (by decide) (fun c14 => ?_) (fun c14 => ?_)
      · have h := h.1 c14
        exact zb_rV dX8_grow_143 rfl hF h
      · have h := h.2 c14
        refine zb_aload_n (j := 0) dX8_grow_67 rfl rfl ?_
        obtain ⟨o15, h⟩ := h
        refine zb_gD 5 dX8_grow_68 fl_X8_35 i_0 rfl rfl o15 ?_
        refine zb_gI 3 dX8_grow_71 fl_X8_51 o15 rfl rfl ?_
        refine zb_sipush dX8_grow_74 (by decide) (zb_inIc rfl) ?_
        refine zb_icmp_gt (tgt := 143) dX8_grow_77 (by decide) (fun c16 => ?_) (fun c16 => ?_)
        · have h := h.1 c16
          exact zb_rV dX8_grow_143 rfl hF h
        · have h := h.2 c16
          refine zb_aload_n (j := 2) dX8_grow_80 rfl rfl ?_
          refine zb_gFa 2 dX8_grow_81 fl_X8_93 i4 hW hF rfl rfl rfl (by decide) rfl 12 rfl (fun i17 l18 => ?_)
          refine zb_iload (j := 5) dX8_grow_84 rfl ?_
          obtain ⟨o19, h⟩ := h
          refine zb_lI dX8_grow_86 i17 l18 o19.1 o19.2 ?_
          refine zb_iload_n (j := 3) dX8_grow_87 rfl rfl ?_
          refine zb_icmp_ne (tgt := 137) dX8_grow_88 (by decide) (fun c20 => ?_) (fun c20 => ?_)
          · have h := h.2 c20
            obtain ⟨o21, h⟩ := h
            refine zb_iinc (j := 5) (L' := [(5, (0, (v5_58 + 1))), (0, (2, x0)), (1, (0, x1)), (2, (2, (E.2 (E.2 x0 1) x1))), (3, (0, r41)), (4, (2, (E.2 (E.2 x0 1) (x1 + 1))))]) dX8_grow_137 rfl o21 (by decide) rfl ?_
            refine zb_goto (tgt := 58) dX8_grow_140 (by decide) ?_
            refine zb_sub (L' := [(0, (2, x0)), (1, (0, x1)), (2, (2, (E.2 (E.2 x0 1) x1))), (3, (0, r41)), (4, (2, (E.2 (E.2 x0 1) (x1 + 1)))), (5, (0, (v5_58 + 1)))]) [1, 2, 3, 4, 5, 0] rfl ?_
            exact (hX58 _ _).mp h hF
          · have h := h.1 c20
            refine zb_aload_n (j := 0) dX8_grow_91 rfl rfl ?_
            refine zb_aload_n (j := 2) dX8_grow_92 rfl rfl ?_
            refine zb_iload (j := 5) dX8_grow_93 rfl ?_
            refine zb_cVp (As := [(2, (E.2 (E.2 x0 1) x1)), (0, v5_58)]) (As' := [(0, v5_58), (2, (E.2 (E.2 x0 1) x1))]) (st := []) dX8_grow_95 lk_X8_96 gd_X8_hasLesserTwin rfl rfl i_0 ⟨_, rfl, rfl⟩ h hW hF (zb_aR i_0 (zb_aR i4 (zb_aI zb_a0))) (Nat.le_refl _) (Nat.le_of_ble_eq_true rfl) (fun r95 h => ?_)
            show zb_WP _ _ _ _ [(0, r95)] _ _ _ _
            refine zb_if_eq (tgt := 104) dX8_grow_98 (by decide) (fun c22 => ?_) (fun c22 => ?_)
            · have h := h.1 c22
              refine zb_aload (j := 4) dX8_grow_104 rfl ?_
              refine zb_aload_n (j := 2) dX8_grow_106 rfl rfl ?_
              refine zb_cV (As := [(2, (E.2 (E.2 x0 1) x1))]) (As' := [(2, (E.2 (E.2 x0 1) x1))]) (st := []) dX8_grow_107 lk_X8_100 gd_X5_become rfl rfl i13 ⟨_, rfl, rfl⟩ h hW hF (zb_aR i13 (zb_aR i4 zb_a0)) (Nat.le_refl _) (Nat.le_of_ble_eq_true rfl) (fun r107 m107 hF h => ?_)
              show zb_WP _ _ _ _ [] _ _ _ _
              refine zb_aload (j := 4) dX8_grow_110 rfl ?_
              refine zb_iload (j := 5) dX8_grow_112 rfl ?_
              refine zb_cV (As := [(0, v5_58)]) (As' := [(0, v5_58)]) (st := []) dX8_grow_114 lk_X8_103 gd_X5_setApart rfl rfl i13 ⟨_, rfl, rfl⟩ h hW hF (zb_aR i13 (zb_aI zb_a0)) (Nat.le_refl _) (Nat.le_of_ble_eq_true rfl) (fun r114 m114 hF h => ?_)
              show zb_WP _ _ _ _ [] _ _ _ _
              refine zb_aload_n (j := 0) dX8_grow_117 rfl rfl ?_
              refine zb_gFo 0 dX8_grow_118 fl_X8_27 i_0 hW hF rfl rfl rfl rfl (fun i23 => ?_)
              refine zb_aload (j := 4) dX8_grow_121 rfl ?_
              refine zb_aload_n (j := 0) dX8_grow_123 rfl rfl ?_
              obtain ⟨o24, h⟩ := h
              refine zb_gD 4 dX8_grow_124 fl_X8_31 i_0 rfl rfl o24 ?_
              refine zb_cV (As := [(2, (E.2 (E.2 x0 1) (x1 + 1))), (2, (m114 x0 4))]) (As' := [(2, (m114 x0 4)), (2, (E.2 (E.2 x0 1) (x1 + 1)))]) (st := []) dX8_grow_127 lk_X8_107 gd_X7_settle rfl rfl i23 ⟨_, rfl, rfl⟩ h hW hF (zb_aR i23 (zb_aR i13 (zb_aR o24 zb_a0))) (Nat.le_refl _) (Nat.le_of_ble_eq_true rfl) (fun r127 m127 hF h => ?_)
              show zb_WP _ _ _ _ [] _ _ _ _
              refine zb_aload_n (j := 0) dX8_grow_130 rfl rfl ?_
              refine zb_iload_n (j := 1) dX8_grow_131 rfl rfl ?_
              refine zb_iconst dX8_grow_132 (zb_inIc rfl) ?_
              refine zb_iadd dX8_grow_133 o11 ?_
              refine zb_cS (As := [(2, x0), (0, (x1 + 1))]) (As' := [(0, (x1 + 1)), (2, x0)]) (st := []) dX8_grow_134 lk_X8_66 gd_X8_grow rfl rfl h hW hF (zb_aR i_0 (zb_aI zb_a0)) (Nat.le_refl _) (Nat.le_of_ble_eq_true rfl) (fun r134 m134 hF h => ?_)
              show zb_WP _ _ _ _ [] _ _ _ _
              obtain ⟨o25, h⟩ := h
              refine zb_iinc (j := 5) (L' := [(5, (0, (v5_58 + 1))), (0, (2, x0)), (1, (0, x1)), (2, (2, (E.2 (E.2 x0 1) x1))), (3, (0, r41)), (4, (2, (E.2 (E.2 x0 1) (x1 + 1))))]) dX8_grow_137 rfl o25 (by decide) rfl ?_
              refine zb_goto (tgt := 58) dX8_grow_140 (by decide) ?_
              refine zb_sub (L' := [(0, (2, x0)), (1, (0, x1)), (2, (2, (E.2 (E.2 x0 1) x1))), (3, (0, r41)), (4, (2, (E.2 (E.2 x0 1) (x1 + 1)))), (5, (0, (v5_58 + 1)))]) [1, 2, 3, 4, 5, 0] rfl ?_
              exact (hX58 _ _).mp h hF
            · have h := h.2 c22
              refine zb_goto (tgt := 137) dX8_grow_101 (by decide) ?_
              obtain ⟨o26, h⟩ := h
              refine zb_iinc (j := 5) (L' := [(5, (0, (v5_58 + 1))), (0, (2, x0)), (1, (0, x1)), (2, (2, (E.2 (E.2 x0 1) x1))), (3, (0, r41)), (4, (2, (E.2 (E.2 x0 1) (x1 + 1))))]) dX8_grow_137 rfl o26 (by decide) rfl ?_
              refine zb_goto (tgt := 58) dX8_grow_140 (by decide) ?_
              refine zb_sub (L' := [(0, (2, x0)), (1, (0, x1)), (2, (2, (E.2 (E.2 x0 1) x1))), (3, (0, r41)), (4, (2, (E.2 (E.2 x0 1) (x1 + 1)))), (5, (0, (v5_58 + 1)))]) [1, 2, 3, 4, 5, 0] rfl ?_
              exact (hX58 _ _).mp h hF
    · have h := h.2 c8
      exact zb_rV dX8_grow_39 rfl hF h
  · have h := h.2 c7
    refine zb_aload_n (j := 1) dX8_grow_27 rfl rfl ?_
    refine zb_aload_n (j := 0) dX8_grow_28 rfl rfl ?_
    refine zb_cV (As := [(2, (E.2 (E.2 x0 1) x1))]) (As' := [(2, (E.2 (E.2 x0 1) x1))]) (st := []) dX8_grow_29 lk_X8_84 gd_X8_addLeaf rfl rfl i_0 ⟨_, rfl, rfl⟩ h hW hF (zb_aR i_0 (zb_aR i4 zb_a0)) (Nat.le_refl _) (Nat.le_of_ble_eq_true rfl) (fun r29 m29 hF h => ?_)
    show zb_WP _ _ _ _ [] _ _ _ _
    exact zb_rV dX8_grow_32 rfl hF h
theorem dX8_hasLesserTwin_0 : decode cX8_hasLesserTwin 0 = .ok (.iconst 0, 1) := by decide +kernel
theorem dX8_hasLesserTwin_1 : decode cX8_hasLesserTwin 1 = .ok (.istore_n 3, 1) := by decide +kernel
theorem dX8_hasLesserTwin_2 : decode cX8_hasLesserTwin 2 = .ok (.iload_n 3, 1) := by decide +kernel
theorem dX8_hasLesserTwin_3 : decode cX8_hasLesserTwin 3 = .ok (.iload_n 2, 1) := by decide +kernel
theorem dX8_hasLesserTwin_4 : decode cX8_hasLesserTwin 4 = .ok (.if_icmp .ge 40, 3) := by decide +kernel
theorem dX8_hasLesserTwin_7 : decode cX8_hasLesserTwin 7 = .ok (.aload_n 1, 1) := by decide +kernel
theorem dX8_hasLesserTwin_8 : decode cX8_hasLesserTwin 8 = .ok (.getfield 93, 3) := by decide +kernel
theorem dX8_hasLesserTwin_11 : decode cX8_hasLesserTwin 11 = .ok (.iload_n 3, 1) := by decide +kernel
theorem dX8_hasLesserTwin_12 : decode cX8_hasLesserTwin 12 = .ok (.iaload, 1) := by decide +kernel
theorem dX8_hasLesserTwin_13 : decode cX8_hasLesserTwin 13 = .ok (.aload_n 1, 1) := by decide +kernel
theorem dX8_hasLesserTwin_14 : decode cX8_hasLesserTwin 14 = .ok (.getfield 93, 3) := by decide +kernel
theorem dX8_hasLesserTwin_17 : decode cX8_hasLesserTwin 17 = .ok (.iload_n 2, 1) := by decide +kernel
theorem dX8_hasLesserTwin_18 : decode cX8_hasLesserTwin 18 = .ok (.iaload, 1) := by decide +kernel
theorem dX8_hasLesserTwin_19 : decode cX8_hasLesserTwin 19 = .ok (.if_icmp .ne 19, 3) := by decide +kernel
theorem dX8_hasLesserTwin_22 : decode cX8_hasLesserTwin 22 = .ok (.aload_n 0, 1) := by decide +kernel
theorem dX8_hasLesserTwin_23 : decode cX8_hasLesserTwin 23 = .ok (.getfield 19, 3) := by decide +kernel
theorem dX8_hasLesserTwin_26 : decode cX8_hasLesserTwin 26 = .ok (.iload_n 2, 1) := by decide +kernel
theorem dX8_hasLesserTwin_27 : decode cX8_hasLesserTwin 27 = .ok (.bipush 12, 2) := by decide +kernel
theorem dX8_hasLesserTwin_29 : decode cX8_hasLesserTwin 29 = .ok (.imul, 1) := by decide +kernel
theorem dX8_hasLesserTwin_30 : decode cX8_hasLesserTwin 30 = .ok (.iload_n 3, 1) := by decide +kernel
theorem dX8_hasLesserTwin_31 : decode cX8_hasLesserTwin 31 = .ok (.iadd, 1) := by decide +kernel
theorem dX8_hasLesserTwin_32 : decode cX8_hasLesserTwin 32 = .ok (.baload, 1) := by decide +kernel
theorem dX8_hasLesserTwin_33 : decode cX8_hasLesserTwin 33 = .ok (.ifCond .eq 5, 3) := by decide +kernel
theorem dX8_hasLesserTwin_36 : decode cX8_hasLesserTwin 36 = .ok (.iconst 1, 1) := by decide +kernel
theorem dX8_hasLesserTwin_37 : decode cX8_hasLesserTwin 37 = .ok (.ireturn, 1) := by decide +kernel
theorem dX8_hasLesserTwin_38 : decode cX8_hasLesserTwin 38 = .ok (.iinc 3 1, 3) := by decide +kernel
theorem dX8_hasLesserTwin_41 : decode cX8_hasLesserTwin 41 = .ok (.goto (-39), 3) := by decide +kernel
theorem dX8_hasLesserTwin_44 : decode cX8_hasLesserTwin 44 = .ok (.iconst 0, 1) := by decide +kernel
theorem dX8_hasLesserTwin_45 : decode cX8_hasLesserTwin 45 = .ok (.ireturn, 1) := by decide +kernel
def PL_X8_hasLesserTwin_2 (d : Nat) (E : zb_E) (x0 : Int) (x1 : Int) (x2 : Int) (m : zb_M) (Q : Int → Prop)  (v3_2 : Int) : Prop :=
  ∀ X2 : Int → Prop, (∀ (v3_2 : Int), ((x2 ≤ v3_2 → Q 0) ∧ (¬ x2 ≤ v3_2 → (0 ≤ v3_2 ∧ v3_2 < 12) ∧ ((0 ≤ x2 ∧ x2 < 12) ∧ (((m (E.2 x1 2) v3_2) = (m (E.2 x1 2) x2) → (zb_inI (x2 * 12)) ∧ ((zb_inI ((x2 * 12) + v3_2)) ∧ ((0 ≤ ((x2 * 12) + v3_2) ∧ ((x2 * 12) + v3_2) < 144) ∧ (((m (E.2 x0 2) ((x2 * 12) + v3_2)) = 0 → (zb_inI (v3_2 + 1)) ∧ (X2 (v3_2 + 1))) ∧ (¬ (m (E.2 x0 2) ((x2 * 12) + v3_2)) = 0 → Q 1))))) ∧ (¬ (m (E.2 x1 2) v3_2) = (m (E.2 x1 2) x2) → (zb_inI (v3_2 + 1)) ∧ (X2 (v3_2 + 1))))))) → X2 v3_2) → X2 v3_2
def PM_X8_hasLesserTwin (d : Nat) (E : zb_E) (x0 : Int) (x1 : Int) (x2 : Int) (m : zb_M) (Q : Int → Prop) : Prop :=
  PL_X8_hasLesserTwin_2 d E x0 x1 x2 m Q 0
set_option maxRecDepth 100000 in
set_option maxHeartbeats 4000000 in
theorem w_X8_hasLesserTwin {d : Nat} {E : zb_E} {x0 x1 x2 : Int} {m : zb_M} {Q : Int → Prop} (h : PM_X8_hasLesserTwin d E x0 x1 x2 m Q) : zb_Tp K_X8_hasLesserTwin (d + 1) [(2, x0), (2, x1), (0, x2)] E m Q := by
  unfold PM_X8_hasLesserTwin at h
  refine zb_T_in gd_X8_hasLesserTwin rfl rfl (fun hW hA G C hF => ?_)
  have i_0 : zb_is E.1 x0 8 := zb_aH hA (by decide)
  have i_1 : zb_is E.1 x1 5 := zb_aH (zb_aT hA) (by decide)
  show zb_WP _ _ 0 [(0, (2, x0)), (1, (2, x1)), (2, (0, x2))] [] _ _ _ _
  refine zb_iconst dX8_hasLesserTwin_0 (zb_inIc rfl) ?_
  refine zb_istore_n (L' := [(3, (0, 0)), (0, (2, x0)), (1, (2, x1)), (2, (0, x2))]) dX8_hasLesserTwin_1 rfl (by decide) rfl ?_
  refine zb_sub (L' := [(0, (2, x0)), (1, (2, x1)), (2, (0, x2)), (3, (0, 0))]) [1, 2, 3, 0] rfl ?_
  unfold PL_X8_hasLesserTwin_2 at h
  obtain ⟨X2, hX2⟩ : ∃ X : Int → Prop, ∀ (v3_2 : Int), (X v3_2 ↔ (zb_FIN E m → zb_WP (G, C, d + 1, 0, 0, zb_q E (fun r m' => m' = m ∧ Q r)) F_X8_hasLesserTwin 2 [(0, (2, x0)), (1, (2, x1)), (2, (0, x2)), (3, (0, v3_2))] [] E.1 m 0 0)) := ⟨fun v3_2 => zb_FIN E m → zb_WP (G, C, d + 1, 0, 0, zb_q E (fun r m' => m' = m ∧ Q r)) F_X8_hasLesserTwin 2 [(0, (2, x0)), (1, (2, x1)), (2, (0, x2)), (3, (0, v3_2))] [] E.1 m 0 0, fun _ => Iff.rfl⟩
  refine (hX2 _).mp (h X2 (fun v3_2 h => (hX2 _).mpr (fun hF => ?_))) hF
  refine zb_iload_n (j := 3) dX8_hasLesserTwin_2 rfl rfl ?_
  refine zb_iload_n (j := 2) dX8_hasLesserTwin_3 rfl rfl ?_
  refine zb_icmp_ge (tgt := 44) dX8_hasLesserTwin_4 (by decide) (fun c1 => ?_) (fun c1 => ?_)
  · have h := h.1 c1
    refine zb_iconst dX8_hasLesserTwin_44 (zb_inIc rfl) ?_
    exact zb_rZ dX8_hasLesserTwin_45 rfl hF (by decide) ⟨rfl, h⟩
  · have h := h.2 c1
    refine zb_aload_n (j := 1) dX8_hasLesserTwin_7 rfl rfl ?_
    refine zb_gFa 2 dX8_hasLesserTwin_8 fl_X8_93 i_1 hW hF rfl rfl rfl (by decide) rfl 12 rfl (fun i2 l3 => ?_)
    refine zb_iload_n (j := 3) dX8_hasLesserTwin_11 rfl rfl ?_
    obtain ⟨o4, h⟩ := h
    refine zb_lI dX8_hasLesserTwin_12 i2 l3 o4.1 o4.2 ?_
    refine zb_aload_n (j := 1) dX8_hasLesserTwin_13 rfl rfl ?_
    refine zb_gFa 2 dX8_hasLesserTwin_14 fl_X8_93 i_1 hW hF rfl rfl rfl (by decide) rfl 12 rfl (fun i5 l6 => ?_)
    refine zb_iload_n (j := 2) dX8_hasLesserTwin_17 rfl rfl ?_
    obtain ⟨o7, h⟩ := h
    refine zb_lI dX8_hasLesserTwin_18 i5 l6 o7.1 o7.2 ?_
    refine zb_icmp_ne (tgt := 38) dX8_hasLesserTwin_19 (by decide) (fun c8 => ?_) (fun c8 => ?_)
    · have h := h.2 c8
      obtain ⟨o9, h⟩ := h
      refine zb_iinc (j := 3) (L' := [(3, (0, (v3_2 + 1))), (0, (2, x0)), (1, (2, x1)), (2, (0, x2))]) dX8_hasLesserTwin_38 rfl o9 (by decide) rfl ?_
      refine zb_goto (tgt := 2) dX8_hasLesserTwin_41 (by decide) ?_
      refine zb_sub (L' := [(0, (2, x0)), (1, (2, x1)), (2, (0, x2)), (3, (0, (v3_2 + 1)))]) [1, 2, 3, 0] rfl ?_
      exact (hX2 _).mp h hF
    · have h := h.1 c8
      refine zb_aload_n (j := 0) dX8_hasLesserTwin_22 rfl rfl ?_
      refine zb_gFa 2 dX8_hasLesserTwin_23 fl_X8_19 i_0 hW hF rfl rfl rfl (by decide) rfl 144 rfl (fun i10 l11 => ?_)
      refine zb_iload_n (j := 2) dX8_hasLesserTwin_26 rfl rfl ?_
      refine zb_bipush dX8_hasLesserTwin_27 (by decide) (zb_inIc rfl) ?_
      obtain ⟨o12, h⟩ := h
      refine zb_imul dX8_hasLesserTwin_29 o12 ?_
      refine zb_iload_n (j := 3) dX8_hasLesserTwin_30 rfl rfl ?_
      obtain ⟨o13, h⟩ := h
      refine zb_iadd dX8_hasLesserTwin_31 o13 ?_
      obtain ⟨o14, h⟩ := h
      refine zb_lZ dX8_hasLesserTwin_32 i10 l11 o14.1 o14.2 ?_
      refine zb_if_eq (tgt := 38) dX8_hasLesserTwin_33 (by decide) (fun c15 => ?_) (fun c15 => ?_)
      · have h := h.1 c15
        obtain ⟨o16, h⟩ := h
        refine zb_iinc (j := 3) (L' := [(3, (0, (v3_2 + 1))), (0, (2, x0)), (1, (2, x1)), (2, (0, x2))]) dX8_hasLesserTwin_38 rfl o16 (by decide) rfl ?_
        refine zb_goto (tgt := 2) dX8_hasLesserTwin_41 (by decide) ?_
        refine zb_sub (L' := [(0, (2, x0)), (1, (2, x1)), (2, (0, x2)), (3, (0, (v3_2 + 1)))]) [1, 2, 3, 0] rfl ?_
        exact (hX2 _).mp h hF
      · have h := h.2 c15
        refine zb_iconst dX8_hasLesserTwin_36 (zb_inIc rfl) ?_
        exact zb_rZ dX8_hasLesserTwin_37 rfl hF (by decide) ⟨rfl, h⟩
theorem dX8_addLeaf_0 : decode cX8_addLeaf 0 = .ok (.aload_n 0, 1) := by decide +kernel
theorem dX8_addLeaf_1 : decode cX8_addLeaf 1 = .ok (.getfield 35, 3) := by decide +kernel
theorem dX8_addLeaf_4 : decode cX8_addLeaf 4 = .ok (.dup, 1) := by decide +kernel
theorem dX8_addLeaf_5 : decode cX8_addLeaf 5 = .ok (.getfield 51, 3) := by decide +kernel
theorem dX8_addLeaf_8 : decode cX8_addLeaf 8 = .ok (.iconst 1, 1) := by decide +kernel
theorem dX8_addLeaf_9 : decode cX8_addLeaf 9 = .ok (.iadd, 1) := by decide +kernel
theorem dX8_addLeaf_10 : decode cX8_addLeaf 10 = .ok (.putfield 51, 3) := by decide +kernel
theorem dX8_addLeaf_13 : decode cX8_addLeaf 13 = .ok (.aload_n 0, 1) := by decide +kernel
theorem dX8_addLeaf_14 : decode cX8_addLeaf 14 = .ok (.aload_n 1, 1) := by decide +kernel
theorem dX8_addLeaf_15 : decode cX8_addLeaf 15 = .ok (.invokevirtual 110, 3) := by decide +kernel
theorem dX8_addLeaf_18 : decode cX8_addLeaf 18 = .ok (.aload_n 0, 1) := by decide +kernel
theorem dX8_addLeaf_19 : decode cX8_addLeaf 19 = .ok (.getfield 35, 3) := by decide +kernel
theorem dX8_addLeaf_22 : decode cX8_addLeaf 22 = .ok (.getfield 51, 3) := by decide +kernel
theorem dX8_addLeaf_25 : decode cX8_addLeaf 25 = .ok (.iconst 1, 1) := by decide +kernel
theorem dX8_addLeaf_26 : decode cX8_addLeaf 26 = .ok (.if_icmp .le 11, 3) := by decide +kernel
theorem dX8_addLeaf_29 : decode cX8_addLeaf 29 = .ok (.aload_n 0, 1) := by decide +kernel
theorem dX8_addLeaf_30 : decode cX8_addLeaf 30 = .ok (.invokevirtual 113, 3) := by decide +kernel
theorem dX8_addLeaf_33 : decode cX8_addLeaf 33 = .ok (.ifCond .ne 4, 3) := by decide +kernel
theorem dX8_addLeaf_36 : decode cX8_addLeaf 36 = .ok (.return_, 1) := by decide +kernel
theorem dX8_addLeaf_37 : decode cX8_addLeaf 37 = .ok (.aload_n 0, 1) := by decide +kernel
theorem dX8_addLeaf_38 : decode cX8_addLeaf 38 = .ok (.getfield 23, 3) := by decide +kernel
theorem dX8_addLeaf_41 : decode cX8_addLeaf 41 = .ok (.iconst 0, 1) := by decide +kernel
theorem dX8_addLeaf_42 : decode cX8_addLeaf 42 = .ok (.aload_n 0, 1) := by decide +kernel
theorem dX8_addLeaf_43 : decode cX8_addLeaf 43 = .ok (.getfield 35, 3) := by decide +kernel
theorem dX8_addLeaf_46 : decode cX8_addLeaf 46 = .ok (.getfield 116, 3) := by decide +kernel
theorem dX8_addLeaf_49 : decode cX8_addLeaf 49 = .ok (.iconst 0, 1) := by decide +kernel
theorem dX8_addLeaf_50 : decode cX8_addLeaf 50 = .ok (.aload_n 0, 1) := by decide +kernel
theorem dX8_addLeaf_51 : decode cX8_addLeaf 51 = .ok (.getfield 35, 3) := by decide +kernel
theorem dX8_addLeaf_54 : decode cX8_addLeaf 54 = .ok (.getfield 48, 3) := by decide +kernel
theorem dX8_addLeaf_57 : decode cX8_addLeaf 57 = .ok (.invokestatic 117, 3) := by decide +kernel
theorem dX8_addLeaf_60 : decode cX8_addLeaf 60 = .ok (.iconst 0, 1) := by decide +kernel
theorem dX8_addLeaf_61 : decode cX8_addLeaf 61 = .ok (.istore_n 2, 1) := by decide +kernel
theorem dX8_addLeaf_62 : decode cX8_addLeaf 62 = .ok (.iload_n 2, 1) := by decide +kernel
theorem dX8_addLeaf_63 : decode cX8_addLeaf 63 = .ok (.aload_n 1, 1) := by decide +kernel
theorem dX8_addLeaf_64 : decode cX8_addLeaf 64 = .ok (.getfield 92, 3) := by decide +kernel
theorem dX8_addLeaf_67 : decode cX8_addLeaf 67 = .ok (.if_icmp .ge 32, 3) := by decide +kernel
theorem dX8_addLeaf_70 : decode cX8_addLeaf 70 = .ok (.aload_n 0, 1) := by decide +kernel
theorem dX8_addLeaf_71 : decode cX8_addLeaf 71 = .ok (.getfield 35, 3) := by decide +kernel
theorem dX8_addLeaf_74 : decode cX8_addLeaf 74 = .ok (.getfield 123, 3) := by decide +kernel
theorem dX8_addLeaf_77 : decode cX8_addLeaf 77 = .ok (.iload_n 2, 1) := by decide +kernel
theorem dX8_addLeaf_78 : decode cX8_addLeaf 78 = .ok (.aload_n 0, 1) := by decide +kernel
theorem dX8_addLeaf_79 : decode cX8_addLeaf 79 = .ok (.getfield 31, 3) := by decide +kernel
theorem dX8_addLeaf_82 : decode cX8_addLeaf 82 = .ok (.getfield 126, 3) := by decide +kernel
theorem dX8_addLeaf_85 : decode cX8_addLeaf 85 = .ok (.aload_n 1, 1) := by decide +kernel
theorem dX8_addLeaf_86 : decode cX8_addLeaf 86 = .ok (.getfield 129, 3) := by decide +kernel
theorem dX8_addLeaf_89 : decode cX8_addLeaf 89 = .ok (.iload_n 2, 1) := by decide +kernel
theorem dX8_addLeaf_90 : decode cX8_addLeaf 90 = .ok (.iaload, 1) := by decide +kernel
theorem dX8_addLeaf_91 : decode cX8_addLeaf 91 = .ok (.iaload, 1) := by decide +kernel
theorem dX8_addLeaf_92 : decode cX8_addLeaf 92 = .ok (.iastore, 1) := by decide +kernel
theorem dX8_addLeaf_93 : decode cX8_addLeaf 93 = .ok (.iinc 2 1, 3) := by decide +kernel
theorem dX8_addLeaf_96 : decode cX8_addLeaf 96 = .ok (.goto (-34), 3) := by decide +kernel
theorem dX8_addLeaf_99 : decode cX8_addLeaf 99 = .ok (.return_, 1) := by decide +kernel
def PL_X8_addLeaf_62 (d : Nat) (E : zb_E) (x0 : Int) (x1 : Int) (Q : Int → zb_M → Prop)  (v2_62 : Int) (m62l : zb_M) : Prop :=
  ∀ X62 : Int → zb_M → Prop, (∀ (v2_62 : Int) (m62l : zb_M), (((m62l x1 0) ≤ v2_62 → Q 0 m62l) ∧ (¬ (m62l x1 0) ≤ v2_62 → (zb_is E.1 (m62l x0 5) 3) ∧ ((zb_is E.1 (m62l x0 4) 6) ∧ ((0 ≤ v2_62 ∧ v2_62 < 12) ∧ ((0 ≤ (m62l (E.2 x1 4) v2_62) ∧ (m62l (E.2 x1 4) v2_62) < 12) ∧ (∀ m92, m92 = zb_up m62l (E.2 (m62l x0 5) 6) v2_62 (m62l (E.2 (m62l x0 4) 1) (m62l (E.2 x1 4) v2_62)) → ((zb_inI (v2_62 + 1)) ∧ (X62 (v2_62 + 1) m92)))))))) → X62 v2_62 m62l) → X62 v2_62 m62l
def PJ_X8_addLeaf_37 (d : Nat) (E : zb_E) (x0 : Int) (x1 : Int) (m15 : zb_M) (Q : Int → zb_M → Prop)  : Prop :=
  (zb_cpo 0 0 (m15 (m15 x0 5) 2) 157 157) ∧ (∀ m57, m57 = zb_cp m15 (E.2 x0 3) 0 (E.2 (m15 x0 5) 5) 0 (m15 (m15 x0 5) 2) → (PL_X8_addLeaf_62 d E x0 x1 Q 0 m57))
def PM_X8_addLeaf (d : Nat) (E : zb_E) (x0 : Int) (x1 : Int) (m : zb_M) (Q : Int → zb_M → Prop) : Prop :=
  (zb_is E.1 (m x0 5) 3) ∧ ((zb_inI ((m (m x0 5) 3) + 1)) ∧ (∀ m10, m10 = zb_up m (m x0 5) 3 ((m (m x0 5) 3) + 1) → (zb_T K_X8_writeRow d [(2, x0), (2, x1)] E m10 (fun r15 m15 => (zb_is E.1 (m15 x0 5) 3) ∧ (((m15 (m15 x0 5) 3) ≤ 1 → PJ_X8_addLeaf_37 d E x0 x1 m15 Q) ∧ (¬ (m15 (m15 x0 5) 3) ≤ 1 → zb_Tp K_X8_isRowLess d [(2, x0)] E m15 (fun r30 => (r30 = 0 → Q 0 m15) ∧ (¬ r30 = 0 → PJ_X8_addLeaf_37 d E x0 x1 m15 Q))))))))
set_option maxRecDepth 100000 in
set_option maxHeartbeats 4000000 in
theorem w_X8_addLeaf {d : Nat} {E : zb_E} {x0 x1 : Int} {m : zb_M} {Q : Int → zb_M → Prop} (h : PM_X8_addLeaf d E x0 x1 m Q) : zb_T K_X8_addLeaf (d + 1) [(2, x0), (2, x1)] E m Q := by
  unfold PM_X8_addLeaf at h
  refine zb_T_in gd_X8_addLeaf rfl rfl (fun hW hA G C hF => ?_)
  have i_0 : zb_is E.1 x0 8 := zb_aH hA (by decide)
  have i_1 : zb_is E.1 x1 5 := zb_aH (zb_aT hA) (by decide)
  show zb_WP _ _ 0 [(0, (2, x0)), (1, (2, x1))] [] _ _ _ _
  refine zb_aload_n (j := 0) dX8_addLeaf_0 rfl rfl ?_
  obtain ⟨o1, h⟩ := h
  refine zb_gD 5 dX8_addLeaf_1 fl_X8_35 i_0 rfl rfl o1 ?_
  refine zb_dup dX8_addLeaf_4 rfl ?_
  refine zb_gI 3 dX8_addLeaf_5 fl_X8_51 o1 rfl rfl ?_
  refine zb_iconst dX8_addLeaf_8 (zb_inIc rfl) ?_
  obtain ⟨o2, h⟩ := h
  refine zb_iadd dX8_addLeaf_9 o2 ?_
  refine zb_pF 3 dX8_addLeaf_10 fl_X8_51 rfl rfl o1 (Or.inl rfl) hF rfl rfl (fun m10 e10 hF => ?_)
  have h := h m10 e10
  refine zb_aload_n (j := 0) dX8_addLeaf_13 rfl rfl ?_
  refine zb_aload_n (j := 1) dX8_addLeaf_14 rfl rfl ?_
  refine zb_cV (As := [(2, x1)]) (As' := [(2, x1)]) (st := []) dX8_addLeaf_15 lk_X8_110 gd_X8_writeRow rfl rfl i_0 ⟨_, rfl, rfl⟩ h hW hF (zb_aR i_0 (zb_aR i_1 zb_a0)) (Nat.le_refl _) (Nat.le_of_ble_eq_true rfl) (fun r15 m15 hF h => ?_)
  show zb_WP _ _ _ _ [] _ _ _ _
  refine zb_aload_n (j := 0) dX8_addLeaf_18 rfl rfl ?_
  obtain ⟨o3, h⟩ := h
  refine zb_gD 5 dX8_addLeaf_19 fl_X8_35 i_0 rfl rfl o3 ?_
  refine zb_gI 3 dX8_addLeaf_22 fl_X8_51 o3 rfl rfl ?_
  refine zb_iconst dX8_addLeaf_25 (zb_inIc rfl) ?_
  have hJ37 : zb_FIN E m15 → PJ_X8_addLeaf_37 d E x0 x1 m15 Q  → zb_WP (G, C, d + 1, 0, 0, zb_q E Q) F_X8_addLeaf 37 [(0, (2, x0)), (1, (2, x1))] [] E.1 m15 0 0 := by
    intro  hF h
    unfold PJ_X8_addLeaf_37 at h
    refine zb_aload_n (j := 0) dX8_addLeaf_37 rfl rfl ?_
    refine zb_gFa 3 dX8_addLeaf_38 fl_X8_23 i_0 hW hF rfl rfl rfl (by decide) rfl 157 rfl (fun i4 l5 => ?_)
    refine zb_iconst dX8_addLeaf_41 (zb_inIc rfl) ?_
    refine zb_aload_n (j := 0) dX8_addLeaf_42 rfl rfl ?_
    refine zb_gD 5 dX8_addLeaf_43 fl_X8_35 i_0 rfl rfl o3 ?_
    refine zb_gFa 5 dX8_addLeaf_46 fl_X8_116 o3 hW hF rfl rfl rfl (by decide) rfl 157 rfl (fun i6 l7 => ?_)
    refine zb_iconst dX8_addLeaf_49 (zb_inIc rfl) ?_
    refine zb_aload_n (j := 0) dX8_addLeaf_50 rfl rfl ?_
    refine zb_gD 5 dX8_addLeaf_51 fl_X8_35 i_0 rfl rfl o3 ?_
    refine zb_gI 2 dX8_addLeaf_54 fl_X8_48 o3 rfl rfl ?_
    obtain ⟨o8, h⟩ := h
    refine zb_cpI dX8_addLeaf_57 lk_X8_117 i4 i6 l5 l7 o8 (Nat.succ_le_succ (Nat.zero_le _)) (Nat.le_of_ble_eq_true rfl) hF (fun m57 e57 hF => ?_)
    have h := h m57 e57
    refine zb_iconst dX8_addLeaf_60 (zb_inIc rfl) ?_
    refine zb_istore_n (L' := [(2, (0, 0)), (0, (2, x0)), (1, (2, x1))]) dX8_addLeaf_61 rfl (by decide) rfl ?_
    refine zb_sub (L' := [(0, (2, x0)), (1, (2, x1)), (2, (0, 0))]) [1, 2, 0] rfl ?_
    unfold PL_X8_addLeaf_62 at h
    obtain ⟨X62, hX62⟩ : ∃ X : Int → zb_M → Prop, ∀ (v2_62 : Int) (m62l : zb_M), (X v2_62 m62l ↔ (zb_FIN E m62l → zb_WP (G, C, d + 1, 0, 0, zb_q E Q) F_X8_addLeaf 62 [(0, (2, x0)), (1, (2, x1)), (2, (0, v2_62))] [] E.1 m62l 0 0)) := ⟨fun v2_62 m62l => zb_FIN E m62l → zb_WP (G, C, d + 1, 0, 0, zb_q E Q) F_X8_addLeaf 62 [(0, (2, x0)), (1, (2, x1)), (2, (0, v2_62))] [] E.1 m62l 0 0, fun _ _ => Iff.rfl⟩
    refine (hX62 _ _).mp (h X62 (fun v2_62 m62l h => (hX62 _ _).mpr (fun hF => ?_))) hF
    refine zb_iload_n (j := 2) dX8_addLeaf_62 rfl rfl ?_
    refine zb_aload_n (j := 1) dX8_addLeaf_63 rfl rfl ?_
    refine zb_gI 0 dX8_addLeaf_64 fl_X8_92 i_1 rfl rfl ?_
    refine zb_icmp_ge (tgt := 99) dX8_addLeaf_67 (by decide) (fun c9 => ?_) (fun c9 => ?_)
    · have h := h.1 c9
      exact zb_rV dX8_addLeaf_99 rfl hF h
    · have h := h.2 c9
      refine zb_aload_n (j := 0) dX8_addLeaf_70 rfl rfl ?_
      obtain ⟨o10, h⟩ := h
      refine zb_gD 5 dX8_addLeaf_71 fl_X8_35 i_0 rfl rfl o10 ?_
      refine zb_gFa 6 dX8_addLeaf_74 fl_X8_123 o10 hW hF rfl rfl rfl (by decide) rfl 12 rfl (fun i11 l12 => ?_)
      refine zb_iload_n (j := 2) dX8_addLeaf_77 rfl rfl ?_
      refine zb_aload_n (j := 0) dX8_addLeaf_78 rfl rfl ?_
      obtain ⟨o13, h⟩ := h
      refine zb_gD 4 dX8_addLeaf_79 fl_X8_31 i_0 rfl rfl o13 ?_
      refine zb_gFa 1 dX8_addLeaf_82 fl_X8_126 o13 hW hF rfl rfl rfl (by decide) rfl 12 rfl (fun i14 l15 => ?_)
      refine zb_aload_n (j := 1) dX8_addLeaf_85 rfl rfl ?_
      refine zb_gFa 4 dX8_addLeaf_86 fl_X8_129 i_1 hW hF rfl rfl rfl (by decide) rfl 12 rfl (fun i16 l17 => ?_)
      refine zb_iload_n (j := 2) dX8_addLeaf_89 rfl rfl ?_
      obtain ⟨o18, h⟩ := h
      refine zb_lI dX8_addLeaf_90 i16 l17 o18.1 o18.2 ?_
      obtain ⟨o19, h⟩ := h
      refine zb_lI dX8_addLeaf_91 i14 l15 o19.1 o19.2 ?_
      refine zb_sI dX8_addLeaf_92 i11 l12 o18.1 o18.2 hF (fun m92 e92 hF => ?_)
      have h := h m92 e92
      obtain ⟨o20, h⟩ := h
      refine zb_iinc (j := 2) (L' := [(2, (0, (v2_62 + 1))), (0, (2, x0)), (1, (2, x1))]) dX8_addLeaf_93 rfl o20 (by decide) rfl ?_
      refine zb_goto (tgt := 62) dX8_addLeaf_96 (by decide) ?_
      refine zb_sub (L' := [(0, (2, x0)), (1, (2, x1)), (2, (0, (v2_62 + 1)))]) [1, 2, 0] rfl ?_
      exact (hX62 _ _).mp h hF
  refine zb_icmp_le (tgt := 37) dX8_addLeaf_26 (by decide) (fun c21 => ?_) (fun c21 => ?_)
  · have h := h.1 c21
    exact hJ37 hF h
  · have h := h.2 c21
    refine zb_aload_n (j := 0) dX8_addLeaf_29 rfl rfl ?_
    refine zb_cVp (As := []) (As' := []) (st := []) dX8_addLeaf_30 lk_X8_113 gd_X8_isRowLess rfl rfl i_0 ⟨_, rfl, rfl⟩ h hW hF (zb_aR i_0 zb_a0) (Nat.le_refl _) (Nat.le_of_ble_eq_true rfl) (fun r30 h => ?_)
    show zb_WP _ _ _ _ [(0, r30)] _ _ _ _
    refine zb_if_ne (tgt := 37) dX8_addLeaf_33 (by decide) (fun c22 => ?_) (fun c22 => ?_)
    · have h := h.2 c22
      exact hJ37 hF h
    · have h := h.1 c22
      exact zb_rV dX8_addLeaf_36 rfl hF h
theorem dX8_writeRow_0 : decode cX8_writeRow 0 = .ok (.aload_n 1, 1) := by decide +kernel
theorem dX8_writeRow_1 : decode cX8_writeRow 1 = .ok (.getfield 92, 3) := by decide +kernel
theorem dX8_writeRow_4 : decode cX8_writeRow 4 = .ok (.istore_n 2, 1) := by decide +kernel
theorem dX8_writeRow_5 : decode cX8_writeRow 5 = .ok (.aload_n 0, 1) := by decide +kernel
theorem dX8_writeRow_6 : decode cX8_writeRow 6 = .ok (.getfield 23, 3) := by decide +kernel
theorem dX8_writeRow_9 : decode cX8_writeRow 9 = .ok (.iconst 0, 1) := by decide +kernel
theorem dX8_writeRow_10 : decode cX8_writeRow 10 = .ok (.iload_n 2, 1) := by decide +kernel
theorem dX8_writeRow_11 : decode cX8_writeRow 11 = .ok (.iastore, 1) := by decide +kernel
theorem dX8_writeRow_12 : decode cX8_writeRow 12 = .ok (.iconst 0, 1) := by decide +kernel
theorem dX8_writeRow_13 : decode cX8_writeRow 13 = .ok (.istore_n 3, 1) := by decide +kernel
theorem dX8_writeRow_14 : decode cX8_writeRow 14 = .ok (.iload_n 3, 1) := by decide +kernel
theorem dX8_writeRow_15 : decode cX8_writeRow 15 = .ok (.iload_n 2, 1) := by decide +kernel
theorem dX8_writeRow_16 : decode cX8_writeRow 16 = .ok (.if_icmp .ge 81, 3) := by decide +kernel
theorem dX8_writeRow_19 : decode cX8_writeRow 19 = .ok (.aload_n 1, 1) := by decide +kernel
theorem dX8_writeRow_20 : decode cX8_writeRow 20 = .ok (.getfield 129, 3) := by decide +kernel
theorem dX8_writeRow_23 : decode cX8_writeRow 23 = .ok (.iload_n 3, 1) := by decide +kernel
theorem dX8_writeRow_24 : decode cX8_writeRow 24 = .ok (.iaload, 1) := by decide +kernel
theorem dX8_writeRow_25 : decode cX8_writeRow 25 = .ok (.istore 4, 2) := by decide +kernel
theorem dX8_writeRow_27 : decode cX8_writeRow 27 = .ok (.aload_n 0, 1) := by decide +kernel
theorem dX8_writeRow_28 : decode cX8_writeRow 28 = .ok (.getfield 23, 3) := by decide +kernel
theorem dX8_writeRow_31 : decode cX8_writeRow 31 = .ok (.iconst 1, 1) := by decide +kernel
theorem dX8_writeRow_32 : decode cX8_writeRow 32 = .ok (.iload_n 3, 1) := by decide +kernel
theorem dX8_writeRow_33 : decode cX8_writeRow 33 = .ok (.iadd, 1) := by decide +kernel
theorem dX8_writeRow_34 : decode cX8_writeRow 34 = .ok (.aload_n 0, 1) := by decide +kernel
theorem dX8_writeRow_35 : decode cX8_writeRow 35 = .ok (.getfield 31, 3) := by decide +kernel
theorem dX8_writeRow_38 : decode cX8_writeRow 38 = .ok (.getfield 130, 3) := by decide +kernel
theorem dX8_writeRow_41 : decode cX8_writeRow 41 = .ok (.iload 4, 2) := by decide +kernel
theorem dX8_writeRow_43 : decode cX8_writeRow 43 = .ok (.iaload, 1) := by decide +kernel
theorem dX8_writeRow_44 : decode cX8_writeRow 44 = .ok (.iastore, 1) := by decide +kernel
theorem dX8_writeRow_45 : decode cX8_writeRow 45 = .ok (.iconst 0, 1) := by decide +kernel
theorem dX8_writeRow_46 : decode cX8_writeRow 46 = .ok (.istore 5, 2) := by decide +kernel
theorem dX8_writeRow_48 : decode cX8_writeRow 48 = .ok (.iload 5, 2) := by decide +kernel
theorem dX8_writeRow_50 : decode cX8_writeRow 50 = .ok (.iload_n 2, 1) := by decide +kernel
theorem dX8_writeRow_51 : decode cX8_writeRow 51 = .ok (.if_icmp .ge 40, 3) := by decide +kernel
theorem dX8_writeRow_54 : decode cX8_writeRow 54 = .ok (.aload_n 0, 1) := by decide +kernel
theorem dX8_writeRow_55 : decode cX8_writeRow 55 = .ok (.getfield 23, 3) := by decide +kernel
theorem dX8_writeRow_58 : decode cX8_writeRow 58 = .ok (.iconst 1, 1) := by decide +kernel
theorem dX8_writeRow_59 : decode cX8_writeRow 59 = .ok (.iload_n 2, 1) := by decide +kernel
theorem dX8_writeRow_60 : decode cX8_writeRow 60 = .ok (.iadd, 1) := by decide +kernel
theorem dX8_writeRow_61 : decode cX8_writeRow 61 = .ok (.iload_n 3, 1) := by decide +kernel
theorem dX8_writeRow_62 : decode cX8_writeRow 62 = .ok (.iload_n 2, 1) := by decide +kernel
theorem dX8_writeRow_63 : decode cX8_writeRow 63 = .ok (.imul, 1) := by decide +kernel
theorem dX8_writeRow_64 : decode cX8_writeRow 64 = .ok (.iadd, 1) := by decide +kernel
theorem dX8_writeRow_65 : decode cX8_writeRow 65 = .ok (.iload 5, 2) := by decide +kernel
theorem dX8_writeRow_67 : decode cX8_writeRow 67 = .ok (.iadd, 1) := by decide +kernel
theorem dX8_writeRow_68 : decode cX8_writeRow 68 = .ok (.aload_n 0, 1) := by decide +kernel
theorem dX8_writeRow_69 : decode cX8_writeRow 69 = .ok (.getfield 31, 3) := by decide +kernel
theorem dX8_writeRow_72 : decode cX8_writeRow 72 = .ok (.iload 4, 2) := by decide +kernel
theorem dX8_writeRow_74 : decode cX8_writeRow 74 = .ok (.aload_n 1, 1) := by decide +kernel
theorem dX8_writeRow_75 : decode cX8_writeRow 75 = .ok (.getfield 129, 3) := by decide +kernel
theorem dX8_writeRow_78 : decode cX8_writeRow 78 = .ok (.iload 5, 2) := by decide +kernel
theorem dX8_writeRow_80 : decode cX8_writeRow 80 = .ok (.iaload, 1) := by decide +kernel
theorem dX8_writeRow_81 : decode cX8_writeRow 81 = .ok (.invokevirtual 133, 3) := by decide +kernel
theorem dX8_writeRow_84 : decode cX8_writeRow 84 = .ok (.iastore, 1) := by decide +kernel
theorem dX8_writeRow_85 : decode cX8_writeRow 85 = .ok (.iinc 5 1, 3) := by decide +kernel
theorem dX8_writeRow_88 : decode cX8_writeRow 88 = .ok (.goto (-40), 3) := by decide +kernel
theorem dX8_writeRow_91 : decode cX8_writeRow 91 = .ok (.iinc 3 1, 3) := by decide +kernel
theorem dX8_writeRow_94 : decode cX8_writeRow 94 = .ok (.goto (-80), 3) := by decide +kernel
theorem dX8_writeRow_97 : decode cX8_writeRow 97 = .ok (.return_, 1) := by decide +kernel
def PJ_X8_writeRow_91 (d : Nat) (E : zb_E) (v3_14 : Int) (X14 : Int → zb_M → Prop) (Q : Int → zb_M → Prop) (m91j : zb_M) : Prop :=
  (zb_inI (v3_14 + 1)) ∧ (X14 (v3_14 + 1) m91j)
def PL_X8_writeRow_48 (d : Nat) (E : zb_E) (x0 : Int) (x1 : Int) (m : zb_M) (v3_14 : Int) (m14l : zb_M) (Q : Int → zb_M → Prop) (K91_48 : zb_M → Prop) (v5_48 : Int) (m48l : zb_M) : Prop :=
  ∀ X48 : Int → zb_M → Prop, (∀ (v5_48 : Int) (m48l : zb_M), (((m x1 0) ≤ v5_48 → K91_48 m48l) ∧ (¬ (m x1 0) ≤ v5_48 → (zb_inI (1 + (m x1 0))) ∧ ((zb_inI (v3_14 * (m x1 0))) ∧ ((zb_inI ((1 + (m x1 0)) + (v3_14 * (m x1 0)))) ∧ ((zb_inI (((1 + (m x1 0)) + (v3_14 * (m x1 0))) + v5_48)) ∧ ((zb_is E.1 (m48l x0 4) 6) ∧ ((0 ≤ v5_48 ∧ v5_48 < 12) ∧ (zb_Tp K_X6_lineFrom d [(2, (m48l x0 4)), (0, (m14l (E.2 x1 4) v3_14)), (0, (m48l (E.2 x1 4) v5_48))] E m48l (fun r81 => (0 ≤ (((1 + (m x1 0)) + (v3_14 * (m x1 0))) + v5_48) ∧ (((1 + (m x1 0)) + (v3_14 * (m x1 0))) + v5_48) < 157) ∧ (∀ m84, m84 = zb_up m48l (E.2 x0 3) (((1 + (m x1 0)) + (v3_14 * (m x1 0))) + v5_48) r81 → ((zb_inI (v5_48 + 1)) ∧ (X48 (v5_48 + 1) m84)))))))))))) → X48 v5_48 m48l) → X48 v5_48 m48l
def PL_X8_writeRow_14 (d : Nat) (E : zb_E) (x0 : Int) (x1 : Int) (m : zb_M) (Q : Int → zb_M → Prop)  (v3_14 : Int) (m14l : zb_M) : Prop :=
  ∀ X14 : Int → zb_M → Prop, (∀ (v3_14 : Int) (m14l : zb_M), (((m x1 0) ≤ v3_14 → Q 0 m14l) ∧ (¬ (m x1 0) ≤ v3_14 → (0 ≤ v3_14 ∧ v3_14 < 12) ∧ ((zb_inI (1 + v3_14)) ∧ ((zb_is E.1 (m14l x0 4) 6) ∧ ((0 ≤ (m14l (E.2 x1 4) v3_14) ∧ (m14l (E.2 x1 4) v3_14) < 12) ∧ ((0 ≤ (1 + v3_14) ∧ (1 + v3_14) < 157) ∧ (∀ m44, m44 = zb_up m14l (E.2 x0 3) (1 + v3_14) (m14l (E.2 (m14l x0 4) 3) (m14l (E.2 x1 4) v3_14)) → (PL_X8_writeRow_48 d E x0 x1 m v3_14 m14l Q (PJ_X8_writeRow_91 d E v3_14 X14 Q) 0 m44)))))))) → X14 v3_14 m14l) → X14 v3_14 m14l
def PM_X8_writeRow (d : Nat) (E : zb_E) (x0 : Int) (x1 : Int) (m : zb_M) (Q : Int → zb_M → Prop) : Prop :=
  ∀ m11, m11 = zb_up m (E.2 x0 3) 0 (m x1 0) → (PL_X8_writeRow_14 d E x0 x1 m Q 0 m11)
set_option maxRecDepth 100000 in
set_option maxHeartbeats 4000000 in
theorem w_X8_writeRow {d : Nat} {E : zb_E} {x0 x1 : Int} {m : zb_M} {Q : Int → zb_M → Prop} (h : PM_X8_writeRow d E x0 x1 m Q) : zb_T K_X8_writeRow (d + 1) [(2, x0), (2, x1)] E m Q := by
  unfold PM_X8_writeRow at h
  refine zb_T_in gd_X8_writeRow rfl rfl (fun hW hA G C hF => ?_)
  have i_0 : zb_is E.1 x0 8 := zb_aH hA (by decide)
  have i_1 : zb_is E.1 x1 5 := zb_aH (zb_aT hA) (by decide)
  show zb_WP _ _ 0 [(0, (2, x0)), (1, (2, x1))] [] _ _ _ _
  refine zb_aload_n (j := 1) dX8_writeRow_0 rfl rfl ?_
  refine zb_gI 0 dX8_writeRow_1 fl_X8_92 i_1 rfl rfl ?_
  refine zb_istore_n (L' := [(2, (0, (m x1 0))), (0, (2, x0)), (1, (2, x1))]) dX8_writeRow_4 rfl (by decide) rfl ?_
  refine zb_aload_n (j := 1) dX8_writeRow_5 rfl rfl ?_
  refine zb_gFa 3 dX8_writeRow_6 fl_X8_23 i_0 hW hF rfl rfl rfl (by decide) rfl 157 rfl (fun i1 l2 => ?_)
  refine zb_iconst dX8_writeRow_9 (zb_inIc rfl) ?_
  refine zb_iload_n (j := 0) dX8_writeRow_10 rfl rfl ?_
  refine zb_sI dX8_writeRow_11 i1 l2 (by decide) (by decide) hF (fun m11 e11 hF => ?_)
  have h := h m11 e11
  refine zb_iconst dX8_writeRow_12 (zb_inIc rfl) ?_
  refine zb_istore_n (L' := [(3, (0, 0)), (2, (0, (m x1 0))), (0, (2, x0)), (1, (2, x1))]) dX8_writeRow_13 rfl (by decide) rfl ?_
  refine zb_sub (L' := [(0, (2, x0)), (1, (2, x1)), (2, (0, (m x1 0))), (3, (0, 0))]) [2, 3, 1, 0] rfl ?_
  unfold PL_X8_writeRow_14 at h
  obtain ⟨X14, hX14⟩ : ∃ X : Int → zb_M → Prop, ∀ (v3_14 : Int) (m14l : zb_M), (X v3_14 m14l ↔ (zb_FIN E m14l → zb_WP (G, C, d + 1, 0, 0, zb_q E Q) F_X8_writeRow 14 [(0, (2, x0)), (1, (2, x1)), (2, (0, (m x1 0))), (3, (0, v3_14))] [] E.1 m14l 0 0)) := ⟨fun v3_14 m14l => zb_FIN E m14l → zb_WP (G, C, d + 1, 0, 0, zb_q E Q) F_X8_writeRow 14 [(0, (2, x0)), (1, (2, x1)), (2, (0, (m x1 0))), (3, (0, v3_14))] [] E.1 m14l 0 0, fun _ _ => Iff.rfl⟩
  refine (hX14 _ _).mp (h X14 (fun v3_14 m14l h => (hX14 _ _).mpr (fun hF => ?_))) hF
  refine zb_iload_n (j := 3) dX8_writeRow_14 rfl rfl ?_
  refine zb_iload_n (j := 2) dX8_writeRow_15 rfl rfl ?_
  refine zb_icmp_ge (tgt := 97) dX8_writeRow_16 (by decide) (fun c3 => ?_) (fun c3 => ?_)
  · have h := h.1 c3
    exact zb_rV dX8_writeRow_97 rfl hF h
  · have h := h.2 c3
    refine zb_aload_n (j := 1) dX8_writeRow_19 rfl rfl ?_
    refine zb_gFa 4 dX8_writeRow_20 fl_X8_129 i_1 hW hF rfl rfl rfl (by decide) rfl 12 rfl (fun i4 l5 => ?_)
    refine zb_iload_n (j := 3) dX8_writeRow_23 rfl rfl ?_
    obtain ⟨o6, h⟩ := h
    refine zb_lI dX8_writeRow_24 i4 l5 o6.1 o6.2 ?_
    refine zb_istore (L' := [(4, (0, (m14l (E.2 x1 4) v3_14))), (0, (2, x0)), (1, (2, x1)), (2, (0, (m x1 0))), (3, (0, v3_14))]) dX8_writeRow_25 (by decide) rfl ?_
    refine zb_aload_n (j := 1) dX8_writeRow_27 rfl rfl ?_
    refine zb_gFa 3 dX8_writeRow_28 fl_X8_23 i_0 hW hF rfl rfl rfl (by decide) rfl 157 rfl (fun i7 l8 => ?_)
    refine zb_iconst dX8_writeRow_31 (zb_inIc rfl) ?_
    refine zb_iload_n (j := 4) dX8_writeRow_32 rfl rfl ?_
    obtain ⟨o9, h⟩ := h
    refine zb_iadd dX8_writeRow_33 o9 ?_
    refine zb_aload_n (j := 1) dX8_writeRow_34 rfl rfl ?_
    obtain ⟨o10, h⟩ := h
    refine zb_gD 4 dX8_writeRow_35 fl_X8_31 i_0 rfl rfl o10 ?_
    refine zb_gFa 3 dX8_writeRow_38 fl_X8_130 o10 hW hF rfl rfl rfl (by decide) rfl 12 rfl (fun i11 l12 => ?_)
    refine zb_iload (j := 0) dX8_writeRow_41 rfl ?_
    obtain ⟨o13, h⟩ := h
    refine zb_lI dX8_writeRow_43 i11 l12 o13.1 o13.2 ?_
    obtain ⟨o14, h⟩ := h
    refine zb_sI dX8_writeRow_44 i7 l8 o14.1 o14.2 hF (fun m44 e44 hF => ?_)
    have h := h m44 e44
    refine zb_iconst dX8_writeRow_45 (zb_inIc rfl) ?_
    refine zb_istore (L' := [(5, (0, 0)), (4, (0, (m14l (E.2 x1 4) v3_14))), (0, (2, x0)), (1, (2, x1)), (2, (0, (m x1 0))), (3, (0, v3_14))]) dX8_writeRow_46 (by decide) rfl ?_
    refine zb_sub (L' := [(0, (2, x0)), (1, (2, x1)), (2, (0, (m x1 0))), (3, (0, v3_14)), (4, (0, (m14l (E.2 x1 4) v3_14))), (5, (0, 0))]) [2, 3, 4, 5, 1, 0] rfl ?_
    have hJ91 : ∀ (m91j : zb_M), zb_FIN E m91j → PJ_X8_writeRow_91 d E v3_14 X14 Q m91j → zb_WP (G, C, d + 1, 0, 0, zb_q E Q) F_X8_writeRow 91 [(0, (2, x0)), (1, (2, x1)), (2, (0, (m x1 0))), (3, (0, v3_14))] [] E.1 m91j 0 0 := by
      intro m91j hF h
      unfold PJ_X8_writeRow_91 at h
      obtain ⟨o15, h⟩ := h
      refine zb_iinc (j := 3) (L' := [(3, (0, (v3_14 + 1))), (0, (2, x0)), (1, (2, x1)), (2, (0, (m x1 0)))]) dX8_writeRow_91 rfl o15 (by decide) rfl ?_
      refine zb_goto (tgt := 14) dX8_writeRow_94 (by decide) ?_
      refine zb_sub (L' := [(0, (2, x0)), (1, (2, x1)), (2, (0, (m x1 0))), (3, (0, (v3_14 + 1)))]) [1, 2, 3, 0] rfl ?_
      exact (hX14 _ _).mp h hF
    unfold PL_X8_writeRow_48 at h
    obtain ⟨X48, hX48⟩ : ∃ X : Int → zb_M → Prop, ∀ (v5_48 : Int) (m48l : zb_M), (X v5_48 m48l ↔ (zb_FIN E m48l → zb_WP (G, C, d + 1, 0, 0, zb_q E Q) F_X8_writeRow 48 [(0, (2, x0)), (1, (2, x1)), (2, (0, (m x1 0))), (3, (0, v3_14)), (4, (0, (m14l (E.2 x1 4) v3_14))), (5, (0, v5_48))] [] E.1 m48l 0 0)) := ⟨fun v5_48 m48l => zb_FIN E m48l → zb_WP (G, C, d + 1, 0, 0, zb_q E Q) F_X8_writeRow 48 [(0, (2, x0)), (1, (2, x1)), (2, (0, (m x1 0))), (3, (0, v3_14)), (4, (0, (m14l (E.2 x1 4) v3_14))), (5, (0, v5_48))] [] E.1 m48l 0 0, fun _ _ => Iff.rfl⟩
    refine (hX48 _ _).mp (h X48 (fun v5_48 m48l h => (hX48 _ _).mpr (fun hF => ?_))) hF
    refine zb_iload (j := 5) dX8_writeRow_48 rfl ?_
    refine zb_iload_n (j := 2) dX8_writeRow_50 rfl rfl ?_
    refine zb_icmp_ge (tgt := 91) dX8_writeRow_51 (by decide) (fun c16 => ?_) (fun c16 => ?_)
    · have h := h.1 c16
      refine zb_sub (L' := [(0, (2, x0)), (1, (2, x1)), (2, (0, (m x1 0))), (3, (0, v3_14))]) [0, 1, 2, 3] rfl ?_
      exact hJ91 _ hF h
    · have h := h.2 c16
      refine zb_aload_n (j := 0) dX8_writeRow_54 rfl rfl ?_
      refine zb_gFa 3 dX8_writeRow_55 fl_X8_23 i_0 hW hF rfl rfl rfl (by decide) rfl 157 rfl (fun i17 l18 => ?_)
      refine zb_iconst dX8_writeRow_58 (zb_inIc rfl) ?_
      refine zb_iload_n (j := 2) dX8_writeRow_59 rfl rfl ?_
      obtain ⟨o19, h⟩ := h
      refine zb_iadd dX8_writeRow_60 o19 ?_
      refine zb_iload_n (j := 3) dX8_writeRow_61 rfl rfl ?_
      refine zb_iload_n (j := 2) dX8_writeRow_62 rfl rfl ?_
      obtain ⟨o20, h⟩ := h
      refine zb_imul dX8_writeRow_63 o20 ?_
      obtain ⟨o21, h⟩ := h
      refine zb_iadd dX8_writeRow_64 o21 ?_
      refine zb_iload (j := 5) dX8_writeRow_65 rfl ?_
      obtain ⟨o22, h⟩ := h
      refine zb_iadd dX8_writeRow_67 o22 ?_
      refine zb_aload_n (j := 0) dX8_writeRow_68 rfl rfl ?_
      obtain ⟨o23, h⟩ := h
      refine zb_gD 4 dX8_writeRow_69 fl_X8_31 i_0 rfl rfl o23 ?_
      refine zb_iload (j := 4) dX8_writeRow_72 rfl ?_
      refine zb_aload_n (j := 1) dX8_writeRow_74 rfl rfl ?_
      refine zb_gFa 4 dX8_writeRow_75 fl_X8_129 i_1 hW hF rfl rfl rfl (by decide) rfl 12 rfl (fun i24 l25 => ?_)
      refine zb_iload (j := 5) dX8_writeRow_78 rfl ?_
      obtain ⟨o26, h⟩ := h
      refine zb_lI dX8_writeRow_80 i24 l25 o26.1 o26.2 ?_
      refine zb_cVp (As := [(0, (m14l (E.2 x1 4) v3_14)), (0, (m48l (E.2 x1 4) v5_48))]) (As' := [(0, (m48l (E.2 x1 4) v5_48)), (0, (m14l (E.2 x1 4) v3_14))]) (st := [(0, (((1 + (m x1 0)) + (v3_14 * (m x1 0))) + v5_48)), (2, (E.2 x0 3))]) dX8_writeRow_81 lk_X8_133 gd_X6_lineFrom rfl rfl o23 ⟨_, rfl, rfl⟩ h hW hF (zb_aR o23 (zb_aI (zb_aI zb_a0))) (Nat.le_refl _) (Nat.le_of_ble_eq_true rfl) (fun r81 h => ?_)
      show zb_WP _ _ _ _ [(0, r81), (0, (((1 + (m x1 0)) + (v3_14 * (m x1 0))) + v5_48)), (2, (E.2 x0 3))] _ _ _ _
      obtain ⟨o27, h⟩ := h
      refine zb_sI dX8_writeRow_84 i17 l18 o27.1 o27.2 hF (fun m84 e84 hF => ?_)
      have h := h m84 e84
      obtain ⟨o28, h⟩ := h
      refine zb_iinc (j := 5) (L' := [(5, (0, (v5_48 + 1))), (0, (2, x0)), (1, (2, x1)), (2, (0, (m x1 0))), (3, (0, v3_14)), (4, (0, (m14l (E.2 x1 4) v3_14)))]) dX8_writeRow_85 rfl o28 (by decide) rfl ?_
      refine zb_goto (tgt := 48) dX8_writeRow_88 (by decide) ?_
      refine zb_sub (L' := [(0, (2, x0)), (1, (2, x1)), (2, (0, (m x1 0))), (3, (0, v3_14)), (4, (0, (m14l (E.2 x1 4) v3_14))), (5, (0, (v5_48 + 1)))]) [1, 2, 3, 4, 5, 0] rfl ?_
      exact (hX48 _ _).mp h hF
theorem dX8_isRowLess_0 : decode cX8_isRowLess 0 = .ok (.iconst 0, 1) := by decide +kernel
theorem dX8_isRowLess_1 : decode cX8_isRowLess 1 = .ok (.istore_n 1, 1) := by decide +kernel
theorem dX8_isRowLess_2 : decode cX8_isRowLess 2 = .ok (.iload_n 1, 1) := by decide +kernel
theorem dX8_isRowLess_3 : decode cX8_isRowLess 3 = .ok (.aload_n 0, 1) := by decide +kernel
theorem dX8_isRowLess_4 : decode cX8_isRowLess 4 = .ok (.getfield 35, 3) := by decide +kernel
theorem dX8_isRowLess_7 : decode cX8_isRowLess 7 = .ok (.getfield 48, 3) := by decide +kernel
theorem dX8_isRowLess_10 : decode cX8_isRowLess 10 = .ok (.if_icmp .ge 51, 3) := by decide +kernel
theorem dX8_isRowLess_13 : decode cX8_isRowLess 13 = .ok (.aload_n 0, 1) := by decide +kernel
theorem dX8_isRowLess_14 : decode cX8_isRowLess 14 = .ok (.getfield 23, 3) := by decide +kernel
theorem dX8_isRowLess_17 : decode cX8_isRowLess 17 = .ok (.iload_n 1, 1) := by decide +kernel
theorem dX8_isRowLess_18 : decode cX8_isRowLess 18 = .ok (.iaload, 1) := by decide +kernel
theorem dX8_isRowLess_19 : decode cX8_isRowLess 19 = .ok (.aload_n 0, 1) := by decide +kernel
theorem dX8_isRowLess_20 : decode cX8_isRowLess 20 = .ok (.getfield 35, 3) := by decide +kernel
theorem dX8_isRowLess_23 : decode cX8_isRowLess 23 = .ok (.getfield 116, 3) := by decide +kernel
theorem dX8_isRowLess_26 : decode cX8_isRowLess 26 = .ok (.iload_n 1, 1) := by decide +kernel
theorem dX8_isRowLess_27 : decode cX8_isRowLess 27 = .ok (.iaload, 1) := by decide +kernel
theorem dX8_isRowLess_28 : decode cX8_isRowLess 28 = .ok (.if_icmp .eq 27, 3) := by decide +kernel
theorem dX8_isRowLess_31 : decode cX8_isRowLess 31 = .ok (.aload_n 0, 1) := by decide +kernel
theorem dX8_isRowLess_32 : decode cX8_isRowLess 32 = .ok (.getfield 23, 3) := by decide +kernel
theorem dX8_isRowLess_35 : decode cX8_isRowLess 35 = .ok (.iload_n 1, 1) := by decide +kernel
theorem dX8_isRowLess_36 : decode cX8_isRowLess 36 = .ok (.iaload, 1) := by decide +kernel
theorem dX8_isRowLess_37 : decode cX8_isRowLess 37 = .ok (.aload_n 0, 1) := by decide +kernel
theorem dX8_isRowLess_38 : decode cX8_isRowLess 38 = .ok (.getfield 35, 3) := by decide +kernel
theorem dX8_isRowLess_41 : decode cX8_isRowLess 41 = .ok (.getfield 116, 3) := by decide +kernel
theorem dX8_isRowLess_44 : decode cX8_isRowLess 44 = .ok (.iload_n 1, 1) := by decide +kernel
theorem dX8_isRowLess_45 : decode cX8_isRowLess 45 = .ok (.iaload, 1) := by decide +kernel
theorem dX8_isRowLess_46 : decode cX8_isRowLess 46 = .ok (.if_icmp .ge 7, 3) := by decide +kernel
theorem dX8_isRowLess_49 : decode cX8_isRowLess 49 = .ok (.iconst 1, 1) := by decide +kernel
theorem dX8_isRowLess_50 : decode cX8_isRowLess 50 = .ok (.goto 4, 3) := by decide +kernel
theorem dX8_isRowLess_53 : decode cX8_isRowLess 53 = .ok (.iconst 0, 1) := by decide +kernel
theorem dX8_isRowLess_54 : decode cX8_isRowLess 54 = .ok (.ireturn, 1) := by decide +kernel
theorem dX8_isRowLess_55 : decode cX8_isRowLess 55 = .ok (.iinc 1 1, 3) := by decide +kernel
theorem dX8_isRowLess_58 : decode cX8_isRowLess 58 = .ok (.goto (-56), 3) := by decide +kernel
theorem dX8_isRowLess_61 : decode cX8_isRowLess 61 = .ok (.iconst 0, 1) := by decide +kernel
theorem dX8_isRowLess_62 : decode cX8_isRowLess 62 = .ok (.ireturn, 1) := by decide +kernel
def PJ_X8_isRowLess_31 (d : Nat) (E : zb_E) (x0 : Int) (m : zb_M) (Q : Int → Prop) (v1_31 : Int) : Prop :=
  (0 ≤ v1_31 ∧ v1_31 < 157) ∧ ((zb_is E.1 (m x0 5) 3) ∧ (((m (E.2 (m x0 5) 5) v1_31) ≤ (m (E.2 x0 3) v1_31) → Q 0) ∧ (¬ (m (E.2 (m x0 5) 5) v1_31) ≤ (m (E.2 x0 3) v1_31) → Q 1)))
def PL_X8_isRowLess_2 (d : Nat) (E : zb_E) (x0 : Int) (m : zb_M) (Q : Int → Prop) (K31_2 : Int → Prop) (v1_2 : Int) : Prop :=
  ∀ X2 : Int → Prop, (∀ (v1_2 : Int), ((zb_is E.1 (m x0 5) 3) ∧ (((m (m x0 5) 2) ≤ v1_2 → Q 0) ∧ (¬ (m (m x0 5) 2) ≤ v1_2 → (0 ≤ v1_2 ∧ v1_2 < 157) ∧ (((m (E.2 x0 3) v1_2) = (m (E.2 (m x0 5) 5) v1_2) → (zb_inI (v1_2 + 1)) ∧ (X2 (v1_2 + 1))) ∧ (¬ (m (E.2 x0 3) v1_2) = (m (E.2 (m x0 5) 5) v1_2) → K31_2 v1_2))))) → X2 v1_2) → X2 v1_2
def PM_X8_isRowLess (d : Nat) (E : zb_E) (x0 : Int) (m : zb_M) (Q : Int → Prop) : Prop :=
  PL_X8_isRowLess_2 d E x0 m Q (PJ_X8_isRowLess_31 d E x0 m Q) 0
set_option maxRecDepth 100000 in
set_option maxHeartbeats 4000000 in
theorem w_X8_isRowLess {d : Nat} {E : zb_E} {x0 : Int} {m : zb_M} {Q : Int → Prop} (h : PM_X8_isRowLess d E x0 m Q) : zb_Tp K_X8_isRowLess (d + 1) [(2, x0)] E m Q := by
  unfold PM_X8_isRowLess at h
  refine zb_T_in gd_X8_isRowLess rfl rfl (fun hW hA G C hF => ?_)
  have i_0 : zb_is E.1 x0 8 := zb_aH hA (by decide)
  show zb_WP _ _ 0 [(0, (2, x0))] [] _ _ _ _
  refine zb_iconst dX8_isRowLess_0 (zb_inIc rfl) ?_
  refine zb_istore_n (L' := [(1, (0, 0)), (0, (2, x0))]) dX8_isRowLess_1 rfl (by decide) rfl ?_
  refine zb_sub (L' := [(0, (2, x0)), (1, (0, 0))]) [1, 0] rfl ?_
  have hJ31 : ∀ (v1_31 : Int), zb_FIN E m → PJ_X8_isRowLess_31 d E x0 m Q v1_31 → zb_WP (G, C, d + 1, 0, 0, zb_q E (fun r m' => m' = m ∧ Q r)) F_X8_isRowLess 31 [(0, (2, x0)), (1, (0, v1_31))] [] E.1 m 0 0 := by
    intro v1_31 hF h
    unfold PJ_X8_isRowLess_31 at h
    refine zb_aload_n (j := 0) dX8_isRowLess_31 rfl rfl ?_
    refine zb_gFa 3 dX8_isRowLess_32 fl_X8_23 i_0 hW hF rfl rfl rfl (by decide) rfl 157 rfl (fun i1 l2 => ?_)
    refine zb_iload_n (j := 1) dX8_isRowLess_35 rfl rfl ?_
    obtain ⟨o3, h⟩ := h
    refine zb_lI dX8_isRowLess_36 i1 l2 o3.1 o3.2 ?_
    refine zb_aload_n (j := 0) dX8_isRowLess_37 rfl rfl ?_
    obtain ⟨o4, h⟩ := h
    refine zb_gD 5 dX8_isRowLess_38 fl_X8_35 i_0 rfl rfl o4 ?_
    refine zb_gFa 5 dX8_isRowLess_41 fl_X8_116 o4 hW hF rfl rfl rfl (by decide) rfl 157 rfl (fun i5 l6 => ?_)
    refine zb_iload_n (j := 1) dX8_isRowLess_44 rfl rfl ?_
    refine zb_lI dX8_isRowLess_45 i5 l6 o3.1 o3.2 ?_
    refine zb_icmp_ge (tgt := 53) dX8_isRowLess_46 (by decide) (fun c7 => ?_) (fun c7 => ?_)
    · have h := h.1 c7
      refine zb_iconst dX8_isRowLess_53 (zb_inIc rfl) ?_
      exact zb_rZ dX8_isRowLess_54 rfl hF (by decide) ⟨rfl, h⟩
    · have h := h.2 c7
      refine zb_iconst dX8_isRowLess_49 (zb_inIc rfl) ?_
      refine zb_goto (tgt := 54) dX8_isRowLess_50 (by decide) ?_
      exact zb_rZ dX8_isRowLess_54 rfl hF (by decide) ⟨rfl, h⟩
  unfold PL_X8_isRowLess_2 at h
  obtain ⟨X2, hX2⟩ : ∃ X : Int → Prop, ∀ (v1_2 : Int), (X v1_2 ↔ (zb_FIN E m → zb_WP (G, C, d + 1, 0, 0, zb_q E (fun r m' => m' = m ∧ Q r)) F_X8_isRowLess 2 [(0, (2, x0)), (1, (0, v1_2))] [] E.1 m 0 0)) := ⟨fun v1_2 => zb_FIN E m → zb_WP (G, C, d + 1, 0, 0, zb_q E (fun r m' => m' = m ∧ Q r)) F_X8_isRowLess 2 [(0, (2, x0)), (1, (0, v1_2))] [] E.1 m 0 0, fun _ => Iff.rfl⟩
  refine (hX2 _).mp (h X2 (fun v1_2 h => (hX2 _).mpr (fun hF => ?_))) hF
  refine zb_iload_n (j := 1) dX8_isRowLess_2 rfl rfl ?_
  refine zb_aload_n (j := 0) dX8_isRowLess_3 rfl rfl ?_
  obtain ⟨o8, h⟩ := h
  refine zb_gD 5 dX8_isRowLess_4 fl_X8_35 i_0 rfl rfl o8 ?_
  refine zb_gI 2 dX8_isRowLess_7 fl_X8_48 o8 rfl rfl ?_
  refine zb_icmp_ge (tgt := 61) dX8_isRowLess_10 (by decide) (fun c9 => ?_) (fun c9 => ?_)
  · have h := h.1 c9
    refine zb_iconst dX8_isRowLess_61 (zb_inIc rfl) ?_
    exact zb_rZ dX8_isRowLess_62 rfl hF (by decide) ⟨rfl, h⟩
  · have h := h.2 c9
    refine zb_aload_n (j := 0) dX8_isRowLess_13 rfl rfl ?_
    refine zb_gFa 3 dX8_isRowLess_14 fl_X8_23 i_0 hW hF rfl rfl rfl (by decide) rfl 157 rfl (fun i10 l11 => ?_)
    refine zb_iload_n (j := 1) dX8_isRowLess_17 rfl rfl ?_
    obtain ⟨o12, h⟩ := h
    refine zb_lI dX8_isRowLess_18 i10 l11 o12.1 o12.2 ?_
    refine zb_aload_n (j := 0) dX8_isRowLess_19 rfl rfl ?_
    refine zb_gD 5 dX8_isRowLess_20 fl_X8_35 i_0 rfl rfl o8 ?_
    refine zb_gFa 5 dX8_isRowLess_23 fl_X8_116 o8 hW hF rfl rfl rfl (by decide) rfl 157 rfl (fun i13 l14 => ?_)
    refine zb_iload_n (j := 1) dX8_isRowLess_26 rfl rfl ?_
    refine zb_lI dX8_isRowLess_27 i13 l14 o12.1 o12.2 ?_
    refine zb_icmp_eq (tgt := 55) dX8_isRowLess_28 (by decide) (fun c15 => ?_) (fun c15 => ?_)
    · have h := h.1 c15
      obtain ⟨o16, h⟩ := h
      refine zb_iinc (j := 1) (L' := [(1, (0, (v1_2 + 1))), (0, (2, x0))]) dX8_isRowLess_55 rfl o16 (by decide) rfl ?_
      refine zb_goto (tgt := 2) dX8_isRowLess_58 (by decide) ?_
      refine zb_sub (L' := [(0, (2, x0)), (1, (0, (v1_2 + 1)))]) [1, 0] rfl ?_
      exact (hX2 _).mp h hF
    · have h := h.2 c15
      exact hJ31 _ hF h
