/-! ===== SameBenchModel: instructions and walks (laid by gen/layout.py) ===== -/
theorem dX12_listed_0 : decode cX12_listed 0 = .ok (.iload_n 1, 1) := by decide +kernel
theorem dX12_listed_1 : decode cX12_listed 1 = .ok (.iconst 0, 1) := by decide +kernel
theorem dX12_listed_2 : decode cX12_listed 2 = .ok (.aload_n 0, 1) := by decide +kernel
theorem dX12_listed_3 : decode cX12_listed 3 = .ok (.getfield 295, 3) := by decide +kernel
theorem dX12_listed_6 : decode cX12_listed 6 = .ok (.iconst 1, 1) := by decide +kernel
theorem dX12_listed_7 : decode cX12_listed 7 = .ok (.isub, 1) := by decide +kernel
theorem dX12_listed_8 : decode cX12_listed 8 = .ok (.invokestatic 133, 3) := by decide +kernel
theorem dX12_listed_11 : decode cX12_listed 11 = .ok (.ifCond .eq 11, 3) := by decide +kernel
theorem dX12_listed_14 : decode cX12_listed 14 = .ok (.aload_n 0, 1) := by decide +kernel
theorem dX12_listed_15 : decode cX12_listed 15 = .ok (.iload_n 2, 1) := by decide +kernel
theorem dX12_listed_16 : decode cX12_listed 16 = .ok (.invokevirtual 137, 3) := by decide +kernel
theorem dX12_listed_19 : decode cX12_listed 19 = .ok (.ifCond .ne 5, 3) := by decide +kernel
theorem dX12_listed_22 : decode cX12_listed 22 = .ok (.iconst (-1), 1) := by decide +kernel
theorem dX12_listed_23 : decode cX12_listed 23 = .ok (.ireturn, 1) := by decide +kernel
theorem dX12_listed_24 : decode cX12_listed 24 = .ok (.aload_n 0, 1) := by decide +kernel
theorem dX12_listed_25 : decode cX12_listed 25 = .ok (.iload_n 2, 1) := by decide +kernel
theorem dX12_listed_26 : decode cX12_listed 26 = .ok (.invokevirtual 148, 3) := by decide +kernel
theorem dX12_listed_29 : decode cX12_listed 29 = .ok (.aload_n 0, 1) := by decide +kernel
theorem dX12_listed_30 : decode cX12_listed 30 = .ok (.getfield 7, 3) := by decide +kernel
theorem dX12_listed_33 : decode cX12_listed 33 = .ok (.iload_n 2, 1) := by decide +kernel
theorem dX12_listed_34 : decode cX12_listed 34 = .ok (.aload_n 0, 1) := by decide +kernel
theorem dX12_listed_35 : decode cX12_listed 35 = .ok (.getfield 301, 3) := by decide +kernel
theorem dX12_listed_38 : decode cX12_listed 38 = .ok (.iastore, 1) := by decide +kernel
theorem dX12_listed_39 : decode cX12_listed 39 = .ok (.iconst 0, 1) := by decide +kernel
theorem dX12_listed_40 : decode cX12_listed 40 = .ok (.istore_n 3, 1) := by decide +kernel
theorem dX12_listed_41 : decode cX12_listed 41 = .ok (.iload_n 3, 1) := by decide +kernel
theorem dX12_listed_42 : decode cX12_listed 42 = .ok (.aload_n 0, 1) := by decide +kernel
theorem dX12_listed_43 : decode cX12_listed 43 = .ok (.getfield 301, 3) := by decide +kernel
theorem dX12_listed_46 : decode cX12_listed 46 = .ok (.if_icmp .ge 120, 3) := by decide +kernel
theorem dX12_listed_49 : decode cX12_listed 49 = .ok (.bipush 12, 2) := by decide +kernel
theorem dX12_listed_51 : decode cX12_listed 51 = .ok (.iload_n 2, 1) := by decide +kernel
theorem dX12_listed_52 : decode cX12_listed 52 = .ok (.imul, 1) := by decide +kernel
theorem dX12_listed_53 : decode cX12_listed 53 = .ok (.iload_n 3, 1) := by decide +kernel
theorem dX12_listed_54 : decode cX12_listed 54 = .ok (.iadd, 1) := by decide +kernel
theorem dX12_listed_55 : decode cX12_listed 55 = .ok (.istore 4, 2) := by decide +kernel
theorem dX12_listed_57 : decode cX12_listed 57 = .ok (.aload_n 0, 1) := by decide +kernel
theorem dX12_listed_58 : decode cX12_listed 58 = .ok (.getfield 13, 3) := by decide +kernel
theorem dX12_listed_61 : decode cX12_listed 61 = .ok (.iload 4, 2) := by decide +kernel
theorem dX12_listed_63 : decode cX12_listed 63 = .ok (.iconst 0, 1) := by decide +kernel
theorem dX12_listed_64 : decode cX12_listed 64 = .ok (.iastore, 1) := by decide +kernel
theorem dX12_listed_65 : decode cX12_listed 65 = .ok (.aload_n 0, 1) := by decide +kernel
theorem dX12_listed_66 : decode cX12_listed 66 = .ok (.getfield 16, 3) := by decide +kernel
theorem dX12_listed_69 : decode cX12_listed 69 = .ok (.iload 4, 2) := by decide +kernel
theorem dX12_listed_71 : decode cX12_listed 71 = .ok (.iconst 0, 1) := by decide +kernel
theorem dX12_listed_72 : decode cX12_listed 72 = .ok (.iastore, 1) := by decide +kernel
theorem dX12_listed_73 : decode cX12_listed 73 = .ok (.aload_n 0, 1) := by decide +kernel
theorem dX12_listed_74 : decode cX12_listed 74 = .ok (.getfield 19, 3) := by decide +kernel
theorem dX12_listed_77 : decode cX12_listed 77 = .ok (.iload 4, 2) := by decide +kernel
theorem dX12_listed_79 : decode cX12_listed 79 = .ok (.iconst 0, 1) := by decide +kernel
theorem dX12_listed_80 : decode cX12_listed 80 = .ok (.iastore, 1) := by decide +kernel
theorem dX12_listed_81 : decode cX12_listed 81 = .ok (.aload_n 0, 1) := by decide +kernel
theorem dX12_listed_82 : decode cX12_listed 82 = .ok (.getfield 22, 3) := by decide +kernel
theorem dX12_listed_85 : decode cX12_listed 85 = .ok (.iload 4, 2) := by decide +kernel
theorem dX12_listed_87 : decode cX12_listed 87 = .ok (.aload_n 0, 1) := by decide +kernel
theorem dX12_listed_88 : decode cX12_listed 88 = .ok (.getfield 301, 3) := by decide +kernel
theorem dX12_listed_91 : decode cX12_listed 91 = .ok (.iastore, 1) := by decide +kernel
theorem dX12_listed_92 : decode cX12_listed 92 = .ok (.iconst 0, 1) := by decide +kernel
theorem dX12_listed_93 : decode cX12_listed 93 = .ok (.istore 5, 2) := by decide +kernel
theorem dX12_listed_95 : decode cX12_listed 95 = .ok (.iload 5, 2) := by decide +kernel
theorem dX12_listed_97 : decode cX12_listed 97 = .ok (.bipush 12, 2) := by decide +kernel
theorem dX12_listed_99 : decode cX12_listed 99 = .ok (.if_icmp .ge 61, 3) := by decide +kernel
theorem dX12_listed_102 : decode cX12_listed 102 = .ok (.aload_n 0, 1) := by decide +kernel
theorem dX12_listed_103 : decode cX12_listed 103 = .ok (.getfield 25, 3) := by decide +kernel
theorem dX12_listed_106 : decode cX12_listed 106 = .ok (.bipush 12, 2) := by decide +kernel
theorem dX12_listed_108 : decode cX12_listed 108 = .ok (.iload 4, 2) := by decide +kernel
theorem dX12_listed_110 : decode cX12_listed 110 = .ok (.imul, 1) := by decide +kernel
theorem dX12_listed_111 : decode cX12_listed 111 = .ok (.iload 5, 2) := by decide +kernel
theorem dX12_listed_113 : decode cX12_listed 113 = .ok (.iadd, 1) := by decide +kernel
theorem dX12_listed_114 : decode cX12_listed 114 = .ok (.iload 5, 2) := by decide +kernel
theorem dX12_listed_116 : decode cX12_listed 116 = .ok (.aload_n 0, 1) := by decide +kernel
theorem dX12_listed_117 : decode cX12_listed 117 = .ok (.getfield 301, 3) := by decide +kernel
theorem dX12_listed_120 : decode cX12_listed 120 = .ok (.if_icmp .ge 32, 3) := by decide +kernel
theorem dX12_listed_123 : decode cX12_listed 123 = .ok (.aload_n 0, 1) := by decide +kernel
theorem dX12_listed_124 : decode cX12_listed 124 = .ok (.getfield 130, 3) := by decide +kernel
theorem dX12_listed_127 : decode cX12_listed 127 = .ok (.bipush 32, 2) := by decide +kernel
theorem dX12_listed_129 : decode cX12_listed 129 = .ok (.iload_n 1, 1) := by decide +kernel
theorem dX12_listed_130 : decode cX12_listed 130 = .ok (.imul, 1) := by decide +kernel
theorem dX12_listed_131 : decode cX12_listed 131 = .ok (.iconst 1, 1) := by decide +kernel
theorem dX12_listed_132 : decode cX12_listed 132 = .ok (.iadd, 1) := by decide +kernel
theorem dX12_listed_133 : decode cX12_listed 133 = .ok (.aload_n 0, 1) := by decide +kernel
theorem dX12_listed_134 : decode cX12_listed 134 = .ok (.getfield 301, 3) := by decide +kernel
theorem dX12_listed_137 : decode cX12_listed 137 = .ok (.iadd, 1) := by decide +kernel
theorem dX12_listed_138 : decode cX12_listed 138 = .ok (.aload_n 0, 1) := by decide +kernel
theorem dX12_listed_139 : decode cX12_listed 139 = .ok (.getfield 301, 3) := by decide +kernel
theorem dX12_listed_142 : decode cX12_listed 142 = .ok (.iload_n 3, 1) := by decide +kernel
theorem dX12_listed_143 : decode cX12_listed 143 = .ok (.imul, 1) := by decide +kernel
theorem dX12_listed_144 : decode cX12_listed 144 = .ok (.iadd, 1) := by decide +kernel
theorem dX12_listed_145 : decode cX12_listed 145 = .ok (.iload 5, 2) := by decide +kernel
theorem dX12_listed_147 : decode cX12_listed 147 = .ok (.iadd, 1) := by decide +kernel
theorem dX12_listed_148 : decode cX12_listed 148 = .ok (.iaload, 1) := by decide +kernel
theorem dX12_listed_149 : decode cX12_listed 149 = .ok (.goto 4, 3) := by decide +kernel
theorem dX12_listed_152 : decode cX12_listed 152 = .ok (.iconst 0, 1) := by decide +kernel
theorem dX12_listed_153 : decode cX12_listed 153 = .ok (.iastore, 1) := by decide +kernel
theorem dX12_listed_154 : decode cX12_listed 154 = .ok (.iinc 5 1, 3) := by decide +kernel
theorem dX12_listed_157 : decode cX12_listed 157 = .ok (.goto (-62), 3) := by decide +kernel
theorem dX12_listed_160 : decode cX12_listed 160 = .ok (.iinc 3 1, 3) := by decide +kernel
theorem dX12_listed_163 : decode cX12_listed 163 = .ok (.goto (-122), 3) := by decide +kernel
theorem dX12_listed_166 : decode cX12_listed 166 = .ok (.aload_n 0, 1) := by decide +kernel
theorem dX12_listed_167 : decode cX12_listed 167 = .ok (.getfield 301, 3) := by decide +kernel
theorem dX12_listed_170 : decode cX12_listed 170 = .ok (.ireturn, 1) := by decide +kernel
def PJ_X12_listed_166 (d : Nat) (E : zb_E) (x0 : Int) (Q : Int → zb_M → Prop) (m166j : zb_M) : Prop :=
  Q (m166j x0 53) m166j
def PJ_X12_listed_160 (d : Nat) (E : zb_E) (v3_41 : Int) (X41 : Int → zb_M → Prop) (Q : Int → zb_M → Prop) (m160j : zb_M) : Prop :=
  (zb_inI (v3_41 + 1)) ∧ (X41 (v3_41 + 1) m160j)
def PL_X12_listed_95 (d : Nat) (E : zb_E) (x0 : Int) (x1 : Int) (x2 : Int) (v3_41 : Int) (Q : Int → zb_M → Prop) (K160_95 : zb_M → Prop) (v5_95 : Int) (m95l : zb_M) : Prop :=
  ∀ X95 : Int → zb_M → Prop, (∀ (v5_95 : Int) (m95l : zb_M), ((12 ≤ v5_95 → K160_95 m95l) ∧ (¬ 12 ≤ v5_95 → (zb_inI (12 * ((12 * x2) + v3_41))) ∧ ((zb_inI ((12 * ((12 * x2) + v3_41)) + v5_95)) ∧ (((m95l x0 53) ≤ v5_95 → (0 ≤ ((12 * ((12 * x2) + v3_41)) + v5_95) ∧ ((12 * ((12 * x2) + v3_41)) + v5_95) < 1152) ∧ (∀ m153, m153 = zb_up m95l (E.2 x0 5) ((12 * ((12 * x2) + v3_41)) + v5_95) 0 → ((zb_inI (v5_95 + 1)) ∧ (X95 (v5_95 + 1) m153)))) ∧ (¬ (m95l x0 53) ≤ v5_95 → (zb_inI (32 * x1)) ∧ ((zb_inI ((32 * x1) + 1)) ∧ ((zb_inI (((32 * x1) + 1) + (m95l x0 53))) ∧ ((zb_inI ((m95l x0 53) * v3_41)) ∧ ((zb_inI ((((32 * x1) + 1) + (m95l x0 53)) + ((m95l x0 53) * v3_41))) ∧ ((zb_inI (((((32 * x1) + 1) + (m95l x0 53)) + ((m95l x0 53) * v3_41)) + v5_95)) ∧ ((0 ≤ (((((32 * x1) + 1) + (m95l x0 53)) + ((m95l x0 53) * v3_41)) + v5_95) ∧ (((((32 * x1) + 1) + (m95l x0 53)) + ((m95l x0 53) * v3_41)) + v5_95) < 1600) ∧ ((0 ≤ ((12 * ((12 * x2) + v3_41)) + v5_95) ∧ ((12 * ((12 * x2) + v3_41)) + v5_95) < 1152) ∧ (∀ m153, m153 = zb_up m95l (E.2 x0 5) ((12 * ((12 * x2) + v3_41)) + v5_95) (m95l (E.2 x0 54) (((((32 * x1) + 1) + (m95l x0 53)) + ((m95l x0 53) * v3_41)) + v5_95)) → ((zb_inI (v5_95 + 1)) ∧ (X95 (v5_95 + 1) m153))))))))))))))) → X95 v5_95 m95l) → X95 v5_95 m95l
def PL_X12_listed_41 (d : Nat) (E : zb_E) (x0 : Int) (x1 : Int) (x2 : Int) (Q : Int → zb_M → Prop) (K166_41 : zb_M → Prop) (v3_41 : Int) (m41l : zb_M) : Prop :=
  ∀ X41 : Int → zb_M → Prop, (∀ (v3_41 : Int) (m41l : zb_M), (((m41l x0 53) ≤ v3_41 → K166_41 m41l) ∧ (¬ (m41l x0 53) ≤ v3_41 → (zb_inI (12 * x2)) ∧ ((zb_inI ((12 * x2) + v3_41)) ∧ ((0 ≤ ((12 * x2) + v3_41) ∧ ((12 * x2) + v3_41) < 96) ∧ (∀ m64, m64 = zb_up m41l (E.2 x0 1) ((12 * x2) + v3_41) 0 → (∀ m72, m72 = zb_up m64 (E.2 x0 2) ((12 * x2) + v3_41) 0 → (∀ m80, m80 = zb_up m72 (E.2 x0 3) ((12 * x2) + v3_41) 0 → (∀ m91, m91 = zb_up m80 (E.2 x0 4) ((12 * x2) + v3_41) (m80 x0 53) → (PL_X12_listed_95 d E x0 x1 x2 v3_41 Q (PJ_X12_listed_160 d E v3_41 X41 Q) 0 m91))))))))) → X41 v3_41 m41l) → X41 v3_41 m41l
def PM_X12_listed (d : Nat) (E : zb_E) (x0 : Int) (x1 : Int) (x2 : Int) (m : zb_M) (Q : Int → zb_M → Prop) : Prop :=
  (zb_inI ((m x0 52) - 1)) ∧ (zb_Tp K_X12_in d [(0, x1), (0, 0), (0, ((m x0 52) - 1))] E m (fun r8 => (r8 = 0 → Q (-1) m) ∧ (¬ r8 = 0 → zb_Tp K_X12_isGraph d [(2, x0), (0, x2)] E m (fun r16 => (r16 = 0 → Q (-1) m) ∧ (¬ r16 = 0 → zb_T K_X12_note d [(2, x0), (0, x2)] E m (fun r26 m26 => (0 ≤ x2 ∧ x2 < 8) ∧ (∀ m38, m38 = zb_up m26 (E.2 x0 0) x2 (m26 x0 53) → (PL_X12_listed_41 d E x0 x1 x2 Q (PJ_X12_listed_166 d E x0 Q) 0 m38))))))))
set_option maxRecDepth 100000 in
set_option maxHeartbeats 4000000 in
theorem w_X12_listed {d : Nat} {E : zb_E} {x0 x1 x2 : Int} {m : zb_M} {Q : Int → zb_M → Prop} (h : PM_X12_listed d E x0 x1 x2 m Q) : zb_T K_X12_listed (d + 1) [(2, x0), (0, x1), (0, x2)] E m Q := by
  unfold PM_X12_listed at h
  refine zb_T_in gd_X12_listed rfl rfl (fun hW hA G C hF => ?_)
  have i_0 : zb_is E.1 x0 12 := zb_aH hA (by decide)
  show zb_WP _ _ 0 [(0, (2, x0)), (1, (0, x1)), (2, (0, x2))] [] _ _ _ _
  refine zb_iload_n (j := 1) dX12_listed_0 rfl rfl ?_
  refine zb_iconst dX12_listed_1 (zb_inIc rfl) ?_
  refine zb_aload_n (j := 0) dX12_listed_2 rfl rfl ?_
  refine zb_gI 52 dX12_listed_3 fl_X12_295 i_0 rfl rfl ?_
  refine zb_iconst dX12_listed_6 (zb_inIc rfl) ?_
  obtain ⟨o1, h⟩ := h
  refine zb_isub dX12_listed_7 o1 ?_
  refine zb_cSp (As := [(0, x1), (0, 0), (0, ((m x0 52) - 1))]) (As' := [(0, ((m x0 52) - 1)), (0, 0), (0, x1)]) (st := []) dX12_listed_8 lk_X12_133 gd_X12_in rfl rfl h hW hF (zb_aI (zb_aI (zb_aI zb_a0))) (Nat.le_refl _) (Nat.le_of_ble_eq_true rfl) (fun r8 h => ?_)
  show zb_WP _ _ _ _ [(0, r8)] _ _ _ _
  refine zb_if_eq (tgt := 22) dX12_listed_11 (by decide) (fun c2 => ?_) (fun c2 => ?_)
  · have h := h.1 c2
    refine zb_iconst dX12_listed_22 (zb_inIc rfl) ?_
    exact zb_rI dX12_listed_23 rfl hF h
  · have h := h.2 c2
    refine zb_aload_n (j := 0) dX12_listed_14 rfl rfl ?_
    refine zb_iload_n (j := 2) dX12_listed_15 rfl rfl ?_
    refine zb_cVp (As := [(0, x2)]) (As' := [(0, x2)]) (st := []) dX12_listed_16 lk_X12_137 gd_X12_isGraph rfl rfl i_0 ⟨_, rfl, rfl⟩ h hW hF (zb_aR i_0 (zb_aI zb_a0)) (Nat.le_refl _) (Nat.le_of_ble_eq_true rfl) (fun r16 h => ?_)
    show zb_WP _ _ _ _ [(0, r16)] _ _ _ _
    refine zb_if_ne (tgt := 24) dX12_listed_19 (by decide) (fun c3 => ?_) (fun c3 => ?_)
    · have h := h.2 c3
      refine zb_aload_n (j := 0) dX12_listed_24 rfl rfl ?_
      refine zb_iload_n (j := 2) dX12_listed_25 rfl rfl ?_
      refine zb_cV (As := [(0, x2)]) (As' := [(0, x2)]) (st := []) dX12_listed_26 lk_X12_148 gd_X12_note rfl rfl i_0 ⟨_, rfl, rfl⟩ h hW hF (zb_aR i_0 (zb_aI zb_a0)) (Nat.le_refl _) (Nat.le_of_ble_eq_true rfl) (fun r26 m26 hF h => ?_)
      show zb_WP _ _ _ _ [] _ _ _ _
      refine zb_aload_n (j := 0) dX12_listed_29 rfl rfl ?_
      refine zb_gFa 0 dX12_listed_30 fl_X12_7 i_0 hW hF rfl rfl rfl (by decide) rfl 8 rfl (fun i4 l5 => ?_)
      refine zb_iload_n (j := 2) dX12_listed_33 rfl rfl ?_
      refine zb_aload_n (j := 0) dX12_listed_34 rfl rfl ?_
      refine zb_gI 53 dX12_listed_35 fl_X12_301 i_0 rfl rfl ?_
      obtain ⟨o6, h⟩ := h
      refine zb_sI dX12_listed_38 i4 l5 o6.1 o6.2 hF (fun m38 e38 hF => ?_)
      have h := h m38 e38
      refine zb_iconst dX12_listed_39 (zb_inIc rfl) ?_
      refine zb_istore_n (L' := [(3, (0, 0)), (0, (2, x0)), (1, (0, x1)), (2, (0, x2))]) dX12_listed_40 rfl (by decide) rfl ?_
      refine zb_sub (L' := [(0, (2, x0)), (1, (0, x1)), (2, (0, x2)), (3, (0, 0))]) [1, 2, 3, 0] rfl ?_
      have hJ166 : ∀ (m166j : zb_M), zb_FIN E m166j → PJ_X12_listed_166 d E x0 Q m166j → zb_WP (G, C, d + 1, 0, 0, zb_q E Q) F_X12_listed 166 [(0, (2, x0))] [] E.1 m166j 0 0 := by
        intro m166j hF h
        unfold PJ_X12_listed_166 at h
        refine zb_aload_n (j := 0) dX12_listed_166 rfl rfl ?_
        refine zb_gI 53 dX12_listed_167 fl_X12_301 i_0 rfl rfl ?_
        exact zb_rI dX12_listed_170 rfl hF h
      unfold PL_X12_listed_41 at h
      obtain ⟨X41, hX41⟩ : ∃ X : Int → zb_M → Prop, ∀ (v3_41 : Int) (m41l : zb_M), (X v3_41 m41l ↔ (zb_FIN E m41l → zb_WP (G, C, d + 1, 0, 0, zb_q E Q) F_X12_listed 41 [(0, (2, x0)), (1, (0, x1)), (2, (0, x2)), (3, (0, v3_41))] [] E.1 m41l 0 0)) := ⟨fun v3_41 m41l => zb_FIN E m41l → zb_WP (G, C, d + 1, 0, 0, zb_q E Q) F_X12_listed 41 [(0, (2, x0)), (1, (0, x1)), (2, (0, x2)), (3, (0, v3_41))] [] E.1 m41l 0 0, fun _ _ => Iff.rfl⟩
      refine (hX41 _ _).mp (h X41 (fun v3_41 m41l h => (hX41 _ _).mpr (fun hF => ?_))) hF
      refine zb_iload_n (j := 3) dX12_listed_41 rfl rfl ?_
      refine zb_aload_n (j := 0) dX12_listed_42 rfl rfl ?_
      refine zb_gI 53 dX12_listed_43 fl_X12_301 i_0 rfl rfl ?_
      refine zb_icmp_ge (tgt := 166) dX12_listed_46 (by decide) (fun c7 => ?_) (fun c7 => ?_)
      · have h := h.1 c7
        refine zb_sub (L' := [(0, (2, x0))]) [0] rfl ?_
        exact hJ166 _ hF h
      · have h := h.2 c7
        refine zb_bipush dX12_listed_49 (by decide) (zb_inIc rfl) ?_
        refine zb_iload_n (j := 2) dX12_listed_51 rfl rfl ?_
        obtain ⟨o8, h⟩ := h
        refine zb_imul dX12_listed_52 o8 ?_
        refine zb_iload_n (j := 3) dX12_listed_53 rfl rfl ?_
        obtain ⟨o9, h⟩ := h
        refine zb_iadd dX12_listed_54 o9 ?_
        refine zb_istore (L' := [(4, (0, ((12 * x2) + v3_41))), (0, (2, x0)), (1, (0, x1)), (2, (0, x2)), (3, (0, v3_41))]) dX12_listed_55 (by decide) rfl ?_
        refine zb_aload_n (j := 1) dX12_listed_57 rfl rfl ?_
        refine zb_gFa 1 dX12_listed_58 fl_X12_13 i_0 hW hF rfl rfl rfl (by decide) rfl 96 rfl (fun i10 l11 => ?_)
        refine zb_iload (j := 0) dX12_listed_61 rfl ?_
        refine zb_iconst dX12_listed_63 (zb_inIc rfl) ?_
        obtain ⟨o12, h⟩ := h
        refine zb_sI dX12_listed_64 i10 l11 o12.1 o12.2 hF (fun m64 e64 hF => ?_)
        have h := h m64 e64
        refine zb_aload_n (j := 1) dX12_listed_65 rfl rfl ?_
        refine zb_gFa 2 dX12_listed_66 fl_X12_16 i_0 hW hF rfl rfl rfl (by decide) rfl 96 rfl (fun i13 l14 => ?_)
        refine zb_iload (j := 0) dX12_listed_69 rfl ?_
        refine zb_iconst dX12_listed_71 (zb_inIc rfl) ?_
        refine zb_sI dX12_listed_72 i13 l14 o12.1 o12.2 hF (fun m72 e72 hF => ?_)
        have h := h m72 e72
        refine zb_aload_n (j := 1) dX12_listed_73 rfl rfl ?_
        refine zb_gFa 3 dX12_listed_74 fl_X12_19 i_0 hW hF rfl rfl rfl (by decide) rfl 96 rfl (fun i15 l16 => ?_)
        refine zb_iload (j := 0) dX12_listed_77 rfl ?_
        refine zb_iconst dX12_listed_79 (zb_inIc rfl) ?_
        refine zb_sI dX12_listed_80 i15 l16 o12.1 o12.2 hF (fun m80 e80 hF => ?_)
        have h := h m80 e80
        refine zb_aload_n (j := 1) dX12_listed_81 rfl rfl ?_
        refine zb_gFa 4 dX12_listed_82 fl_X12_22 i_0 hW hF rfl rfl rfl (by decide) rfl 96 rfl (fun i17 l18 => ?_)
        refine zb_iload (j := 0) dX12_listed_85 rfl ?_
        refine zb_aload_n (j := 1) dX12_listed_87 rfl rfl ?_
        refine zb_gI 53 dX12_listed_88 fl_X12_301 i_0 rfl rfl ?_
        refine zb_sI dX12_listed_91 i17 l18 o12.1 o12.2 hF (fun m91 e91 hF => ?_)
        have h := h m91 e91
        refine zb_iconst dX12_listed_92 (zb_inIc rfl) ?_
        refine zb_istore (L' := [(5, (0, 0)), (4, (0, ((12 * x2) + v3_41))), (0, (2, x0)), (1, (0, x1)), (2, (0, x2)), (3, (0, v3_41))]) dX12_listed_93 (by decide) rfl ?_
        refine zb_sub (L' := [(0, (2, x0)), (1, (0, x1)), (2, (0, x2)), (3, (0, v3_41)), (4, (0, ((12 * x2) + v3_41))), (5, (0, 0))]) [2, 3, 4, 5, 1, 0] rfl ?_
        have hJ160 : ∀ (m160j : zb_M), zb_FIN E m160j → PJ_X12_listed_160 d E v3_41 X41 Q m160j → zb_WP (G, C, d + 1, 0, 0, zb_q E Q) F_X12_listed 160 [(0, (2, x0)), (1, (0, x1)), (2, (0, x2)), (3, (0, v3_41))] [] E.1 m160j 0 0 := by
          intro m160j hF h
          unfold PJ_X12_listed_160 at h
          obtain ⟨o19, h⟩ := h
          refine zb_iinc (j := 3) (L' := [(3, (0, (v3_41 + 1))), (0, (2, x0)), (1, (0, x1)), (2, (0, x2))]) dX12_listed_160 rfl o19 (by decide) rfl ?_
          refine zb_goto (tgt := 41) dX12_listed_163 (by decide) ?_
          refine zb_sub (L' := [(0, (2, x0)), (1, (0, x1)), (2, (0, x2)), (3, (0, (v3_41 + 1)))]) [1, 2, 3, 0] rfl ?_
          exact (hX41 _ _).mp h hF
        unfold PL_X12_listed_95 at h
        obtain ⟨X95, hX95⟩ : ∃ X : Int → zb_M → Prop, ∀ (v5_95 : Int) (m95l : zb_M), (X v5_95 m95l ↔ (zb_FIN E m95l → zb_WP (G, C, d + 1, 0, 0, zb_q E Q) F_X12_listed 95 [(0, (2, x0)), (1, (0, x1)), (2, (0, x2)), (3, (0, v3_41)), (4, (0, ((12 * x2) + v3_41))), (5, (0, v5_95))] [] E.1 m95l 0 0)) := ⟨fun v5_95 m95l => zb_FIN E m95l → zb_WP (G, C, d + 1, 0, 0, zb_q E Q) F_X12_listed 95 [(0, (2, x0)), (1, (0, x1)), (2, (0, x2)), (3, (0, v3_41)), (4, (0, ((12 * x2) + v3_41))), (5, (0, v5_95))] [] E.1 m95l 0 0, fun _ _ => Iff.rfl⟩
        refine (hX95 _ _).mp (h X95 (fun v5_95 m95l h => (hX95 _ _).mpr (fun hF => ?_))) hF
        refine zb_iload (j := 5) dX12_listed_95 rfl ?_
        refine zb_bipush dX12_listed_97 (by decide) (zb_inIc rfl) ?_
        refine zb_icmp_ge (tgt := 160) dX12_listed_99 (by decide) (fun c20 => ?_) (fun c20 => ?_)
        · have h := h.1 c20
          refine zb_sub (L' := [(0, (2, x0)), (1, (0, x1)), (2, (0, x2)), (3, (0, v3_41))]) [0, 1, 2, 3] rfl ?_
          exact hJ160 _ hF h
        · have h := h.2 c20
          refine zb_aload_n (j := 0) dX12_listed_102 rfl rfl ?_
          refine zb_gFa 5 dX12_listed_103 fl_X12_25 i_0 hW hF rfl rfl rfl (by decide) rfl 1152 rfl (fun i21 l22 => ?_)
          refine zb_bipush dX12_listed_106 (by decide) (zb_inIc rfl) ?_
          refine zb_iload (j := 4) dX12_listed_108 rfl ?_
          obtain ⟨o23, h⟩ := h
          refine zb_imul dX12_listed_110 o23 ?_
          refine zb_iload (j := 5) dX12_listed_111 rfl ?_
          obtain ⟨o24, h⟩ := h
          refine zb_iadd dX12_listed_113 o24 ?_
          refine zb_iload (j := 5) dX12_listed_114 rfl ?_
          refine zb_aload_n (j := 0) dX12_listed_116 rfl rfl ?_
          refine zb_gI 53 dX12_listed_117 fl_X12_301 i_0 rfl rfl ?_
          refine zb_icmp_ge (tgt := 152) dX12_listed_120 (by decide) (fun c25 => ?_) (fun c25 => ?_)
          · have h := h.1 c25
            refine zb_iconst dX12_listed_152 (zb_inIc rfl) ?_
            obtain ⟨o26, h⟩ := h
            refine zb_sI dX12_listed_153 i21 l22 o26.1 o26.2 hF (fun m153 e153 hF => ?_)
            have h := h m153 e153
            obtain ⟨o27, h⟩ := h
            refine zb_iinc (j := 5) (L' := [(5, (0, (v5_95 + 1))), (0, (2, x0)), (1, (0, x1)), (2, (0, x2)), (3, (0, v3_41)), (4, (0, ((12 * x2) + v3_41)))]) dX12_listed_154 rfl o27 (by decide) rfl ?_
            refine zb_goto (tgt := 95) dX12_listed_157 (by decide) ?_
            refine zb_sub (L' := [(0, (2, x0)), (1, (0, x1)), (2, (0, x2)), (3, (0, v3_41)), (4, (0, ((12 * x2) + v3_41))), (5, (0, (v5_95 + 1)))]) [1, 2, 3, 4, 5, 0] rfl ?_
            exact (hX95 _ _).mp h hF
          · have h := h.2 c25
            refine zb_aload_n (j := 0) dX12_listed_123 rfl rfl ?_
            refine zb_gFa 54 dX12_listed_124 fl_X12_130 i_0 hW hF rfl rfl rfl (by decide) rfl 1600 rfl (fun i28 l29 => ?_)
            refine zb_bipush dX12_listed_127 (by decide) (zb_inIc rfl) ?_
            refine zb_iload_n (j := 1) dX12_listed_129 rfl rfl ?_
            obtain ⟨o30, h⟩ := h
            refine zb_imul dX12_listed_130 o30 ?_
            refine zb_iconst dX12_listed_131 (zb_inIc rfl) ?_
            obtain ⟨o31, h⟩ := h
            refine zb_iadd dX12_listed_132 o31 ?_
            refine zb_aload_n (j := 0) dX12_listed_133 rfl rfl ?_
            refine zb_gI 53 dX12_listed_134 fl_X12_301 i_0 rfl rfl ?_
            obtain ⟨o32, h⟩ := h
            refine zb_iadd dX12_listed_137 o32 ?_
            refine zb_aload_n (j := 0) dX12_listed_138 rfl rfl ?_
            refine zb_gI 53 dX12_listed_139 fl_X12_301 i_0 rfl rfl ?_
            refine zb_iload_n (j := 3) dX12_listed_142 rfl rfl ?_
            obtain ⟨o33, h⟩ := h
            refine zb_imul dX12_listed_143 o33 ?_
            obtain ⟨o34, h⟩ := h
            refine zb_iadd dX12_listed_144 o34 ?_
            refine zb_iload (j := 5) dX12_listed_145 rfl ?_
            obtain ⟨o35, h⟩ := h
            refine zb_iadd dX12_listed_147 o35 ?_
            obtain ⟨o36, h⟩ := h
            refine zb_lI dX12_listed_148 i28 l29 o36.1 o36.2 ?_
            refine zb_goto (tgt := 153) dX12_listed_149 (by decide) ?_
            obtain ⟨o37, h⟩ := h
            refine zb_sI dX12_listed_153 i21 l22 o37.1 o37.2 hF (fun m153 e153 hF => ?_)
            have h := h m153 e153
            obtain ⟨o38, h⟩ := h
            refine zb_iinc (j := 5) (L' := [(5, (0, (v5_95 + 1))), (0, (2, x0)), (1, (0, x1)), (2, (0, x2)), (3, (0, v3_41)), (4, (0, ((12 * x2) + v3_41)))]) dX12_listed_154 rfl o38 (by decide) rfl ?_
            refine zb_goto (tgt := 95) dX12_listed_157 (by decide) ?_
            refine zb_sub (L' := [(0, (2, x0)), (1, (0, x1)), (2, (0, x2)), (3, (0, v3_41)), (4, (0, ((12 * x2) + v3_41))), (5, (0, (v5_95 + 1)))]) [1, 2, 3, 4, 5, 0] rfl ?_
            exact (hX95 _ _).mp h hF
    · have h := h.1 c3
      refine zb_iconst dX12_listed_22 (zb_inIc rfl) ?_
      exact zb_rI dX12_listed_23 rfl hF h
