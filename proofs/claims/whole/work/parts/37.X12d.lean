/-! ===== SameBenchModel: instructions and walks (laid by gen/layout.py) ===== -/
theorem dX12_areTwins_0 : decode cX12_areTwins 0 = .ok (.aload_n 0, 1) := by decide +kernel
theorem dX12_areTwins_1 : decode cX12_areTwins 1 = .ok (.getfield 55, 3) := by decide +kernel
theorem dX12_areTwins_4 : decode cX12_areTwins 4 = .ok (.iload_n 1, 1) := by decide +kernel
theorem dX12_areTwins_5 : decode cX12_areTwins 5 = .ok (.iaload, 1) := by decide +kernel
theorem dX12_areTwins_6 : decode cX12_areTwins 6 = .ok (.aload_n 0, 1) := by decide +kernel
theorem dX12_areTwins_7 : decode cX12_areTwins 7 = .ok (.getfield 55, 3) := by decide +kernel
theorem dX12_areTwins_10 : decode cX12_areTwins 10 = .ok (.iload_n 2, 1) := by decide +kernel
theorem dX12_areTwins_11 : decode cX12_areTwins 11 = .ok (.iaload, 1) := by decide +kernel
theorem dX12_areTwins_12 : decode cX12_areTwins 12 = .ok (.if_icmp .ne 57, 3) := by decide +kernel
theorem dX12_areTwins_15 : decode cX12_areTwins 15 = .ok (.aload_n 0, 1) := by decide +kernel
theorem dX12_areTwins_16 : decode cX12_areTwins 16 = .ok (.getfield 58, 3) := by decide +kernel
theorem dX12_areTwins_19 : decode cX12_areTwins 19 = .ok (.bipush 12, 2) := by decide +kernel
theorem dX12_areTwins_21 : decode cX12_areTwins 21 = .ok (.iload_n 1, 1) := by decide +kernel
theorem dX12_areTwins_22 : decode cX12_areTwins 22 = .ok (.imul, 1) := by decide +kernel
theorem dX12_areTwins_23 : decode cX12_areTwins 23 = .ok (.iload_n 1, 1) := by decide +kernel
theorem dX12_areTwins_24 : decode cX12_areTwins 24 = .ok (.iadd, 1) := by decide +kernel
theorem dX12_areTwins_25 : decode cX12_areTwins 25 = .ok (.iaload, 1) := by decide +kernel
theorem dX12_areTwins_26 : decode cX12_areTwins 26 = .ok (.aload_n 0, 1) := by decide +kernel
theorem dX12_areTwins_27 : decode cX12_areTwins 27 = .ok (.getfield 58, 3) := by decide +kernel
theorem dX12_areTwins_30 : decode cX12_areTwins 30 = .ok (.bipush 12, 2) := by decide +kernel
theorem dX12_areTwins_32 : decode cX12_areTwins 32 = .ok (.iload_n 2, 1) := by decide +kernel
theorem dX12_areTwins_33 : decode cX12_areTwins 33 = .ok (.imul, 1) := by decide +kernel
theorem dX12_areTwins_34 : decode cX12_areTwins 34 = .ok (.iload_n 2, 1) := by decide +kernel
theorem dX12_areTwins_35 : decode cX12_areTwins 35 = .ok (.iadd, 1) := by decide +kernel
theorem dX12_areTwins_36 : decode cX12_areTwins 36 = .ok (.iaload, 1) := by decide +kernel
theorem dX12_areTwins_37 : decode cX12_areTwins 37 = .ok (.if_icmp .ne 32, 3) := by decide +kernel
theorem dX12_areTwins_40 : decode cX12_areTwins 40 = .ok (.aload_n 0, 1) := by decide +kernel
theorem dX12_areTwins_41 : decode cX12_areTwins 41 = .ok (.getfield 58, 3) := by decide +kernel
theorem dX12_areTwins_44 : decode cX12_areTwins 44 = .ok (.bipush 12, 2) := by decide +kernel
theorem dX12_areTwins_46 : decode cX12_areTwins 46 = .ok (.iload_n 1, 1) := by decide +kernel
theorem dX12_areTwins_47 : decode cX12_areTwins 47 = .ok (.imul, 1) := by decide +kernel
theorem dX12_areTwins_48 : decode cX12_areTwins 48 = .ok (.iload_n 2, 1) := by decide +kernel
theorem dX12_areTwins_49 : decode cX12_areTwins 49 = .ok (.iadd, 1) := by decide +kernel
theorem dX12_areTwins_50 : decode cX12_areTwins 50 = .ok (.iaload, 1) := by decide +kernel
theorem dX12_areTwins_51 : decode cX12_areTwins 51 = .ok (.aload_n 0, 1) := by decide +kernel
theorem dX12_areTwins_52 : decode cX12_areTwins 52 = .ok (.getfield 58, 3) := by decide +kernel
theorem dX12_areTwins_55 : decode cX12_areTwins 55 = .ok (.bipush 12, 2) := by decide +kernel
theorem dX12_areTwins_57 : decode cX12_areTwins 57 = .ok (.iload_n 2, 1) := by decide +kernel
theorem dX12_areTwins_58 : decode cX12_areTwins 58 = .ok (.imul, 1) := by decide +kernel
theorem dX12_areTwins_59 : decode cX12_areTwins 59 = .ok (.iload_n 1, 1) := by decide +kernel
theorem dX12_areTwins_60 : decode cX12_areTwins 60 = .ok (.iadd, 1) := by decide +kernel
theorem dX12_areTwins_61 : decode cX12_areTwins 61 = .ok (.iaload, 1) := by decide +kernel
theorem dX12_areTwins_62 : decode cX12_areTwins 62 = .ok (.if_icmp .ne 7, 3) := by decide +kernel
theorem dX12_areTwins_65 : decode cX12_areTwins 65 = .ok (.iconst 1, 1) := by decide +kernel
theorem dX12_areTwins_66 : decode cX12_areTwins 66 = .ok (.goto 4, 3) := by decide +kernel
theorem dX12_areTwins_69 : decode cX12_areTwins 69 = .ok (.iconst 0, 1) := by decide +kernel
theorem dX12_areTwins_70 : decode cX12_areTwins 70 = .ok (.istore_n 3, 1) := by decide +kernel
theorem dX12_areTwins_71 : decode cX12_areTwins 71 = .ok (.iconst 0, 1) := by decide +kernel
theorem dX12_areTwins_72 : decode cX12_areTwins 72 = .ok (.istore 4, 2) := by decide +kernel
theorem dX12_areTwins_74 : decode cX12_areTwins 74 = .ok (.iload 4, 2) := by decide +kernel
theorem dX12_areTwins_76 : decode cX12_areTwins 76 = .ok (.aload_n 0, 1) := by decide +kernel
theorem dX12_areTwins_77 : decode cX12_areTwins 77 = .ok (.getfield 175, 3) := by decide +kernel
theorem dX12_areTwins_80 : decode cX12_areTwins 80 = .ok (.if_icmp .ge 85, 3) := by decide +kernel
theorem dX12_areTwins_83 : decode cX12_areTwins 83 = .ok (.iload_n 3, 1) := by decide +kernel
theorem dX12_areTwins_84 : decode cX12_areTwins 84 = .ok (.ifCond .eq 81, 3) := by decide +kernel
theorem dX12_areTwins_87 : decode cX12_areTwins 87 = .ok (.iload 4, 2) := by decide +kernel
theorem dX12_areTwins_89 : decode cX12_areTwins 89 = .ok (.iload_n 1, 1) := by decide +kernel
theorem dX12_areTwins_90 : decode cX12_areTwins 90 = .ok (.if_icmp .eq 63, 3) := by decide +kernel
theorem dX12_areTwins_93 : decode cX12_areTwins 93 = .ok (.iload 4, 2) := by decide +kernel
theorem dX12_areTwins_95 : decode cX12_areTwins 95 = .ok (.iload_n 2, 1) := by decide +kernel
theorem dX12_areTwins_96 : decode cX12_areTwins 96 = .ok (.if_icmp .eq 57, 3) := by decide +kernel
theorem dX12_areTwins_99 : decode cX12_areTwins 99 = .ok (.aload_n 0, 1) := by decide +kernel
theorem dX12_areTwins_100 : decode cX12_areTwins 100 = .ok (.getfield 58, 3) := by decide +kernel
theorem dX12_areTwins_103 : decode cX12_areTwins 103 = .ok (.bipush 12, 2) := by decide +kernel
theorem dX12_areTwins_105 : decode cX12_areTwins 105 = .ok (.iload_n 1, 1) := by decide +kernel
theorem dX12_areTwins_106 : decode cX12_areTwins 106 = .ok (.imul, 1) := by decide +kernel
theorem dX12_areTwins_107 : decode cX12_areTwins 107 = .ok (.iload 4, 2) := by decide +kernel
theorem dX12_areTwins_109 : decode cX12_areTwins 109 = .ok (.iadd, 1) := by decide +kernel
theorem dX12_areTwins_110 : decode cX12_areTwins 110 = .ok (.iaload, 1) := by decide +kernel
theorem dX12_areTwins_111 : decode cX12_areTwins 111 = .ok (.aload_n 0, 1) := by decide +kernel
theorem dX12_areTwins_112 : decode cX12_areTwins 112 = .ok (.getfield 58, 3) := by decide +kernel
theorem dX12_areTwins_115 : decode cX12_areTwins 115 = .ok (.bipush 12, 2) := by decide +kernel
theorem dX12_areTwins_117 : decode cX12_areTwins 117 = .ok (.iload_n 2, 1) := by decide +kernel
theorem dX12_areTwins_118 : decode cX12_areTwins 118 = .ok (.imul, 1) := by decide +kernel
theorem dX12_areTwins_119 : decode cX12_areTwins 119 = .ok (.iload 4, 2) := by decide +kernel
theorem dX12_areTwins_121 : decode cX12_areTwins 121 = .ok (.iadd, 1) := by decide +kernel
theorem dX12_areTwins_122 : decode cX12_areTwins 122 = .ok (.iaload, 1) := by decide +kernel
theorem dX12_areTwins_123 : decode cX12_areTwins 123 = .ok (.if_icmp .ne 34, 3) := by decide +kernel
theorem dX12_areTwins_126 : decode cX12_areTwins 126 = .ok (.aload_n 0, 1) := by decide +kernel
theorem dX12_areTwins_127 : decode cX12_areTwins 127 = .ok (.getfield 58, 3) := by decide +kernel
theorem dX12_areTwins_130 : decode cX12_areTwins 130 = .ok (.bipush 12, 2) := by decide +kernel
theorem dX12_areTwins_132 : decode cX12_areTwins 132 = .ok (.iload 4, 2) := by decide +kernel
theorem dX12_areTwins_134 : decode cX12_areTwins 134 = .ok (.imul, 1) := by decide +kernel
theorem dX12_areTwins_135 : decode cX12_areTwins 135 = .ok (.iload_n 1, 1) := by decide +kernel
theorem dX12_areTwins_136 : decode cX12_areTwins 136 = .ok (.iadd, 1) := by decide +kernel
theorem dX12_areTwins_137 : decode cX12_areTwins 137 = .ok (.iaload, 1) := by decide +kernel
theorem dX12_areTwins_138 : decode cX12_areTwins 138 = .ok (.aload_n 0, 1) := by decide +kernel
theorem dX12_areTwins_139 : decode cX12_areTwins 139 = .ok (.getfield 58, 3) := by decide +kernel
theorem dX12_areTwins_142 : decode cX12_areTwins 142 = .ok (.bipush 12, 2) := by decide +kernel
theorem dX12_areTwins_144 : decode cX12_areTwins 144 = .ok (.iload 4, 2) := by decide +kernel
theorem dX12_areTwins_146 : decode cX12_areTwins 146 = .ok (.imul, 1) := by decide +kernel
theorem dX12_areTwins_147 : decode cX12_areTwins 147 = .ok (.iload_n 2, 1) := by decide +kernel
theorem dX12_areTwins_148 : decode cX12_areTwins 148 = .ok (.iadd, 1) := by decide +kernel
theorem dX12_areTwins_149 : decode cX12_areTwins 149 = .ok (.iaload, 1) := by decide +kernel
theorem dX12_areTwins_150 : decode cX12_areTwins 150 = .ok (.if_icmp .ne 7, 3) := by decide +kernel
theorem dX12_areTwins_153 : decode cX12_areTwins 153 = .ok (.iconst 1, 1) := by decide +kernel
theorem dX12_areTwins_154 : decode cX12_areTwins 154 = .ok (.goto 4, 3) := by decide +kernel
theorem dX12_areTwins_157 : decode cX12_areTwins 157 = .ok (.iconst 0, 1) := by decide +kernel
theorem dX12_areTwins_158 : decode cX12_areTwins 158 = .ok (.istore_n 3, 1) := by decide +kernel
theorem dX12_areTwins_159 : decode cX12_areTwins 159 = .ok (.iinc 4 1, 3) := by decide +kernel
theorem dX12_areTwins_162 : decode cX12_areTwins 162 = .ok (.goto (-88), 3) := by decide +kernel
theorem dX12_areTwins_165 : decode cX12_areTwins 165 = .ok (.iload_n 3, 1) := by decide +kernel
theorem dX12_areTwins_166 : decode cX12_areTwins 166 = .ok (.ireturn, 1) := by decide +kernel
def PL_X12_areTwins_74 (d : Nat) (E : zb_E) (x0 : Int) (x1 : Int) (x2 : Int) (m : zb_M) (Q : Int → Prop)  (v3_74 : Int) (v4_74 : Int) : Prop :=
  ∀ X74 : Int → Int → Prop, (∀ (v3_74 : Int) (v4_74 : Int), (((m x0 15) ≤ v4_74 → (v3_74 = 0 ∨ v3_74 = 1) ∧ (Q v3_74)) ∧ (¬ (m x0 15) ≤ v4_74 → (v3_74 = 0 → (v3_74 = 0 ∨ v3_74 = 1) ∧ (Q v3_74)) ∧ (¬ v3_74 = 0 → (v4_74 = x1 → (zb_inI (v4_74 + 1)) ∧ (X74 1 (v4_74 + 1))) ∧ (¬ v4_74 = x1 → (v4_74 = x2 → (zb_inI (v4_74 + 1)) ∧ (X74 1 (v4_74 + 1))) ∧ (¬ v4_74 = x2 → (zb_inI (12 * x1)) ∧ ((zb_inI ((12 * x1) + v4_74)) ∧ ((0 ≤ ((12 * x1) + v4_74) ∧ ((12 * x1) + v4_74) < 144) ∧ ((zb_inI (12 * x2)) ∧ ((zb_inI ((12 * x2) + v4_74)) ∧ ((0 ≤ ((12 * x2) + v4_74) ∧ ((12 * x2) + v4_74) < 144) ∧ (((m (E.2 x0 18) ((12 * x1) + v4_74)) = (m (E.2 x0 18) ((12 * x2) + v4_74)) → (zb_inI (12 * v4_74)) ∧ ((zb_inI ((12 * v4_74) + x1)) ∧ ((0 ≤ ((12 * v4_74) + x1) ∧ ((12 * v4_74) + x1) < 144) ∧ ((zb_inI ((12 * v4_74) + x2)) ∧ ((0 ≤ ((12 * v4_74) + x2) ∧ ((12 * v4_74) + x2) < 144) ∧ (((m (E.2 x0 18) ((12 * v4_74) + x1)) = (m (E.2 x0 18) ((12 * v4_74) + x2)) → (zb_inI (v4_74 + 1)) ∧ (X74 1 (v4_74 + 1))) ∧ (¬ (m (E.2 x0 18) ((12 * v4_74) + x1)) = (m (E.2 x0 18) ((12 * v4_74) + x2)) → (zb_inI (v4_74 + 1)) ∧ (X74 0 (v4_74 + 1))))))))) ∧ (¬ (m (E.2 x0 18) ((12 * x1) + v4_74)) = (m (E.2 x0 18) ((12 * x2) + v4_74)) → (zb_inI (v4_74 + 1)) ∧ (X74 0 (v4_74 + 1)))))))))))))) → X74 v3_74 v4_74) → X74 v3_74 v4_74
def PJ_X12_areTwins_70 (d : Nat) (E : zb_E) (x0 : Int) (x1 : Int) (x2 : Int) (m : zb_M) (Q : Int → Prop) (s0_70 : Int) : Prop :=
  PL_X12_areTwins_74 d E x0 x1 x2 m Q s0_70 0
def PJ_X12_areTwins_69 (d : Nat) (E : zb_E) (x0 : Int) (x1 : Int) (x2 : Int) (m : zb_M) (Q : Int → Prop)  : Prop :=
  PJ_X12_areTwins_70 d E x0 x1 x2 m Q 0
def PM_X12_areTwins (d : Nat) (E : zb_E) (x0 : Int) (x1 : Int) (x2 : Int) (m : zb_M) (Q : Int → Prop) : Prop :=
  (0 ≤ x1 ∧ x1 < 12) ∧ ((0 ≤ x2 ∧ x2 < 12) ∧ (((m (E.2 x0 17) x1) = (m (E.2 x0 17) x2) → (zb_inI (12 * x1)) ∧ ((zb_inI ((12 * x1) + x1)) ∧ ((0 ≤ ((12 * x1) + x1) ∧ ((12 * x1) + x1) < 144) ∧ ((zb_inI (12 * x2)) ∧ ((zb_inI ((12 * x2) + x2)) ∧ ((0 ≤ ((12 * x2) + x2) ∧ ((12 * x2) + x2) < 144) ∧ (((m (E.2 x0 18) ((12 * x1) + x1)) = (m (E.2 x0 18) ((12 * x2) + x2)) → (zb_inI ((12 * x1) + x2)) ∧ ((0 ≤ ((12 * x1) + x2) ∧ ((12 * x1) + x2) < 144) ∧ ((zb_inI ((12 * x2) + x1)) ∧ ((0 ≤ ((12 * x2) + x1) ∧ ((12 * x2) + x1) < 144) ∧ (((m (E.2 x0 18) ((12 * x1) + x2)) = (m (E.2 x0 18) ((12 * x2) + x1)) → PJ_X12_areTwins_70 d E x0 x1 x2 m Q 1) ∧ (¬ (m (E.2 x0 18) ((12 * x1) + x2)) = (m (E.2 x0 18) ((12 * x2) + x1)) → PJ_X12_areTwins_69 d E x0 x1 x2 m Q)))))) ∧ (¬ (m (E.2 x0 18) ((12 * x1) + x1)) = (m (E.2 x0 18) ((12 * x2) + x2)) → PJ_X12_areTwins_69 d E x0 x1 x2 m Q)))))))) ∧ (¬ (m (E.2 x0 17) x1) = (m (E.2 x0 17) x2) → PJ_X12_areTwins_69 d E x0 x1 x2 m Q)))
set_option maxRecDepth 100000 in
set_option maxHeartbeats 4000000 in
theorem w_X12_areTwins {d : Nat} {E : zb_E} {x0 x1 x2 : Int} {m : zb_M} {Q : Int → Prop} (h : PM_X12_areTwins d E x0 x1 x2 m Q) : zb_Tp K_X12_areTwins (d + 1) [(2, x0), (0, x1), (0, x2)] E m Q := by
  unfold PM_X12_areTwins at h
  refine zb_T_in gd_X12_areTwins rfl rfl (fun hW hA G C hF => ?_)
  have i_0 : zb_is E.1 x0 12 := zb_aH hA (by decide)
  show zb_WP _ _ 0 [(0, (2, x0)), (1, (0, x1)), (2, (0, x2))] [] _ _ _ _
  refine zb_aload_n (j := 0) dX12_areTwins_0 rfl rfl ?_
  refine zb_gFa 17 dX12_areTwins_1 fl_X12_55 i_0 hW hF rfl rfl rfl (by decide) rfl 12 rfl (fun i1 l2 => ?_)
  refine zb_iload_n (j := 1) dX12_areTwins_4 rfl rfl ?_
  obtain ⟨o3, h⟩ := h
  refine zb_lI dX12_areTwins_5 i1 l2 o3.1 o3.2 ?_
  refine zb_aload_n (j := 0) dX12_areTwins_6 rfl rfl ?_
  refine zb_gFa 17 dX12_areTwins_7 fl_X12_55 i_0 hW hF rfl rfl rfl (by decide) rfl 12 rfl (fun i4 l5 => ?_)
  refine zb_iload_n (j := 2) dX12_areTwins_10 rfl rfl ?_
  obtain ⟨o6, h⟩ := h
  refine zb_lI dX12_areTwins_11 i4 l5 o6.1 o6.2 ?_
  have hJ70 : ∀ (s0_70 : Int), zb_FIN E m → PJ_X12_areTwins_70 d E x0 x1 x2 m Q s0_70 → zb_WP (G, C, d + 1, 0, 0, zb_q E (fun r m' => m' = m ∧ Q r)) F_X12_areTwins 70 [(0, (2, x0)), (1, (0, x1)), (2, (0, x2))] [(0, s0_70)] E.1 m 0 0 := by
    intro s0_70 hF h
    unfold PJ_X12_areTwins_70 at h
    refine zb_istore_n (L' := [(3, (0, s0_70)), (0, (2, x0)), (1, (0, x1)), (2, (0, x2))]) dX12_areTwins_70 rfl (by decide) rfl ?_
    refine zb_iconst dX12_areTwins_71 (zb_inIc rfl) ?_
    refine zb_istore (L' := [(4, (0, 0)), (3, (0, s0_70)), (0, (2, x0)), (1, (0, x1)), (2, (0, x2))]) dX12_areTwins_72 (by decide) rfl ?_
    refine zb_sub (L' := [(0, (2, x0)), (1, (0, x1)), (2, (0, x2)), (3, (0, s0_70)), (4, (0, 0))]) [2, 3, 4, 1, 0] rfl ?_
    unfold PL_X12_areTwins_74 at h
    obtain ⟨X74, hX74⟩ : ∃ X : Int → Int → Prop, ∀ (v3_74 : Int) (v4_74 : Int), (X v3_74 v4_74 ↔ (zb_FIN E m → zb_WP (G, C, d + 1, 0, 0, zb_q E (fun r m' => m' = m ∧ Q r)) F_X12_areTwins 74 [(0, (2, x0)), (1, (0, x1)), (2, (0, x2)), (3, (0, v3_74)), (4, (0, v4_74))] [] E.1 m 0 0)) := ⟨fun v3_74 v4_74 => zb_FIN E m → zb_WP (G, C, d + 1, 0, 0, zb_q E (fun r m' => m' = m ∧ Q r)) F_X12_areTwins 74 [(0, (2, x0)), (1, (0, x1)), (2, (0, x2)), (3, (0, v3_74)), (4, (0, v4_74))] [] E.1 m 0 0, fun _ _ => Iff.rfl⟩
    refine (hX74 _ _).mp (h X74 (fun v3_74 v4_74 h => (hX74 _ _).mpr (fun hF => ?_))) hF
    refine zb_iload (j := 4) dX12_areTwins_74 rfl ?_
    refine zb_aload_n (j := 0) dX12_areTwins_76 rfl rfl ?_
    refine zb_gI 15 dX12_areTwins_77 fl_X12_175 i_0 rfl rfl ?_
    refine zb_icmp_ge (tgt := 165) dX12_areTwins_80 (by decide) (fun c7 => ?_) (fun c7 => ?_)
    · have h := h.1 c7
      refine zb_iload_n (j := 3) dX12_areTwins_165 rfl rfl ?_
      obtain ⟨o8, h⟩ := h
      exact zb_rZ dX12_areTwins_166 rfl hF o8 ⟨rfl, h⟩
    · have h := h.2 c7
      refine zb_iload_n (j := 3) dX12_areTwins_83 rfl rfl ?_
      refine zb_if_eq (tgt := 165) dX12_areTwins_84 (by decide) (fun c9 => ?_) (fun c9 => ?_)
      · have h := h.1 c9
        refine zb_iload_n (j := 3) dX12_areTwins_165 rfl rfl ?_
        obtain ⟨o10, h⟩ := h
        exact zb_rZ dX12_areTwins_166 rfl hF o10 ⟨rfl, h⟩
      · have h := h.2 c9
        refine zb_iload (j := 4) dX12_areTwins_87 rfl ?_
        refine zb_iload_n (j := 1) dX12_areTwins_89 rfl rfl ?_
        refine zb_icmp_eq (tgt := 153) dX12_areTwins_90 (by decide) (fun c11 => ?_) (fun c11 => ?_)
        · have h := h.1 c11
          refine zb_iconst dX12_areTwins_153 (zb_inIc rfl) ?_
          refine zb_goto (tgt := 158) dX12_areTwins_154 (by decide) ?_
          refine zb_istore_n (L' := [(3, (0, 1)), (0, (2, x0)), (1, (0, x1)), (2, (0, x2)), (4, (0, v4_74))]) dX12_areTwins_158 rfl (by decide) rfl ?_
          obtain ⟨o12, h⟩ := h
          refine zb_iinc (j := 4) (L' := [(4, (0, (v4_74 + 1))), (3, (0, 1)), (0, (2, x0)), (1, (0, x1)), (2, (0, x2))]) dX12_areTwins_159 rfl o12 (by decide) rfl ?_
          refine zb_goto (tgt := 74) dX12_areTwins_162 (by decide) ?_
          refine zb_sub (L' := [(0, (2, x0)), (1, (0, x1)), (2, (0, x2)), (3, (0, 1)), (4, (0, (v4_74 + 1)))]) [2, 3, 4, 1, 0] rfl ?_
          exact (hX74 _ _).mp h hF
        · have h := h.2 c11
          refine zb_iload (j := 4) dX12_areTwins_93 rfl ?_
          refine zb_iload_n (j := 2) dX12_areTwins_95 rfl rfl ?_
          refine zb_icmp_eq (tgt := 153) dX12_areTwins_96 (by decide) (fun c13 => ?_) (fun c13 => ?_)
          · have h := h.1 c13
            refine zb_iconst dX12_areTwins_153 (zb_inIc rfl) ?_
            refine zb_goto (tgt := 158) dX12_areTwins_154 (by decide) ?_
            refine zb_istore_n (L' := [(3, (0, 1)), (0, (2, x0)), (1, (0, x1)), (2, (0, x2)), (4, (0, v4_74))]) dX12_areTwins_158 rfl (by decide) rfl ?_
            obtain ⟨o14, h⟩ := h
            refine zb_iinc (j := 4) (L' := [(4, (0, (v4_74 + 1))), (3, (0, 1)), (0, (2, x0)), (1, (0, x1)), (2, (0, x2))]) dX12_areTwins_159 rfl o14 (by decide) rfl ?_
            refine zb_goto (tgt := 74) dX12_areTwins_162 (by decide) ?_
            refine zb_sub (L' := [(0, (2, x0)), (1, (0, x1)), (2, (0, x2)), (3, (0, 1)), (4, (0, (v4_74 + 1)))]) [2, 3, 4, 1, 0] rfl ?_
            exact (hX74 _ _).mp h hF
          · have h := h.2 c13
            refine zb_aload_n (j := 0) dX12_areTwins_99 rfl rfl ?_
            refine zb_gFa 18 dX12_areTwins_100 fl_X12_58 i_0 hW hF rfl rfl rfl (by decide) rfl 144 rfl (fun i15 l16 => ?_)
            refine zb_bipush dX12_areTwins_103 (by decide) (zb_inIc rfl) ?_
            refine zb_iload_n (j := 1) dX12_areTwins_105 rfl rfl ?_
            obtain ⟨o17, h⟩ := h
            refine zb_imul dX12_areTwins_106 o17 ?_
            refine zb_iload (j := 4) dX12_areTwins_107 rfl ?_
            obtain ⟨o18, h⟩ := h
            refine zb_iadd dX12_areTwins_109 o18 ?_
            obtain ⟨o19, h⟩ := h
            refine zb_lI dX12_areTwins_110 i15 l16 o19.1 o19.2 ?_
            refine zb_aload_n (j := 0) dX12_areTwins_111 rfl rfl ?_
            refine zb_gFa 18 dX12_areTwins_112 fl_X12_58 i_0 hW hF rfl rfl rfl (by decide) rfl 144 rfl (fun i20 l21 => ?_)
            refine zb_bipush dX12_areTwins_115 (by decide) (zb_inIc rfl) ?_
            refine zb_iload_n (j := 2) dX12_areTwins_117 rfl rfl ?_
            obtain ⟨o22, h⟩ := h
            refine zb_imul dX12_areTwins_118 o22 ?_
            refine zb_iload (j := 4) dX12_areTwins_119 rfl ?_
            obtain ⟨o23, h⟩ := h
            refine zb_iadd dX12_areTwins_121 o23 ?_
            obtain ⟨o24, h⟩ := h
            refine zb_lI dX12_areTwins_122 i20 l21 o24.1 o24.2 ?_
            refine zb_icmp_ne (tgt := 157) dX12_areTwins_123 (by decide) (fun c25 => ?_) (fun c25 => ?_)
            · have h := h.2 c25
              refine zb_iconst dX12_areTwins_157 (zb_inIc rfl) ?_
              refine zb_istore_n (L' := [(3, (0, 0)), (0, (2, x0)), (1, (0, x1)), (2, (0, x2)), (4, (0, v4_74))]) dX12_areTwins_158 rfl (by decide) rfl ?_
              obtain ⟨o26, h⟩ := h
              refine zb_iinc (j := 4) (L' := [(4, (0, (v4_74 + 1))), (3, (0, 0)), (0, (2, x0)), (1, (0, x1)), (2, (0, x2))]) dX12_areTwins_159 rfl o26 (by decide) rfl ?_
              refine zb_goto (tgt := 74) dX12_areTwins_162 (by decide) ?_
              refine zb_sub (L' := [(0, (2, x0)), (1, (0, x1)), (2, (0, x2)), (3, (0, 0)), (4, (0, (v4_74 + 1)))]) [2, 3, 4, 1, 0] rfl ?_
              exact (hX74 _ _).mp h hF
            · have h := h.1 c25
              refine zb_aload_n (j := 0) dX12_areTwins_126 rfl rfl ?_
              refine zb_gFa 18 dX12_areTwins_127 fl_X12_58 i_0 hW hF rfl rfl rfl (by decide) rfl 144 rfl (fun i27 l28 => ?_)
              refine zb_bipush dX12_areTwins_130 (by decide) (zb_inIc rfl) ?_
              refine zb_iload (j := 4) dX12_areTwins_132 rfl ?_
              obtain ⟨o29, h⟩ := h
              refine zb_imul dX12_areTwins_134 o29 ?_
              refine zb_iload_n (j := 1) dX12_areTwins_135 rfl rfl ?_
              obtain ⟨o30, h⟩ := h
              refine zb_iadd dX12_areTwins_136 o30 ?_
              obtain ⟨o31, h⟩ := h
              refine zb_lI dX12_areTwins_137 i27 l28 o31.1 o31.2 ?_
              refine zb_aload_n (j := 0) dX12_areTwins_138 rfl rfl ?_
              refine zb_gFa 18 dX12_areTwins_139 fl_X12_58 i_0 hW hF rfl rfl rfl (by decide) rfl 144 rfl (fun i32 l33 => ?_)
              refine zb_bipush dX12_areTwins_142 (by decide) (zb_inIc rfl) ?_
              refine zb_iload (j := 4) dX12_areTwins_144 rfl ?_
              refine zb_imul dX12_areTwins_146 o29 ?_
              refine zb_iload_n (j := 2) dX12_areTwins_147 rfl rfl ?_
              obtain ⟨o34, h⟩ := h
              refine zb_iadd dX12_areTwins_148 o34 ?_
              obtain ⟨o35, h⟩ := h
              refine zb_lI dX12_areTwins_149 i32 l33 o35.1 o35.2 ?_
              refine zb_icmp_ne (tgt := 157) dX12_areTwins_150 (by decide) (fun c36 => ?_) (fun c36 => ?_)
              · have h := h.2 c36
                refine zb_iconst dX12_areTwins_157 (zb_inIc rfl) ?_
                refine zb_istore_n (L' := [(3, (0, 0)), (0, (2, x0)), (1, (0, x1)), (2, (0, x2)), (4, (0, v4_74))]) dX12_areTwins_158 rfl (by decide) rfl ?_
                obtain ⟨o37, h⟩ := h
                refine zb_iinc (j := 4) (L' := [(4, (0, (v4_74 + 1))), (3, (0, 0)), (0, (2, x0)), (1, (0, x1)), (2, (0, x2))]) dX12_areTwins_159 rfl o37 (by decide) rfl ?_
                refine zb_goto (tgt := 74) dX12_areTwins_162 (by decide) ?_
                refine zb_sub (L' := [(0, (2, x0)), (1, (0, x1)), (2, (0, x2)), (3, (0, 0)), (4, (0, (v4_74 + 1)))]) [2, 3, 4, 1, 0] rfl ?_
                exact (hX74 _ _).mp h hF
              · have h := h.1 c36
                refine zb_iconst dX12_areTwins_153 (zb_inIc rfl) ?_
                refine zb_goto (tgt := 158) dX12_areTwins_154 (by decide) ?_
                refine zb_istore_n (L' := [(3, (0, 1)), (0, (2, x0)), (1, (0, x1)), (2, (0, x2)), (4, (0, v4_74))]) dX12_areTwins_158 rfl (by decide) rfl ?_
                obtain ⟨o38, h⟩ := h
                refine zb_iinc (j := 4) (L' := [(4, (0, (v4_74 + 1))), (3, (0, 1)), (0, (2, x0)), (1, (0, x1)), (2, (0, x2))]) dX12_areTwins_159 rfl o38 (by decide) rfl ?_
                refine zb_goto (tgt := 74) dX12_areTwins_162 (by decide) ?_
                refine zb_sub (L' := [(0, (2, x0)), (1, (0, x1)), (2, (0, x2)), (3, (0, 1)), (4, (0, (v4_74 + 1)))]) [2, 3, 4, 1, 0] rfl ?_
                exact (hX74 _ _).mp h hF
  have hJ69 : zb_FIN E m → PJ_X12_areTwins_69 d E x0 x1 x2 m Q  → zb_WP (G, C, d + 1, 0, 0, zb_q E (fun r m' => m' = m ∧ Q r)) F_X12_areTwins 69 [(0, (2, x0)), (1, (0, x1)), (2, (0, x2))] [] E.1 m 0 0 := by
    intro  hF h
    unfold PJ_X12_areTwins_69 at h
    refine zb_iconst dX12_areTwins_69 (zb_inIc rfl) ?_
    exact hJ70 _ hF h
  refine zb_icmp_ne (tgt := 69) dX12_areTwins_12 (by decide) (fun c39 => ?_) (fun c39 => ?_)
  · have h := h.2 c39
    exact hJ69 hF h
  · have h := h.1 c39
    refine zb_aload_n (j := 0) dX12_areTwins_15 rfl rfl ?_
    refine zb_gFa 18 dX12_areTwins_16 fl_X12_58 i_0 hW hF rfl rfl rfl (by decide) rfl 144 rfl (fun i40 l41 => ?_)
    refine zb_bipush dX12_areTwins_19 (by decide) (zb_inIc rfl) ?_
    refine zb_iload_n (j := 1) dX12_areTwins_21 rfl rfl ?_
    obtain ⟨o42, h⟩ := h
    refine zb_imul dX12_areTwins_22 o42 ?_
    refine zb_iload_n (j := 1) dX12_areTwins_23 rfl rfl ?_
    obtain ⟨o43, h⟩ := h
    refine zb_iadd dX12_areTwins_24 o43 ?_
    obtain ⟨o44, h⟩ := h
    refine zb_lI dX12_areTwins_25 i40 l41 o44.1 o44.2 ?_
    refine zb_aload_n (j := 0) dX12_areTwins_26 rfl rfl ?_
    refine zb_gFa 18 dX12_areTwins_27 fl_X12_58 i_0 hW hF rfl rfl rfl (by decide) rfl 144 rfl (fun i45 l46 => ?_)
    refine zb_bipush dX12_areTwins_30 (by decide) (zb_inIc rfl) ?_
    refine zb_iload_n (j := 2) dX12_areTwins_32 rfl rfl ?_
    obtain ⟨o47, h⟩ := h
    refine zb_imul dX12_areTwins_33 o47 ?_
    refine zb_iload_n (j := 2) dX12_areTwins_34 rfl rfl ?_
    obtain ⟨o48, h⟩ := h
    refine zb_iadd dX12_areTwins_35 o48 ?_
    obtain ⟨o49, h⟩ := h
    refine zb_lI dX12_areTwins_36 i45 l46 o49.1 o49.2 ?_
    refine zb_icmp_ne (tgt := 69) dX12_areTwins_37 (by decide) (fun c50 => ?_) (fun c50 => ?_)
    · have h := h.2 c50
      exact hJ69 hF h
    · have h := h.1 c50
      refine zb_aload_n (j := 0) dX12_areTwins_40 rfl rfl ?_
      refine zb_gFa 18 dX12_areTwins_41 fl_X12_58 i_0 hW hF rfl rfl rfl (by decide) rfl 144 rfl (fun i51 l52 => ?_)
      refine zb_bipush dX12_areTwins_44 (by decide) (zb_inIc rfl) ?_
      refine zb_iload_n (j := 1) dX12_areTwins_46 rfl rfl ?_
      refine zb_imul dX12_areTwins_47 o42 ?_
      refine zb_iload_n (j := 2) dX12_areTwins_48 rfl rfl ?_
      obtain ⟨o53, h⟩ := h
      refine zb_iadd dX12_areTwins_49 o53 ?_
      obtain ⟨o54, h⟩ := h
      refine zb_lI dX12_areTwins_50 i51 l52 o54.1 o54.2 ?_
      refine zb_aload_n (j := 0) dX12_areTwins_51 rfl rfl ?_
      refine zb_gFa 18 dX12_areTwins_52 fl_X12_58 i_0 hW hF rfl rfl rfl (by decide) rfl 144 rfl (fun i55 l56 => ?_)
      refine zb_bipush dX12_areTwins_55 (by decide) (zb_inIc rfl) ?_
      refine zb_iload_n (j := 2) dX12_areTwins_57 rfl rfl ?_
      refine zb_imul dX12_areTwins_58 o47 ?_
      refine zb_iload_n (j := 1) dX12_areTwins_59 rfl rfl ?_
      obtain ⟨o57, h⟩ := h
      refine zb_iadd dX12_areTwins_60 o57 ?_
      obtain ⟨o58, h⟩ := h
      refine zb_lI dX12_areTwins_61 i55 l56 o58.1 o58.2 ?_
      refine zb_icmp_ne (tgt := 69) dX12_areTwins_62 (by decide) (fun c59 => ?_) (fun c59 => ?_)
      · have h := h.2 c59
        exact hJ69 hF h
      · have h := h.1 c59
        refine zb_iconst dX12_areTwins_65 (zb_inIc rfl) ?_
        refine zb_goto (tgt := 70) dX12_areTwins_66 (by decide) ?_
        exact hJ70 _ hF h
theorem dX12_targetOf_0 : decode cX12_targetOf 0 = .ok (.iconst 0, 1) := by decide +kernel
theorem dX12_targetOf_1 : decode cX12_targetOf 1 = .ok (.istore_n 2, 1) := by decide +kernel
theorem dX12_targetOf_2 : decode cX12_targetOf 2 = .ok (.iload_n 2, 1) := by decide +kernel
theorem dX12_targetOf_3 : decode cX12_targetOf 3 = .ok (.aload_n 0, 1) := by decide +kernel
theorem dX12_targetOf_4 : decode cX12_targetOf 4 = .ok (.getfield 64, 3) := by decide +kernel
theorem dX12_targetOf_7 : decode cX12_targetOf 7 = .ok (.iload_n 1, 1) := by decide +kernel
theorem dX12_targetOf_8 : decode cX12_targetOf 8 = .ok (.iaload, 1) := by decide +kernel
theorem dX12_targetOf_9 : decode cX12_targetOf 9 = .ok (.if_icmp .ge 60, 3) := by decide +kernel
theorem dX12_targetOf_12 : decode cX12_targetOf 12 = .ok (.iconst 0, 1) := by decide +kernel
theorem dX12_targetOf_13 : decode cX12_targetOf 13 = .ok (.istore_n 3, 1) := by decide +kernel
theorem dX12_targetOf_14 : decode cX12_targetOf 14 = .ok (.iconst 0, 1) := by decide +kernel
theorem dX12_targetOf_15 : decode cX12_targetOf 15 = .ok (.istore 4, 2) := by decide +kernel
theorem dX12_targetOf_17 : decode cX12_targetOf 17 = .ok (.iload 4, 2) := by decide +kernel
theorem dX12_targetOf_19 : decode cX12_targetOf 19 = .ok (.aload_n 0, 1) := by decide +kernel
theorem dX12_targetOf_20 : decode cX12_targetOf 20 = .ok (.getfield 175, 3) := by decide +kernel
theorem dX12_targetOf_23 : decode cX12_targetOf 23 = .ok (.if_icmp .ge 33, 3) := by decide +kernel
theorem dX12_targetOf_26 : decode cX12_targetOf 26 = .ok (.iload_n 3, 1) := by decide +kernel
theorem dX12_targetOf_27 : decode cX12_targetOf 27 = .ok (.aload_n 0, 1) := by decide +kernel
theorem dX12_targetOf_28 : decode cX12_targetOf 28 = .ok (.getfield 61, 3) := by decide +kernel
theorem dX12_targetOf_31 : decode cX12_targetOf 31 = .ok (.bipush 12, 2) := by decide +kernel
theorem dX12_targetOf_33 : decode cX12_targetOf 33 = .ok (.iload_n 1, 1) := by decide +kernel
theorem dX12_targetOf_34 : decode cX12_targetOf 34 = .ok (.imul, 1) := by decide +kernel
theorem dX12_targetOf_35 : decode cX12_targetOf 35 = .ok (.iload 4, 2) := by decide +kernel
theorem dX12_targetOf_37 : decode cX12_targetOf 37 = .ok (.iadd, 1) := by decide +kernel
theorem dX12_targetOf_38 : decode cX12_targetOf 38 = .ok (.iaload, 1) := by decide +kernel
theorem dX12_targetOf_39 : decode cX12_targetOf 39 = .ok (.iload_n 2, 1) := by decide +kernel
theorem dX12_targetOf_40 : decode cX12_targetOf 40 = .ok (.if_icmp .ne 7, 3) := by decide +kernel
theorem dX12_targetOf_43 : decode cX12_targetOf 43 = .ok (.iconst 1, 1) := by decide +kernel
theorem dX12_targetOf_44 : decode cX12_targetOf 44 = .ok (.goto 4, 3) := by decide +kernel
theorem dX12_targetOf_47 : decode cX12_targetOf 47 = .ok (.iconst 0, 1) := by decide +kernel
theorem dX12_targetOf_48 : decode cX12_targetOf 48 = .ok (.iadd, 1) := by decide +kernel
theorem dX12_targetOf_49 : decode cX12_targetOf 49 = .ok (.istore_n 3, 1) := by decide +kernel
theorem dX12_targetOf_50 : decode cX12_targetOf 50 = .ok (.iinc 4 1, 3) := by decide +kernel
theorem dX12_targetOf_53 : decode cX12_targetOf 53 = .ok (.goto (-36), 3) := by decide +kernel
theorem dX12_targetOf_56 : decode cX12_targetOf 56 = .ok (.iload_n 3, 1) := by decide +kernel
theorem dX12_targetOf_57 : decode cX12_targetOf 57 = .ok (.iconst 1, 1) := by decide +kernel
theorem dX12_targetOf_58 : decode cX12_targetOf 58 = .ok (.if_icmp .le 5, 3) := by decide +kernel
theorem dX12_targetOf_61 : decode cX12_targetOf 61 = .ok (.iload_n 2, 1) := by decide +kernel
theorem dX12_targetOf_62 : decode cX12_targetOf 62 = .ok (.ireturn, 1) := by decide +kernel
theorem dX12_targetOf_63 : decode cX12_targetOf 63 = .ok (.iinc 2 1, 3) := by decide +kernel
theorem dX12_targetOf_66 : decode cX12_targetOf 66 = .ok (.goto (-64), 3) := by decide +kernel
theorem dX12_targetOf_69 : decode cX12_targetOf 69 = .ok (.iconst (-1), 1) := by decide +kernel
theorem dX12_targetOf_70 : decode cX12_targetOf 70 = .ok (.ireturn, 1) := by decide +kernel
def PJ_X12_targetOf_56 (d : Nat) (E : zb_E) (v2_2 : Int) (X2 : Int → Prop) (Q : Int → Prop) (v3_56 : Int) : Prop :=
  (v3_56 ≤ 1 → (zb_inI (v2_2 + 1)) ∧ (X2 (v2_2 + 1))) ∧ (¬ v3_56 ≤ 1 → Q v2_2)
def PL_X12_targetOf_17 (d : Nat) (E : zb_E) (x0 : Int) (x1 : Int) (m : zb_M) (v2_2 : Int) (Q : Int → Prop) (K56_17 : Int → Prop) (v3_17 : Int) (v4_17 : Int) : Prop :=
  ∀ X17 : Int → Int → Prop, (∀ (v3_17 : Int) (v4_17 : Int), (((m x0 15) ≤ v4_17 → K56_17 v3_17) ∧ (¬ (m x0 15) ≤ v4_17 → (zb_inI (12 * x1)) ∧ ((zb_inI ((12 * x1) + v4_17)) ∧ ((0 ≤ ((12 * x1) + v4_17) ∧ ((12 * x1) + v4_17) < 180) ∧ (((m (E.2 x0 19) ((12 * x1) + v4_17)) = v2_2 → (zb_inI (v3_17 + 1)) ∧ ((zb_inI (v4_17 + 1)) ∧ (X17 (v3_17 + 1) (v4_17 + 1)))) ∧ (¬ (m (E.2 x0 19) ((12 * x1) + v4_17)) = v2_2 → (zb_inI (v3_17 + 0)) ∧ ((zb_inI (v4_17 + 1)) ∧ (X17 (v3_17 + 0) (v4_17 + 1))))))))) → X17 v3_17 v4_17) → X17 v3_17 v4_17
def PL_X12_targetOf_2 (d : Nat) (E : zb_E) (x0 : Int) (x1 : Int) (m : zb_M) (Q : Int → Prop)  (v2_2 : Int) : Prop :=
  ∀ X2 : Int → Prop, (∀ (v2_2 : Int), ((0 ≤ x1 ∧ x1 < 15) ∧ (((m (E.2 x0 20) x1) ≤ v2_2 → Q (-1)) ∧ (¬ (m (E.2 x0 20) x1) ≤ v2_2 → PL_X12_targetOf_17 d E x0 x1 m v2_2 Q (PJ_X12_targetOf_56 d E v2_2 X2 Q) 0 0))) → X2 v2_2) → X2 v2_2
def PM_X12_targetOf (d : Nat) (E : zb_E) (x0 : Int) (x1 : Int) (m : zb_M) (Q : Int → Prop) : Prop :=
  PL_X12_targetOf_2 d E x0 x1 m Q 0
set_option maxRecDepth 100000 in
set_option maxHeartbeats 4000000 in
theorem w_X12_targetOf {d : Nat} {E : zb_E} {x0 x1 : Int} {m : zb_M} {Q : Int → Prop} (h : PM_X12_targetOf d E x0 x1 m Q) : zb_Tp K_X12_targetOf (d + 1) [(2, x0), (0, x1)] E m Q := by
  unfold PM_X12_targetOf at h
  refine zb_T_in gd_X12_targetOf rfl rfl (fun hW hA G C hF => ?_)
  have i_0 : zb_is E.1 x0 12 := zb_aH hA (by decide)
  show zb_WP _ _ 0 [(0, (2, x0)), (1, (0, x1))] [] _ _ _ _
  refine zb_iconst dX12_targetOf_0 (zb_inIc rfl) ?_
  refine zb_istore_n (L' := [(2, (0, 0)), (0, (2, x0)), (1, (0, x1))]) dX12_targetOf_1 rfl (by decide) rfl ?_
  refine zb_sub (L' := [(0, (2, x0)), (1, (0, x1)), (2, (0, 0))]) [1, 2, 0] rfl ?_
  unfold PL_X12_targetOf_2 at h
  obtain ⟨X2, hX2⟩ : ∃ X : Int → Prop, ∀ (v2_2 : Int), (X v2_2 ↔ (zb_FIN E m → zb_WP (G, C, d + 1, 0, 0, zb_q E (fun r m' => m' = m ∧ Q r)) F_X12_targetOf 2 [(0, (2, x0)), (1, (0, x1)), (2, (0, v2_2))] [] E.1 m 0 0)) := ⟨fun v2_2 => zb_FIN E m → zb_WP (G, C, d + 1, 0, 0, zb_q E (fun r m' => m' = m ∧ Q r)) F_X12_targetOf 2 [(0, (2, x0)), (1, (0, x1)), (2, (0, v2_2))] [] E.1 m 0 0, fun _ => Iff.rfl⟩
  refine (hX2 _).mp (h X2 (fun v2_2 h => (hX2 _).mpr (fun hF => ?_))) hF
  refine zb_iload_n (j := 2) dX12_targetOf_2 rfl rfl ?_
  refine zb_aload_n (j := 0) dX12_targetOf_3 rfl rfl ?_
  refine zb_gFa 20 dX12_targetOf_4 fl_X12_64 i_0 hW hF rfl rfl rfl (by decide) rfl 15 rfl (fun i1 l2 => ?_)
  refine zb_iload_n (j := 1) dX12_targetOf_7 rfl rfl ?_
  obtain ⟨o3, h⟩ := h
  refine zb_lI dX12_targetOf_8 i1 l2 o3.1 o3.2 ?_
  refine zb_icmp_ge (tgt := 69) dX12_targetOf_9 (by decide) (fun c4 => ?_) (fun c4 => ?_)
  · have h := h.1 c4
    refine zb_iconst dX12_targetOf_69 (zb_inIc rfl) ?_
    exact zb_rI dX12_targetOf_70 rfl hF ⟨rfl, h⟩
  · have h := h.2 c4
    refine zb_iconst dX12_targetOf_12 (zb_inIc rfl) ?_
    refine zb_istore_n (L' := [(3, (0, 0)), (0, (2, x0)), (1, (0, x1)), (2, (0, v2_2))]) dX12_targetOf_13 rfl (by decide) rfl ?_
    refine zb_iconst dX12_targetOf_14 (zb_inIc rfl) ?_
    refine zb_istore (L' := [(4, (0, 0)), (3, (0, 0)), (0, (2, x0)), (1, (0, x1)), (2, (0, v2_2))]) dX12_targetOf_15 (by decide) rfl ?_
    refine zb_sub (L' := [(0, (2, x0)), (1, (0, x1)), (2, (0, v2_2)), (3, (0, 0)), (4, (0, 0))]) [2, 3, 4, 1, 0] rfl ?_
    have hJ56 : ∀ (v3_56 : Int), zb_FIN E m → PJ_X12_targetOf_56 d E v2_2 X2 Q v3_56 → zb_WP (G, C, d + 1, 0, 0, zb_q E (fun r m' => m' = m ∧ Q r)) F_X12_targetOf 56 [(0, (2, x0)), (1, (0, x1)), (2, (0, v2_2)), (3, (0, v3_56))] [] E.1 m 0 0 := by
      intro v3_56 hF h
      unfold PJ_X12_targetOf_56 at h
      refine zb_iload_n (j := 3) dX12_targetOf_56 rfl rfl ?_
      refine zb_iconst dX12_targetOf_57 (zb_inIc rfl) ?_
      refine zb_icmp_le (tgt := 63) dX12_targetOf_58 (by decide) (fun c5 => ?_) (fun c5 => ?_)
      · have h := h.1 c5
        obtain ⟨o6, h⟩ := h
        refine zb_iinc (j := 2) (L' := [(2, (0, (v2_2 + 1))), (0, (2, x0)), (1, (0, x1)), (3, (0, v3_56))]) dX12_targetOf_63 rfl o6 (by decide) rfl ?_
        refine zb_goto (tgt := 2) dX12_targetOf_66 (by decide) ?_
        refine zb_sub (L' := [(0, (2, x0)), (1, (0, x1)), (2, (0, (v2_2 + 1)))]) [1, 2, 0] rfl ?_
        exact (hX2 _).mp h hF
      · have h := h.2 c5
        refine zb_iload_n (j := 2) dX12_targetOf_61 rfl rfl ?_
        exact zb_rI dX12_targetOf_62 rfl hF ⟨rfl, h⟩
    unfold PL_X12_targetOf_17 at h
    obtain ⟨X17, hX17⟩ : ∃ X : Int → Int → Prop, ∀ (v3_17 : Int) (v4_17 : Int), (X v3_17 v4_17 ↔ (zb_FIN E m → zb_WP (G, C, d + 1, 0, 0, zb_q E (fun r m' => m' = m ∧ Q r)) F_X12_targetOf 17 [(0, (2, x0)), (1, (0, x1)), (2, (0, v2_2)), (3, (0, v3_17)), (4, (0, v4_17))] [] E.1 m 0 0)) := ⟨fun v3_17 v4_17 => zb_FIN E m → zb_WP (G, C, d + 1, 0, 0, zb_q E (fun r m' => m' = m ∧ Q r)) F_X12_targetOf 17 [(0, (2, x0)), (1, (0, x1)), (2, (0, v2_2)), (3, (0, v3_17)), (4, (0, v4_17))] [] E.1 m 0 0, fun _ _ => Iff.rfl⟩
    refine (hX17 _ _).mp (h X17 (fun v3_17 v4_17 h => (hX17 _ _).mpr (fun hF => ?_))) hF
    refine zb_iload (j := 4) dX12_targetOf_17 rfl ?_
    refine zb_aload_n (j := 0) dX12_targetOf_19 rfl rfl ?_
    refine zb_gI 15 dX12_targetOf_20 fl_X12_175 i_0 rfl rfl ?_
    refine zb_icmp_ge (tgt := 56) dX12_targetOf_23 (by decide) (fun c7 => ?_) (fun c7 => ?_)
    · have h := h.1 c7
      refine zb_sub (L' := [(0, (2, x0)), (1, (0, x1)), (2, (0, v2_2)), (3, (0, v3_17))]) [0, 1, 2, 3] rfl ?_
      exact hJ56 _ hF h
    · have h := h.2 c7
      refine zb_iload_n (j := 3) dX12_targetOf_26 rfl rfl ?_
      refine zb_aload_n (j := 0) dX12_targetOf_27 rfl rfl ?_
      refine zb_gFa 19 dX12_targetOf_28 fl_X12_61 i_0 hW hF rfl rfl rfl (by decide) rfl 180 rfl (fun i8 l9 => ?_)
      refine zb_bipush dX12_targetOf_31 (by decide) (zb_inIc rfl) ?_
      refine zb_iload_n (j := 1) dX12_targetOf_33 rfl rfl ?_
      obtain ⟨o10, h⟩ := h
      refine zb_imul dX12_targetOf_34 o10 ?_
      refine zb_iload (j := 4) dX12_targetOf_35 rfl ?_
      obtain ⟨o11, h⟩ := h
      refine zb_iadd dX12_targetOf_37 o11 ?_
      obtain ⟨o12, h⟩ := h
      refine zb_lI dX12_targetOf_38 i8 l9 o12.1 o12.2 ?_
      refine zb_iload_n (j := 2) dX12_targetOf_39 rfl rfl ?_
      refine zb_icmp_ne (tgt := 47) dX12_targetOf_40 (by decide) (fun c13 => ?_) (fun c13 => ?_)
      · have h := h.2 c13
        refine zb_iconst dX12_targetOf_47 (zb_inIc rfl) ?_
        obtain ⟨o14, h⟩ := h
        refine zb_iadd dX12_targetOf_48 o14 ?_
        refine zb_istore_n (L' := [(3, (0, (v3_17 + 0))), (0, (2, x0)), (1, (0, x1)), (2, (0, v2_2)), (4, (0, v4_17))]) dX12_targetOf_49 rfl (by decide) rfl ?_
        obtain ⟨o15, h⟩ := h
        refine zb_iinc (j := 4) (L' := [(4, (0, (v4_17 + 1))), (3, (0, (v3_17 + 0))), (0, (2, x0)), (1, (0, x1)), (2, (0, v2_2))]) dX12_targetOf_50 rfl o15 (by decide) rfl ?_
        refine zb_goto (tgt := 17) dX12_targetOf_53 (by decide) ?_
        refine zb_sub (L' := [(0, (2, x0)), (1, (0, x1)), (2, (0, v2_2)), (3, (0, (v3_17 + 0))), (4, (0, (v4_17 + 1)))]) [2, 3, 4, 1, 0] rfl ?_
        exact (hX17 _ _).mp h hF
      · have h := h.1 c13
        refine zb_iconst dX12_targetOf_43 (zb_inIc rfl) ?_
        refine zb_goto (tgt := 48) dX12_targetOf_44 (by decide) ?_
        obtain ⟨o16, h⟩ := h
        refine zb_iadd dX12_targetOf_48 o16 ?_
        refine zb_istore_n (L' := [(3, (0, (v3_17 + 1))), (0, (2, x0)), (1, (0, x1)), (2, (0, v2_2)), (4, (0, v4_17))]) dX12_targetOf_49 rfl (by decide) rfl ?_
        obtain ⟨o17, h⟩ := h
        refine zb_iinc (j := 4) (L' := [(4, (0, (v4_17 + 1))), (3, (0, (v3_17 + 1))), (0, (2, x0)), (1, (0, x1)), (2, (0, v2_2))]) dX12_targetOf_50 rfl o17 (by decide) rfl ?_
        refine zb_goto (tgt := 17) dX12_targetOf_53 (by decide) ?_
        refine zb_sub (L' := [(0, (2, x0)), (1, (0, x1)), (2, (0, v2_2)), (3, (0, (v3_17 + 1))), (4, (0, (v4_17 + 1)))]) [2, 3, 4, 1, 0] rfl ?_
        exact (hX17 _ _).mp h hF
theorem dX12_follows_0 : decode cX12_follows 0 = .ok (.aload_n 0, 1) := by decide +kernel
theorem dX12_follows_1 : decode cX12_follows 1 = .ok (.getfield 61, 3) := by decide +kernel
theorem dX12_follows_4 : decode cX12_follows 4 = .ok (.bipush 12, 2) := by decide +kernel
theorem dX12_follows_6 : decode cX12_follows 6 = .ok (.iload_n 1, 1) := by decide +kernel
theorem dX12_follows_7 : decode cX12_follows 7 = .ok (.imul, 1) := by decide +kernel
theorem dX12_follows_8 : decode cX12_follows 8 = .ok (.iload_n 3, 1) := by decide +kernel
theorem dX12_follows_9 : decode cX12_follows 9 = .ok (.iadd, 1) := by decide +kernel
theorem dX12_follows_10 : decode cX12_follows 10 = .ok (.iaload, 1) := by decide +kernel
theorem dX12_follows_11 : decode cX12_follows 11 = .ok (.iload_n 2, 1) := by decide +kernel
theorem dX12_follows_12 : decode cX12_follows 12 = .ok (.if_icmp .ne 7, 3) := by decide +kernel
theorem dX12_follows_15 : decode cX12_follows 15 = .ok (.iconst 1, 1) := by decide +kernel
theorem dX12_follows_16 : decode cX12_follows 16 = .ok (.goto 4, 3) := by decide +kernel
theorem dX12_follows_19 : decode cX12_follows 19 = .ok (.iconst 0, 1) := by decide +kernel
theorem dX12_follows_20 : decode cX12_follows 20 = .ok (.istore 4, 2) := by decide +kernel
theorem dX12_follows_22 : decode cX12_follows 22 = .ok (.iconst 0, 1) := by decide +kernel
theorem dX12_follows_23 : decode cX12_follows 23 = .ok (.istore 5, 2) := by decide +kernel
theorem dX12_follows_25 : decode cX12_follows 25 = .ok (.iload 5, 2) := by decide +kernel
theorem dX12_follows_27 : decode cX12_follows 27 = .ok (.iload_n 3, 1) := by decide +kernel
theorem dX12_follows_28 : decode cX12_follows 28 = .ok (.if_icmp .ge 47, 3) := by decide +kernel
theorem dX12_follows_31 : decode cX12_follows 31 = .ok (.iload 4, 2) := by decide +kernel
theorem dX12_follows_33 : decode cX12_follows 33 = .ok (.ifCond .eq 42, 3) := by decide +kernel
theorem dX12_follows_36 : decode cX12_follows 36 = .ok (.aload_n 0, 1) := by decide +kernel
theorem dX12_follows_37 : decode cX12_follows 37 = .ok (.getfield 61, 3) := by decide +kernel
theorem dX12_follows_40 : decode cX12_follows 40 = .ok (.bipush 12, 2) := by decide +kernel
theorem dX12_follows_42 : decode cX12_follows 42 = .ok (.iload_n 1, 1) := by decide +kernel
theorem dX12_follows_43 : decode cX12_follows 43 = .ok (.imul, 1) := by decide +kernel
theorem dX12_follows_44 : decode cX12_follows 44 = .ok (.iload 5, 2) := by decide +kernel
theorem dX12_follows_46 : decode cX12_follows 46 = .ok (.iadd, 1) := by decide +kernel
theorem dX12_follows_47 : decode cX12_follows 47 = .ok (.iaload, 1) := by decide +kernel
theorem dX12_follows_48 : decode cX12_follows 48 = .ok (.iload_n 2, 1) := by decide +kernel
theorem dX12_follows_49 : decode cX12_follows 49 = .ok (.if_icmp .ne 13, 3) := by decide +kernel
theorem dX12_follows_52 : decode cX12_follows 52 = .ok (.aload_n 0, 1) := by decide +kernel
theorem dX12_follows_53 : decode cX12_follows 53 = .ok (.iload 5, 2) := by decide +kernel
theorem dX12_follows_55 : decode cX12_follows 55 = .ok (.iload_n 3, 1) := by decide +kernel
theorem dX12_follows_56 : decode cX12_follows 56 = .ok (.invokevirtual 213, 3) := by decide +kernel
theorem dX12_follows_59 : decode cX12_follows 59 = .ok (.ifCond .ne 7, 3) := by decide +kernel
theorem dX12_follows_62 : decode cX12_follows 62 = .ok (.iconst 1, 1) := by decide +kernel
theorem dX12_follows_63 : decode cX12_follows 63 = .ok (.goto 4, 3) := by decide +kernel
theorem dX12_follows_66 : decode cX12_follows 66 = .ok (.iconst 0, 1) := by decide +kernel
theorem dX12_follows_67 : decode cX12_follows 67 = .ok (.istore 4, 2) := by decide +kernel
theorem dX12_follows_69 : decode cX12_follows 69 = .ok (.iinc 5 1, 3) := by decide +kernel
theorem dX12_follows_72 : decode cX12_follows 72 = .ok (.goto (-47), 3) := by decide +kernel
theorem dX12_follows_75 : decode cX12_follows 75 = .ok (.iload 4, 2) := by decide +kernel
theorem dX12_follows_77 : decode cX12_follows 77 = .ok (.ireturn, 1) := by decide +kernel
def PL_X12_follows_25 (d : Nat) (E : zb_E) (x0 : Int) (x1 : Int) (x2 : Int) (x3 : Int) (m : zb_M) (Q : Int → Prop)  (v4_25 : Int) (v5_25 : Int) : Prop :=
  ∀ X25 : Int → Int → Prop, (∀ (v4_25 : Int) (v5_25 : Int), ((x3 ≤ v5_25 → (v4_25 = 0 ∨ v4_25 = 1) ∧ (Q v4_25)) ∧ (¬ x3 ≤ v5_25 → (v4_25 = 0 → (v4_25 = 0 ∨ v4_25 = 1) ∧ (Q v4_25)) ∧ (¬ v4_25 = 0 → (zb_inI ((12 * x1) + v5_25)) ∧ ((0 ≤ ((12 * x1) + v5_25) ∧ ((12 * x1) + v5_25) < 180) ∧ (((m (E.2 x0 19) ((12 * x1) + v5_25)) = x2 → zb_Tp K_X12_areTwins d [(2, x0), (0, v5_25), (0, x3)] E m (fun r56 => (r56 = 0 → (zb_inI (v5_25 + 1)) ∧ (X25 1 (v5_25 + 1))) ∧ (¬ r56 = 0 → (zb_inI (v5_25 + 1)) ∧ (X25 0 (v5_25 + 1))))) ∧ (¬ (m (E.2 x0 19) ((12 * x1) + v5_25)) = x2 → (zb_inI (v5_25 + 1)) ∧ (X25 1 (v5_25 + 1)))))))) → X25 v4_25 v5_25) → X25 v4_25 v5_25
def PJ_X12_follows_20 (d : Nat) (E : zb_E) (x0 : Int) (x1 : Int) (x2 : Int) (x3 : Int) (m : zb_M) (Q : Int → Prop) (s0_20 : Int) : Prop :=
  PL_X12_follows_25 d E x0 x1 x2 x3 m Q s0_20 0
def PM_X12_follows (d : Nat) (E : zb_E) (x0 : Int) (x1 : Int) (x2 : Int) (x3 : Int) (m : zb_M) (Q : Int → Prop) : Prop :=
  (zb_inI (12 * x1)) ∧ ((zb_inI ((12 * x1) + x3)) ∧ ((0 ≤ ((12 * x1) + x3) ∧ ((12 * x1) + x3) < 180) ∧ (((m (E.2 x0 19) ((12 * x1) + x3)) = x2 → PJ_X12_follows_20 d E x0 x1 x2 x3 m Q 1) ∧ (¬ (m (E.2 x0 19) ((12 * x1) + x3)) = x2 → PJ_X12_follows_20 d E x0 x1 x2 x3 m Q 0))))
set_option maxRecDepth 100000 in
set_option maxHeartbeats 4000000 in
theorem w_X12_follows {d : Nat} {E : zb_E} {x0 x1 x2 x3 : Int} {m : zb_M} {Q : Int → Prop} (h : PM_X12_follows d E x0 x1 x2 x3 m Q) : zb_Tp K_X12_follows (d + 1) [(2, x0), (0, x1), (0, x2), (0, x3)] E m Q := by
  unfold PM_X12_follows at h
  refine zb_T_in gd_X12_follows rfl rfl (fun hW hA G C hF => ?_)
  have i_0 : zb_is E.1 x0 12 := zb_aH hA (by decide)
  show zb_WP _ _ 0 [(0, (2, x0)), (1, (0, x1)), (2, (0, x2)), (3, (0, x3))] [] _ _ _ _
  refine zb_aload_n (j := 0) dX12_follows_0 rfl rfl ?_
  refine zb_gFa 19 dX12_follows_1 fl_X12_61 i_0 hW hF rfl rfl rfl (by decide) rfl 180 rfl (fun i1 l2 => ?_)
  refine zb_bipush dX12_follows_4 (by decide) (zb_inIc rfl) ?_
  refine zb_iload_n (j := 1) dX12_follows_6 rfl rfl ?_
  obtain ⟨o3, h⟩ := h
  refine zb_imul dX12_follows_7 o3 ?_
  refine zb_iload_n (j := 3) dX12_follows_8 rfl rfl ?_
  obtain ⟨o4, h⟩ := h
  refine zb_iadd dX12_follows_9 o4 ?_
  obtain ⟨o5, h⟩ := h
  refine zb_lI dX12_follows_10 i1 l2 o5.1 o5.2 ?_
  refine zb_iload_n (j := 2) dX12_follows_11 rfl rfl ?_
  have hJ20 : ∀ (s0_20 : Int), zb_FIN E m → PJ_X12_follows_20 d E x0 x1 x2 x3 m Q s0_20 → zb_WP (G, C, d + 1, 0, 0, zb_q E (fun r m' => m' = m ∧ Q r)) F_X12_follows 20 [(0, (2, x0)), (1, (0, x1)), (2, (0, x2)), (3, (0, x3))] [(0, s0_20)] E.1 m 0 0 := by
    intro s0_20 hF h
    unfold PJ_X12_follows_20 at h
    refine zb_istore (L' := [(4, (0, s0_20)), (0, (2, x0)), (1, (0, x1)), (2, (0, x2)), (3, (0, x3))]) dX12_follows_20 (by decide) rfl ?_
    refine zb_iconst dX12_follows_22 (zb_inIc rfl) ?_
    refine zb_istore (L' := [(5, (0, 0)), (4, (0, s0_20)), (0, (2, x0)), (1, (0, x1)), (2, (0, x2)), (3, (0, x3))]) dX12_follows_23 (by decide) rfl ?_
    refine zb_sub (L' := [(0, (2, x0)), (1, (0, x1)), (2, (0, x2)), (3, (0, x3)), (4, (0, s0_20)), (5, (0, 0))]) [2, 3, 4, 5, 1, 0] rfl ?_
    unfold PL_X12_follows_25 at h
    obtain ⟨X25, hX25⟩ : ∃ X : Int → Int → Prop, ∀ (v4_25 : Int) (v5_25 : Int), (X v4_25 v5_25 ↔ (zb_FIN E m → zb_WP (G, C, d + 1, 0, 0, zb_q E (fun r m' => m' = m ∧ Q r)) F_X12_follows 25 [(0, (2, x0)), (1, (0, x1)), (2, (0, x2)), (3, (0, x3)), (4, (0, v4_25)), (5, (0, v5_25))] [] E.1 m 0 0)) := ⟨fun v4_25 v5_25 => zb_FIN E m → zb_WP (G, C, d + 1, 0, 0, zb_q E (fun r m' => m' = m ∧ Q r)) F_X12_follows 25 [(0, (2, x0)), (1, (0, x1)), (2, (0, x2)), (3, (0, x3)), (4, (0, v4_25)), (5, (0, v5_25))] [] E.1 m 0 0, fun _ _ => Iff.rfl⟩
    refine (hX25 _ _).mp (h X25 (fun v4_25 v5_25 h => (hX25 _ _).mpr (fun hF => ?_))) hF
    refine zb_iload (j := 5) dX12_follows_25 rfl ?_
    refine zb_iload_n (j := 3) dX12_follows_27 rfl rfl ?_
    refine zb_icmp_ge (tgt := 75) dX12_follows_28 (by decide) (fun c6 => ?_) (fun c6 => ?_)
    · have h := h.1 c6
      refine zb_iload (j := 4) dX12_follows_75 rfl ?_
      obtain ⟨o7, h⟩ := h
      exact zb_rZ dX12_follows_77 rfl hF o7 ⟨rfl, h⟩
    · have h := h.2 c6
      refine zb_iload (j := 4) dX12_follows_31 rfl ?_
      refine zb_if_eq (tgt := 75) dX12_follows_33 (by decide) (fun c8 => ?_) (fun c8 => ?_)
      · have h := h.1 c8
        refine zb_iload (j := 4) dX12_follows_75 rfl ?_
        obtain ⟨o9, h⟩ := h
        exact zb_rZ dX12_follows_77 rfl hF o9 ⟨rfl, h⟩
      · have h := h.2 c8
        refine zb_aload_n (j := 0) dX12_follows_36 rfl rfl ?_
        refine zb_gFa 19 dX12_follows_37 fl_X12_61 i_0 hW hF rfl rfl rfl (by decide) rfl 180 rfl (fun i10 l11 => ?_)
        refine zb_bipush dX12_follows_40 (by decide) (zb_inIc rfl) ?_
        refine zb_iload_n (j := 1) dX12_follows_42 rfl rfl ?_
        refine zb_imul dX12_follows_43 o3 ?_
        refine zb_iload (j := 5) dX12_follows_44 rfl ?_
        obtain ⟨o12, h⟩ := h
        refine zb_iadd dX12_follows_46 o12 ?_
        obtain ⟨o13, h⟩ := h
        refine zb_lI dX12_follows_47 i10 l11 o13.1 o13.2 ?_
        refine zb_iload_n (j := 2) dX12_follows_48 rfl rfl ?_
        refine zb_icmp_ne (tgt := 62) dX12_follows_49 (by decide) (fun c14 => ?_) (fun c14 => ?_)
        · have h := h.2 c14
          refine zb_iconst dX12_follows_62 (zb_inIc rfl) ?_
          refine zb_goto (tgt := 67) dX12_follows_63 (by decide) ?_
          refine zb_istore (L' := [(4, (0, 1)), (0, (2, x0)), (1, (0, x1)), (2, (0, x2)), (3, (0, x3)), (5, (0, v5_25))]) dX12_follows_67 (by decide) rfl ?_
          obtain ⟨o15, h⟩ := h
          refine zb_iinc (j := 5) (L' := [(5, (0, (v5_25 + 1))), (4, (0, 1)), (0, (2, x0)), (1, (0, x1)), (2, (0, x2)), (3, (0, x3))]) dX12_follows_69 rfl o15 (by decide) rfl ?_
          refine zb_goto (tgt := 25) dX12_follows_72 (by decide) ?_
          refine zb_sub (L' := [(0, (2, x0)), (1, (0, x1)), (2, (0, x2)), (3, (0, x3)), (4, (0, 1)), (5, (0, (v5_25 + 1)))]) [2, 3, 4, 5, 1, 0] rfl ?_
          exact (hX25 _ _).mp h hF
        · have h := h.1 c14
          refine zb_aload_n (j := 0) dX12_follows_52 rfl rfl ?_
          refine zb_iload (j := 5) dX12_follows_53 rfl ?_
          refine zb_iload_n (j := 3) dX12_follows_55 rfl rfl ?_
          refine zb_cVp (As := [(0, v5_25), (0, x3)]) (As' := [(0, x3), (0, v5_25)]) (st := []) dX12_follows_56 lk_X12_213 gd_X12_areTwins rfl rfl i_0 ⟨_, rfl, rfl⟩ h hW hF (zb_aR i_0 (zb_aI (zb_aI zb_a0))) (Nat.le_refl _) (Nat.le_of_ble_eq_true rfl) (fun r56 h => ?_)
          show zb_WP _ _ _ _ [(0, r56)] _ _ _ _
          refine zb_if_ne (tgt := 66) dX12_follows_59 (by decide) (fun c16 => ?_) (fun c16 => ?_)
          · have h := h.2 c16
            refine zb_iconst dX12_follows_66 (zb_inIc rfl) ?_
            refine zb_istore (L' := [(4, (0, 0)), (0, (2, x0)), (1, (0, x1)), (2, (0, x2)), (3, (0, x3)), (5, (0, v5_25))]) dX12_follows_67 (by decide) rfl ?_
            obtain ⟨o17, h⟩ := h
            refine zb_iinc (j := 5) (L' := [(5, (0, (v5_25 + 1))), (4, (0, 0)), (0, (2, x0)), (1, (0, x1)), (2, (0, x2)), (3, (0, x3))]) dX12_follows_69 rfl o17 (by decide) rfl ?_
            refine zb_goto (tgt := 25) dX12_follows_72 (by decide) ?_
            refine zb_sub (L' := [(0, (2, x0)), (1, (0, x1)), (2, (0, x2)), (3, (0, x3)), (4, (0, 0)), (5, (0, (v5_25 + 1)))]) [2, 3, 4, 5, 1, 0] rfl ?_
            exact (hX25 _ _).mp h hF
          · have h := h.1 c16
            refine zb_iconst dX12_follows_62 (zb_inIc rfl) ?_
            refine zb_goto (tgt := 67) dX12_follows_63 (by decide) ?_
            refine zb_istore (L' := [(4, (0, 1)), (0, (2, x0)), (1, (0, x1)), (2, (0, x2)), (3, (0, x3)), (5, (0, v5_25))]) dX12_follows_67 (by decide) rfl ?_
            obtain ⟨o18, h⟩ := h
            refine zb_iinc (j := 5) (L' := [(5, (0, (v5_25 + 1))), (4, (0, 1)), (0, (2, x0)), (1, (0, x1)), (2, (0, x2)), (3, (0, x3))]) dX12_follows_69 rfl o18 (by decide) rfl ?_
            refine zb_goto (tgt := 25) dX12_follows_72 (by decide) ?_
            refine zb_sub (L' := [(0, (2, x0)), (1, (0, x1)), (2, (0, x2)), (3, (0, x3)), (4, (0, 1)), (5, (0, (v5_25 + 1)))]) [2, 3, 4, 5, 1, 0] rfl ?_
            exact (hX25 _ _).mp h hF
  refine zb_icmp_ne (tgt := 19) dX12_follows_12 (by decide) (fun c19 => ?_) (fun c19 => ?_)
  · have h := h.2 c19
    refine zb_iconst dX12_follows_19 (zb_inIc rfl) ?_
    exact hJ20 _ hF h
  · have h := h.1 c19
    refine zb_iconst dX12_follows_15 (zb_inIc rfl) ?_
    refine zb_goto (tgt := 20) dX12_follows_16 (by decide) ?_
    exact hJ20 _ hF h
theorem dX12_sizeOf_0 : decode cX12_sizeOf 0 = .ok (.iconst 1, 1) := by decide +kernel
theorem dX12_sizeOf_1 : decode cX12_sizeOf 1 = .ok (.iload_n 0, 1) := by decide +kernel
theorem dX12_sizeOf_2 : decode cX12_sizeOf 2 = .ok (.iadd, 1) := by decide +kernel
theorem dX12_sizeOf_3 : decode cX12_sizeOf 3 = .ok (.iload_n 0, 1) := by decide +kernel
theorem dX12_sizeOf_4 : decode cX12_sizeOf 4 = .ok (.iload_n 0, 1) := by decide +kernel
theorem dX12_sizeOf_5 : decode cX12_sizeOf 5 = .ok (.imul, 1) := by decide +kernel
theorem dX12_sizeOf_6 : decode cX12_sizeOf 6 = .ok (.iadd, 1) := by decide +kernel
theorem dX12_sizeOf_7 : decode cX12_sizeOf 7 = .ok (.ireturn, 1) := by decide +kernel
def PM_X12_sizeOf (d : Nat) (E : zb_E) (x0 : Int) (m : zb_M) (Q : Int → Prop) : Prop :=
  (zb_inI (1 + x0)) ∧ ((zb_inI (x0 * x0)) ∧ ((zb_inI ((1 + x0) + (x0 * x0))) ∧ (Q ((1 + x0) + (x0 * x0)))))
set_option maxRecDepth 100000 in
set_option maxHeartbeats 4000000 in
theorem w_X12_sizeOf {d : Nat} {E : zb_E} {x0 : Int} {m : zb_M} {Q : Int → Prop} (h : PM_X12_sizeOf d E x0 m Q) : zb_Tp K_X12_sizeOf (d + 1) [(0, x0)] E m Q := by
  unfold PM_X12_sizeOf at h
  refine zb_T_in gd_X12_sizeOf rfl rfl (fun hW hA G C hF => ?_)
  show zb_WP _ _ 0 [(0, (0, x0))] [] _ _ _ _
  refine zb_iconst dX12_sizeOf_0 (zb_inIc rfl) ?_
  refine zb_iload_n (j := 0) dX12_sizeOf_1 rfl rfl ?_
  obtain ⟨o1, h⟩ := h
  refine zb_iadd dX12_sizeOf_2 o1 ?_
  refine zb_iload_n (j := 0) dX12_sizeOf_3 rfl rfl ?_
  refine zb_iload_n (j := 0) dX12_sizeOf_4 rfl rfl ?_
  obtain ⟨o2, h⟩ := h
  refine zb_imul dX12_sizeOf_5 o2 ?_
  obtain ⟨o3, h⟩ := h
  refine zb_iadd dX12_sizeOf_6 o3 ?_
  exact zb_rI dX12_sizeOf_7 rfl hF ⟨rfl, h⟩
theorem dX12_leaf_0 : decode cX12_leaf 0 = .ok (.aload_n 0, 1) := by decide +kernel
theorem dX12_leaf_1 : decode cX12_leaf 1 = .ok (.dup, 1) := by decide +kernel
theorem dX12_leaf_2 : decode cX12_leaf 2 = .ok (.getfield 216, 3) := by decide +kernel
theorem dX12_leaf_5 : decode cX12_leaf 5 = .ok (.iconst 1, 1) := by decide +kernel
theorem dX12_leaf_6 : decode cX12_leaf 6 = .ok (.iadd, 1) := by decide +kernel
theorem dX12_leaf_7 : decode cX12_leaf 7 = .ok (.putfield 216, 3) := by decide +kernel
theorem dX12_leaf_10 : decode cX12_leaf 10 = .ok (.iconst 0, 1) := by decide +kernel
theorem dX12_leaf_11 : decode cX12_leaf 11 = .ok (.istore_n 2, 1) := by decide +kernel
theorem dX12_leaf_12 : decode cX12_leaf 12 = .ok (.iload_n 2, 1) := by decide +kernel
theorem dX12_leaf_13 : decode cX12_leaf 13 = .ok (.aload_n 0, 1) := by decide +kernel
theorem dX12_leaf_14 : decode cX12_leaf 14 = .ok (.getfield 175, 3) := by decide +kernel
theorem dX12_leaf_17 : decode cX12_leaf 17 = .ok (.if_icmp .ge 26, 3) := by decide +kernel
theorem dX12_leaf_20 : decode cX12_leaf 20 = .ok (.aload_n 0, 1) := by decide +kernel
theorem dX12_leaf_21 : decode cX12_leaf 21 = .ok (.getfield 91, 3) := by decide +kernel
theorem dX12_leaf_24 : decode cX12_leaf 24 = .ok (.aload_n 0, 1) := by decide +kernel
theorem dX12_leaf_25 : decode cX12_leaf 25 = .ok (.getfield 61, 3) := by decide +kernel
theorem dX12_leaf_28 : decode cX12_leaf 28 = .ok (.bipush 12, 2) := by decide +kernel
theorem dX12_leaf_30 : decode cX12_leaf 30 = .ok (.iload_n 1, 1) := by decide +kernel
theorem dX12_leaf_31 : decode cX12_leaf 31 = .ok (.imul, 1) := by decide +kernel
theorem dX12_leaf_32 : decode cX12_leaf 32 = .ok (.iload_n 2, 1) := by decide +kernel
theorem dX12_leaf_33 : decode cX12_leaf 33 = .ok (.iadd, 1) := by decide +kernel
theorem dX12_leaf_34 : decode cX12_leaf 34 = .ok (.iaload, 1) := by decide +kernel
theorem dX12_leaf_35 : decode cX12_leaf 35 = .ok (.iload_n 2, 1) := by decide +kernel
theorem dX12_leaf_36 : decode cX12_leaf 36 = .ok (.iastore, 1) := by decide +kernel
theorem dX12_leaf_37 : decode cX12_leaf 37 = .ok (.iinc 2 1, 3) := by decide +kernel
theorem dX12_leaf_40 : decode cX12_leaf 40 = .ok (.goto (-28), 3) := by decide +kernel
theorem dX12_leaf_43 : decode cX12_leaf 43 = .ok (.aload_n 0, 1) := by decide +kernel
theorem dX12_leaf_44 : decode cX12_leaf 44 = .ok (.getfield 88, 3) := by decide +kernel
theorem dX12_leaf_47 : decode cX12_leaf 47 = .ok (.iconst 0, 1) := by decide +kernel
theorem dX12_leaf_48 : decode cX12_leaf 48 = .ok (.aload_n 0, 1) := by decide +kernel
theorem dX12_leaf_49 : decode cX12_leaf 49 = .ok (.getfield 175, 3) := by decide +kernel
theorem dX12_leaf_52 : decode cX12_leaf 52 = .ok (.iastore, 1) := by decide +kernel
theorem dX12_leaf_53 : decode cX12_leaf 53 = .ok (.iconst 0, 1) := by decide +kernel
theorem dX12_leaf_54 : decode cX12_leaf 54 = .ok (.istore_n 2, 1) := by decide +kernel
theorem dX12_leaf_55 : decode cX12_leaf 55 = .ok (.iload_n 2, 1) := by decide +kernel
theorem dX12_leaf_56 : decode cX12_leaf 56 = .ok (.aload_n 0, 1) := by decide +kernel
theorem dX12_leaf_57 : decode cX12_leaf 57 = .ok (.getfield 175, 3) := by decide +kernel
theorem dX12_leaf_60 : decode cX12_leaf 60 = .ok (.if_icmp .ge 85, 3) := by decide +kernel
theorem dX12_leaf_63 : decode cX12_leaf 63 = .ok (.aload_n 0, 1) := by decide +kernel
theorem dX12_leaf_64 : decode cX12_leaf 64 = .ok (.getfield 88, 3) := by decide +kernel
theorem dX12_leaf_67 : decode cX12_leaf 67 = .ok (.iconst 1, 1) := by decide +kernel
theorem dX12_leaf_68 : decode cX12_leaf 68 = .ok (.iload_n 2, 1) := by decide +kernel
theorem dX12_leaf_69 : decode cX12_leaf 69 = .ok (.iadd, 1) := by decide +kernel
theorem dX12_leaf_70 : decode cX12_leaf 70 = .ok (.aload_n 0, 1) := by decide +kernel
theorem dX12_leaf_71 : decode cX12_leaf 71 = .ok (.getfield 55, 3) := by decide +kernel
theorem dX12_leaf_74 : decode cX12_leaf 74 = .ok (.aload_n 0, 1) := by decide +kernel
theorem dX12_leaf_75 : decode cX12_leaf 75 = .ok (.getfield 91, 3) := by decide +kernel
theorem dX12_leaf_78 : decode cX12_leaf 78 = .ok (.iload_n 2, 1) := by decide +kernel
theorem dX12_leaf_79 : decode cX12_leaf 79 = .ok (.iaload, 1) := by decide +kernel
theorem dX12_leaf_80 : decode cX12_leaf 80 = .ok (.iaload, 1) := by decide +kernel
theorem dX12_leaf_81 : decode cX12_leaf 81 = .ok (.iastore, 1) := by decide +kernel
theorem dX12_leaf_82 : decode cX12_leaf 82 = .ok (.iconst 0, 1) := by decide +kernel
theorem dX12_leaf_83 : decode cX12_leaf 83 = .ok (.istore_n 3, 1) := by decide +kernel
theorem dX12_leaf_84 : decode cX12_leaf 84 = .ok (.iload_n 3, 1) := by decide +kernel
theorem dX12_leaf_85 : decode cX12_leaf 85 = .ok (.aload_n 0, 1) := by decide +kernel
theorem dX12_leaf_86 : decode cX12_leaf 86 = .ok (.getfield 175, 3) := by decide +kernel
theorem dX12_leaf_89 : decode cX12_leaf 89 = .ok (.if_icmp .ge 50, 3) := by decide +kernel
theorem dX12_leaf_92 : decode cX12_leaf 92 = .ok (.aload_n 0, 1) := by decide +kernel
theorem dX12_leaf_93 : decode cX12_leaf 93 = .ok (.getfield 88, 3) := by decide +kernel
theorem dX12_leaf_96 : decode cX12_leaf 96 = .ok (.iconst 1, 1) := by decide +kernel
theorem dX12_leaf_97 : decode cX12_leaf 97 = .ok (.aload_n 0, 1) := by decide +kernel
theorem dX12_leaf_98 : decode cX12_leaf 98 = .ok (.getfield 175, 3) := by decide +kernel
theorem dX12_leaf_101 : decode cX12_leaf 101 = .ok (.iadd, 1) := by decide +kernel
theorem dX12_leaf_102 : decode cX12_leaf 102 = .ok (.aload_n 0, 1) := by decide +kernel
theorem dX12_leaf_103 : decode cX12_leaf 103 = .ok (.getfield 175, 3) := by decide +kernel
theorem dX12_leaf_106 : decode cX12_leaf 106 = .ok (.iload_n 2, 1) := by decide +kernel
theorem dX12_leaf_107 : decode cX12_leaf 107 = .ok (.imul, 1) := by decide +kernel
theorem dX12_leaf_108 : decode cX12_leaf 108 = .ok (.iadd, 1) := by decide +kernel
theorem dX12_leaf_109 : decode cX12_leaf 109 = .ok (.iload_n 3, 1) := by decide +kernel
theorem dX12_leaf_110 : decode cX12_leaf 110 = .ok (.iadd, 1) := by decide +kernel
theorem dX12_leaf_111 : decode cX12_leaf 111 = .ok (.aload_n 0, 1) := by decide +kernel
theorem dX12_leaf_112 : decode cX12_leaf 112 = .ok (.getfield 58, 3) := by decide +kernel
theorem dX12_leaf_115 : decode cX12_leaf 115 = .ok (.bipush 12, 2) := by decide +kernel
theorem dX12_leaf_117 : decode cX12_leaf 117 = .ok (.aload_n 0, 1) := by decide +kernel
theorem dX12_leaf_118 : decode cX12_leaf 118 = .ok (.getfield 91, 3) := by decide +kernel
theorem dX12_leaf_121 : decode cX12_leaf 121 = .ok (.iload_n 2, 1) := by decide +kernel
theorem dX12_leaf_122 : decode cX12_leaf 122 = .ok (.iaload, 1) := by decide +kernel
theorem dX12_leaf_123 : decode cX12_leaf 123 = .ok (.imul, 1) := by decide +kernel
theorem dX12_leaf_124 : decode cX12_leaf 124 = .ok (.aload_n 0, 1) := by decide +kernel
theorem dX12_leaf_125 : decode cX12_leaf 125 = .ok (.getfield 91, 3) := by decide +kernel
theorem dX12_leaf_128 : decode cX12_leaf 128 = .ok (.iload_n 3, 1) := by decide +kernel
theorem dX12_leaf_129 : decode cX12_leaf 129 = .ok (.iaload, 1) := by decide +kernel
theorem dX12_leaf_130 : decode cX12_leaf 130 = .ok (.iadd, 1) := by decide +kernel
theorem dX12_leaf_131 : decode cX12_leaf 131 = .ok (.iaload, 1) := by decide +kernel
theorem dX12_leaf_132 : decode cX12_leaf 132 = .ok (.iastore, 1) := by decide +kernel
theorem dX12_leaf_133 : decode cX12_leaf 133 = .ok (.iinc 3 1, 3) := by decide +kernel
theorem dX12_leaf_136 : decode cX12_leaf 136 = .ok (.goto (-52), 3) := by decide +kernel
theorem dX12_leaf_139 : decode cX12_leaf 139 = .ok (.iinc 2 1, 3) := by decide +kernel
theorem dX12_leaf_142 : decode cX12_leaf 142 = .ok (.goto (-87), 3) := by decide +kernel
theorem dX12_leaf_145 : decode cX12_leaf 145 = .ok (.aload_n 0, 1) := by decide +kernel
theorem dX12_leaf_146 : decode cX12_leaf 146 = .ok (.getfield 175, 3) := by decide +kernel
theorem dX12_leaf_149 : decode cX12_leaf 149 = .ok (.invokestatic 219, 3) := by decide +kernel
theorem dX12_leaf_152 : decode cX12_leaf 152 = .ok (.istore_n 2, 1) := by decide +kernel
theorem dX12_leaf_153 : decode cX12_leaf 153 = .ok (.iconst 0, 1) := by decide +kernel
theorem dX12_leaf_154 : decode cX12_leaf 154 = .ok (.istore_n 3, 1) := by decide +kernel
theorem dX12_leaf_155 : decode cX12_leaf 155 = .ok (.aload_n 0, 1) := by decide +kernel
theorem dX12_leaf_156 : decode cX12_leaf 156 = .ok (.getfield 216, 3) := by decide +kernel
theorem dX12_leaf_159 : decode cX12_leaf 159 = .ok (.iconst 1, 1) := by decide +kernel
theorem dX12_leaf_160 : decode cX12_leaf 160 = .ok (.if_icmp .le 29, 3) := by decide +kernel
theorem dX12_leaf_163 : decode cX12_leaf 163 = .ok (.iload_n 3, 1) := by decide +kernel
theorem dX12_leaf_164 : decode cX12_leaf 164 = .ok (.iload_n 2, 1) := by decide +kernel
theorem dX12_leaf_165 : decode cX12_leaf 165 = .ok (.if_icmp .ge 24, 3) := by decide +kernel
theorem dX12_leaf_168 : decode cX12_leaf 168 = .ok (.aload_n 0, 1) := by decide +kernel
theorem dX12_leaf_169 : decode cX12_leaf 169 = .ok (.getfield 88, 3) := by decide +kernel
theorem dX12_leaf_172 : decode cX12_leaf 172 = .ok (.iload_n 3, 1) := by decide +kernel
theorem dX12_leaf_173 : decode cX12_leaf 173 = .ok (.iaload, 1) := by decide +kernel
theorem dX12_leaf_174 : decode cX12_leaf 174 = .ok (.aload_n 0, 1) := by decide +kernel
theorem dX12_leaf_175 : decode cX12_leaf 175 = .ok (.getfield 82, 3) := by decide +kernel
theorem dX12_leaf_178 : decode cX12_leaf 178 = .ok (.iload_n 3, 1) := by decide +kernel
theorem dX12_leaf_179 : decode cX12_leaf 179 = .ok (.iaload, 1) := by decide +kernel
theorem dX12_leaf_180 : decode cX12_leaf 180 = .ok (.if_icmp .ne 9, 3) := by decide +kernel
theorem dX12_leaf_183 : decode cX12_leaf 183 = .ok (.iinc 3 1, 3) := by decide +kernel
theorem dX12_leaf_186 : decode cX12_leaf 186 = .ok (.goto (-31), 3) := by decide +kernel
theorem dX12_leaf_189 : decode cX12_leaf 189 = .ok (.aload_n 0, 1) := by decide +kernel
theorem dX12_leaf_190 : decode cX12_leaf 190 = .ok (.getfield 216, 3) := by decide +kernel
theorem dX12_leaf_193 : decode cX12_leaf 193 = .ok (.iconst 1, 1) := by decide +kernel
theorem dX12_leaf_194 : decode cX12_leaf 194 = .ok (.if_icmp .eq 23, 3) := by decide +kernel
theorem dX12_leaf_197 : decode cX12_leaf 197 = .ok (.iload_n 3, 1) := by decide +kernel
theorem dX12_leaf_198 : decode cX12_leaf 198 = .ok (.iload_n 2, 1) := by decide +kernel
theorem dX12_leaf_199 : decode cX12_leaf 199 = .ok (.if_icmp .ge 84, 3) := by decide +kernel
theorem dX12_leaf_202 : decode cX12_leaf 202 = .ok (.aload_n 0, 1) := by decide +kernel
theorem dX12_leaf_203 : decode cX12_leaf 203 = .ok (.getfield 88, 3) := by decide +kernel
theorem dX12_leaf_206 : decode cX12_leaf 206 = .ok (.iload_n 3, 1) := by decide +kernel
theorem dX12_leaf_207 : decode cX12_leaf 207 = .ok (.iaload, 1) := by decide +kernel
theorem dX12_leaf_208 : decode cX12_leaf 208 = .ok (.aload_n 0, 1) := by decide +kernel
theorem dX12_leaf_209 : decode cX12_leaf 209 = .ok (.getfield 82, 3) := by decide +kernel
theorem dX12_leaf_212 : decode cX12_leaf 212 = .ok (.iload_n 3, 1) := by decide +kernel
theorem dX12_leaf_213 : decode cX12_leaf 213 = .ok (.iaload, 1) := by decide +kernel
theorem dX12_leaf_214 : decode cX12_leaf 214 = .ok (.if_icmp .ge 69, 3) := by decide +kernel
theorem dX12_leaf_217 : decode cX12_leaf 217 = .ok (.iconst 0, 1) := by decide +kernel
theorem dX12_leaf_218 : decode cX12_leaf 218 = .ok (.istore 4, 2) := by decide +kernel
theorem dX12_leaf_220 : decode cX12_leaf 220 = .ok (.iload 4, 2) := by decide +kernel
theorem dX12_leaf_222 : decode cX12_leaf 222 = .ok (.iload_n 2, 1) := by decide +kernel
theorem dX12_leaf_223 : decode cX12_leaf 223 = .ok (.if_icmp .ge 23, 3) := by decide +kernel
theorem dX12_leaf_226 : decode cX12_leaf 226 = .ok (.aload_n 0, 1) := by decide +kernel
theorem dX12_leaf_227 : decode cX12_leaf 227 = .ok (.getfield 82, 3) := by decide +kernel
theorem dX12_leaf_230 : decode cX12_leaf 230 = .ok (.iload 4, 2) := by decide +kernel
theorem dX12_leaf_232 : decode cX12_leaf 232 = .ok (.aload_n 0, 1) := by decide +kernel
theorem dX12_leaf_233 : decode cX12_leaf 233 = .ok (.getfield 88, 3) := by decide +kernel
theorem dX12_leaf_236 : decode cX12_leaf 236 = .ok (.iload 4, 2) := by decide +kernel
theorem dX12_leaf_238 : decode cX12_leaf 238 = .ok (.iaload, 1) := by decide +kernel
theorem dX12_leaf_239 : decode cX12_leaf 239 = .ok (.iastore, 1) := by decide +kernel
theorem dX12_leaf_240 : decode cX12_leaf 240 = .ok (.iinc 4 1, 3) := by decide +kernel
theorem dX12_leaf_243 : decode cX12_leaf 243 = .ok (.goto (-23), 3) := by decide +kernel
theorem dX12_leaf_246 : decode cX12_leaf 246 = .ok (.iconst 0, 1) := by decide +kernel
theorem dX12_leaf_247 : decode cX12_leaf 247 = .ok (.istore 4, 2) := by decide +kernel
theorem dX12_leaf_249 : decode cX12_leaf 249 = .ok (.iload 4, 2) := by decide +kernel
theorem dX12_leaf_251 : decode cX12_leaf 251 = .ok (.aload_n 0, 1) := by decide +kernel
theorem dX12_leaf_252 : decode cX12_leaf 252 = .ok (.getfield 175, 3) := by decide +kernel
theorem dX12_leaf_255 : decode cX12_leaf 255 = .ok (.if_icmp .ge 28, 3) := by decide +kernel
theorem dX12_leaf_258 : decode cX12_leaf 258 = .ok (.aload_n 0, 1) := by decide +kernel
theorem dX12_leaf_259 : decode cX12_leaf 259 = .ok (.getfield 85, 3) := by decide +kernel
theorem dX12_leaf_262 : decode cX12_leaf 262 = .ok (.iload 4, 2) := by decide +kernel
theorem dX12_leaf_264 : decode cX12_leaf 264 = .ok (.aload_n 0, 1) := by decide +kernel
theorem dX12_leaf_265 : decode cX12_leaf 265 = .ok (.getfield 52, 3) := by decide +kernel
theorem dX12_leaf_268 : decode cX12_leaf 268 = .ok (.aload_n 0, 1) := by decide +kernel
theorem dX12_leaf_269 : decode cX12_leaf 269 = .ok (.getfield 91, 3) := by decide +kernel
theorem dX12_leaf_272 : decode cX12_leaf 272 = .ok (.iload 4, 2) := by decide +kernel
theorem dX12_leaf_274 : decode cX12_leaf 274 = .ok (.iaload, 1) := by decide +kernel
theorem dX12_leaf_275 : decode cX12_leaf 275 = .ok (.iaload, 1) := by decide +kernel
theorem dX12_leaf_276 : decode cX12_leaf 276 = .ok (.iastore, 1) := by decide +kernel
theorem dX12_leaf_277 : decode cX12_leaf 277 = .ok (.iinc 4 1, 3) := by decide +kernel
theorem dX12_leaf_280 : decode cX12_leaf 280 = .ok (.goto (-31), 3) := by decide +kernel
theorem dX12_leaf_283 : decode cX12_leaf 283 = .ok (.return_, 1) := by decide +kernel
def PL_X12_leaf_249 (d : Nat) (E : zb_E) (x0 : Int) (Q : Int → zb_M → Prop)  (v4_249 : Int) (m249l : zb_M) : Prop :=
  ∀ X249 : Int → zb_M → Prop, (∀ (v4_249 : Int) (m249l : zb_M), (((m249l x0 15) ≤ v4_249 → Q 0 m249l) ∧ (¬ (m249l x0 15) ≤ v4_249 → (0 ≤ v4_249 ∧ v4_249 < 12) ∧ ((0 ≤ (m249l (E.2 x0 33) v4_249) ∧ (m249l (E.2 x0 33) v4_249) < 12) ∧ (∀ m276, m276 = zb_up m249l (E.2 x0 31) v4_249 (m249l (E.2 x0 16) (m249l (E.2 x0 33) v4_249)) → ((zb_inI (v4_249 + 1)) ∧ (X249 (v4_249 + 1) m276)))))) → X249 v4_249 m249l) → X249 v4_249 m249l
def PJ_X12_leaf_246 (d : Nat) (E : zb_E) (x0 : Int) (Q : Int → zb_M → Prop) (m246j : zb_M) : Prop :=
  PL_X12_leaf_249 d E x0 Q 0 m246j
def PL_X12_leaf_220 (d : Nat) (E : zb_E) (x0 : Int) (r149 : Int) (Q : Int → zb_M → Prop) (K246_220 : zb_M → Prop) (v4_220 : Int) (m220l : zb_M) : Prop :=
  ∀ X220 : Int → zb_M → Prop, (∀ (v4_220 : Int) (m220l : zb_M), ((r149 ≤ v4_220 → K246_220 m220l) ∧ (¬ r149 ≤ v4_220 → (0 ≤ v4_220 ∧ v4_220 < 160) ∧ (∀ m239, m239 = zb_up m220l (E.2 x0 30) v4_220 (m220l (E.2 x0 32) v4_220) → ((zb_inI (v4_220 + 1)) ∧ (X220 (v4_220 + 1) m239))))) → X220 v4_220 m220l) → X220 v4_220 m220l
def PJ_X12_leaf_217 (d : Nat) (E : zb_E) (x0 : Int) (m145j : zb_M) (r149 : Int) (Q : Int → zb_M → Prop)  : Prop :=
  PL_X12_leaf_220 d E x0 r149 Q (PJ_X12_leaf_246 d E x0 Q) 0 m145j
def PJ_X12_leaf_189 (d : Nat) (E : zb_E) (x0 : Int) (m145j : zb_M) (r149 : Int) (Q : Int → zb_M → Prop) (v3_189 : Int) : Prop :=
  ((m145j x0 28) = 1 → PJ_X12_leaf_217 d E x0 m145j r149 Q) ∧ (¬ (m145j x0 28) = 1 → (r149 ≤ v3_189 → Q 0 m145j) ∧ (¬ r149 ≤ v3_189 → (0 ≤ v3_189 ∧ v3_189 < 160) ∧ (((m145j (E.2 x0 30) v3_189) ≤ (m145j (E.2 x0 32) v3_189) → Q 0 m145j) ∧ (¬ (m145j (E.2 x0 30) v3_189) ≤ (m145j (E.2 x0 32) v3_189) → PJ_X12_leaf_217 d E x0 m145j r149 Q))))
def PL_X12_leaf_155 (d : Nat) (E : zb_E) (x0 : Int) (m145j : zb_M) (r149 : Int) (Q : Int → zb_M → Prop) (K189_155 : Int → Prop) (v3_155 : Int) : Prop :=
  ∀ X155 : Int → Prop, (∀ (v3_155 : Int), (((m145j x0 28) ≤ 1 → K189_155 v3_155) ∧ (¬ (m145j x0 28) ≤ 1 → (r149 ≤ v3_155 → K189_155 v3_155) ∧ (¬ r149 ≤ v3_155 → (0 ≤ v3_155 ∧ v3_155 < 160) ∧ (((m145j (E.2 x0 32) v3_155) = (m145j (E.2 x0 30) v3_155) → (zb_inI (v3_155 + 1)) ∧ (X155 (v3_155 + 1))) ∧ (¬ (m145j (E.2 x0 32) v3_155) = (m145j (E.2 x0 30) v3_155) → K189_155 v3_155))))) → X155 v3_155) → X155 v3_155
def PJ_X12_leaf_145 (d : Nat) (E : zb_E) (x0 : Int) (Q : Int → zb_M → Prop) (m145j : zb_M) : Prop :=
  zb_Tp K_X12_sizeOf d [(0, (m145j x0 15))] E m145j (fun r149 => PL_X12_leaf_155 d E x0 m145j r149 Q (PJ_X12_leaf_189 d E x0 m145j r149 Q) 0)
def PJ_X12_leaf_139 (d : Nat) (E : zb_E) (v2_55 : Int) (X55 : Int → zb_M → Prop) (Q : Int → zb_M → Prop) (m139j : zb_M) : Prop :=
  (zb_inI (v2_55 + 1)) ∧ (X55 (v2_55 + 1) m139j)
def PL_X12_leaf_84 (d : Nat) (E : zb_E) (x0 : Int) (v2_55 : Int) (Q : Int → zb_M → Prop) (K139_84 : zb_M → Prop) (v3_84 : Int) (m84l : zb_M) : Prop :=
  ∀ X84 : Int → zb_M → Prop, (∀ (v3_84 : Int) (m84l : zb_M), (((m84l x0 15) ≤ v3_84 → K139_84 m84l) ∧ (¬ (m84l x0 15) ≤ v3_84 → (zb_inI (1 + (m84l x0 15))) ∧ ((zb_inI ((m84l x0 15) * v2_55)) ∧ ((zb_inI ((1 + (m84l x0 15)) + ((m84l x0 15) * v2_55))) ∧ ((zb_inI (((1 + (m84l x0 15)) + ((m84l x0 15) * v2_55)) + v3_84)) ∧ ((zb_inI (12 * (m84l (E.2 x0 33) v2_55))) ∧ ((0 ≤ v3_84 ∧ v3_84 < 12) ∧ ((zb_inI ((12 * (m84l (E.2 x0 33) v2_55)) + (m84l (E.2 x0 33) v3_84))) ∧ ((0 ≤ ((12 * (m84l (E.2 x0 33) v2_55)) + (m84l (E.2 x0 33) v3_84)) ∧ ((12 * (m84l (E.2 x0 33) v2_55)) + (m84l (E.2 x0 33) v3_84)) < 144) ∧ ((0 ≤ (((1 + (m84l x0 15)) + ((m84l x0 15) * v2_55)) + v3_84) ∧ (((1 + (m84l x0 15)) + ((m84l x0 15) * v2_55)) + v3_84) < 160) ∧ (∀ m132, m132 = zb_up m84l (E.2 x0 32) (((1 + (m84l x0 15)) + ((m84l x0 15) * v2_55)) + v3_84) (m84l (E.2 x0 18) ((12 * (m84l (E.2 x0 33) v2_55)) + (m84l (E.2 x0 33) v3_84))) → ((zb_inI (v3_84 + 1)) ∧ (X84 (v3_84 + 1) m132))))))))))))) → X84 v3_84 m84l) → X84 v3_84 m84l
def PL_X12_leaf_55 (d : Nat) (E : zb_E) (x0 : Int) (Q : Int → zb_M → Prop) (K145_55 : zb_M → Prop) (v2_55 : Int) (m55l : zb_M) : Prop :=
  ∀ X55 : Int → zb_M → Prop, (∀ (v2_55 : Int) (m55l : zb_M), (((m55l x0 15) ≤ v2_55 → K145_55 m55l) ∧ (¬ (m55l x0 15) ≤ v2_55 → (zb_inI (1 + v2_55)) ∧ ((0 ≤ v2_55 ∧ v2_55 < 12) ∧ ((0 ≤ (m55l (E.2 x0 33) v2_55) ∧ (m55l (E.2 x0 33) v2_55) < 12) ∧ ((0 ≤ (1 + v2_55) ∧ (1 + v2_55) < 160) ∧ (∀ m81, m81 = zb_up m55l (E.2 x0 32) (1 + v2_55) (m55l (E.2 x0 17) (m55l (E.2 x0 33) v2_55)) → (PL_X12_leaf_84 d E x0 v2_55 Q (PJ_X12_leaf_139 d E v2_55 X55 Q) 0 m81))))))) → X55 v2_55 m55l) → X55 v2_55 m55l
def PJ_X12_leaf_43 (d : Nat) (E : zb_E) (x0 : Int) (Q : Int → zb_M → Prop) (m43j : zb_M) : Prop :=
  ∀ m52, m52 = zb_up m43j (E.2 x0 32) 0 (m43j x0 15) → (PL_X12_leaf_55 d E x0 Q (PJ_X12_leaf_145 d E x0 Q) 0 m52)
def PL_X12_leaf_12 (d : Nat) (E : zb_E) (x0 : Int) (x1 : Int) (Q : Int → zb_M → Prop) (K43_12 : zb_M → Prop) (v2_12 : Int) (m12l : zb_M) : Prop :=
  ∀ X12 : Int → zb_M → Prop, (∀ (v2_12 : Int) (m12l : zb_M), (((m12l x0 15) ≤ v2_12 → K43_12 m12l) ∧ (¬ (m12l x0 15) ≤ v2_12 → (zb_inI (12 * x1)) ∧ ((zb_inI ((12 * x1) + v2_12)) ∧ ((0 ≤ ((12 * x1) + v2_12) ∧ ((12 * x1) + v2_12) < 180) ∧ ((0 ≤ (m12l (E.2 x0 19) ((12 * x1) + v2_12)) ∧ (m12l (E.2 x0 19) ((12 * x1) + v2_12)) < 12) ∧ (∀ m36, m36 = zb_up m12l (E.2 x0 33) (m12l (E.2 x0 19) ((12 * x1) + v2_12)) v2_12 → ((zb_inI (v2_12 + 1)) ∧ (X12 (v2_12 + 1) m36)))))))) → X12 v2_12 m12l) → X12 v2_12 m12l
def PM_X12_leaf (d : Nat) (E : zb_E) (x0 : Int) (x1 : Int) (m : zb_M) (Q : Int → zb_M → Prop) : Prop :=
  (zb_inI ((m x0 28) + 1)) ∧ (∀ m7, m7 = zb_up m x0 28 ((m x0 28) + 1) → (PL_X12_leaf_12 d E x0 x1 Q (PJ_X12_leaf_43 d E x0 Q) 0 m7))
set_option maxRecDepth 100000 in
set_option maxHeartbeats 4000000 in
theorem w_X12_leaf {d : Nat} {E : zb_E} {x0 x1 : Int} {m : zb_M} {Q : Int → zb_M → Prop} (h : PM_X12_leaf d E x0 x1 m Q) : zb_T K_X12_leaf (d + 1) [(2, x0), (0, x1)] E m Q := by
  unfold PM_X12_leaf at h
  refine zb_T_in gd_X12_leaf rfl rfl (fun hW hA G C hF => ?_)
  have i_0 : zb_is E.1 x0 12 := zb_aH hA (by decide)
  show zb_WP _ _ 0 [(0, (2, x0)), (1, (0, x1))] [] _ _ _ _
  refine zb_aload_n (j := 0) dX12_leaf_0 rfl rfl ?_
  refine zb_dup dX12_leaf_1 rfl ?_
  refine zb_gI 28 dX12_leaf_2 fl_X12_216 i_0 rfl rfl ?_
  refine zb_iconst dX12_leaf_5 (zb_inIc rfl) ?_
  obtain ⟨o1, h⟩ := h
  refine zb_iadd dX12_leaf_6 o1 ?_
  refine zb_pF 28 dX12_leaf_7 fl_X12_216 rfl rfl i_0 (Or.inl rfl) hF rfl rfl (fun m7 e7 hF => ?_)
  have h := h m7 e7
  refine zb_iconst dX12_leaf_10 (zb_inIc rfl) ?_
  refine zb_istore_n (L' := [(2, (0, 0)), (0, (2, x0)), (1, (0, x1))]) dX12_leaf_11 rfl (by decide) rfl ?_
  refine zb_sub (L' := [(0, (2, x0)), (1, (0, x1)), (2, (0, 0))]) [1, 2, 0] rfl ?_
  have hJ43 : ∀ (m43j : zb_M), zb_FIN E m43j → PJ_X12_leaf_43 d E x0 Q m43j → zb_WP (G, C, d + 1, 0, 0, zb_q E Q) F_X12_leaf 43 [(0, (2, x0))] [] E.1 m43j 0 0 := by
    intro m43j hF h
    unfold PJ_X12_leaf_43 at h
    refine zb_aload_n (j := 0) dX12_leaf_43 rfl rfl ?_
    refine zb_gFa 32 dX12_leaf_44 fl_X12_88 i_0 hW hF rfl rfl rfl (by decide) rfl 160 rfl (fun i2 l3 => ?_)
    refine zb_iconst dX12_leaf_47 (zb_inIc rfl) ?_
    refine zb_aload_n (j := 0) dX12_leaf_48 rfl rfl ?_
    refine zb_gI 15 dX12_leaf_49 fl_X12_175 i_0 rfl rfl ?_
    refine zb_sI dX12_leaf_52 i2 l3 (by decide) (by decide) hF (fun m52 e52 hF => ?_)
    have h := h m52 e52
    refine zb_iconst dX12_leaf_53 (zb_inIc rfl) ?_
    refine zb_istore_n (L' := [(2, (0, 0)), (0, (2, x0))]) dX12_leaf_54 rfl (by decide) rfl ?_
    refine zb_sub (L' := [(0, (2, x0)), (2, (0, 0))]) [1, 0] rfl ?_
    have hJ145 : ∀ (m145j : zb_M), zb_FIN E m145j → PJ_X12_leaf_145 d E x0 Q m145j → zb_WP (G, C, d + 1, 0, 0, zb_q E Q) F_X12_leaf 145 [(0, (2, x0))] [] E.1 m145j 0 0 := by
      intro m145j hF h
      unfold PJ_X12_leaf_145 at h
      refine zb_aload_n (j := 0) dX12_leaf_145 rfl rfl ?_
      refine zb_gI 15 dX12_leaf_146 fl_X12_175 i_0 rfl rfl ?_
      refine zb_cSp (As := [(0, (m145j x0 15))]) (As' := [(0, (m145j x0 15))]) (st := []) dX12_leaf_149 lk_X12_219 gd_X12_sizeOf rfl rfl h hW hF (zb_aI zb_a0) (Nat.le_refl _) (Nat.le_of_ble_eq_true rfl) (fun r149 h => ?_)
      show zb_WP _ _ _ _ [(0, r149)] _ _ _ _
      refine zb_istore_n (L' := [(2, (0, r149)), (0, (2, x0))]) dX12_leaf_152 rfl (by decide) rfl ?_
      refine zb_iconst dX12_leaf_153 (zb_inIc rfl) ?_
      refine zb_istore_n (L' := [(3, (0, 0)), (2, (0, r149)), (0, (2, x0))]) dX12_leaf_154 rfl (by decide) rfl ?_
      refine zb_sub (L' := [(0, (2, x0)), (2, (0, r149)), (3, (0, 0))]) [2, 1, 0] rfl ?_
      have hJ189 : ∀ (v3_189 : Int), zb_FIN E m145j → PJ_X12_leaf_189 d E x0 m145j r149 Q v3_189 → zb_WP (G, C, d + 1, 0, 0, zb_q E Q) F_X12_leaf 189 [(0, (2, x0)), (2, (0, r149)), (3, (0, v3_189))] [] E.1 m145j 0 0 := by
        intro v3_189 hF h
        unfold PJ_X12_leaf_189 at h
        refine zb_aload_n (j := 0) dX12_leaf_189 rfl rfl ?_
        refine zb_gI 28 dX12_leaf_190 fl_X12_216 i_0 rfl rfl ?_
        refine zb_iconst dX12_leaf_193 (zb_inIc rfl) ?_
        have hJ217 : zb_FIN E m145j → PJ_X12_leaf_217 d E x0 m145j r149 Q  → zb_WP (G, C, d + 1, 0, 0, zb_q E Q) F_X12_leaf 217 [(0, (2, x0)), (2, (0, r149))] [] E.1 m145j 0 0 := by
          intro  hF h
          unfold PJ_X12_leaf_217 at h
          refine zb_iconst dX12_leaf_217 (zb_inIc rfl) ?_
          refine zb_istore (L' := [(4, (0, 0)), (0, (2, x0)), (2, (0, r149))]) dX12_leaf_218 (by decide) rfl ?_
          refine zb_sub (L' := [(0, (2, x0)), (2, (0, r149)), (4, (0, 0))]) [1, 2, 0] rfl ?_
          have hJ246 : ∀ (m246j : zb_M), zb_FIN E m246j → PJ_X12_leaf_246 d E x0 Q m246j → zb_WP (G, C, d + 1, 0, 0, zb_q E Q) F_X12_leaf 246 [(0, (2, x0))] [] E.1 m246j 0 0 := by
            intro m246j hF h
            unfold PJ_X12_leaf_246 at h
            refine zb_iconst dX12_leaf_246 (zb_inIc rfl) ?_
            refine zb_istore (L' := [(4, (0, 0)), (0, (2, x0))]) dX12_leaf_247 (by decide) rfl ?_
            refine zb_sub (L' := [(0, (2, x0)), (4, (0, 0))]) [1, 0] rfl ?_
            unfold PL_X12_leaf_249 at h
            obtain ⟨X249, hX249⟩ : ∃ X : Int → zb_M → Prop, ∀ (v4_249 : Int) (m249l : zb_M), (X v4_249 m249l ↔ (zb_FIN E m249l → zb_WP (G, C, d + 1, 0, 0, zb_q E Q) F_X12_leaf 249 [(0, (2, x0)), (4, (0, v4_249))] [] E.1 m249l 0 0)) := ⟨fun v4_249 m249l => zb_FIN E m249l → zb_WP (G, C, d + 1, 0, 0, zb_q E Q) F_X12_leaf 249 [(0, (2, x0)), (4, (0, v4_249))] [] E.1 m249l 0 0, fun _ _ => Iff.rfl⟩
            refine (hX249 _ _).mp (h X249 (fun v4_249 m249l h => (hX249 _ _).mpr (fun hF => ?_))) hF
            refine zb_iload (j := 1) dX12_leaf_249 rfl ?_
            refine zb_aload_n (j := 0) dX12_leaf_251 rfl rfl ?_
            refine zb_gI 15 dX12_leaf_252 fl_X12_175 i_0 rfl rfl ?_
            refine zb_icmp_ge (tgt := 283) dX12_leaf_255 (by decide) (fun c4 => ?_) (fun c4 => ?_)
            · have h := h.1 c4
              exact zb_rV dX12_leaf_283 rfl hF h
            · have h := h.2 c4
              refine zb_aload_n (j := 0) dX12_leaf_258 rfl rfl ?_
              refine zb_gFa 31 dX12_leaf_259 fl_X12_85 i_0 hW hF rfl rfl rfl (by decide) rfl 12 rfl (fun i5 l6 => ?_)
              refine zb_iload (j := 1) dX12_leaf_262 rfl ?_
              refine zb_aload_n (j := 0) dX12_leaf_264 rfl rfl ?_
              refine zb_gFa 16 dX12_leaf_265 fl_X12_52 i_0 hW hF rfl rfl rfl (by decide) rfl 12 rfl (fun i7 l8 => ?_)
              refine zb_aload_n (j := 0) dX12_leaf_268 rfl rfl ?_
              refine zb_gFa 33 dX12_leaf_269 fl_X12_91 i_0 hW hF rfl rfl rfl (by decide) rfl 12 rfl (fun i9 l10 => ?_)
              refine zb_iload (j := 1) dX12_leaf_272 rfl ?_
              obtain ⟨o11, h⟩ := h
              refine zb_lI dX12_leaf_274 i9 l10 o11.1 o11.2 ?_
              obtain ⟨o12, h⟩ := h
              refine zb_lI dX12_leaf_275 i7 l8 o12.1 o12.2 ?_
              refine zb_sI dX12_leaf_276 i5 l6 o11.1 o11.2 hF (fun m276 e276 hF => ?_)
              have h := h m276 e276
              obtain ⟨o13, h⟩ := h
              refine zb_iinc (j := 1) (L' := [(4, (0, (v4_249 + 1))), (0, (2, x0))]) dX12_leaf_277 rfl o13 (by decide) rfl ?_
              refine zb_goto (tgt := 249) dX12_leaf_280 (by decide) ?_
              refine zb_sub (L' := [(0, (2, x0)), (4, (0, (v4_249 + 1)))]) [1, 0] rfl ?_
              exact (hX249 _ _).mp h hF
          unfold PL_X12_leaf_220 at h
          obtain ⟨X220, hX220⟩ : ∃ X : Int → zb_M → Prop, ∀ (v4_220 : Int) (m220l : zb_M), (X v4_220 m220l ↔ (zb_FIN E m220l → zb_WP (G, C, d + 1, 0, 0, zb_q E Q) F_X12_leaf 220 [(0, (2, x0)), (2, (0, r149)), (4, (0, v4_220))] [] E.1 m220l 0 0)) := ⟨fun v4_220 m220l => zb_FIN E m220l → zb_WP (G, C, d + 1, 0, 0, zb_q E Q) F_X12_leaf 220 [(0, (2, x0)), (2, (0, r149)), (4, (0, v4_220))] [] E.1 m220l 0 0, fun _ _ => Iff.rfl⟩
          refine (hX220 _ _).mp (h X220 (fun v4_220 m220l h => (hX220 _ _).mpr (fun hF => ?_))) hF
          refine zb_iload (j := 2) dX12_leaf_220 rfl ?_
          refine zb_iload_n (j := 1) dX12_leaf_222 rfl rfl ?_
          refine zb_icmp_ge (tgt := 246) dX12_leaf_223 (by decide) (fun c14 => ?_) (fun c14 => ?_)
          · have h := h.1 c14
            refine zb_sub (L' := [(0, (2, x0))]) [0] rfl ?_
            exact hJ246 _ hF h
          · have h := h.2 c14
            refine zb_aload_n (j := 0) dX12_leaf_226 rfl rfl ?_
            refine zb_gFa 30 dX12_leaf_227 fl_X12_82 i_0 hW hF rfl rfl rfl (by decide) rfl 160 rfl (fun i15 l16 => ?_)
            refine zb_iload (j := 2) dX12_leaf_230 rfl ?_
            refine zb_aload_n (j := 0) dX12_leaf_232 rfl rfl ?_
            refine zb_gFa 32 dX12_leaf_233 fl_X12_88 i_0 hW hF rfl rfl rfl (by decide) rfl 160 rfl (fun i17 l18 => ?_)
            refine zb_iload (j := 2) dX12_leaf_236 rfl ?_
            obtain ⟨o19, h⟩ := h
            refine zb_lI dX12_leaf_238 i17 l18 o19.1 o19.2 ?_
            refine zb_sI dX12_leaf_239 i15 l16 o19.1 o19.2 hF (fun m239 e239 hF => ?_)
            have h := h m239 e239
            obtain ⟨o20, h⟩ := h
            refine zb_iinc (j := 2) (L' := [(4, (0, (v4_220 + 1))), (0, (2, x0)), (2, (0, r149))]) dX12_leaf_240 rfl o20 (by decide) rfl ?_
            refine zb_goto (tgt := 220) dX12_leaf_243 (by decide) ?_
            refine zb_sub (L' := [(0, (2, x0)), (2, (0, r149)), (4, (0, (v4_220 + 1)))]) [1, 2, 0] rfl ?_
            exact (hX220 _ _).mp h hF
        refine zb_icmp_eq (tgt := 217) dX12_leaf_194 (by decide) (fun c21 => ?_) (fun c21 => ?_)
        · have h := h.1 c21
          refine zb_sub (L' := [(0, (2, x0)), (2, (0, r149))]) [0, 1] rfl ?_
          exact hJ217 hF h
        · have h := h.2 c21
          refine zb_iload_n (j := 2) dX12_leaf_197 rfl rfl ?_
          refine zb_iload_n (j := 1) dX12_leaf_198 rfl rfl ?_
          refine zb_icmp_ge (tgt := 283) dX12_leaf_199 (by decide) (fun c22 => ?_) (fun c22 => ?_)
          · have h := h.1 c22
            exact zb_rV dX12_leaf_283 rfl hF h
          · have h := h.2 c22
            refine zb_aload_n (j := 0) dX12_leaf_202 rfl rfl ?_
            refine zb_gFa 32 dX12_leaf_203 fl_X12_88 i_0 hW hF rfl rfl rfl (by decide) rfl 160 rfl (fun i23 l24 => ?_)
            refine zb_iload_n (j := 2) dX12_leaf_206 rfl rfl ?_
            obtain ⟨o25, h⟩ := h
            refine zb_lI dX12_leaf_207 i23 l24 o25.1 o25.2 ?_
            refine zb_aload_n (j := 0) dX12_leaf_208 rfl rfl ?_
            refine zb_gFa 30 dX12_leaf_209 fl_X12_82 i_0 hW hF rfl rfl rfl (by decide) rfl 160 rfl (fun i26 l27 => ?_)
            refine zb_iload_n (j := 2) dX12_leaf_212 rfl rfl ?_
            refine zb_lI dX12_leaf_213 i26 l27 o25.1 o25.2 ?_
            refine zb_icmp_ge (tgt := 283) dX12_leaf_214 (by decide) (fun c28 => ?_) (fun c28 => ?_)
            · have h := h.1 c28
              exact zb_rV dX12_leaf_283 rfl hF h
            · have h := h.2 c28
              refine zb_sub (L' := [(0, (2, x0)), (2, (0, r149))]) [0, 1] rfl ?_
              exact hJ217 hF h
      unfold PL_X12_leaf_155 at h
      obtain ⟨X155, hX155⟩ : ∃ X : Int → Prop, ∀ (v3_155 : Int), (X v3_155 ↔ (zb_FIN E m145j → zb_WP (G, C, d + 1, 0, 0, zb_q E Q) F_X12_leaf 155 [(0, (2, x0)), (2, (0, r149)), (3, (0, v3_155))] [] E.1 m145j 0 0)) := ⟨fun v3_155 => zb_FIN E m145j → zb_WP (G, C, d + 1, 0, 0, zb_q E Q) F_X12_leaf 155 [(0, (2, x0)), (2, (0, r149)), (3, (0, v3_155))] [] E.1 m145j 0 0, fun _ => Iff.rfl⟩
      refine (hX155 _).mp (h X155 (fun v3_155 h => (hX155 _).mpr (fun hF => ?_))) hF
      refine zb_aload_n (j := 0) dX12_leaf_155 rfl rfl ?_
      refine zb_gI 28 dX12_leaf_156 fl_X12_216 i_0 rfl rfl ?_
      refine zb_iconst dX12_leaf_159 (zb_inIc rfl) ?_
      refine zb_icmp_le (tgt := 189) dX12_leaf_160 (by decide) (fun c29 => ?_) (fun c29 => ?_)
      · have h := h.1 c29
        exact hJ189 _ hF h
      · have h := h.2 c29
        refine zb_iload_n (j := 2) dX12_leaf_163 rfl rfl ?_
        refine zb_iload_n (j := 1) dX12_leaf_164 rfl rfl ?_
        refine zb_icmp_ge (tgt := 189) dX12_leaf_165 (by decide) (fun c30 => ?_) (fun c30 => ?_)
        · have h := h.1 c30
          exact hJ189 _ hF h
        · have h := h.2 c30
          refine zb_aload_n (j := 0) dX12_leaf_168 rfl rfl ?_
          refine zb_gFa 32 dX12_leaf_169 fl_X12_88 i_0 hW hF rfl rfl rfl (by decide) rfl 160 rfl (fun i31 l32 => ?_)
          refine zb_iload_n (j := 2) dX12_leaf_172 rfl rfl ?_
          obtain ⟨o33, h⟩ := h
          refine zb_lI dX12_leaf_173 i31 l32 o33.1 o33.2 ?_
          refine zb_aload_n (j := 0) dX12_leaf_174 rfl rfl ?_
          refine zb_gFa 30 dX12_leaf_175 fl_X12_82 i_0 hW hF rfl rfl rfl (by decide) rfl 160 rfl (fun i34 l35 => ?_)
          refine zb_iload_n (j := 2) dX12_leaf_178 rfl rfl ?_
          refine zb_lI dX12_leaf_179 i34 l35 o33.1 o33.2 ?_
          refine zb_icmp_ne (tgt := 189) dX12_leaf_180 (by decide) (fun c36 => ?_) (fun c36 => ?_)
          · have h := h.2 c36
            exact hJ189 _ hF h
          · have h := h.1 c36
            obtain ⟨o37, h⟩ := h
            refine zb_iinc (j := 2) (L' := [(3, (0, (v3_155 + 1))), (0, (2, x0)), (2, (0, r149))]) dX12_leaf_183 rfl o37 (by decide) rfl ?_
            refine zb_goto (tgt := 155) dX12_leaf_186 (by decide) ?_
            refine zb_sub (L' := [(0, (2, x0)), (2, (0, r149)), (3, (0, (v3_155 + 1)))]) [1, 2, 0] rfl ?_
            exact (hX155 _).mp h hF
    unfold PL_X12_leaf_55 at h
    obtain ⟨X55, hX55⟩ : ∃ X : Int → zb_M → Prop, ∀ (v2_55 : Int) (m55l : zb_M), (X v2_55 m55l ↔ (zb_FIN E m55l → zb_WP (G, C, d + 1, 0, 0, zb_q E Q) F_X12_leaf 55 [(0, (2, x0)), (2, (0, v2_55))] [] E.1 m55l 0 0)) := ⟨fun v2_55 m55l => zb_FIN E m55l → zb_WP (G, C, d + 1, 0, 0, zb_q E Q) F_X12_leaf 55 [(0, (2, x0)), (2, (0, v2_55))] [] E.1 m55l 0 0, fun _ _ => Iff.rfl⟩
    refine (hX55 _ _).mp (h X55 (fun v2_55 m55l h => (hX55 _ _).mpr (fun hF => ?_))) hF
    refine zb_iload_n (j := 1) dX12_leaf_55 rfl rfl ?_
    refine zb_aload_n (j := 0) dX12_leaf_56 rfl rfl ?_
    refine zb_gI 15 dX12_leaf_57 fl_X12_175 i_0 rfl rfl ?_
    refine zb_icmp_ge (tgt := 145) dX12_leaf_60 (by decide) (fun c38 => ?_) (fun c38 => ?_)
    · have h := h.1 c38
      refine zb_sub (L' := [(0, (2, x0))]) [0] rfl ?_
      exact hJ145 _ hF h
    · have h := h.2 c38
      refine zb_aload_n (j := 0) dX12_leaf_63 rfl rfl ?_
      refine zb_gFa 32 dX12_leaf_64 fl_X12_88 i_0 hW hF rfl rfl rfl (by decide) rfl 160 rfl (fun i39 l40 => ?_)
      refine zb_iconst dX12_leaf_67 (zb_inIc rfl) ?_
      refine zb_iload_n (j := 1) dX12_leaf_68 rfl rfl ?_
      obtain ⟨o41, h⟩ := h
      refine zb_iadd dX12_leaf_69 o41 ?_
      refine zb_aload_n (j := 0) dX12_leaf_70 rfl rfl ?_
      refine zb_gFa 17 dX12_leaf_71 fl_X12_55 i_0 hW hF rfl rfl rfl (by decide) rfl 12 rfl (fun i42 l43 => ?_)
      refine zb_aload_n (j := 0) dX12_leaf_74 rfl rfl ?_
      refine zb_gFa 33 dX12_leaf_75 fl_X12_91 i_0 hW hF rfl rfl rfl (by decide) rfl 12 rfl (fun i44 l45 => ?_)
      refine zb_iload_n (j := 1) dX12_leaf_78 rfl rfl ?_
      obtain ⟨o46, h⟩ := h
      refine zb_lI dX12_leaf_79 i44 l45 o46.1 o46.2 ?_
      obtain ⟨o47, h⟩ := h
      refine zb_lI dX12_leaf_80 i42 l43 o47.1 o47.2 ?_
      obtain ⟨o48, h⟩ := h
      refine zb_sI dX12_leaf_81 i39 l40 o48.1 o48.2 hF (fun m81 e81 hF => ?_)
      have h := h m81 e81
      refine zb_iconst dX12_leaf_82 (zb_inIc rfl) ?_
      refine zb_istore_n (L' := [(3, (0, 0)), (0, (2, x0)), (2, (0, v2_55))]) dX12_leaf_83 rfl (by decide) rfl ?_
      refine zb_sub (L' := [(0, (2, x0)), (2, (0, v2_55)), (3, (0, 0))]) [1, 2, 0] rfl ?_
      have hJ139 : ∀ (m139j : zb_M), zb_FIN E m139j → PJ_X12_leaf_139 d E v2_55 X55 Q m139j → zb_WP (G, C, d + 1, 0, 0, zb_q E Q) F_X12_leaf 139 [(0, (2, x0)), (2, (0, v2_55))] [] E.1 m139j 0 0 := by
        intro m139j hF h
        unfold PJ_X12_leaf_139 at h
        obtain ⟨o49, h⟩ := h
        refine zb_iinc (j := 1) (L' := [(2, (0, (v2_55 + 1))), (0, (2, x0))]) dX12_leaf_139 rfl o49 (by decide) rfl ?_
        refine zb_goto (tgt := 55) dX12_leaf_142 (by decide) ?_
        refine zb_sub (L' := [(0, (2, x0)), (2, (0, (v2_55 + 1)))]) [1, 0] rfl ?_
        exact (hX55 _ _).mp h hF
      unfold PL_X12_leaf_84 at h
      obtain ⟨X84, hX84⟩ : ∃ X : Int → zb_M → Prop, ∀ (v3_84 : Int) (m84l : zb_M), (X v3_84 m84l ↔ (zb_FIN E m84l → zb_WP (G, C, d + 1, 0, 0, zb_q E Q) F_X12_leaf 84 [(0, (2, x0)), (2, (0, v2_55)), (3, (0, v3_84))] [] E.1 m84l 0 0)) := ⟨fun v3_84 m84l => zb_FIN E m84l → zb_WP (G, C, d + 1, 0, 0, zb_q E Q) F_X12_leaf 84 [(0, (2, x0)), (2, (0, v2_55)), (3, (0, v3_84))] [] E.1 m84l 0 0, fun _ _ => Iff.rfl⟩
      refine (hX84 _ _).mp (h X84 (fun v3_84 m84l h => (hX84 _ _).mpr (fun hF => ?_))) hF
      refine zb_iload_n (j := 2) dX12_leaf_84 rfl rfl ?_
      refine zb_aload_n (j := 0) dX12_leaf_85 rfl rfl ?_
      refine zb_gI 15 dX12_leaf_86 fl_X12_175 i_0 rfl rfl ?_
      refine zb_icmp_ge (tgt := 139) dX12_leaf_89 (by decide) (fun c50 => ?_) (fun c50 => ?_)
      · have h := h.1 c50
        refine zb_sub (L' := [(0, (2, x0)), (2, (0, v2_55))]) [0, 1] rfl ?_
        exact hJ139 _ hF h
      · have h := h.2 c50
        refine zb_aload_n (j := 0) dX12_leaf_92 rfl rfl ?_
        refine zb_gFa 32 dX12_leaf_93 fl_X12_88 i_0 hW hF rfl rfl rfl (by decide) rfl 160 rfl (fun i51 l52 => ?_)
        refine zb_iconst dX12_leaf_96 (zb_inIc rfl) ?_
        refine zb_aload_n (j := 0) dX12_leaf_97 rfl rfl ?_
        refine zb_gI 15 dX12_leaf_98 fl_X12_175 i_0 rfl rfl ?_
        obtain ⟨o53, h⟩ := h
        refine zb_iadd dX12_leaf_101 o53 ?_
        refine zb_aload_n (j := 0) dX12_leaf_102 rfl rfl ?_
        refine zb_gI 15 dX12_leaf_103 fl_X12_175 i_0 rfl rfl ?_
        refine zb_iload_n (j := 1) dX12_leaf_106 rfl rfl ?_
        obtain ⟨o54, h⟩ := h
        refine zb_imul dX12_leaf_107 o54 ?_
        obtain ⟨o55, h⟩ := h
        refine zb_iadd dX12_leaf_108 o55 ?_
        refine zb_iload_n (j := 2) dX12_leaf_109 rfl rfl ?_
        obtain ⟨o56, h⟩ := h
        refine zb_iadd dX12_leaf_110 o56 ?_
        refine zb_aload_n (j := 0) dX12_leaf_111 rfl rfl ?_
        refine zb_gFa 18 dX12_leaf_112 fl_X12_58 i_0 hW hF rfl rfl rfl (by decide) rfl 144 rfl (fun i57 l58 => ?_)
        refine zb_bipush dX12_leaf_115 (by decide) (zb_inIc rfl) ?_
        refine zb_aload_n (j := 0) dX12_leaf_117 rfl rfl ?_
        refine zb_gFa 33 dX12_leaf_118 fl_X12_91 i_0 hW hF rfl rfl rfl (by decide) rfl 12 rfl (fun i59 l60 => ?_)
        refine zb_iload_n (j := 1) dX12_leaf_121 rfl rfl ?_
        refine zb_lI dX12_leaf_122 i59 l60 o46.1 o46.2 ?_
        obtain ⟨o61, h⟩ := h
        refine zb_imul dX12_leaf_123 o61 ?_
        refine zb_aload_n (j := 0) dX12_leaf_124 rfl rfl ?_
        refine zb_gFa 33 dX12_leaf_125 fl_X12_91 i_0 hW hF rfl rfl rfl (by decide) rfl 12 rfl (fun i62 l63 => ?_)
        refine zb_iload_n (j := 2) dX12_leaf_128 rfl rfl ?_
        obtain ⟨o64, h⟩ := h
        refine zb_lI dX12_leaf_129 i62 l63 o64.1 o64.2 ?_
        obtain ⟨o65, h⟩ := h
        refine zb_iadd dX12_leaf_130 o65 ?_
        obtain ⟨o66, h⟩ := h
        refine zb_lI dX12_leaf_131 i57 l58 o66.1 o66.2 ?_
        obtain ⟨o67, h⟩ := h
        refine zb_sI dX12_leaf_132 i51 l52 o67.1 o67.2 hF (fun m132 e132 hF => ?_)
        have h := h m132 e132
        obtain ⟨o68, h⟩ := h
        refine zb_iinc (j := 2) (L' := [(3, (0, (v3_84 + 1))), (0, (2, x0)), (2, (0, v2_55))]) dX12_leaf_133 rfl o68 (by decide) rfl ?_
        refine zb_goto (tgt := 84) dX12_leaf_136 (by decide) ?_
        refine zb_sub (L' := [(0, (2, x0)), (2, (0, v2_55)), (3, (0, (v3_84 + 1)))]) [1, 2, 0] rfl ?_
        exact (hX84 _ _).mp h hF
  unfold PL_X12_leaf_12 at h
  obtain ⟨X12, hX12⟩ : ∃ X : Int → zb_M → Prop, ∀ (v2_12 : Int) (m12l : zb_M), (X v2_12 m12l ↔ (zb_FIN E m12l → zb_WP (G, C, d + 1, 0, 0, zb_q E Q) F_X12_leaf 12 [(0, (2, x0)), (1, (0, x1)), (2, (0, v2_12))] [] E.1 m12l 0 0)) := ⟨fun v2_12 m12l => zb_FIN E m12l → zb_WP (G, C, d + 1, 0, 0, zb_q E Q) F_X12_leaf 12 [(0, (2, x0)), (1, (0, x1)), (2, (0, v2_12))] [] E.1 m12l 0 0, fun _ _ => Iff.rfl⟩
  refine (hX12 _ _).mp (h X12 (fun v2_12 m12l h => (hX12 _ _).mpr (fun hF => ?_))) hF
  refine zb_iload_n (j := 2) dX12_leaf_12 rfl rfl ?_
  refine zb_aload_n (j := 0) dX12_leaf_13 rfl rfl ?_
  refine zb_gI 15 dX12_leaf_14 fl_X12_175 i_0 rfl rfl ?_
  refine zb_icmp_ge (tgt := 43) dX12_leaf_17 (by decide) (fun c69 => ?_) (fun c69 => ?_)
  · have h := h.1 c69
    refine zb_sub (L' := [(0, (2, x0))]) [0] rfl ?_
    exact hJ43 _ hF h
  · have h := h.2 c69
    refine zb_aload_n (j := 0) dX12_leaf_20 rfl rfl ?_
    refine zb_gFa 33 dX12_leaf_21 fl_X12_91 i_0 hW hF rfl rfl rfl (by decide) rfl 12 rfl (fun i70 l71 => ?_)
    refine zb_aload_n (j := 0) dX12_leaf_24 rfl rfl ?_
    refine zb_gFa 19 dX12_leaf_25 fl_X12_61 i_0 hW hF rfl rfl rfl (by decide) rfl 180 rfl (fun i72 l73 => ?_)
    refine zb_bipush dX12_leaf_28 (by decide) (zb_inIc rfl) ?_
    refine zb_iload_n (j := 1) dX12_leaf_30 rfl rfl ?_
    obtain ⟨o74, h⟩ := h
    refine zb_imul dX12_leaf_31 o74 ?_
    refine zb_iload_n (j := 2) dX12_leaf_32 rfl rfl ?_
    obtain ⟨o75, h⟩ := h
    refine zb_iadd dX12_leaf_33 o75 ?_
    obtain ⟨o76, h⟩ := h
    refine zb_lI dX12_leaf_34 i72 l73 o76.1 o76.2 ?_
    refine zb_iload_n (j := 2) dX12_leaf_35 rfl rfl ?_
    obtain ⟨o77, h⟩ := h
    refine zb_sI dX12_leaf_36 i70 l71 o77.1 o77.2 hF (fun m36 e36 hF => ?_)
    have h := h m36 e36
    obtain ⟨o78, h⟩ := h
    refine zb_iinc (j := 2) (L' := [(2, (0, (v2_12 + 1))), (0, (2, x0)), (1, (0, x1))]) dX12_leaf_37 rfl o78 (by decide) rfl ?_
    refine zb_goto (tgt := 12) dX12_leaf_40 (by decide) ?_
    refine zb_sub (L' := [(0, (2, x0)), (1, (0, x1)), (2, (0, (v2_12 + 1)))]) [1, 2, 0] rfl ?_
    exact (hX12 _ _).mp h hF
theorem dX12_grow_0 : decode cX12_grow 0 = .ok (.aload_n 0, 1) := by decide +kernel
theorem dX12_grow_1 : decode cX12_grow 1 = .ok (.iconst 0, 1) := by decide +kernel
theorem dX12_grow_2 : decode cX12_grow 2 = .ok (.putfield 216, 3) := by decide +kernel
theorem dX12_grow_5 : decode cX12_grow 5 = .ok (.aload_n 0, 1) := by decide +kernel
theorem dX12_grow_6 : decode cX12_grow 6 = .ok (.iconst 1, 1) := by decide +kernel
theorem dX12_grow_7 : decode cX12_grow 7 = .ok (.putfield 222, 3) := by decide +kernel
theorem dX12_grow_10 : decode cX12_grow 10 = .ok (.aload_n 0, 1) := by decide +kernel
theorem dX12_grow_11 : decode cX12_grow 11 = .ok (.iconst 0, 1) := by decide +kernel
theorem dX12_grow_12 : decode cX12_grow 12 = .ok (.invokevirtual 197, 3) := by decide +kernel
theorem dX12_grow_15 : decode cX12_grow 15 = .ok (.aload_n 0, 1) := by decide +kernel
theorem dX12_grow_16 : decode cX12_grow 16 = .ok (.iconst 0, 1) := by decide +kernel
theorem dX12_grow_17 : decode cX12_grow 17 = .ok (.invokevirtual 191, 3) := by decide +kernel
theorem dX12_grow_20 : decode cX12_grow 20 = .ok (.aload_n 0, 1) := by decide +kernel
theorem dX12_grow_21 : decode cX12_grow 21 = .ok (.getfield 64, 3) := by decide +kernel
theorem dX12_grow_24 : decode cX12_grow 24 = .ok (.iconst 0, 1) := by decide +kernel
theorem dX12_grow_25 : decode cX12_grow 25 = .ok (.iaload, 1) := by decide +kernel
theorem dX12_grow_26 : decode cX12_grow 26 = .ok (.aload_n 0, 1) := by decide +kernel
theorem dX12_grow_27 : decode cX12_grow 27 = .ok (.getfield 175, 3) := by decide +kernel
theorem dX12_grow_30 : decode cX12_grow 30 = .ok (.if_icmp .ne 10, 3) := by decide +kernel
theorem dX12_grow_33 : decode cX12_grow 33 = .ok (.aload_n 0, 1) := by decide +kernel
theorem dX12_grow_34 : decode cX12_grow 34 = .ok (.iconst 0, 1) := by decide +kernel
theorem dX12_grow_35 : decode cX12_grow 35 = .ok (.invokevirtual 225, 3) := by decide +kernel
theorem dX12_grow_38 : decode cX12_grow 38 = .ok (.iconst 1, 1) := by decide +kernel
theorem dX12_grow_39 : decode cX12_grow 39 = .ok (.ireturn, 1) := by decide +kernel
theorem dX12_grow_40 : decode cX12_grow 40 = .ok (.iconst 0, 1) := by decide +kernel
theorem dX12_grow_41 : decode cX12_grow 41 = .ok (.istore_n 1, 1) := by decide +kernel
theorem dX12_grow_42 : decode cX12_grow 42 = .ok (.aload_n 0, 1) := by decide +kernel
theorem dX12_grow_43 : decode cX12_grow 43 = .ok (.getfield 79, 3) := by decide +kernel
theorem dX12_grow_46 : decode cX12_grow 46 = .ok (.iconst 0, 1) := by decide +kernel
theorem dX12_grow_47 : decode cX12_grow 47 = .ok (.iconst 0, 1) := by decide +kernel
theorem dX12_grow_48 : decode cX12_grow 48 = .ok (.iastore, 1) := by decide +kernel
theorem dX12_grow_49 : decode cX12_grow 49 = .ok (.iload_n 1, 1) := by decide +kernel
theorem dX12_grow_50 : decode cX12_grow 50 = .ok (.ifCond .lt 190, 3) := by decide +kernel
theorem dX12_grow_53 : decode cX12_grow 53 = .ok (.aload_n 0, 1) := by decide +kernel
theorem dX12_grow_54 : decode cX12_grow 54 = .ok (.iload_n 1, 1) := by decide +kernel
theorem dX12_grow_55 : decode cX12_grow 55 = .ok (.invokevirtual 228, 3) := by decide +kernel
theorem dX12_grow_58 : decode cX12_grow 58 = .ok (.istore_n 2, 1) := by decide +kernel
theorem dX12_grow_59 : decode cX12_grow 59 = .ok (.aload_n 0, 1) := by decide +kernel
theorem dX12_grow_60 : decode cX12_grow 60 = .ok (.getfield 79, 3) := by decide +kernel
theorem dX12_grow_63 : decode cX12_grow 63 = .ok (.iload_n 1, 1) := by decide +kernel
theorem dX12_grow_64 : decode cX12_grow 64 = .ok (.iaload, 1) := by decide +kernel
theorem dX12_grow_65 : decode cX12_grow 65 = .ok (.istore_n 3, 1) := by decide +kernel
theorem dX12_grow_66 : decode cX12_grow 66 = .ok (.iload_n 3, 1) := by decide +kernel
theorem dX12_grow_67 : decode cX12_grow 67 = .ok (.aload_n 0, 1) := by decide +kernel
theorem dX12_grow_68 : decode cX12_grow 68 = .ok (.getfield 175, 3) := by decide +kernel
theorem dX12_grow_71 : decode cX12_grow 71 = .ok (.if_icmp .ge 19, 3) := by decide +kernel
theorem dX12_grow_74 : decode cX12_grow 74 = .ok (.aload_n 0, 1) := by decide +kernel
theorem dX12_grow_75 : decode cX12_grow 75 = .ok (.iload_n 1, 1) := by decide +kernel
theorem dX12_grow_76 : decode cX12_grow 76 = .ok (.iload_n 2, 1) := by decide +kernel
theorem dX12_grow_77 : decode cX12_grow 77 = .ok (.iload_n 3, 1) := by decide +kernel
theorem dX12_grow_78 : decode cX12_grow 78 = .ok (.invokevirtual 231, 3) := by decide +kernel
theorem dX12_grow_81 : decode cX12_grow 81 = .ok (.ifCond .ne 9, 3) := by decide +kernel
theorem dX12_grow_84 : decode cX12_grow 84 = .ok (.iinc 3 1, 3) := by decide +kernel
theorem dX12_grow_87 : decode cX12_grow 87 = .ok (.goto (-21), 3) := by decide +kernel
theorem dX12_grow_90 : decode cX12_grow 90 = .ok (.iload_n 3, 1) := by decide +kernel
theorem dX12_grow_91 : decode cX12_grow 91 = .ok (.aload_n 0, 1) := by decide +kernel
theorem dX12_grow_92 : decode cX12_grow 92 = .ok (.getfield 175, 3) := by decide +kernel
theorem dX12_grow_95 : decode cX12_grow 95 = .ok (.if_icmp .ne 9, 3) := by decide +kernel
theorem dX12_grow_98 : decode cX12_grow 98 = .ok (.iinc 1 (-1), 3) := by decide +kernel
theorem dX12_grow_101 : decode cX12_grow 101 = .ok (.goto (-52), 3) := by decide +kernel
theorem dX12_grow_104 : decode cX12_grow 104 = .ok (.aload_n 0, 1) := by decide +kernel
theorem dX12_grow_105 : decode cX12_grow 105 = .ok (.getfield 79, 3) := by decide +kernel
theorem dX12_grow_108 : decode cX12_grow 108 = .ok (.iload_n 1, 1) := by decide +kernel
theorem dX12_grow_109 : decode cX12_grow 109 = .ok (.iload_n 3, 1) := by decide +kernel
theorem dX12_grow_110 : decode cX12_grow 110 = .ok (.iconst 1, 1) := by decide +kernel
theorem dX12_grow_111 : decode cX12_grow 111 = .ok (.iadd, 1) := by decide +kernel
theorem dX12_grow_112 : decode cX12_grow 112 = .ok (.iastore, 1) := by decide +kernel
theorem dX12_grow_113 : decode cX12_grow 113 = .ok (.iconst 0, 1) := by decide +kernel
theorem dX12_grow_114 : decode cX12_grow 114 = .ok (.istore 4, 2) := by decide +kernel
theorem dX12_grow_116 : decode cX12_grow 116 = .ok (.iload 4, 2) := by decide +kernel
theorem dX12_grow_118 : decode cX12_grow 118 = .ok (.aload_n 0, 1) := by decide +kernel
theorem dX12_grow_119 : decode cX12_grow 119 = .ok (.getfield 175, 3) := by decide +kernel
theorem dX12_grow_122 : decode cX12_grow 122 = .ok (.if_icmp .ge 36, 3) := by decide +kernel
theorem dX12_grow_125 : decode cX12_grow 125 = .ok (.aload_n 0, 1) := by decide +kernel
theorem dX12_grow_126 : decode cX12_grow 126 = .ok (.getfield 61, 3) := by decide +kernel
theorem dX12_grow_129 : decode cX12_grow 129 = .ok (.bipush 12, 2) := by decide +kernel
theorem dX12_grow_131 : decode cX12_grow 131 = .ok (.iload_n 1, 1) := by decide +kernel
theorem dX12_grow_132 : decode cX12_grow 132 = .ok (.imul, 1) := by decide +kernel
theorem dX12_grow_133 : decode cX12_grow 133 = .ok (.bipush 12, 2) := by decide +kernel
theorem dX12_grow_135 : decode cX12_grow 135 = .ok (.iadd, 1) := by decide +kernel
theorem dX12_grow_136 : decode cX12_grow 136 = .ok (.iload 4, 2) := by decide +kernel
theorem dX12_grow_138 : decode cX12_grow 138 = .ok (.iadd, 1) := by decide +kernel
theorem dX12_grow_139 : decode cX12_grow 139 = .ok (.aload_n 0, 1) := by decide +kernel
theorem dX12_grow_140 : decode cX12_grow 140 = .ok (.getfield 61, 3) := by decide +kernel
theorem dX12_grow_143 : decode cX12_grow 143 = .ok (.bipush 12, 2) := by decide +kernel
theorem dX12_grow_145 : decode cX12_grow 145 = .ok (.iload_n 1, 1) := by decide +kernel
theorem dX12_grow_146 : decode cX12_grow 146 = .ok (.imul, 1) := by decide +kernel
theorem dX12_grow_147 : decode cX12_grow 147 = .ok (.iload 4, 2) := by decide +kernel
theorem dX12_grow_149 : decode cX12_grow 149 = .ok (.iadd, 1) := by decide +kernel
theorem dX12_grow_150 : decode cX12_grow 150 = .ok (.iaload, 1) := by decide +kernel
theorem dX12_grow_151 : decode cX12_grow 151 = .ok (.iastore, 1) := by decide +kernel
theorem dX12_grow_152 : decode cX12_grow 152 = .ok (.iinc 4 1, 3) := by decide +kernel
theorem dX12_grow_155 : decode cX12_grow 155 = .ok (.goto (-39), 3) := by decide +kernel
theorem dX12_grow_158 : decode cX12_grow 158 = .ok (.aload_n 0, 1) := by decide +kernel
theorem dX12_grow_159 : decode cX12_grow 159 = .ok (.getfield 64, 3) := by decide +kernel
theorem dX12_grow_162 : decode cX12_grow 162 = .ok (.iload_n 1, 1) := by decide +kernel
theorem dX12_grow_163 : decode cX12_grow 163 = .ok (.iconst 1, 1) := by decide +kernel
theorem dX12_grow_164 : decode cX12_grow 164 = .ok (.iadd, 1) := by decide +kernel
theorem dX12_grow_165 : decode cX12_grow 165 = .ok (.aload_n 0, 1) := by decide +kernel
theorem dX12_grow_166 : decode cX12_grow 166 = .ok (.getfield 64, 3) := by decide +kernel
theorem dX12_grow_169 : decode cX12_grow 169 = .ok (.iload_n 1, 1) := by decide +kernel
theorem dX12_grow_170 : decode cX12_grow 170 = .ok (.iaload, 1) := by decide +kernel
theorem dX12_grow_171 : decode cX12_grow 171 = .ok (.iastore, 1) := by decide +kernel
theorem dX12_grow_172 : decode cX12_grow 172 = .ok (.aload_n 0, 1) := by decide +kernel
theorem dX12_grow_173 : decode cX12_grow 173 = .ok (.iload_n 1, 1) := by decide +kernel
theorem dX12_grow_174 : decode cX12_grow 174 = .ok (.iconst 1, 1) := by decide +kernel
theorem dX12_grow_175 : decode cX12_grow 175 = .ok (.iadd, 1) := by decide +kernel
theorem dX12_grow_176 : decode cX12_grow 176 = .ok (.iload_n 3, 1) := by decide +kernel
theorem dX12_grow_177 : decode cX12_grow 177 = .ok (.invokevirtual 210, 3) := by decide +kernel
theorem dX12_grow_180 : decode cX12_grow 180 = .ok (.aload_n 0, 1) := by decide +kernel
theorem dX12_grow_181 : decode cX12_grow 181 = .ok (.dup, 1) := by decide +kernel
theorem dX12_grow_182 : decode cX12_grow 182 = .ok (.getfield 222, 3) := by decide +kernel
theorem dX12_grow_185 : decode cX12_grow 185 = .ok (.iconst 1, 1) := by decide +kernel
theorem dX12_grow_186 : decode cX12_grow 186 = .ok (.iadd, 1) := by decide +kernel
theorem dX12_grow_187 : decode cX12_grow 187 = .ok (.putfield 222, 3) := by decide +kernel
theorem dX12_grow_190 : decode cX12_grow 190 = .ok (.aload_n 0, 1) := by decide +kernel
theorem dX12_grow_191 : decode cX12_grow 191 = .ok (.getfield 64, 3) := by decide +kernel
theorem dX12_grow_194 : decode cX12_grow 194 = .ok (.iload_n 1, 1) := by decide +kernel
theorem dX12_grow_195 : decode cX12_grow 195 = .ok (.iconst 1, 1) := by decide +kernel
theorem dX12_grow_196 : decode cX12_grow 196 = .ok (.iadd, 1) := by decide +kernel
theorem dX12_grow_197 : decode cX12_grow 197 = .ok (.iaload, 1) := by decide +kernel
theorem dX12_grow_198 : decode cX12_grow 198 = .ok (.aload_n 0, 1) := by decide +kernel
theorem dX12_grow_199 : decode cX12_grow 199 = .ok (.getfield 175, 3) := by decide +kernel
theorem dX12_grow_202 : decode cX12_grow 202 = .ok (.if_icmp .ge 16, 3) := by decide +kernel
theorem dX12_grow_205 : decode cX12_grow 205 = .ok (.iinc 1 1, 3) := by decide +kernel
theorem dX12_grow_208 : decode cX12_grow 208 = .ok (.aload_n 0, 1) := by decide +kernel
theorem dX12_grow_209 : decode cX12_grow 209 = .ok (.getfield 79, 3) := by decide +kernel
theorem dX12_grow_212 : decode cX12_grow 212 = .ok (.iload_n 1, 1) := by decide +kernel
theorem dX12_grow_213 : decode cX12_grow 213 = .ok (.iconst 0, 1) := by decide +kernel
theorem dX12_grow_214 : decode cX12_grow 214 = .ok (.iastore, 1) := by decide +kernel
theorem dX12_grow_215 : decode cX12_grow 215 = .ok (.goto 22, 3) := by decide +kernel
theorem dX12_grow_218 : decode cX12_grow 218 = .ok (.aload_n 0, 1) := by decide +kernel
theorem dX12_grow_219 : decode cX12_grow 219 = .ok (.getfield 216, 3) := by decide +kernel
theorem dX12_grow_222 : decode cX12_grow 222 = .ok (.sipush 3000, 3) := by decide +kernel
theorem dX12_grow_225 : decode cX12_grow 225 = .ok (.if_icmp .ne 5, 3) := by decide +kernel
theorem dX12_grow_228 : decode cX12_grow 228 = .ok (.iconst 0, 1) := by decide +kernel
theorem dX12_grow_229 : decode cX12_grow 229 = .ok (.ireturn, 1) := by decide +kernel
theorem dX12_grow_230 : decode cX12_grow 230 = .ok (.aload_n 0, 1) := by decide +kernel
theorem dX12_grow_231 : decode cX12_grow 231 = .ok (.iload_n 1, 1) := by decide +kernel
theorem dX12_grow_232 : decode cX12_grow 232 = .ok (.iconst 1, 1) := by decide +kernel
theorem dX12_grow_233 : decode cX12_grow 233 = .ok (.iadd, 1) := by decide +kernel
theorem dX12_grow_234 : decode cX12_grow 234 = .ok (.invokevirtual 225, 3) := by decide +kernel
theorem dX12_grow_237 : decode cX12_grow 237 = .ok (.goto (-188), 3) := by decide +kernel
theorem dX12_grow_240 : decode cX12_grow 240 = .ok (.iconst 1, 1) := by decide +kernel
theorem dX12_grow_241 : decode cX12_grow 241 = .ok (.ireturn, 1) := by decide +kernel
def PJ_X12_grow_158 (d : Nat) (E : zb_E) (x0 : Int) (v1_49 : Int) (v3_90 : Int) (X49 : Int → zb_M → Prop) (Q : Int → zb_M → Prop) (m158j : zb_M) : Prop :=
  (zb_inI (v1_49 + 1)) ∧ ((0 ≤ v1_49 ∧ v1_49 < 15) ∧ ((0 ≤ (v1_49 + 1) ∧ (v1_49 + 1) < 15) ∧ (∀ m171, m171 = zb_up m158j (E.2 x0 20) (v1_49 + 1) (m158j (E.2 x0 20) v1_49) → (zb_T K_X12_markIn d [(2, x0), (0, (v1_49 + 1)), (0, v3_90)] E m171 (fun r177 m177 => (zb_inI ((m177 x0 29) + 1)) ∧ (∀ m187, m187 = zb_up m177 x0 29 ((m177 x0 29) + 1) → (((m187 x0 15) ≤ (m187 (E.2 x0 20) (v1_49 + 1)) → ((m187 x0 28) = 3000 → Q 0 m187) ∧ (¬ (m187 x0 28) = 3000 → zb_T K_X12_leaf d [(2, x0), (0, (v1_49 + 1))] E m187 (fun r234 m234 => X49 v1_49 m234))) ∧ (¬ (m187 x0 15) ≤ (m187 (E.2 x0 20) (v1_49 + 1)) → (0 ≤ (v1_49 + 1) ∧ (v1_49 + 1) < 13) ∧ (∀ m214, m214 = zb_up m187 (E.2 x0 27) (v1_49 + 1) 0 → (X49 (v1_49 + 1) m214))))))))))
def PL_X12_grow_116 (d : Nat) (E : zb_E) (x0 : Int) (v1_49 : Int) (Q : Int → zb_M → Prop) (K158_116 : zb_M → Prop) (v4_116 : Int) (m116l : zb_M) : Prop :=
  ∀ X116 : Int → zb_M → Prop, (∀ (v4_116 : Int) (m116l : zb_M), (((m116l x0 15) ≤ v4_116 → K158_116 m116l) ∧ (¬ (m116l x0 15) ≤ v4_116 → (zb_inI (12 * v1_49)) ∧ ((zb_inI ((12 * v1_49) + 12)) ∧ ((zb_inI (((12 * v1_49) + 12) + v4_116)) ∧ ((zb_inI ((12 * v1_49) + v4_116)) ∧ ((0 ≤ ((12 * v1_49) + v4_116) ∧ ((12 * v1_49) + v4_116) < 180) ∧ ((0 ≤ (((12 * v1_49) + 12) + v4_116) ∧ (((12 * v1_49) + 12) + v4_116) < 180) ∧ (∀ m151, m151 = zb_up m116l (E.2 x0 19) (((12 * v1_49) + 12) + v4_116) (m116l (E.2 x0 19) ((12 * v1_49) + v4_116)) → ((zb_inI (v4_116 + 1)) ∧ (X116 (v4_116 + 1) m151)))))))))) → X116 v4_116 m116l) → X116 v4_116 m116l
def PJ_X12_grow_90 (d : Nat) (E : zb_E) (x0 : Int) (v1_49 : Int) (m49l : zb_M) (X49 : Int → zb_M → Prop) (Q : Int → zb_M → Prop) (v3_90 : Int) : Prop :=
  (v3_90 = (m49l x0 15) → (zb_inI (v1_49 + (-1))) ∧ (X49 (v1_49 + (-1)) m49l)) ∧ (¬ v3_90 = (m49l x0 15) → (zb_inI (v3_90 + 1)) ∧ (∀ m112, m112 = zb_up m49l (E.2 x0 27) v1_49 (v3_90 + 1) → (PL_X12_grow_116 d E x0 v1_49 Q (PJ_X12_grow_158 d E x0 v1_49 v3_90 X49 Q) 0 m112)))
def PL_X12_grow_66 (d : Nat) (E : zb_E) (x0 : Int) (v1_49 : Int) (m49l : zb_M) (r55 : Int) (Q : Int → zb_M → Prop) (K90_66 : Int → Prop) (v3_66 : Int) : Prop :=
  ∀ X66 : Int → Prop, (∀ (v3_66 : Int), (((m49l x0 15) ≤ v3_66 → K90_66 v3_66) ∧ (¬ (m49l x0 15) ≤ v3_66 → zb_Tp K_X12_follows d [(2, x0), (0, v1_49), (0, r55), (0, v3_66)] E m49l (fun r78 => (r78 = 0 → (zb_inI (v3_66 + 1)) ∧ (X66 (v3_66 + 1))) ∧ (¬ r78 = 0 → K90_66 v3_66)))) → X66 v3_66) → X66 v3_66
def PL_X12_grow_49 (d : Nat) (E : zb_E) (x0 : Int) (Q : Int → zb_M → Prop)  (v1_49 : Int) (m49l : zb_M) : Prop :=
  ∀ X49 : Int → zb_M → Prop, (∀ (v1_49 : Int) (m49l : zb_M), ((v1_49 < 0 → Q 1 m49l) ∧ (¬ v1_49 < 0 → zb_Tp K_X12_targetOf d [(2, x0), (0, v1_49)] E m49l (fun r55 => (0 ≤ v1_49 ∧ v1_49 < 13) ∧ (PL_X12_grow_66 d E x0 v1_49 m49l r55 Q (PJ_X12_grow_90 d E x0 v1_49 m49l X49 Q) (m49l (E.2 x0 27) v1_49))))) → X49 v1_49 m49l) → X49 v1_49 m49l
def PM_X12_grow (d : Nat) (E : zb_E) (x0 : Int) (m : zb_M) (Q : Int → zb_M → Prop) : Prop :=
  ∀ m2, m2 = zb_up m x0 28 0 → (∀ m7, m7 = zb_up m2 x0 29 1 → (zb_T K_X12_start d [(2, x0), (0, 0)] E m7 (fun r12 m12 => zb_T K_X12_splitIn d [(2, x0), (0, 0)] E m12 (fun r17 m17 => ((m17 (E.2 x0 20) 0) = (m17 x0 15) → zb_T K_X12_leaf d [(2, x0), (0, 0)] E m17 (fun r35 m35 => Q 1 m35)) ∧ (¬ (m17 (E.2 x0 20) 0) = (m17 x0 15) → ∀ m48, m48 = zb_up m17 (E.2 x0 27) 0 0 → (PL_X12_grow_49 d E x0 Q 0 m48))))))
set_option maxRecDepth 100000 in
set_option maxHeartbeats 4000000 in
theorem w_X12_grow {d : Nat} {E : zb_E} {x0 : Int} {m : zb_M} {Q : Int → zb_M → Prop} (h : PM_X12_grow d E x0 m Q) : zb_T K_X12_grow (d + 1) [(2, x0)] E m Q := by
  unfold PM_X12_grow at h
  refine zb_T_in gd_X12_grow rfl rfl (fun hW hA G C hF => ?_)
  have i_0 : zb_is E.1 x0 12 := zb_aH hA (by decide)
  show zb_WP _ _ 0 [(0, (2, x0))] [] _ _ _ _
  refine zb_aload_n (j := 0) dX12_grow_0 rfl rfl ?_
  refine zb_iconst dX12_grow_1 (zb_inIc rfl) ?_
  refine zb_pF 28 dX12_grow_2 fl_X12_216 rfl rfl i_0 (Or.inl rfl) hF rfl rfl (fun m2 e2 hF => ?_)
  have h := h m2 e2
  refine zb_aload_n (j := 0) dX12_grow_5 rfl rfl ?_
  refine zb_iconst dX12_grow_6 (zb_inIc rfl) ?_
  refine zb_pF 29 dX12_grow_7 fl_X12_222 rfl rfl i_0 (Or.inl rfl) hF rfl rfl (fun m7 e7 hF => ?_)
  have h := h m7 e7
  refine zb_aload_n (j := 0) dX12_grow_10 rfl rfl ?_
  refine zb_iconst dX12_grow_11 (zb_inIc rfl) ?_
  refine zb_cV (As := [(0, 0)]) (As' := [(0, 0)]) (st := []) dX12_grow_12 lk_X12_197 gd_X12_start rfl rfl i_0 ⟨_, rfl, rfl⟩ h hW hF (zb_aR i_0 (zb_aI zb_a0)) (Nat.le_refl _) (Nat.le_of_ble_eq_true rfl) (fun r12 m12 hF h => ?_)
  show zb_WP _ _ _ _ [] _ _ _ _
  refine zb_aload_n (j := 0) dX12_grow_15 rfl rfl ?_
  refine zb_iconst dX12_grow_16 (zb_inIc rfl) ?_
  refine zb_cV (As := [(0, 0)]) (As' := [(0, 0)]) (st := []) dX12_grow_17 lk_X12_191 gd_X12_splitIn rfl rfl i_0 ⟨_, rfl, rfl⟩ h hW hF (zb_aR i_0 (zb_aI zb_a0)) (Nat.le_refl _) (Nat.le_of_ble_eq_true rfl) (fun r17 m17 hF h => ?_)
  show zb_WP _ _ _ _ [] _ _ _ _
  refine zb_aload_n (j := 0) dX12_grow_20 rfl rfl ?_
  refine zb_gFa 20 dX12_grow_21 fl_X12_64 i_0 hW hF rfl rfl rfl (by decide) rfl 15 rfl (fun i1 l2 => ?_)
  refine zb_iconst dX12_grow_24 (zb_inIc rfl) ?_
  refine zb_lI dX12_grow_25 i1 l2 (by decide) (by decide) ?_
  refine zb_aload_n (j := 0) dX12_grow_26 rfl rfl ?_
  refine zb_gI 15 dX12_grow_27 fl_X12_175 i_0 rfl rfl ?_
  refine zb_icmp_ne (tgt := 40) dX12_grow_30 (by decide) (fun c3 => ?_) (fun c3 => ?_)
  · have h := h.2 c3
    refine zb_iconst dX12_grow_40 (zb_inIc rfl) ?_
    refine zb_istore_n (L' := [(1, (0, 0)), (0, (2, x0))]) dX12_grow_41 rfl (by decide) rfl ?_
    refine zb_aload_n (j := 1) dX12_grow_42 rfl rfl ?_
    refine zb_gFa 27 dX12_grow_43 fl_X12_79 i_0 hW hF rfl rfl rfl (by decide) rfl 13 rfl (fun i4 l5 => ?_)
    refine zb_iconst dX12_grow_46 (zb_inIc rfl) ?_
    refine zb_iconst dX12_grow_47 (zb_inIc rfl) ?_
    refine zb_sI dX12_grow_48 i4 l5 (by decide) (by decide) hF (fun m48 e48 hF => ?_)
    have h := h m48 e48
    refine zb_sub (L' := [(0, (2, x0)), (1, (0, 0))]) [1, 0] rfl ?_
    unfold PL_X12_grow_49 at h
    obtain ⟨X49, hX49⟩ : ∃ X : Int → zb_M → Prop, ∀ (v1_49 : Int) (m49l : zb_M), (X v1_49 m49l ↔ (zb_FIN E m49l → zb_WP (G, C, d + 1, 0, 0, zb_q E Q) F_X12_grow 49 [(0, (2, x0)), (1, (0, v1_49))] [] E.1 m49l 0 0)) := ⟨fun v1_49 m49l => zb_FIN E m49l → zb_WP (G, C, d + 1, 0, 0, zb_q E Q) F_X12_grow 49 [(0, (2, x0)), (1, (0, v1_49))] [] E.1 m49l 0 0, fun _ _ => Iff.rfl⟩
    refine (hX49 _ _).mp (h X49 (fun v1_49 m49l h => (hX49 _ _).mpr (fun hF => ?_))) hF
    refine zb_iload_n (j := 1) dX12_grow_49 rfl rfl ?_
    refine zb_if_lt (tgt := 240) dX12_grow_50 (by decide) (fun c6 => ?_) (fun c6 => ?_)
    · have h := h.1 c6
      refine zb_iconst dX12_grow_240 (zb_inIc rfl) ?_
      exact zb_rZ dX12_grow_241 rfl hF (by decide) h
    · have h := h.2 c6
      refine zb_aload_n (j := 0) dX12_grow_53 rfl rfl ?_
      refine zb_iload_n (j := 1) dX12_grow_54 rfl rfl ?_
      refine zb_cVp (As := [(0, v1_49)]) (As' := [(0, v1_49)]) (st := []) dX12_grow_55 lk_X12_228 gd_X12_targetOf rfl rfl i_0 ⟨_, rfl, rfl⟩ h hW hF (zb_aR i_0 (zb_aI zb_a0)) (Nat.le_refl _) (Nat.le_of_ble_eq_true rfl) (fun r55 h => ?_)
      show zb_WP _ _ _ _ [(0, r55)] _ _ _ _
      refine zb_istore_n (L' := [(2, (0, r55)), (0, (2, x0)), (1, (0, v1_49))]) dX12_grow_58 rfl (by decide) rfl ?_
      refine zb_aload_n (j := 1) dX12_grow_59 rfl rfl ?_
      refine zb_gFa 27 dX12_grow_60 fl_X12_79 i_0 hW hF rfl rfl rfl (by decide) rfl 13 rfl (fun i7 l8 => ?_)
      refine zb_iload_n (j := 2) dX12_grow_63 rfl rfl ?_
      obtain ⟨o9, h⟩ := h
      refine zb_lI dX12_grow_64 i7 l8 o9.1 o9.2 ?_
      refine zb_istore_n (L' := [(3, (0, (m49l (E.2 x0 27) v1_49))), (2, (0, r55)), (0, (2, x0)), (1, (0, v1_49))]) dX12_grow_65 rfl (by decide) rfl ?_
      refine zb_sub (L' := [(0, (2, x0)), (1, (0, v1_49)), (2, (0, r55)), (3, (0, (m49l (E.2 x0 27) v1_49)))]) [2, 3, 1, 0] rfl ?_
      have hJ90 : ∀ (v3_90 : Int), zb_FIN E m49l → PJ_X12_grow_90 d E x0 v1_49 m49l X49 Q v3_90 → zb_WP (G, C, d + 1, 0, 0, zb_q E Q) F_X12_grow 90 [(0, (2, x0)), (1, (0, v1_49)), (3, (0, v3_90))] [] E.1 m49l 0 0 := by
        intro v3_90 hF h
        unfold PJ_X12_grow_90 at h
        refine zb_iload_n (j := 2) dX12_grow_90 rfl rfl ?_
        refine zb_aload_n (j := 0) dX12_grow_91 rfl rfl ?_
        refine zb_gI 15 dX12_grow_92 fl_X12_175 i_0 rfl rfl ?_
        refine zb_icmp_ne (tgt := 104) dX12_grow_95 (by decide) (fun c10 => ?_) (fun c10 => ?_)
        · have h := h.2 c10
          refine zb_aload_n (j := 0) dX12_grow_104 rfl rfl ?_
          refine zb_gFa 27 dX12_grow_105 fl_X12_79 i_0 hW hF rfl rfl rfl (by decide) rfl 13 rfl (fun i11 l12 => ?_)
          refine zb_iload_n (j := 1) dX12_grow_108 rfl rfl ?_
          refine zb_iload_n (j := 2) dX12_grow_109 rfl rfl ?_
          refine zb_iconst dX12_grow_110 (zb_inIc rfl) ?_
          obtain ⟨o13, h⟩ := h
          refine zb_iadd dX12_grow_111 o13 ?_
          refine zb_sI dX12_grow_112 i11 l12 o9.1 o9.2 hF (fun m112 e112 hF => ?_)
          have h := h m112 e112
          refine zb_iconst dX12_grow_113 (zb_inIc rfl) ?_
          refine zb_istore (L' := [(4, (0, 0)), (0, (2, x0)), (1, (0, v1_49)), (3, (0, v3_90))]) dX12_grow_114 (by decide) rfl ?_
          refine zb_sub (L' := [(0, (2, x0)), (1, (0, v1_49)), (3, (0, v3_90)), (4, (0, 0))]) [1, 2, 3, 0] rfl ?_
          have hJ158 : ∀ (m158j : zb_M), zb_FIN E m158j → PJ_X12_grow_158 d E x0 v1_49 v3_90 X49 Q m158j → zb_WP (G, C, d + 1, 0, 0, zb_q E Q) F_X12_grow 158 [(0, (2, x0)), (1, (0, v1_49)), (3, (0, v3_90))] [] E.1 m158j 0 0 := by
            intro m158j hF h
            unfold PJ_X12_grow_158 at h
            refine zb_aload_n (j := 0) dX12_grow_158 rfl rfl ?_
            refine zb_gFa 20 dX12_grow_159 fl_X12_64 i_0 hW hF rfl rfl rfl (by decide) rfl 15 rfl (fun i14 l15 => ?_)
            refine zb_iload_n (j := 1) dX12_grow_162 rfl rfl ?_
            refine zb_iconst dX12_grow_163 (zb_inIc rfl) ?_
            obtain ⟨o16, h⟩ := h
            refine zb_iadd dX12_grow_164 o16 ?_
            refine zb_aload_n (j := 0) dX12_grow_165 rfl rfl ?_
            refine zb_gFa 20 dX12_grow_166 fl_X12_64 i_0 hW hF rfl rfl rfl (by decide) rfl 15 rfl (fun i17 l18 => ?_)
            refine zb_iload_n (j := 1) dX12_grow_169 rfl rfl ?_
            obtain ⟨o19, h⟩ := h
            refine zb_lI dX12_grow_170 i17 l18 o19.1 o19.2 ?_
            obtain ⟨o20, h⟩ := h
            refine zb_sI dX12_grow_171 i14 l15 o20.1 o20.2 hF (fun m171 e171 hF => ?_)
            have h := h m171 e171
            refine zb_aload_n (j := 0) dX12_grow_172 rfl rfl ?_
            refine zb_iload_n (j := 1) dX12_grow_173 rfl rfl ?_
            refine zb_iconst dX12_grow_174 (zb_inIc rfl) ?_
            refine zb_iadd dX12_grow_175 o16 ?_
            refine zb_iload_n (j := 2) dX12_grow_176 rfl rfl ?_
            refine zb_cV (As := [(0, (v1_49 + 1)), (0, v3_90)]) (As' := [(0, v3_90), (0, (v1_49 + 1))]) (st := []) dX12_grow_177 lk_X12_210 gd_X12_markIn rfl rfl i_0 ⟨_, rfl, rfl⟩ h hW hF (zb_aR i_0 (zb_aI (zb_aI zb_a0))) (Nat.le_refl _) (Nat.le_of_ble_eq_true rfl) (fun r177 m177 hF h => ?_)
            show zb_WP _ _ _ _ [] _ _ _ _
            refine zb_aload_n (j := 0) dX12_grow_180 rfl rfl ?_
            refine zb_dup dX12_grow_181 rfl ?_
            refine zb_gI 29 dX12_grow_182 fl_X12_222 i_0 rfl rfl ?_
            refine zb_iconst dX12_grow_185 (zb_inIc rfl) ?_
            obtain ⟨o21, h⟩ := h
            refine zb_iadd dX12_grow_186 o21 ?_
            refine zb_pF 29 dX12_grow_187 fl_X12_222 rfl rfl i_0 (Or.inl rfl) hF rfl rfl (fun m187 e187 hF => ?_)
            have h := h m187 e187
            refine zb_aload_n (j := 0) dX12_grow_190 rfl rfl ?_
            refine zb_gFa 20 dX12_grow_191 fl_X12_64 i_0 hW hF rfl rfl rfl (by decide) rfl 15 rfl (fun i22 l23 => ?_)
            refine zb_iload_n (j := 1) dX12_grow_194 rfl rfl ?_
            refine zb_iconst dX12_grow_195 (zb_inIc rfl) ?_
            refine zb_iadd dX12_grow_196 o16 ?_
            refine zb_lI dX12_grow_197 i22 l23 o20.1 o20.2 ?_
            refine zb_aload_n (j := 0) dX12_grow_198 rfl rfl ?_
            refine zb_gI 15 dX12_grow_199 fl_X12_175 i_0 rfl rfl ?_
            refine zb_icmp_ge (tgt := 218) dX12_grow_202 (by decide) (fun c24 => ?_) (fun c24 => ?_)
            · have h := h.1 c24
              refine zb_aload_n (j := 0) dX12_grow_218 rfl rfl ?_
              refine zb_gI 28 dX12_grow_219 fl_X12_216 i_0 rfl rfl ?_
              refine zb_sipush dX12_grow_222 (by decide) (zb_inIc rfl) ?_
              refine zb_icmp_ne (tgt := 230) dX12_grow_225 (by decide) (fun c25 => ?_) (fun c25 => ?_)
              · have h := h.2 c25
                refine zb_aload_n (j := 0) dX12_grow_230 rfl rfl ?_
                refine zb_iload_n (j := 1) dX12_grow_231 rfl rfl ?_
                refine zb_iconst dX12_grow_232 (zb_inIc rfl) ?_
                refine zb_iadd dX12_grow_233 o16 ?_
                refine zb_cV (As := [(0, (v1_49 + 1))]) (As' := [(0, (v1_49 + 1))]) (st := []) dX12_grow_234 lk_X12_225 gd_X12_leaf rfl rfl i_0 ⟨_, rfl, rfl⟩ h hW hF (zb_aR i_0 (zb_aI zb_a0)) (Nat.le_refl _) (Nat.le_of_ble_eq_true rfl) (fun r234 m234 hF h => ?_)
                show zb_WP _ _ _ _ [] _ _ _ _
                refine zb_goto (tgt := 49) dX12_grow_237 (by decide) ?_
                refine zb_sub (L' := [(0, (2, x0)), (1, (0, v1_49))]) [0, 1] rfl ?_
                exact (hX49 _ _).mp h hF
              · have h := h.1 c25
                refine zb_iconst dX12_grow_228 (zb_inIc rfl) ?_
                exact zb_rZ dX12_grow_229 rfl hF (by decide) h
            · have h := h.2 c24
              refine zb_iinc (j := 1) (L' := [(1, (0, (v1_49 + 1))), (0, (2, x0)), (3, (0, v3_90))]) dX12_grow_205 rfl o16 (by decide) rfl ?_
              refine zb_aload_n (j := 1) dX12_grow_208 rfl rfl ?_
              refine zb_gFa 27 dX12_grow_209 fl_X12_79 i_0 hW hF rfl rfl rfl (by decide) rfl 13 rfl (fun i26 l27 => ?_)
              refine zb_iload_n (j := 0) dX12_grow_212 rfl rfl ?_
              refine zb_iconst dX12_grow_213 (zb_inIc rfl) ?_
              obtain ⟨o28, h⟩ := h
              refine zb_sI dX12_grow_214 i26 l27 o28.1 o28.2 hF (fun m214 e214 hF => ?_)
              have h := h m214 e214
              refine zb_goto (tgt := 237) dX12_grow_215 (by decide) ?_
              refine zb_goto (tgt := 49) dX12_grow_237 (by decide) ?_
              refine zb_sub (L' := [(0, (2, x0)), (1, (0, (v1_49 + 1)))]) [1, 0] rfl ?_
              exact (hX49 _ _).mp h hF
          unfold PL_X12_grow_116 at h
          obtain ⟨X116, hX116⟩ : ∃ X : Int → zb_M → Prop, ∀ (v4_116 : Int) (m116l : zb_M), (X v4_116 m116l ↔ (zb_FIN E m116l → zb_WP (G, C, d + 1, 0, 0, zb_q E Q) F_X12_grow 116 [(0, (2, x0)), (1, (0, v1_49)), (3, (0, v3_90)), (4, (0, v4_116))] [] E.1 m116l 0 0)) := ⟨fun v4_116 m116l => zb_FIN E m116l → zb_WP (G, C, d + 1, 0, 0, zb_q E Q) F_X12_grow 116 [(0, (2, x0)), (1, (0, v1_49)), (3, (0, v3_90)), (4, (0, v4_116))] [] E.1 m116l 0 0, fun _ _ => Iff.rfl⟩
          refine (hX116 _ _).mp (h X116 (fun v4_116 m116l h => (hX116 _ _).mpr (fun hF => ?_))) hF
          refine zb_iload (j := 3) dX12_grow_116 rfl ?_
          refine zb_aload_n (j := 0) dX12_grow_118 rfl rfl ?_
          refine zb_gI 15 dX12_grow_119 fl_X12_175 i_0 rfl rfl ?_
          refine zb_icmp_ge (tgt := 158) dX12_grow_122 (by decide) (fun c29 => ?_) (fun c29 => ?_)
          · have h := h.1 c29
            refine zb_sub (L' := [(0, (2, x0)), (1, (0, v1_49)), (3, (0, v3_90))]) [0, 1, 2] rfl ?_
            exact hJ158 _ hF h
          · have h := h.2 c29
            refine zb_aload_n (j := 0) dX12_grow_125 rfl rfl ?_
            refine zb_gFa 19 dX12_grow_126 fl_X12_61 i_0 hW hF rfl rfl rfl (by decide) rfl 180 rfl (fun i30 l31 => ?_)
            refine zb_bipush dX12_grow_129 (by decide) (zb_inIc rfl) ?_
            refine zb_iload_n (j := 1) dX12_grow_131 rfl rfl ?_
            obtain ⟨o32, h⟩ := h
            refine zb_imul dX12_grow_132 o32 ?_
            refine zb_bipush dX12_grow_133 (by decide) (zb_inIc rfl) ?_
            obtain ⟨o33, h⟩ := h
            refine zb_iadd dX12_grow_135 o33 ?_
            refine zb_iload (j := 3) dX12_grow_136 rfl ?_
            obtain ⟨o34, h⟩ := h
            refine zb_iadd dX12_grow_138 o34 ?_
            refine zb_aload_n (j := 0) dX12_grow_139 rfl rfl ?_
            refine zb_gFa 19 dX12_grow_140 fl_X12_61 i_0 hW hF rfl rfl rfl (by decide) rfl 180 rfl (fun i35 l36 => ?_)
            refine zb_bipush dX12_grow_143 (by decide) (zb_inIc rfl) ?_
            refine zb_iload_n (j := 1) dX12_grow_145 rfl rfl ?_
            refine zb_imul dX12_grow_146 o32 ?_
            refine zb_iload (j := 3) dX12_grow_147 rfl ?_
            obtain ⟨o37, h⟩ := h
            refine zb_iadd dX12_grow_149 o37 ?_
            obtain ⟨o38, h⟩ := h
            refine zb_lI dX12_grow_150 i35 l36 o38.1 o38.2 ?_
            obtain ⟨o39, h⟩ := h
            refine zb_sI dX12_grow_151 i30 l31 o39.1 o39.2 hF (fun m151 e151 hF => ?_)
            have h := h m151 e151
            obtain ⟨o40, h⟩ := h
            refine zb_iinc (j := 3) (L' := [(4, (0, (v4_116 + 1))), (0, (2, x0)), (1, (0, v1_49)), (3, (0, v3_90))]) dX12_grow_152 rfl o40 (by decide) rfl ?_
            refine zb_goto (tgt := 116) dX12_grow_155 (by decide) ?_
            refine zb_sub (L' := [(0, (2, x0)), (1, (0, v1_49)), (3, (0, v3_90)), (4, (0, (v4_116 + 1)))]) [1, 2, 3, 0] rfl ?_
            exact (hX116 _ _).mp h hF
        · have h := h.1 c10
          obtain ⟨o41, h⟩ := h
          refine zb_iinc (j := 1) (L' := [(1, (0, (v1_49 + (-1)))), (0, (2, x0)), (3, (0, v3_90))]) dX12_grow_98 rfl o41 (by decide) rfl ?_
          refine zb_goto (tgt := 49) dX12_grow_101 (by decide) ?_
          refine zb_sub (L' := [(0, (2, x0)), (1, (0, (v1_49 + (-1))))]) [1, 0] rfl ?_
          exact (hX49 _ _).mp h hF
      unfold PL_X12_grow_66 at h
      obtain ⟨X66, hX66⟩ : ∃ X : Int → Prop, ∀ (v3_66 : Int), (X v3_66 ↔ (zb_FIN E m49l → zb_WP (G, C, d + 1, 0, 0, zb_q E Q) F_X12_grow 66 [(0, (2, x0)), (1, (0, v1_49)), (2, (0, r55)), (3, (0, v3_66))] [] E.1 m49l 0 0)) := ⟨fun v3_66 => zb_FIN E m49l → zb_WP (G, C, d + 1, 0, 0, zb_q E Q) F_X12_grow 66 [(0, (2, x0)), (1, (0, v1_49)), (2, (0, r55)), (3, (0, v3_66))] [] E.1 m49l 0 0, fun _ => Iff.rfl⟩
      refine (hX66 _).mp (h X66 (fun v3_66 h => (hX66 _).mpr (fun hF => ?_))) hF
      refine zb_iload_n (j := 3) dX12_grow_66 rfl rfl ?_
      refine zb_aload_n (j := 0) dX12_grow_67 rfl rfl ?_
      refine zb_gI 15 dX12_grow_68 fl_X12_175 i_0 rfl rfl ?_
      refine zb_icmp_ge (tgt := 90) dX12_grow_71 (by decide) (fun c42 => ?_) (fun c42 => ?_)
      · have h := h.1 c42
        refine zb_sub (L' := [(0, (2, x0)), (1, (0, v1_49)), (3, (0, v3_66))]) [0, 1, 3] rfl ?_
        exact hJ90 _ hF h
      · have h := h.2 c42
        refine zb_aload_n (j := 0) dX12_grow_74 rfl rfl ?_
        refine zb_iload_n (j := 1) dX12_grow_75 rfl rfl ?_
        refine zb_iload_n (j := 2) dX12_grow_76 rfl rfl ?_
        refine zb_iload_n (j := 3) dX12_grow_77 rfl rfl ?_
        refine zb_cVp (As := [(0, v1_49), (0, r55), (0, v3_66)]) (As' := [(0, v3_66), (0, r55), (0, v1_49)]) (st := []) dX12_grow_78 lk_X12_231 gd_X12_follows rfl rfl i_0 ⟨_, rfl, rfl⟩ h hW hF (zb_aR i_0 (zb_aI (zb_aI (zb_aI zb_a0)))) (Nat.le_refl _) (Nat.le_of_ble_eq_true rfl) (fun r78 h => ?_)
        show zb_WP _ _ _ _ [(0, r78)] _ _ _ _
        refine zb_if_ne (tgt := 90) dX12_grow_81 (by decide) (fun c43 => ?_) (fun c43 => ?_)
        · have h := h.2 c43
          refine zb_sub (L' := [(0, (2, x0)), (1, (0, v1_49)), (3, (0, v3_66))]) [0, 1, 3] rfl ?_
          exact hJ90 _ hF h
        · have h := h.1 c43
          obtain ⟨o44, h⟩ := h
          refine zb_iinc (j := 3) (L' := [(3, (0, (v3_66 + 1))), (0, (2, x0)), (1, (0, v1_49)), (2, (0, r55))]) dX12_grow_84 rfl o44 (by decide) rfl ?_
          refine zb_goto (tgt := 66) dX12_grow_87 (by decide) ?_
          refine zb_sub (L' := [(0, (2, x0)), (1, (0, v1_49)), (2, (0, r55)), (3, (0, (v3_66 + 1)))]) [1, 2, 3, 0] rfl ?_
          exact (hX66 _).mp h hF
  · have h := h.1 c3
    refine zb_aload_n (j := 0) dX12_grow_33 rfl rfl ?_
    refine zb_iconst dX12_grow_34 (zb_inIc rfl) ?_
    refine zb_cV (As := [(0, 0)]) (As' := [(0, 0)]) (st := []) dX12_grow_35 lk_X12_225 gd_X12_leaf rfl rfl i_0 ⟨_, rfl, rfl⟩ h hW hF (zb_aR i_0 (zb_aI zb_a0)) (Nat.le_refl _) (Nat.le_of_ble_eq_true rfl) (fun r35 m35 hF h => ?_)
    show zb_WP _ _ _ _ [] _ _ _ _
    refine zb_iconst dX12_grow_38 (zb_inIc rfl) ?_
    exact zb_rZ dX12_grow_39 rfl hF (by decide) h
theorem dX12_keepOther_0 : decode cX12_keepOther 0 = .ok (.iconst 0, 1) := by decide +kernel
theorem dX12_keepOther_1 : decode cX12_keepOther 1 = .ok (.istore_n 1, 1) := by decide +kernel
theorem dX12_keepOther_2 : decode cX12_keepOther 2 = .ok (.iload_n 1, 1) := by decide +kernel
theorem dX12_keepOther_3 : decode cX12_keepOther 3 = .ok (.sipush 160, 3) := by decide +kernel
theorem dX12_keepOther_6 : decode cX12_keepOther 6 = .ok (.if_icmp .ge 21, 3) := by decide +kernel
theorem dX12_keepOther_9 : decode cX12_keepOther 9 = .ok (.aload_n 0, 1) := by decide +kernel
theorem dX12_keepOther_10 : decode cX12_keepOther 10 = .ok (.getfield 100, 3) := by decide +kernel
theorem dX12_keepOther_13 : decode cX12_keepOther 13 = .ok (.iload_n 1, 1) := by decide +kernel
theorem dX12_keepOther_14 : decode cX12_keepOther 14 = .ok (.aload_n 0, 1) := by decide +kernel
theorem dX12_keepOther_15 : decode cX12_keepOther 15 = .ok (.getfield 82, 3) := by decide +kernel
theorem dX12_keepOther_18 : decode cX12_keepOther 18 = .ok (.iload_n 1, 1) := by decide +kernel
theorem dX12_keepOther_19 : decode cX12_keepOther 19 = .ok (.iaload, 1) := by decide +kernel
theorem dX12_keepOther_20 : decode cX12_keepOther 20 = .ok (.iastore, 1) := by decide +kernel
theorem dX12_keepOther_21 : decode cX12_keepOther 21 = .ok (.iinc 1 1, 3) := by decide +kernel
theorem dX12_keepOther_24 : decode cX12_keepOther 24 = .ok (.goto (-22), 3) := by decide +kernel
theorem dX12_keepOther_27 : decode cX12_keepOther 27 = .ok (.iconst 0, 1) := by decide +kernel
theorem dX12_keepOther_28 : decode cX12_keepOther 28 = .ok (.istore_n 1, 1) := by decide +kernel
theorem dX12_keepOther_29 : decode cX12_keepOther 29 = .ok (.iload_n 1, 1) := by decide +kernel
theorem dX12_keepOther_30 : decode cX12_keepOther 30 = .ok (.bipush 12, 2) := by decide +kernel
theorem dX12_keepOther_32 : decode cX12_keepOther 32 = .ok (.if_icmp .ge 21, 3) := by decide +kernel
theorem dX12_keepOther_35 : decode cX12_keepOther 35 = .ok (.aload_n 0, 1) := by decide +kernel
theorem dX12_keepOther_36 : decode cX12_keepOther 36 = .ok (.getfield 103, 3) := by decide +kernel
theorem dX12_keepOther_39 : decode cX12_keepOther 39 = .ok (.iload_n 1, 1) := by decide +kernel
theorem dX12_keepOther_40 : decode cX12_keepOther 40 = .ok (.aload_n 0, 1) := by decide +kernel
theorem dX12_keepOther_41 : decode cX12_keepOther 41 = .ok (.getfield 85, 3) := by decide +kernel
theorem dX12_keepOther_44 : decode cX12_keepOther 44 = .ok (.iload_n 1, 1) := by decide +kernel
theorem dX12_keepOther_45 : decode cX12_keepOther 45 = .ok (.iaload, 1) := by decide +kernel
theorem dX12_keepOther_46 : decode cX12_keepOther 46 = .ok (.iastore, 1) := by decide +kernel
theorem dX12_keepOther_47 : decode cX12_keepOther 47 = .ok (.iinc 1 1, 3) := by decide +kernel
theorem dX12_keepOther_50 : decode cX12_keepOther 50 = .ok (.goto (-21), 3) := by decide +kernel
theorem dX12_keepOther_53 : decode cX12_keepOther 53 = .ok (.return_, 1) := by decide +kernel
def PL_X12_keepOther_29 (d : Nat) (E : zb_E) (x0 : Int) (Q : Int → zb_M → Prop)  (v1_29 : Int) (m29l : zb_M) : Prop :=
  ∀ X29 : Int → zb_M → Prop, (∀ (v1_29 : Int) (m29l : zb_M), ((12 ≤ v1_29 → Q 0 m29l) ∧ (¬ 12 ≤ v1_29 → (0 ≤ v1_29 ∧ v1_29 < 12) ∧ (∀ m46, m46 = zb_up m29l (E.2 x0 39) v1_29 (m29l (E.2 x0 31) v1_29) → ((zb_inI (v1_29 + 1)) ∧ (X29 (v1_29 + 1) m46))))) → X29 v1_29 m29l) → X29 v1_29 m29l
def PJ_X12_keepOther_27 (d : Nat) (E : zb_E) (x0 : Int) (Q : Int → zb_M → Prop) (m27j : zb_M) : Prop :=
  PL_X12_keepOther_29 d E x0 Q 0 m27j
def PL_X12_keepOther_2 (d : Nat) (E : zb_E) (x0 : Int) (Q : Int → zb_M → Prop) (K27_2 : zb_M → Prop) (v1_2 : Int) (m2l : zb_M) : Prop :=
  ∀ X2 : Int → zb_M → Prop, (∀ (v1_2 : Int) (m2l : zb_M), ((160 ≤ v1_2 → K27_2 m2l) ∧ (¬ 160 ≤ v1_2 → (0 ≤ v1_2 ∧ v1_2 < 160) ∧ (∀ m20, m20 = zb_up m2l (E.2 x0 38) v1_2 (m2l (E.2 x0 30) v1_2) → ((zb_inI (v1_2 + 1)) ∧ (X2 (v1_2 + 1) m20))))) → X2 v1_2 m2l) → X2 v1_2 m2l
def PM_X12_keepOther (d : Nat) (E : zb_E) (x0 : Int) (m : zb_M) (Q : Int → zb_M → Prop) : Prop :=
  PL_X12_keepOther_2 d E x0 Q (PJ_X12_keepOther_27 d E x0 Q) 0 m
set_option maxRecDepth 100000 in
set_option maxHeartbeats 4000000 in
theorem w_X12_keepOther {d : Nat} {E : zb_E} {x0 : Int} {m : zb_M} {Q : Int → zb_M → Prop} (h : PM_X12_keepOther d E x0 m Q) : zb_T K_X12_keepOther (d + 1) [(2, x0)] E m Q := by
  unfold PM_X12_keepOther at h
  refine zb_T_in gd_X12_keepOther rfl rfl (fun hW hA G C hF => ?_)
  have i_0 : zb_is E.1 x0 12 := zb_aH hA (by decide)
  show zb_WP _ _ 0 [(0, (2, x0))] [] _ _ _ _
  refine zb_iconst dX12_keepOther_0 (zb_inIc rfl) ?_
  refine zb_istore_n (L' := [(1, (0, 0)), (0, (2, x0))]) dX12_keepOther_1 rfl (by decide) rfl ?_
  refine zb_sub (L' := [(0, (2, x0)), (1, (0, 0))]) [1, 0] rfl ?_
  have hJ27 : ∀ (m27j : zb_M), zb_FIN E m27j → PJ_X12_keepOther_27 d E x0 Q m27j → zb_WP (G, C, d + 1, 0, 0, zb_q E Q) F_X12_keepOther 27 [(0, (2, x0))] [] E.1 m27j 0 0 := by
    intro m27j hF h
    unfold PJ_X12_keepOther_27 at h
    refine zb_iconst dX12_keepOther_27 (zb_inIc rfl) ?_
    refine zb_istore_n (L' := [(1, (0, 0)), (0, (2, x0))]) dX12_keepOther_28 rfl (by decide) rfl ?_
    refine zb_sub (L' := [(0, (2, x0)), (1, (0, 0))]) [1, 0] rfl ?_
    unfold PL_X12_keepOther_29 at h
    obtain ⟨X29, hX29⟩ : ∃ X : Int → zb_M → Prop, ∀ (v1_29 : Int) (m29l : zb_M), (X v1_29 m29l ↔ (zb_FIN E m29l → zb_WP (G, C, d + 1, 0, 0, zb_q E Q) F_X12_keepOther 29 [(0, (2, x0)), (1, (0, v1_29))] [] E.1 m29l 0 0)) := ⟨fun v1_29 m29l => zb_FIN E m29l → zb_WP (G, C, d + 1, 0, 0, zb_q E Q) F_X12_keepOther 29 [(0, (2, x0)), (1, (0, v1_29))] [] E.1 m29l 0 0, fun _ _ => Iff.rfl⟩
    refine (hX29 _ _).mp (h X29 (fun v1_29 m29l h => (hX29 _ _).mpr (fun hF => ?_))) hF
    refine zb_iload_n (j := 1) dX12_keepOther_29 rfl rfl ?_
    refine zb_bipush dX12_keepOther_30 (by decide) (zb_inIc rfl) ?_
    refine zb_icmp_ge (tgt := 53) dX12_keepOther_32 (by decide) (fun c1 => ?_) (fun c1 => ?_)
    · have h := h.1 c1
      exact zb_rV dX12_keepOther_53 rfl hF h
    · have h := h.2 c1
      refine zb_aload_n (j := 0) dX12_keepOther_35 rfl rfl ?_
      refine zb_gFa 39 dX12_keepOther_36 fl_X12_103 i_0 hW hF rfl rfl rfl (by decide) rfl 12 rfl (fun i2 l3 => ?_)
      refine zb_iload_n (j := 1) dX12_keepOther_39 rfl rfl ?_
      refine zb_aload_n (j := 0) dX12_keepOther_40 rfl rfl ?_
      refine zb_gFa 31 dX12_keepOther_41 fl_X12_85 i_0 hW hF rfl rfl rfl (by decide) rfl 12 rfl (fun i4 l5 => ?_)
      refine zb_iload_n (j := 1) dX12_keepOther_44 rfl rfl ?_
      obtain ⟨o6, h⟩ := h
      refine zb_lI dX12_keepOther_45 i4 l5 o6.1 o6.2 ?_
      refine zb_sI dX12_keepOther_46 i2 l3 o6.1 o6.2 hF (fun m46 e46 hF => ?_)
      have h := h m46 e46
      obtain ⟨o7, h⟩ := h
      refine zb_iinc (j := 1) (L' := [(1, (0, (v1_29 + 1))), (0, (2, x0))]) dX12_keepOther_47 rfl o7 (by decide) rfl ?_
      refine zb_goto (tgt := 29) dX12_keepOther_50 (by decide) ?_
      refine zb_sub (L' := [(0, (2, x0)), (1, (0, (v1_29 + 1)))]) [1, 0] rfl ?_
      exact (hX29 _ _).mp h hF
  unfold PL_X12_keepOther_2 at h
  obtain ⟨X2, hX2⟩ : ∃ X : Int → zb_M → Prop, ∀ (v1_2 : Int) (m2l : zb_M), (X v1_2 m2l ↔ (zb_FIN E m2l → zb_WP (G, C, d + 1, 0, 0, zb_q E Q) F_X12_keepOther 2 [(0, (2, x0)), (1, (0, v1_2))] [] E.1 m2l 0 0)) := ⟨fun v1_2 m2l => zb_FIN E m2l → zb_WP (G, C, d + 1, 0, 0, zb_q E Q) F_X12_keepOther 2 [(0, (2, x0)), (1, (0, v1_2))] [] E.1 m2l 0 0, fun _ _ => Iff.rfl⟩
  refine (hX2 _ _).mp (h X2 (fun v1_2 m2l h => (hX2 _ _).mpr (fun hF => ?_))) hF
  refine zb_iload_n (j := 1) dX12_keepOther_2 rfl rfl ?_
  refine zb_sipush dX12_keepOther_3 (by decide) (zb_inIc rfl) ?_
  refine zb_icmp_ge (tgt := 27) dX12_keepOther_6 (by decide) (fun c8 => ?_) (fun c8 => ?_)
  · have h := h.1 c8
    refine zb_sub (L' := [(0, (2, x0))]) [0] rfl ?_
    exact hJ27 _ hF h
  · have h := h.2 c8
    refine zb_aload_n (j := 0) dX12_keepOther_9 rfl rfl ?_
    refine zb_gFa 38 dX12_keepOther_10 fl_X12_100 i_0 hW hF rfl rfl rfl (by decide) rfl 160 rfl (fun i9 l10 => ?_)
    refine zb_iload_n (j := 1) dX12_keepOther_13 rfl rfl ?_
    refine zb_aload_n (j := 0) dX12_keepOther_14 rfl rfl ?_
    refine zb_gFa 30 dX12_keepOther_15 fl_X12_82 i_0 hW hF rfl rfl rfl (by decide) rfl 160 rfl (fun i11 l12 => ?_)
    refine zb_iload_n (j := 1) dX12_keepOther_18 rfl rfl ?_
    obtain ⟨o13, h⟩ := h
    refine zb_lI dX12_keepOther_19 i11 l12 o13.1 o13.2 ?_
    refine zb_sI dX12_keepOther_20 i9 l10 o13.1 o13.2 hF (fun m20 e20 hF => ?_)
    have h := h m20 e20
    obtain ⟨o14, h⟩ := h
    refine zb_iinc (j := 1) (L' := [(1, (0, (v1_2 + 1))), (0, (2, x0))]) dX12_keepOther_21 rfl o14 (by decide) rfl ?_
    refine zb_goto (tgt := 2) dX12_keepOther_24 (by decide) ?_
    refine zb_sub (L' := [(0, (2, x0)), (1, (0, (v1_2 + 1)))]) [1, 0] rfl ?_
    exact (hX2 _ _).mp h hF
theorem dX12_name_0 : decode cX12_name 0 = .ok (.aload_n 0, 1) := by decide +kernel
theorem dX12_name_1 : decode cX12_name 1 = .ok (.iload_n 1, 1) := by decide +kernel
theorem dX12_name_2 : decode cX12_name 2 = .ok (.invokevirtual 137, 3) := by decide +kernel
theorem dX12_name_5 : decode cX12_name 5 = .ok (.ifCond .ne 5, 3) := by decide +kernel
theorem dX12_name_8 : decode cX12_name 8 = .ok (.iconst (-1), 1) := by decide +kernel
theorem dX12_name_9 : decode cX12_name 9 = .ok (.ireturn, 1) := by decide +kernel
theorem dX12_name_10 : decode cX12_name 10 = .ok (.aload_n 0, 1) := by decide +kernel
theorem dX12_name_11 : decode cX12_name 11 = .ok (.iload_n 1, 1) := by decide +kernel
theorem dX12_name_12 : decode cX12_name 12 = .ok (.invokevirtual 172, 3) := by decide +kernel
theorem dX12_name_15 : decode cX12_name 15 = .ok (.ifCond .ne 6, 3) := by decide +kernel
theorem dX12_name_18 : decode cX12_name 18 = .ok (.bipush (-2), 2) := by decide +kernel
theorem dX12_name_20 : decode cX12_name 20 = .ok (.ireturn, 1) := by decide +kernel
theorem dX12_name_21 : decode cX12_name 21 = .ok (.aload_n 0, 1) := by decide +kernel
theorem dX12_name_22 : decode cX12_name 22 = .ok (.iload_n 1, 1) := by decide +kernel
theorem dX12_name_23 : decode cX12_name 23 = .ok (.invokevirtual 194, 3) := by decide +kernel
theorem dX12_name_26 : decode cX12_name 26 = .ok (.aload_n 0, 1) := by decide +kernel
theorem dX12_name_27 : decode cX12_name 27 = .ok (.aload_n 0, 1) := by decide +kernel
theorem dX12_name_28 : decode cX12_name 28 = .ok (.invokevirtual 234, 3) := by decide +kernel
theorem dX12_name_31 : decode cX12_name 31 = .ok (.putfield 238, 3) := by decide +kernel
theorem dX12_name_34 : decode cX12_name 34 = .ok (.aload_n 0, 1) := by decide +kernel
theorem dX12_name_35 : decode cX12_name 35 = .ok (.getfield 238, 3) := by decide +kernel
theorem dX12_name_38 : decode cX12_name 38 = .ok (.ifCond .ne 6, 3) := by decide +kernel
theorem dX12_name_41 : decode cX12_name 41 = .ok (.bipush (-3), 2) := by decide +kernel
theorem dX12_name_43 : decode cX12_name 43 = .ok (.ireturn, 1) := by decide +kernel
theorem dX12_name_44 : decode cX12_name 44 = .ok (.iconst 0, 1) := by decide +kernel
theorem dX12_name_45 : decode cX12_name 45 = .ok (.istore_n 2, 1) := by decide +kernel
theorem dX12_name_46 : decode cX12_name 46 = .ok (.iload_n 2, 1) := by decide +kernel
theorem dX12_name_47 : decode cX12_name 47 = .ok (.sipush 160, 3) := by decide +kernel
theorem dX12_name_50 : decode cX12_name 50 = .ok (.if_icmp .ge 21, 3) := by decide +kernel
theorem dX12_name_53 : decode cX12_name 53 = .ok (.aload_n 0, 1) := by decide +kernel
theorem dX12_name_54 : decode cX12_name 54 = .ok (.getfield 94, 3) := by decide +kernel
theorem dX12_name_57 : decode cX12_name 57 = .ok (.iload_n 2, 1) := by decide +kernel
theorem dX12_name_58 : decode cX12_name 58 = .ok (.aload_n 0, 1) := by decide +kernel
theorem dX12_name_59 : decode cX12_name 59 = .ok (.getfield 82, 3) := by decide +kernel
theorem dX12_name_62 : decode cX12_name 62 = .ok (.iload_n 2, 1) := by decide +kernel
theorem dX12_name_63 : decode cX12_name 63 = .ok (.iaload, 1) := by decide +kernel
theorem dX12_name_64 : decode cX12_name 64 = .ok (.iastore, 1) := by decide +kernel
theorem dX12_name_65 : decode cX12_name 65 = .ok (.iinc 2 1, 3) := by decide +kernel
theorem dX12_name_68 : decode cX12_name 68 = .ok (.goto (-22), 3) := by decide +kernel
theorem dX12_name_71 : decode cX12_name 71 = .ok (.iconst 0, 1) := by decide +kernel
theorem dX12_name_72 : decode cX12_name 72 = .ok (.istore_n 2, 1) := by decide +kernel
theorem dX12_name_73 : decode cX12_name 73 = .ok (.iload_n 2, 1) := by decide +kernel
theorem dX12_name_74 : decode cX12_name 74 = .ok (.bipush 12, 2) := by decide +kernel
theorem dX12_name_76 : decode cX12_name 76 = .ok (.if_icmp .ge 21, 3) := by decide +kernel
theorem dX12_name_79 : decode cX12_name 79 = .ok (.aload_n 0, 1) := by decide +kernel
theorem dX12_name_80 : decode cX12_name 80 = .ok (.getfield 97, 3) := by decide +kernel
theorem dX12_name_83 : decode cX12_name 83 = .ok (.iload_n 2, 1) := by decide +kernel
theorem dX12_name_84 : decode cX12_name 84 = .ok (.aload_n 0, 1) := by decide +kernel
theorem dX12_name_85 : decode cX12_name 85 = .ok (.getfield 85, 3) := by decide +kernel
theorem dX12_name_88 : decode cX12_name 88 = .ok (.iload_n 2, 1) := by decide +kernel
theorem dX12_name_89 : decode cX12_name 89 = .ok (.iaload, 1) := by decide +kernel
theorem dX12_name_90 : decode cX12_name 90 = .ok (.iastore, 1) := by decide +kernel
theorem dX12_name_91 : decode cX12_name 91 = .ok (.iinc 2 1, 3) := by decide +kernel
theorem dX12_name_94 : decode cX12_name 94 = .ok (.goto (-21), 3) := by decide +kernel
theorem dX12_name_97 : decode cX12_name 97 = .ok (.aload_n 0, 1) := by decide +kernel
theorem dX12_name_98 : decode cX12_name 98 = .ok (.aload_n 0, 1) := by decide +kernel
theorem dX12_name_99 : decode cX12_name 99 = .ok (.getfield 222, 3) := by decide +kernel
theorem dX12_name_102 : decode cX12_name 102 = .ok (.putfield 241, 3) := by decide +kernel
theorem dX12_name_105 : decode cX12_name 105 = .ok (.aload_n 0, 1) := by decide +kernel
theorem dX12_name_106 : decode cX12_name 106 = .ok (.getfield 216, 3) := by decide +kernel
theorem dX12_name_109 : decode cX12_name 109 = .ok (.ireturn, 1) := by decide +kernel
def PJ_X12_name_97 (d : Nat) (E : zb_E) (x0 : Int) (Q : Int → zb_M → Prop) (m97j : zb_M) : Prop :=
  ∀ m102, m102 = zb_up m97j x0 37 (m97j x0 29) → (Q (m102 x0 28) m102)
def PL_X12_name_73 (d : Nat) (E : zb_E) (x0 : Int) (Q : Int → zb_M → Prop) (K97_73 : zb_M → Prop) (v2_73 : Int) (m73l : zb_M) : Prop :=
  ∀ X73 : Int → zb_M → Prop, (∀ (v2_73 : Int) (m73l : zb_M), ((12 ≤ v2_73 → K97_73 m73l) ∧ (¬ 12 ≤ v2_73 → (0 ≤ v2_73 ∧ v2_73 < 12) ∧ (∀ m90, m90 = zb_up m73l (E.2 x0 36) v2_73 (m73l (E.2 x0 31) v2_73) → ((zb_inI (v2_73 + 1)) ∧ (X73 (v2_73 + 1) m90))))) → X73 v2_73 m73l) → X73 v2_73 m73l
def PJ_X12_name_71 (d : Nat) (E : zb_E) (x0 : Int) (Q : Int → zb_M → Prop) (m71j : zb_M) : Prop :=
  PL_X12_name_73 d E x0 Q (PJ_X12_name_97 d E x0 Q) 0 m71j
def PL_X12_name_46 (d : Nat) (E : zb_E) (x0 : Int) (Q : Int → zb_M → Prop) (K71_46 : zb_M → Prop) (v2_46 : Int) (m46l : zb_M) : Prop :=
  ∀ X46 : Int → zb_M → Prop, (∀ (v2_46 : Int) (m46l : zb_M), ((160 ≤ v2_46 → K71_46 m46l) ∧ (¬ 160 ≤ v2_46 → (0 ≤ v2_46 ∧ v2_46 < 160) ∧ (∀ m64, m64 = zb_up m46l (E.2 x0 35) v2_46 (m46l (E.2 x0 30) v2_46) → ((zb_inI (v2_46 + 1)) ∧ (X46 (v2_46 + 1) m64))))) → X46 v2_46 m46l) → X46 v2_46 m46l
def PM_X12_name (d : Nat) (E : zb_E) (x0 : Int) (x1 : Int) (m : zb_M) (Q : Int → zb_M → Prop) : Prop :=
  zb_Tp K_X12_isGraph d [(2, x0), (0, x1)] E m (fun r2 => (r2 = 0 → Q (-1) m) ∧ (¬ r2 = 0 → zb_Tp K_X12_isRight d [(2, x0), (0, x1)] E m (fun r12 => (r12 = 0 → Q (-2) m) ∧ (¬ r12 = 0 → zb_T K_X12_layOut d [(2, x0), (0, x1)] E m (fun r23 m23 => zb_T K_X12_grow d [(2, x0)] E m23 (fun r28 m28 => (r28 = 0 ∨ r28 = 1) ∧ (∀ m31, m31 = zb_up m28 x0 34 r28 → (((m31 x0 34) = 0 → Q (-3) m31) ∧ (¬ (m31 x0 34) = 0 → PL_X12_name_46 d E x0 Q (PJ_X12_name_71 d E x0 Q) 0 m31)))))))))
set_option maxRecDepth 100000 in
set_option maxHeartbeats 4000000 in
theorem w_X12_name {d : Nat} {E : zb_E} {x0 x1 : Int} {m : zb_M} {Q : Int → zb_M → Prop} (h : PM_X12_name d E x0 x1 m Q) : zb_T K_X12_name (d + 1) [(2, x0), (0, x1)] E m Q := by
  unfold PM_X12_name at h
  refine zb_T_in gd_X12_name rfl rfl (fun hW hA G C hF => ?_)
  have i_0 : zb_is E.1 x0 12 := zb_aH hA (by decide)
  show zb_WP _ _ 0 [(0, (2, x0)), (1, (0, x1))] [] _ _ _ _
  refine zb_aload_n (j := 0) dX12_name_0 rfl rfl ?_
  refine zb_iload_n (j := 1) dX12_name_1 rfl rfl ?_
  refine zb_cVp (As := [(0, x1)]) (As' := [(0, x1)]) (st := []) dX12_name_2 lk_X12_137 gd_X12_isGraph rfl rfl i_0 ⟨_, rfl, rfl⟩ h hW hF (zb_aR i_0 (zb_aI zb_a0)) (Nat.le_refl _) (Nat.le_of_ble_eq_true rfl) (fun r2 h => ?_)
  show zb_WP _ _ _ _ [(0, r2)] _ _ _ _
  refine zb_if_ne (tgt := 10) dX12_name_5 (by decide) (fun c1 => ?_) (fun c1 => ?_)
  · have h := h.2 c1
    refine zb_aload_n (j := 0) dX12_name_10 rfl rfl ?_
    refine zb_iload_n (j := 1) dX12_name_11 rfl rfl ?_
    refine zb_cVp (As := [(0, x1)]) (As' := [(0, x1)]) (st := []) dX12_name_12 lk_X12_172 gd_X12_isRight rfl rfl i_0 ⟨_, rfl, rfl⟩ h hW hF (zb_aR i_0 (zb_aI zb_a0)) (Nat.le_refl _) (Nat.le_of_ble_eq_true rfl) (fun r12 h => ?_)
    show zb_WP _ _ _ _ [(0, r12)] _ _ _ _
    refine zb_if_ne (tgt := 21) dX12_name_15 (by decide) (fun c2 => ?_) (fun c2 => ?_)
    · have h := h.2 c2
      refine zb_aload_n (j := 0) dX12_name_21 rfl rfl ?_
      refine zb_iload_n (j := 1) dX12_name_22 rfl rfl ?_
      refine zb_cV (As := [(0, x1)]) (As' := [(0, x1)]) (st := []) dX12_name_23 lk_X12_194 gd_X12_layOut rfl rfl i_0 ⟨_, rfl, rfl⟩ h hW hF (zb_aR i_0 (zb_aI zb_a0)) (Nat.le_refl _) (Nat.le_of_ble_eq_true rfl) (fun r23 m23 hF h => ?_)
      show zb_WP _ _ _ _ [] _ _ _ _
      refine zb_aload_n (j := 0) dX12_name_26 rfl rfl ?_
      refine zb_aload_n (j := 0) dX12_name_27 rfl rfl ?_
      refine zb_cV (As := []) (As' := []) (st := [(2, x0)]) dX12_name_28 lk_X12_234 gd_X12_grow rfl rfl i_0 ⟨_, rfl, rfl⟩ h hW hF (zb_aR i_0 zb_a0) (Nat.le_refl _) (Nat.le_of_ble_eq_true rfl) (fun r28 m28 hF h => ?_)
      show zb_WP _ _ _ _ [(0, r28), (2, x0)] _ _ _ _
      obtain ⟨o3, h⟩ := h
      refine zb_pF 34 dX12_name_31 fl_X12_238 rfl rfl i_0 (Or.inr (Or.inl ⟨rfl, o3⟩)) hF rfl rfl (fun m31 e31 hF => ?_)
      have h := h m31 e31
      refine zb_aload_n (j := 0) dX12_name_34 rfl rfl ?_
      refine zb_gI 34 dX12_name_35 fl_X12_238 i_0 rfl rfl ?_
      refine zb_if_ne (tgt := 44) dX12_name_38 (by decide) (fun c4 => ?_) (fun c4 => ?_)
      · have h := h.2 c4
        refine zb_iconst dX12_name_44 (zb_inIc rfl) ?_
        refine zb_istore_n (L' := [(2, (0, 0)), (0, (2, x0)), (1, (0, x1))]) dX12_name_45 rfl (by decide) rfl ?_
        refine zb_sub (L' := [(0, (2, x0)), (2, (0, 0))]) [1, 0] rfl ?_
        have hJ71 : ∀ (m71j : zb_M), zb_FIN E m71j → PJ_X12_name_71 d E x0 Q m71j → zb_WP (G, C, d + 1, 0, 0, zb_q E Q) F_X12_name 71 [(0, (2, x0))] [] E.1 m71j 0 0 := by
          intro m71j hF h
          unfold PJ_X12_name_71 at h
          refine zb_iconst dX12_name_71 (zb_inIc rfl) ?_
          refine zb_istore_n (L' := [(2, (0, 0)), (0, (2, x0))]) dX12_name_72 rfl (by decide) rfl ?_
          refine zb_sub (L' := [(0, (2, x0)), (2, (0, 0))]) [1, 0] rfl ?_
          have hJ97 : ∀ (m97j : zb_M), zb_FIN E m97j → PJ_X12_name_97 d E x0 Q m97j → zb_WP (G, C, d + 1, 0, 0, zb_q E Q) F_X12_name 97 [(0, (2, x0))] [] E.1 m97j 0 0 := by
            intro m97j hF h
            unfold PJ_X12_name_97 at h
            refine zb_aload_n (j := 0) dX12_name_97 rfl rfl ?_
            refine zb_aload_n (j := 0) dX12_name_98 rfl rfl ?_
            refine zb_gI 29 dX12_name_99 fl_X12_222 i_0 rfl rfl ?_
            refine zb_pF 37 dX12_name_102 fl_X12_241 rfl rfl i_0 (Or.inl rfl) hF rfl rfl (fun m102 e102 hF => ?_)
            have h := h m102 e102
            refine zb_aload_n (j := 0) dX12_name_105 rfl rfl ?_
            refine zb_gI 28 dX12_name_106 fl_X12_216 i_0 rfl rfl ?_
            exact zb_rI dX12_name_109 rfl hF h
          unfold PL_X12_name_73 at h
          obtain ⟨X73, hX73⟩ : ∃ X : Int → zb_M → Prop, ∀ (v2_73 : Int) (m73l : zb_M), (X v2_73 m73l ↔ (zb_FIN E m73l → zb_WP (G, C, d + 1, 0, 0, zb_q E Q) F_X12_name 73 [(0, (2, x0)), (2, (0, v2_73))] [] E.1 m73l 0 0)) := ⟨fun v2_73 m73l => zb_FIN E m73l → zb_WP (G, C, d + 1, 0, 0, zb_q E Q) F_X12_name 73 [(0, (2, x0)), (2, (0, v2_73))] [] E.1 m73l 0 0, fun _ _ => Iff.rfl⟩
          refine (hX73 _ _).mp (h X73 (fun v2_73 m73l h => (hX73 _ _).mpr (fun hF => ?_))) hF
          refine zb_iload_n (j := 1) dX12_name_73 rfl rfl ?_
          refine zb_bipush dX12_name_74 (by decide) (zb_inIc rfl) ?_
          refine zb_icmp_ge (tgt := 97) dX12_name_76 (by decide) (fun c5 => ?_) (fun c5 => ?_)
          · have h := h.1 c5
            refine zb_sub (L' := [(0, (2, x0))]) [0] rfl ?_
            exact hJ97 _ hF h
          · have h := h.2 c5
            refine zb_aload_n (j := 0) dX12_name_79 rfl rfl ?_
            refine zb_gFa 36 dX12_name_80 fl_X12_97 i_0 hW hF rfl rfl rfl (by decide) rfl 12 rfl (fun i6 l7 => ?_)
            refine zb_iload_n (j := 1) dX12_name_83 rfl rfl ?_
            refine zb_aload_n (j := 0) dX12_name_84 rfl rfl ?_
            refine zb_gFa 31 dX12_name_85 fl_X12_85 i_0 hW hF rfl rfl rfl (by decide) rfl 12 rfl (fun i8 l9 => ?_)
            refine zb_iload_n (j := 1) dX12_name_88 rfl rfl ?_
            obtain ⟨o10, h⟩ := h
            refine zb_lI dX12_name_89 i8 l9 o10.1 o10.2 ?_
            refine zb_sI dX12_name_90 i6 l7 o10.1 o10.2 hF (fun m90 e90 hF => ?_)
            have h := h m90 e90
            obtain ⟨o11, h⟩ := h
            refine zb_iinc (j := 1) (L' := [(2, (0, (v2_73 + 1))), (0, (2, x0))]) dX12_name_91 rfl o11 (by decide) rfl ?_
            refine zb_goto (tgt := 73) dX12_name_94 (by decide) ?_
            refine zb_sub (L' := [(0, (2, x0)), (2, (0, (v2_73 + 1)))]) [1, 0] rfl ?_
            exact (hX73 _ _).mp h hF
        unfold PL_X12_name_46 at h
        obtain ⟨X46, hX46⟩ : ∃ X : Int → zb_M → Prop, ∀ (v2_46 : Int) (m46l : zb_M), (X v2_46 m46l ↔ (zb_FIN E m46l → zb_WP (G, C, d + 1, 0, 0, zb_q E Q) F_X12_name 46 [(0, (2, x0)), (2, (0, v2_46))] [] E.1 m46l 0 0)) := ⟨fun v2_46 m46l => zb_FIN E m46l → zb_WP (G, C, d + 1, 0, 0, zb_q E Q) F_X12_name 46 [(0, (2, x0)), (2, (0, v2_46))] [] E.1 m46l 0 0, fun _ _ => Iff.rfl⟩
        refine (hX46 _ _).mp (h X46 (fun v2_46 m46l h => (hX46 _ _).mpr (fun hF => ?_))) hF
        refine zb_iload_n (j := 1) dX12_name_46 rfl rfl ?_
        refine zb_sipush dX12_name_47 (by decide) (zb_inIc rfl) ?_
        refine zb_icmp_ge (tgt := 71) dX12_name_50 (by decide) (fun c12 => ?_) (fun c12 => ?_)
        · have h := h.1 c12
          refine zb_sub (L' := [(0, (2, x0))]) [0] rfl ?_
          exact hJ71 _ hF h
        · have h := h.2 c12
          refine zb_aload_n (j := 0) dX12_name_53 rfl rfl ?_
          refine zb_gFa 35 dX12_name_54 fl_X12_94 i_0 hW hF rfl rfl rfl (by decide) rfl 160 rfl (fun i13 l14 => ?_)
          refine zb_iload_n (j := 1) dX12_name_57 rfl rfl ?_
          refine zb_aload_n (j := 0) dX12_name_58 rfl rfl ?_
          refine zb_gFa 30 dX12_name_59 fl_X12_82 i_0 hW hF rfl rfl rfl (by decide) rfl 160 rfl (fun i15 l16 => ?_)
          refine zb_iload_n (j := 1) dX12_name_62 rfl rfl ?_
          obtain ⟨o17, h⟩ := h
          refine zb_lI dX12_name_63 i15 l16 o17.1 o17.2 ?_
          refine zb_sI dX12_name_64 i13 l14 o17.1 o17.2 hF (fun m64 e64 hF => ?_)
          have h := h m64 e64
          obtain ⟨o18, h⟩ := h
          refine zb_iinc (j := 1) (L' := [(2, (0, (v2_46 + 1))), (0, (2, x0))]) dX12_name_65 rfl o18 (by decide) rfl ?_
          refine zb_goto (tgt := 46) dX12_name_68 (by decide) ?_
          refine zb_sub (L' := [(0, (2, x0)), (2, (0, (v2_46 + 1)))]) [1, 0] rfl ?_
          exact (hX46 _ _).mp h hF
      · have h := h.1 c4
        refine zb_bipush dX12_name_41 (by decide) (zb_inIc rfl) ?_
        exact zb_rI dX12_name_43 rfl hF h
    · have h := h.1 c2
      refine zb_bipush dX12_name_18 (by decide) (zb_inIc rfl) ?_
      exact zb_rI dX12_name_20 rfl hF h
  · have h := h.1 c1
    refine zb_iconst dX12_name_8 (zb_inIc rfl) ?_
    exact zb_rI dX12_name_9 rfl hF h
theorem dX12_nameAt_0 : decode cX12_nameAt 0 = .ok (.aload_n 0, 1) := by decide +kernel
theorem dX12_nameAt_1 : decode cX12_nameAt 1 = .ok (.getfield 238, 3) := by decide +kernel
theorem dX12_nameAt_4 : decode cX12_nameAt 4 = .ok (.ifCond .eq 15, 3) := by decide +kernel
theorem dX12_nameAt_7 : decode cX12_nameAt 7 = .ok (.aload_n 0, 1) := by decide +kernel
theorem dX12_nameAt_8 : decode cX12_nameAt 8 = .ok (.getfield 94, 3) := by decide +kernel
theorem dX12_nameAt_11 : decode cX12_nameAt 11 = .ok (.iconst 0, 1) := by decide +kernel
theorem dX12_nameAt_12 : decode cX12_nameAt 12 = .ok (.iaload, 1) := by decide +kernel
theorem dX12_nameAt_13 : decode cX12_nameAt 13 = .ok (.invokestatic 219, 3) := by decide +kernel
theorem dX12_nameAt_16 : decode cX12_nameAt 16 = .ok (.goto 4, 3) := by decide +kernel
theorem dX12_nameAt_19 : decode cX12_nameAt 19 = .ok (.iconst 0, 1) := by decide +kernel
theorem dX12_nameAt_20 : decode cX12_nameAt 20 = .ok (.istore_n 2, 1) := by decide +kernel
theorem dX12_nameAt_21 : decode cX12_nameAt 21 = .ok (.aload_n 0, 1) := by decide +kernel
theorem dX12_nameAt_22 : decode cX12_nameAt 22 = .ok (.getfield 238, 3) := by decide +kernel
theorem dX12_nameAt_25 : decode cX12_nameAt 25 = .ok (.ifCond .eq 14, 3) := by decide +kernel
theorem dX12_nameAt_28 : decode cX12_nameAt 28 = .ok (.iload_n 1, 1) := by decide +kernel
theorem dX12_nameAt_29 : decode cX12_nameAt 29 = .ok (.iconst (-1), 1) := by decide +kernel
theorem dX12_nameAt_30 : decode cX12_nameAt 30 = .ok (.iload_n 2, 1) := by decide +kernel
theorem dX12_nameAt_31 : decode cX12_nameAt 31 = .ok (.iconst 1, 1) := by decide +kernel
theorem dX12_nameAt_32 : decode cX12_nameAt 32 = .ok (.isub, 1) := by decide +kernel
theorem dX12_nameAt_33 : decode cX12_nameAt 33 = .ok (.invokestatic 133, 3) := by decide +kernel
theorem dX12_nameAt_36 : decode cX12_nameAt 36 = .ok (.ifCond .ne 7, 3) := by decide +kernel
theorem dX12_nameAt_39 : decode cX12_nameAt 39 = .ok (.iconst (-1), 1) := by decide +kernel
theorem dX12_nameAt_40 : decode cX12_nameAt 40 = .ok (.goto 17, 3) := by decide +kernel
theorem dX12_nameAt_43 : decode cX12_nameAt 43 = .ok (.iload_n 1, 1) := by decide +kernel
theorem dX12_nameAt_44 : decode cX12_nameAt 44 = .ok (.ifCond .ge 7, 3) := by decide +kernel
theorem dX12_nameAt_47 : decode cX12_nameAt 47 = .ok (.iload_n 2, 1) := by decide +kernel
theorem dX12_nameAt_48 : decode cX12_nameAt 48 = .ok (.goto 9, 3) := by decide +kernel
theorem dX12_nameAt_51 : decode cX12_nameAt 51 = .ok (.aload_n 0, 1) := by decide +kernel
theorem dX12_nameAt_52 : decode cX12_nameAt 52 = .ok (.getfield 94, 3) := by decide +kernel
theorem dX12_nameAt_55 : decode cX12_nameAt 55 = .ok (.iload_n 1, 1) := by decide +kernel
theorem dX12_nameAt_56 : decode cX12_nameAt 56 = .ok (.iaload, 1) := by decide +kernel
theorem dX12_nameAt_57 : decode cX12_nameAt 57 = .ok (.ireturn, 1) := by decide +kernel
def PJ_X12_nameAt_20 (d : Nat) (E : zb_E) (x0 : Int) (x1 : Int) (m : zb_M) (Q : Int → Prop) (s0_20 : Int) : Prop :=
  ((m x0 34) = 0 → Q (-1)) ∧ (¬ (m x0 34) = 0 → (zb_inI (s0_20 - 1)) ∧ (zb_Tp K_X12_in d [(0, x1), (0, (-1)), (0, (s0_20 - 1))] E m (fun r33 => (r33 = 0 → Q (-1)) ∧ (¬ r33 = 0 → (0 ≤ x1 → (0 ≤ x1 ∧ x1 < 160) ∧ (Q (m (E.2 x0 35) x1))) ∧ (¬ 0 ≤ x1 → Q s0_20)))))
def PM_X12_nameAt (d : Nat) (E : zb_E) (x0 : Int) (x1 : Int) (m : zb_M) (Q : Int → Prop) : Prop :=
  ((m x0 34) = 0 → PJ_X12_nameAt_20 d E x0 x1 m Q 0) ∧ (¬ (m x0 34) = 0 → zb_Tp K_X12_sizeOf d [(0, (m (E.2 x0 35) 0))] E m (fun r13 => PJ_X12_nameAt_20 d E x0 x1 m Q r13))
set_option maxRecDepth 100000 in
set_option maxHeartbeats 4000000 in
theorem w_X12_nameAt {d : Nat} {E : zb_E} {x0 x1 : Int} {m : zb_M} {Q : Int → Prop} (h : PM_X12_nameAt d E x0 x1 m Q) : zb_Tp K_X12_nameAt (d + 1) [(2, x0), (0, x1)] E m Q := by
  unfold PM_X12_nameAt at h
  refine zb_T_in gd_X12_nameAt rfl rfl (fun hW hA G C hF => ?_)
  have i_0 : zb_is E.1 x0 12 := zb_aH hA (by decide)
  show zb_WP _ _ 0 [(0, (2, x0)), (1, (0, x1))] [] _ _ _ _
  refine zb_aload_n (j := 0) dX12_nameAt_0 rfl rfl ?_
  refine zb_gI 34 dX12_nameAt_1 fl_X12_238 i_0 rfl rfl ?_
  have hJ20 : ∀ (s0_20 : Int), zb_FIN E m → PJ_X12_nameAt_20 d E x0 x1 m Q s0_20 → zb_WP (G, C, d + 1, 0, 0, zb_q E (fun r m' => m' = m ∧ Q r)) F_X12_nameAt 20 [(0, (2, x0)), (1, (0, x1))] [(0, s0_20)] E.1 m 0 0 := by
    intro s0_20 hF h
    unfold PJ_X12_nameAt_20 at h
    refine zb_istore_n (L' := [(2, (0, s0_20)), (0, (2, x0)), (1, (0, x1))]) dX12_nameAt_20 rfl (by decide) rfl ?_
    refine zb_aload_n (j := 1) dX12_nameAt_21 rfl rfl ?_
    refine zb_gI 34 dX12_nameAt_22 fl_X12_238 i_0 rfl rfl ?_
    refine zb_if_eq (tgt := 39) dX12_nameAt_25 (by decide) (fun c1 => ?_) (fun c1 => ?_)
    · have h := h.1 c1
      refine zb_iconst dX12_nameAt_39 (zb_inIc rfl) ?_
      refine zb_goto (tgt := 57) dX12_nameAt_40 (by decide) ?_
      exact zb_rI dX12_nameAt_57 rfl hF ⟨rfl, h⟩
    · have h := h.2 c1
      refine zb_iload_n (j := 2) dX12_nameAt_28 rfl rfl ?_
      refine zb_iconst dX12_nameAt_29 (zb_inIc rfl) ?_
      refine zb_iload_n (j := 0) dX12_nameAt_30 rfl rfl ?_
      refine zb_iconst dX12_nameAt_31 (zb_inIc rfl) ?_
      obtain ⟨o2, h⟩ := h
      refine zb_isub dX12_nameAt_32 o2 ?_
      refine zb_cSp (As := [(0, x1), (0, (-1)), (0, (s0_20 - 1))]) (As' := [(0, (s0_20 - 1)), (0, (-1)), (0, x1)]) (st := []) dX12_nameAt_33 lk_X12_133 gd_X12_in rfl rfl h hW hF (zb_aI (zb_aI (zb_aI zb_a0))) (Nat.le_refl _) (Nat.le_of_ble_eq_true rfl) (fun r33 h => ?_)
      show zb_WP _ _ _ _ [(0, r33)] _ _ _ _
      refine zb_if_ne (tgt := 43) dX12_nameAt_36 (by decide) (fun c3 => ?_) (fun c3 => ?_)
      · have h := h.2 c3
        refine zb_iload_n (j := 2) dX12_nameAt_43 rfl rfl ?_
        refine zb_if_ge (tgt := 51) dX12_nameAt_44 (by decide) (fun c4 => ?_) (fun c4 => ?_)
        · have h := h.1 c4
          refine zb_aload_n (j := 1) dX12_nameAt_51 rfl rfl ?_
          refine zb_gFa 35 dX12_nameAt_52 fl_X12_94 i_0 hW hF rfl rfl rfl (by decide) rfl 160 rfl (fun i5 l6 => ?_)
          refine zb_iload_n (j := 2) dX12_nameAt_55 rfl rfl ?_
          obtain ⟨o7, h⟩ := h
          refine zb_lI dX12_nameAt_56 i5 l6 o7.1 o7.2 ?_
          exact zb_rI dX12_nameAt_57 rfl hF ⟨rfl, h⟩
        · have h := h.2 c4
          refine zb_iload_n (j := 0) dX12_nameAt_47 rfl rfl ?_
          refine zb_goto (tgt := 57) dX12_nameAt_48 (by decide) ?_
          exact zb_rI dX12_nameAt_57 rfl hF ⟨rfl, h⟩
      · have h := h.1 c3
        refine zb_iconst dX12_nameAt_39 (zb_inIc rfl) ?_
        refine zb_goto (tgt := 57) dX12_nameAt_40 (by decide) ?_
        exact zb_rI dX12_nameAt_57 rfl hF ⟨rfl, h⟩
  refine zb_if_eq (tgt := 19) dX12_nameAt_4 (by decide) (fun c8 => ?_) (fun c8 => ?_)
  · have h := h.1 c8
    refine zb_iconst dX12_nameAt_19 (zb_inIc rfl) ?_
    exact hJ20 _ hF h
  · have h := h.2 c8
    refine zb_aload_n (j := 0) dX12_nameAt_7 rfl rfl ?_
    refine zb_gFa 35 dX12_nameAt_8 fl_X12_94 i_0 hW hF rfl rfl rfl (by decide) rfl 160 rfl (fun i9 l10 => ?_)
    refine zb_iconst dX12_nameAt_11 (zb_inIc rfl) ?_
    refine zb_lI dX12_nameAt_12 i9 l10 (by decide) (by decide) ?_
    refine zb_cSp (As := [(0, (m (E.2 x0 35) 0))]) (As' := [(0, (m (E.2 x0 35) 0))]) (st := []) dX12_nameAt_13 lk_X12_219 gd_X12_sizeOf rfl rfl h hW hF (zb_aI zb_a0) (Nat.le_refl _) (Nat.le_of_ble_eq_true rfl) (fun r13 h => ?_)
    show zb_WP _ _ _ _ [(0, r13)] _ _ _ _
    refine zb_goto (tgt := 20) dX12_nameAt_16 (by decide) ?_
    exact hJ20 _ hF h
theorem dX12_order_0 : decode cX12_order 0 = .ok (.aload_n 0, 1) := by decide +kernel
theorem dX12_order_1 : decode cX12_order 1 = .ok (.getfield 238, 3) := by decide +kernel
theorem dX12_order_4 : decode cX12_order 4 = .ok (.ifCond .eq 28, 3) := by decide +kernel
theorem dX12_order_7 : decode cX12_order 7 = .ok (.iload_n 1, 1) := by decide +kernel
theorem dX12_order_8 : decode cX12_order 8 = .ok (.iconst 0, 1) := by decide +kernel
theorem dX12_order_9 : decode cX12_order 9 = .ok (.aload_n 0, 1) := by decide +kernel
theorem dX12_order_10 : decode cX12_order 10 = .ok (.getfield 94, 3) := by decide +kernel
theorem dX12_order_13 : decode cX12_order 13 = .ok (.iconst 0, 1) := by decide +kernel
theorem dX12_order_14 : decode cX12_order 14 = .ok (.iaload, 1) := by decide +kernel
theorem dX12_order_15 : decode cX12_order 15 = .ok (.iconst 1, 1) := by decide +kernel
theorem dX12_order_16 : decode cX12_order 16 = .ok (.isub, 1) := by decide +kernel
theorem dX12_order_17 : decode cX12_order 17 = .ok (.invokestatic 133, 3) := by decide +kernel
theorem dX12_order_20 : decode cX12_order 20 = .ok (.ifCond .eq 12, 3) := by decide +kernel
theorem dX12_order_23 : decode cX12_order 23 = .ok (.aload_n 0, 1) := by decide +kernel
theorem dX12_order_24 : decode cX12_order 24 = .ok (.getfield 97, 3) := by decide +kernel
theorem dX12_order_27 : decode cX12_order 27 = .ok (.iload_n 1, 1) := by decide +kernel
theorem dX12_order_28 : decode cX12_order 28 = .ok (.iaload, 1) := by decide +kernel
theorem dX12_order_29 : decode cX12_order 29 = .ok (.goto 4, 3) := by decide +kernel
theorem dX12_order_32 : decode cX12_order 32 = .ok (.iconst (-1), 1) := by decide +kernel
theorem dX12_order_33 : decode cX12_order 33 = .ok (.ireturn, 1) := by decide +kernel
def PM_X12_order (d : Nat) (E : zb_E) (x0 : Int) (x1 : Int) (m : zb_M) (Q : Int → Prop) : Prop :=
  ((m x0 34) = 0 → Q (-1)) ∧ (¬ (m x0 34) = 0 → (zb_inI ((m (E.2 x0 35) 0) - 1)) ∧ (zb_Tp K_X12_in d [(0, x1), (0, 0), (0, ((m (E.2 x0 35) 0) - 1))] E m (fun r17 => (r17 = 0 → Q (-1)) ∧ (¬ r17 = 0 → (0 ≤ x1 ∧ x1 < 12) ∧ (Q (m (E.2 x0 36) x1))))))
set_option maxRecDepth 100000 in
set_option maxHeartbeats 4000000 in
theorem w_X12_order {d : Nat} {E : zb_E} {x0 x1 : Int} {m : zb_M} {Q : Int → Prop} (h : PM_X12_order d E x0 x1 m Q) : zb_Tp K_X12_order (d + 1) [(2, x0), (0, x1)] E m Q := by
  unfold PM_X12_order at h
  refine zb_T_in gd_X12_order rfl rfl (fun hW hA G C hF => ?_)
  have i_0 : zb_is E.1 x0 12 := zb_aH hA (by decide)
  show zb_WP _ _ 0 [(0, (2, x0)), (1, (0, x1))] [] _ _ _ _
  refine zb_aload_n (j := 0) dX12_order_0 rfl rfl ?_
  refine zb_gI 34 dX12_order_1 fl_X12_238 i_0 rfl rfl ?_
  refine zb_if_eq (tgt := 32) dX12_order_4 (by decide) (fun c1 => ?_) (fun c1 => ?_)
  · have h := h.1 c1
    refine zb_iconst dX12_order_32 (zb_inIc rfl) ?_
    exact zb_rI dX12_order_33 rfl hF ⟨rfl, h⟩
  · have h := h.2 c1
    refine zb_iload_n (j := 1) dX12_order_7 rfl rfl ?_
    refine zb_iconst dX12_order_8 (zb_inIc rfl) ?_
    refine zb_aload_n (j := 0) dX12_order_9 rfl rfl ?_
    refine zb_gFa 35 dX12_order_10 fl_X12_94 i_0 hW hF rfl rfl rfl (by decide) rfl 160 rfl (fun i2 l3 => ?_)
    refine zb_iconst dX12_order_13 (zb_inIc rfl) ?_
    refine zb_lI dX12_order_14 i2 l3 (by decide) (by decide) ?_
    refine zb_iconst dX12_order_15 (zb_inIc rfl) ?_
    obtain ⟨o4, h⟩ := h
    refine zb_isub dX12_order_16 o4 ?_
    refine zb_cSp (As := [(0, x1), (0, 0), (0, ((m (E.2 x0 35) 0) - 1))]) (As' := [(0, ((m (E.2 x0 35) 0) - 1)), (0, 0), (0, x1)]) (st := []) dX12_order_17 lk_X12_133 gd_X12_in rfl rfl h hW hF (zb_aI (zb_aI (zb_aI zb_a0))) (Nat.le_refl _) (Nat.le_of_ble_eq_true rfl) (fun r17 h => ?_)
    show zb_WP _ _ _ _ [(0, r17)] _ _ _ _
    refine zb_if_eq (tgt := 32) dX12_order_20 (by decide) (fun c5 => ?_) (fun c5 => ?_)
    · have h := h.1 c5
      refine zb_iconst dX12_order_32 (zb_inIc rfl) ?_
      exact zb_rI dX12_order_33 rfl hF ⟨rfl, h⟩
    · have h := h.2 c5
      refine zb_aload_n (j := 0) dX12_order_23 rfl rfl ?_
      refine zb_gFa 36 dX12_order_24 fl_X12_97 i_0 hW hF rfl rfl rfl (by decide) rfl 12 rfl (fun i6 l7 => ?_)
      refine zb_iload_n (j := 1) dX12_order_27 rfl rfl ?_
      obtain ⟨o8, h⟩ := h
      refine zb_lI dX12_order_28 i6 l7 o8.1 o8.2 ?_
      refine zb_goto (tgt := 33) dX12_order_29 (by decide) ?_
      exact zb_rI dX12_order_33 rfl hF ⟨rfl, h⟩
theorem dX12_nodes_0 : decode cX12_nodes 0 = .ok (.aload_n 0, 1) := by decide +kernel
theorem dX12_nodes_1 : decode cX12_nodes 1 = .ok (.getfield 238, 3) := by decide +kernel
theorem dX12_nodes_4 : decode cX12_nodes 4 = .ok (.ifCond .eq 10, 3) := by decide +kernel
theorem dX12_nodes_7 : decode cX12_nodes 7 = .ok (.aload_n 0, 1) := by decide +kernel
theorem dX12_nodes_8 : decode cX12_nodes 8 = .ok (.getfield 241, 3) := by decide +kernel
theorem dX12_nodes_11 : decode cX12_nodes 11 = .ok (.goto 4, 3) := by decide +kernel
theorem dX12_nodes_14 : decode cX12_nodes 14 = .ok (.iconst (-1), 1) := by decide +kernel
theorem dX12_nodes_15 : decode cX12_nodes 15 = .ok (.ireturn, 1) := by decide +kernel
def PM_X12_nodes (d : Nat) (E : zb_E) (x0 : Int) (m : zb_M) (Q : Int → Prop) : Prop :=
  ((m x0 34) = 0 → Q (-1)) ∧ (¬ (m x0 34) = 0 → Q (m x0 37))
set_option maxRecDepth 100000 in
set_option maxHeartbeats 4000000 in
theorem w_X12_nodes {d : Nat} {E : zb_E} {x0 : Int} {m : zb_M} {Q : Int → Prop} (h : PM_X12_nodes d E x0 m Q) : zb_Tp K_X12_nodes (d + 1) [(2, x0)] E m Q := by
  unfold PM_X12_nodes at h
  refine zb_T_in gd_X12_nodes rfl rfl (fun hW hA G C hF => ?_)
  have i_0 : zb_is E.1 x0 12 := zb_aH hA (by decide)
  show zb_WP _ _ 0 [(0, (2, x0))] [] _ _ _ _
  refine zb_aload_n (j := 0) dX12_nodes_0 rfl rfl ?_
  refine zb_gI 34 dX12_nodes_1 fl_X12_238 i_0 rfl rfl ?_
  refine zb_if_eq (tgt := 14) dX12_nodes_4 (by decide) (fun c1 => ?_) (fun c1 => ?_)
  · have h := h.1 c1
    refine zb_iconst dX12_nodes_14 (zb_inIc rfl) ?_
    exact zb_rI dX12_nodes_15 rfl hF ⟨rfl, h⟩
  · have h := h.2 c1
    refine zb_aload_n (j := 0) dX12_nodes_7 rfl rfl ?_
    refine zb_gI 37 dX12_nodes_8 fl_X12_241 i_0 rfl rfl ?_
    refine zb_goto (tgt := 15) dX12_nodes_11 (by decide) ?_
    exact zb_rI dX12_nodes_15 rfl hF ⟨rfl, h⟩
theorem dX12_clearTurning_0 : decode cX12_clearTurning 0 = .ok (.aload_n 0, 1) := by decide +kernel
theorem dX12_clearTurning_1 : decode cX12_clearTurning 1 = .ok (.iconst 1, 1) := by decide +kernel
theorem dX12_clearTurning_2 : decode cX12_clearTurning 2 = .ok (.putfield 244, 3) := by decide +kernel
theorem dX12_clearTurning_5 : decode cX12_clearTurning 5 = .ok (.iconst 0, 1) := by decide +kernel
theorem dX12_clearTurning_6 : decode cX12_clearTurning 6 = .ok (.istore_n 1, 1) := by decide +kernel
theorem dX12_clearTurning_7 : decode cX12_clearTurning 7 = .ok (.iload_n 1, 1) := by decide +kernel
theorem dX12_clearTurning_8 : decode cX12_clearTurning 8 = .ok (.bipush 12, 2) := by decide +kernel
theorem dX12_clearTurning_10 : decode cX12_clearTurning 10 = .ok (.if_icmp .ge 16, 3) := by decide +kernel
theorem dX12_clearTurning_13 : decode cX12_clearTurning 13 = .ok (.aload_n 0, 1) := by decide +kernel
theorem dX12_clearTurning_14 : decode cX12_clearTurning 14 = .ok (.getfield 106, 3) := by decide +kernel
theorem dX12_clearTurning_17 : decode cX12_clearTurning 17 = .ok (.iload_n 1, 1) := by decide +kernel
theorem dX12_clearTurning_18 : decode cX12_clearTurning 18 = .ok (.iconst (-1), 1) := by decide +kernel
theorem dX12_clearTurning_19 : decode cX12_clearTurning 19 = .ok (.iastore, 1) := by decide +kernel
theorem dX12_clearTurning_20 : decode cX12_clearTurning 20 = .ok (.iinc 1 1, 3) := by decide +kernel
theorem dX12_clearTurning_23 : decode cX12_clearTurning 23 = .ok (.goto (-16), 3) := by decide +kernel
theorem dX12_clearTurning_26 : decode cX12_clearTurning 26 = .ok (.return_, 1) := by decide +kernel
def PL_X12_clearTurning_7 (d : Nat) (E : zb_E) (x0 : Int) (Q : Int → zb_M → Prop)  (v1_7 : Int) (m7l : zb_M) : Prop :=
  ∀ X7 : Int → zb_M → Prop, (∀ (v1_7 : Int) (m7l : zb_M), ((12 ≤ v1_7 → Q 0 m7l) ∧ (¬ 12 ≤ v1_7 → (0 ≤ v1_7 ∧ v1_7 < 12) ∧ (∀ m19, m19 = zb_up m7l (E.2 x0 41) v1_7 (-1) → ((zb_inI (v1_7 + 1)) ∧ (X7 (v1_7 + 1) m19))))) → X7 v1_7 m7l) → X7 v1_7 m7l
def PM_X12_clearTurning (d : Nat) (E : zb_E) (x0 : Int) (m : zb_M) (Q : Int → zb_M → Prop) : Prop :=
  ∀ m2, m2 = zb_up m x0 40 1 → (PL_X12_clearTurning_7 d E x0 Q 0 m2)
set_option maxRecDepth 100000 in
set_option maxHeartbeats 4000000 in
theorem w_X12_clearTurning {d : Nat} {E : zb_E} {x0 : Int} {m : zb_M} {Q : Int → zb_M → Prop} (h : PM_X12_clearTurning d E x0 m Q) : zb_T K_X12_clearTurning (d + 1) [(2, x0)] E m Q := by
  unfold PM_X12_clearTurning at h
  refine zb_T_in gd_X12_clearTurning rfl rfl (fun hW hA G C hF => ?_)
  have i_0 : zb_is E.1 x0 12 := zb_aH hA (by decide)
  show zb_WP _ _ 0 [(0, (2, x0))] [] _ _ _ _
  refine zb_aload_n (j := 0) dX12_clearTurning_0 rfl rfl ?_
  refine zb_iconst dX12_clearTurning_1 (zb_inIc rfl) ?_
  refine zb_pF 40 dX12_clearTurning_2 fl_X12_244 rfl rfl i_0 (Or.inr (Or.inl ⟨rfl, (by decide)⟩)) hF rfl rfl (fun m2 e2 hF => ?_)
  have h := h m2 e2
  refine zb_iconst dX12_clearTurning_5 (zb_inIc rfl) ?_
  refine zb_istore_n (L' := [(1, (0, 0)), (0, (2, x0))]) dX12_clearTurning_6 rfl (by decide) rfl ?_
  refine zb_sub (L' := [(0, (2, x0)), (1, (0, 0))]) [1, 0] rfl ?_
  unfold PL_X12_clearTurning_7 at h
  obtain ⟨X7, hX7⟩ : ∃ X : Int → zb_M → Prop, ∀ (v1_7 : Int) (m7l : zb_M), (X v1_7 m7l ↔ (zb_FIN E m7l → zb_WP (G, C, d + 1, 0, 0, zb_q E Q) F_X12_clearTurning 7 [(0, (2, x0)), (1, (0, v1_7))] [] E.1 m7l 0 0)) := ⟨fun v1_7 m7l => zb_FIN E m7l → zb_WP (G, C, d + 1, 0, 0, zb_q E Q) F_X12_clearTurning 7 [(0, (2, x0)), (1, (0, v1_7))] [] E.1 m7l 0 0, fun _ _ => Iff.rfl⟩
  refine (hX7 _ _).mp (h X7 (fun v1_7 m7l h => (hX7 _ _).mpr (fun hF => ?_))) hF
  refine zb_iload_n (j := 1) dX12_clearTurning_7 rfl rfl ?_
  refine zb_bipush dX12_clearTurning_8 (by decide) (zb_inIc rfl) ?_
  refine zb_icmp_ge (tgt := 26) dX12_clearTurning_10 (by decide) (fun c1 => ?_) (fun c1 => ?_)
  · have h := h.1 c1
    exact zb_rV dX12_clearTurning_26 rfl hF h
  · have h := h.2 c1
    refine zb_aload_n (j := 0) dX12_clearTurning_13 rfl rfl ?_
    refine zb_gFa 41 dX12_clearTurning_14 fl_X12_106 i_0 hW hF rfl rfl rfl (by decide) rfl 12 rfl (fun i2 l3 => ?_)
    refine zb_iload_n (j := 1) dX12_clearTurning_17 rfl rfl ?_
    refine zb_iconst dX12_clearTurning_18 (zb_inIc rfl) ?_
    obtain ⟨o4, h⟩ := h
    refine zb_sI dX12_clearTurning_19 i2 l3 o4.1 o4.2 hF (fun m19 e19 hF => ?_)
    have h := h m19 e19
    obtain ⟨o5, h⟩ := h
    refine zb_iinc (j := 1) (L' := [(1, (0, (v1_7 + 1))), (0, (2, x0))]) dX12_clearTurning_20 rfl o5 (by decide) rfl ?_
    refine zb_goto (tgt := 7) dX12_clearTurning_23 (by decide) ?_
    refine zb_sub (L' := [(0, (2, x0)), (1, (0, (v1_7 + 1)))]) [1, 0] rfl ?_
    exact (hX7 _ _).mp h hF
theorem dX12_differsAt_0 : decode cX12_differsAt 0 = .ok (.iconst 0, 1) := by decide +kernel
theorem dX12_differsAt_1 : decode cX12_differsAt 1 = .ok (.istore_n 2, 1) := by decide +kernel
theorem dX12_differsAt_2 : decode cX12_differsAt 2 = .ok (.iload_n 2, 1) := by decide +kernel
theorem dX12_differsAt_3 : decode cX12_differsAt 3 = .ok (.iload_n 1, 1) := by decide +kernel
theorem dX12_differsAt_4 : decode cX12_differsAt 4 = .ok (.if_icmp .ge 26, 3) := by decide +kernel
theorem dX12_differsAt_7 : decode cX12_differsAt 7 = .ok (.aload_n 0, 1) := by decide +kernel
theorem dX12_differsAt_8 : decode cX12_differsAt 8 = .ok (.getfield 100, 3) := by decide +kernel
theorem dX12_differsAt_11 : decode cX12_differsAt 11 = .ok (.iload_n 2, 1) := by decide +kernel
theorem dX12_differsAt_12 : decode cX12_differsAt 12 = .ok (.iaload, 1) := by decide +kernel
theorem dX12_differsAt_13 : decode cX12_differsAt 13 = .ok (.aload_n 0, 1) := by decide +kernel
theorem dX12_differsAt_14 : decode cX12_differsAt 14 = .ok (.getfield 82, 3) := by decide +kernel
theorem dX12_differsAt_17 : decode cX12_differsAt 17 = .ok (.iload_n 2, 1) := by decide +kernel
theorem dX12_differsAt_18 : decode cX12_differsAt 18 = .ok (.iaload, 1) := by decide +kernel
theorem dX12_differsAt_19 : decode cX12_differsAt 19 = .ok (.if_icmp .eq 5, 3) := by decide +kernel
theorem dX12_differsAt_22 : decode cX12_differsAt 22 = .ok (.iload_n 2, 1) := by decide +kernel
theorem dX12_differsAt_23 : decode cX12_differsAt 23 = .ok (.ireturn, 1) := by decide +kernel
theorem dX12_differsAt_24 : decode cX12_differsAt 24 = .ok (.iinc 2 1, 3) := by decide +kernel
theorem dX12_differsAt_27 : decode cX12_differsAt 27 = .ok (.goto (-25), 3) := by decide +kernel
theorem dX12_differsAt_30 : decode cX12_differsAt 30 = .ok (.iconst (-1), 1) := by decide +kernel
theorem dX12_differsAt_31 : decode cX12_differsAt 31 = .ok (.ireturn, 1) := by decide +kernel
def PL_X12_differsAt_2 (d : Nat) (E : zb_E) (x0 : Int) (x1 : Int) (m : zb_M) (Q : Int → Prop)  (v2_2 : Int) : Prop :=
  ∀ X2 : Int → Prop, (∀ (v2_2 : Int), ((x1 ≤ v2_2 → Q (-1)) ∧ (¬ x1 ≤ v2_2 → (0 ≤ v2_2 ∧ v2_2 < 160) ∧ (((m (E.2 x0 38) v2_2) = (m (E.2 x0 30) v2_2) → (zb_inI (v2_2 + 1)) ∧ (X2 (v2_2 + 1))) ∧ (¬ (m (E.2 x0 38) v2_2) = (m (E.2 x0 30) v2_2) → Q v2_2)))) → X2 v2_2) → X2 v2_2
def PM_X12_differsAt (d : Nat) (E : zb_E) (x0 : Int) (x1 : Int) (m : zb_M) (Q : Int → Prop) : Prop :=
  PL_X12_differsAt_2 d E x0 x1 m Q 0
set_option maxRecDepth 100000 in
set_option maxHeartbeats 4000000 in
theorem w_X12_differsAt {d : Nat} {E : zb_E} {x0 x1 : Int} {m : zb_M} {Q : Int → Prop} (h : PM_X12_differsAt d E x0 x1 m Q) : zb_Tp K_X12_differsAt (d + 1) [(2, x0), (0, x1)] E m Q := by
  unfold PM_X12_differsAt at h
  refine zb_T_in gd_X12_differsAt rfl rfl (fun hW hA G C hF => ?_)
  have i_0 : zb_is E.1 x0 12 := zb_aH hA (by decide)
  show zb_WP _ _ 0 [(0, (2, x0)), (1, (0, x1))] [] _ _ _ _
  refine zb_iconst dX12_differsAt_0 (zb_inIc rfl) ?_
  refine zb_istore_n (L' := [(2, (0, 0)), (0, (2, x0)), (1, (0, x1))]) dX12_differsAt_1 rfl (by decide) rfl ?_
  refine zb_sub (L' := [(0, (2, x0)), (1, (0, x1)), (2, (0, 0))]) [1, 2, 0] rfl ?_
  unfold PL_X12_differsAt_2 at h
  obtain ⟨X2, hX2⟩ : ∃ X : Int → Prop, ∀ (v2_2 : Int), (X v2_2 ↔ (zb_FIN E m → zb_WP (G, C, d + 1, 0, 0, zb_q E (fun r m' => m' = m ∧ Q r)) F_X12_differsAt 2 [(0, (2, x0)), (1, (0, x1)), (2, (0, v2_2))] [] E.1 m 0 0)) := ⟨fun v2_2 => zb_FIN E m → zb_WP (G, C, d + 1, 0, 0, zb_q E (fun r m' => m' = m ∧ Q r)) F_X12_differsAt 2 [(0, (2, x0)), (1, (0, x1)), (2, (0, v2_2))] [] E.1 m 0 0, fun _ => Iff.rfl⟩
  refine (hX2 _).mp (h X2 (fun v2_2 h => (hX2 _).mpr (fun hF => ?_))) hF
  refine zb_iload_n (j := 2) dX12_differsAt_2 rfl rfl ?_
  refine zb_iload_n (j := 1) dX12_differsAt_3 rfl rfl ?_
  refine zb_icmp_ge (tgt := 30) dX12_differsAt_4 (by decide) (fun c1 => ?_) (fun c1 => ?_)
  · have h := h.1 c1
    refine zb_iconst dX12_differsAt_30 (zb_inIc rfl) ?_
    exact zb_rI dX12_differsAt_31 rfl hF ⟨rfl, h⟩
  · have h := h.2 c1
    refine zb_aload_n (j := 0) dX12_differsAt_7 rfl rfl ?_
    refine zb_gFa 38 dX12_differsAt_8 fl_X12_100 i_0 hW hF rfl rfl rfl (by decide) rfl 160 rfl (fun i2 l3 => ?_)
    refine zb_iload_n (j := 2) dX12_differsAt_11 rfl rfl ?_
    obtain ⟨o4, h⟩ := h
    refine zb_lI dX12_differsAt_12 i2 l3 o4.1 o4.2 ?_
    refine zb_aload_n (j := 0) dX12_differsAt_13 rfl rfl ?_
    refine zb_gFa 30 dX12_differsAt_14 fl_X12_82 i_0 hW hF rfl rfl rfl (by decide) rfl 160 rfl (fun i5 l6 => ?_)
    refine zb_iload_n (j := 2) dX12_differsAt_17 rfl rfl ?_
    refine zb_lI dX12_differsAt_18 i5 l6 o4.1 o4.2 ?_
    refine zb_icmp_eq (tgt := 24) dX12_differsAt_19 (by decide) (fun c7 => ?_) (fun c7 => ?_)
    · have h := h.1 c7
      obtain ⟨o8, h⟩ := h
      refine zb_iinc (j := 2) (L' := [(2, (0, (v2_2 + 1))), (0, (2, x0)), (1, (0, x1))]) dX12_differsAt_24 rfl o8 (by decide) rfl ?_
      refine zb_goto (tgt := 2) dX12_differsAt_27 (by decide) ?_
      refine zb_sub (L' := [(0, (2, x0)), (1, (0, x1)), (2, (0, (v2_2 + 1)))]) [1, 2, 0] rfl ?_
      exact (hX2 _).mp h hF
    · have h := h.2 c7
      refine zb_iload_n (j := 2) dX12_differsAt_22 rfl rfl ?_
      exact zb_rI dX12_differsAt_23 rfl hF ⟨rfl, h⟩
