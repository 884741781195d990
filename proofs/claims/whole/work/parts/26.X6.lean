/-! ===== SameBench$Shown: instructions and walks (laid by gen/layout.py) ===== -/
theorem dX6_take_0 : decode cX6_take 0 = .ok (.aload_n 0, 1) := by decide +kernel
theorem dX6_take_1 : decode cX6_take 1 = .ok (.iconst 0, 1) := by decide +kernel
theorem dX6_take_2 : decode cX6_take 2 = .ok (.putfield 28, 3) := by decide +kernel
theorem dX6_take_5 : decode cX6_take 5 = .ok (.iconst 0, 1) := by decide +kernel
theorem dX6_take_6 : decode cX6_take 6 = .ok (.istore_n 2, 1) := by decide +kernel
theorem dX6_take_7 : decode cX6_take 7 = .ok (.iload_n 2, 1) := by decide +kernel
theorem dX6_take_8 : decode cX6_take 8 = .ok (.bipush 12, 2) := by decide +kernel
theorem dX6_take_10 : decode cX6_take 10 = .ok (.if_icmp .ge 16, 3) := by decide +kernel
theorem dX6_take_13 : decode cX6_take 13 = .ok (.aload_n 0, 1) := by decide +kernel
theorem dX6_take_14 : decode cX6_take 14 = .ok (.getfield 15, 3) := by decide +kernel
theorem dX6_take_17 : decode cX6_take 17 = .ok (.iload_n 2, 1) := by decide +kernel
theorem dX6_take_18 : decode cX6_take 18 = .ok (.iconst (-1), 1) := by decide +kernel
theorem dX6_take_19 : decode cX6_take 19 = .ok (.iastore, 1) := by decide +kernel
theorem dX6_take_20 : decode cX6_take 20 = .ok (.iinc 2 1, 3) := by decide +kernel
theorem dX6_take_23 : decode cX6_take 23 = .ok (.goto (-16), 3) := by decide +kernel
theorem dX6_take_26 : decode cX6_take 26 = .ok (.iconst 0, 1) := by decide +kernel
theorem dX6_take_27 : decode cX6_take 27 = .ok (.istore_n 2, 1) := by decide +kernel
theorem dX6_take_28 : decode cX6_take 28 = .ok (.iload_n 2, 1) := by decide +kernel
theorem dX6_take_29 : decode cX6_take 29 = .ok (.aload_n 1, 1) := by decide +kernel
theorem dX6_take_30 : decode cX6_take 30 = .ok (.getfield 32, 3) := by decide +kernel
theorem dX6_take_33 : decode cX6_take 33 = .ok (.if_icmp .ge 29, 3) := by decide +kernel
theorem dX6_take_36 : decode cX6_take 36 = .ok (.aload_n 1, 1) := by decide +kernel
theorem dX6_take_37 : decode cX6_take 37 = .ok (.getfield 35, 3) := by decide +kernel
theorem dX6_take_40 : decode cX6_take 40 = .ok (.iload_n 2, 1) := by decide +kernel
theorem dX6_take_41 : decode cX6_take 41 = .ok (.iaload, 1) := by decide +kernel
theorem dX6_take_42 : decode cX6_take 42 = .ok (.iconst 4, 1) := by decide +kernel
theorem dX6_take_43 : decode cX6_take 43 = .ok (.if_icmp .eq 13, 3) := by decide +kernel
theorem dX6_take_46 : decode cX6_take 46 = .ok (.aload_n 0, 1) := by decide +kernel
theorem dX6_take_47 : decode cX6_take 47 = .ok (.iload_n 2, 1) := by decide +kernel
theorem dX6_take_48 : decode cX6_take 48 = .ok (.aload_n 1, 1) := by decide +kernel
theorem dX6_take_49 : decode cX6_take 49 = .ok (.iload_n 2, 1) := by decide +kernel
theorem dX6_take_50 : decode cX6_take 50 = .ok (.invokevirtual 38, 3) := by decide +kernel
theorem dX6_take_53 : decode cX6_take 53 = .ok (.invokevirtual 42, 3) := by decide +kernel
theorem dX6_take_56 : decode cX6_take 56 = .ok (.iinc 2 1, 3) := by decide +kernel
theorem dX6_take_59 : decode cX6_take 59 = .ok (.goto (-31), 3) := by decide +kernel
theorem dX6_take_62 : decode cX6_take 62 = .ok (.iconst 0, 1) := by decide +kernel
theorem dX6_take_63 : decode cX6_take 63 = .ok (.istore_n 2, 1) := by decide +kernel
theorem dX6_take_64 : decode cX6_take 64 = .ok (.iload_n 2, 1) := by decide +kernel
theorem dX6_take_65 : decode cX6_take 65 = .ok (.aload_n 0, 1) := by decide +kernel
theorem dX6_take_66 : decode cX6_take 66 = .ok (.getfield 28, 3) := by decide +kernel
theorem dX6_take_69 : decode cX6_take 69 = .ok (.if_icmp .ge 47, 3) := by decide +kernel
theorem dX6_take_72 : decode cX6_take 72 = .ok (.iconst 0, 1) := by decide +kernel
theorem dX6_take_73 : decode cX6_take 73 = .ok (.istore_n 3, 1) := by decide +kernel
theorem dX6_take_74 : decode cX6_take 74 = .ok (.iload_n 3, 1) := by decide +kernel
theorem dX6_take_75 : decode cX6_take 75 = .ok (.aload_n 0, 1) := by decide +kernel
theorem dX6_take_76 : decode cX6_take 76 = .ok (.getfield 28, 3) := by decide +kernel
theorem dX6_take_79 : decode cX6_take 79 = .ok (.if_icmp .ge 31, 3) := by decide +kernel
theorem dX6_take_82 : decode cX6_take 82 = .ok (.aload_n 0, 1) := by decide +kernel
theorem dX6_take_83 : decode cX6_take 83 = .ok (.iload_n 2, 1) := by decide +kernel
theorem dX6_take_84 : decode cX6_take 84 = .ok (.iload_n 3, 1) := by decide +kernel
theorem dX6_take_85 : decode cX6_take 85 = .ok (.aload_n 1, 1) := by decide +kernel
theorem dX6_take_86 : decode cX6_take 86 = .ok (.aload_n 0, 1) := by decide +kernel
theorem dX6_take_87 : decode cX6_take 87 = .ok (.getfield 9, 3) := by decide +kernel
theorem dX6_take_90 : decode cX6_take 90 = .ok (.iload_n 2, 1) := by decide +kernel
theorem dX6_take_91 : decode cX6_take 91 = .ok (.iaload, 1) := by decide +kernel
theorem dX6_take_92 : decode cX6_take 92 = .ok (.aload_n 0, 1) := by decide +kernel
theorem dX6_take_93 : decode cX6_take 93 = .ok (.getfield 9, 3) := by decide +kernel
theorem dX6_take_96 : decode cX6_take 96 = .ok (.iload_n 3, 1) := by decide +kernel
theorem dX6_take_97 : decode cX6_take 97 = .ok (.iaload, 1) := by decide +kernel
theorem dX6_take_98 : decode cX6_take 98 = .ok (.invokevirtual 46, 3) := by decide +kernel
theorem dX6_take_101 : decode cX6_take 101 = .ok (.invokevirtual 50, 3) := by decide +kernel
theorem dX6_take_104 : decode cX6_take 104 = .ok (.iinc 3 1, 3) := by decide +kernel
theorem dX6_take_107 : decode cX6_take 107 = .ok (.goto (-33), 3) := by decide +kernel
theorem dX6_take_110 : decode cX6_take 110 = .ok (.iinc 2 1, 3) := by decide +kernel
theorem dX6_take_113 : decode cX6_take 113 = .ok (.goto (-49), 3) := by decide +kernel
theorem dX6_take_116 : decode cX6_take 116 = .ok (.return_, 1) := by decide +kernel
def PJ_X6_take_110 (d : Nat) (E : zb_E) (v2_64 : Int) (X64 : Int → zb_M → Prop) (Q : Int → zb_M → Prop) (m110j : zb_M) : Prop :=
  (zb_inI (v2_64 + 1)) ∧ (X64 (v2_64 + 1) m110j)
def PL_X6_take_74 (d : Nat) (E : zb_E) (x0 : Int) (x1 : Int) (v2_64 : Int) (Q : Int → zb_M → Prop) (K110_74 : zb_M → Prop) (v3_74 : Int) (m74l : zb_M) : Prop :=
  ∀ X74 : Int → zb_M → Prop, (∀ (v3_74 : Int) (m74l : zb_M), (((m74l x0 0) ≤ v3_74 → K110_74 m74l) ∧ (¬ (m74l x0 0) ≤ v3_74 → (0 ≤ v2_64 ∧ v2_64 < 12) ∧ ((0 ≤ v3_74 ∧ v3_74 < 12) ∧ (zb_Tp K_X4_lineFrom d [(2, x1), (0, (m74l (E.2 x0 1) v2_64)), (0, (m74l (E.2 x0 1) v3_74))] E m74l (fun r98 => zb_T K_X6_setLine d [(2, x0), (0, v2_64), (0, v3_74), (0, r98)] E m74l (fun r101 m101 => (zb_inI (v3_74 + 1)) ∧ (X74 (v3_74 + 1) m101))))))) → X74 v3_74 m74l) → X74 v3_74 m74l
def PL_X6_take_64 (d : Nat) (E : zb_E) (x0 : Int) (x1 : Int) (Q : Int → zb_M → Prop)  (v2_64 : Int) (m64l : zb_M) : Prop :=
  ∀ X64 : Int → zb_M → Prop, (∀ (v2_64 : Int) (m64l : zb_M), (((m64l x0 0) ≤ v2_64 → Q 0 m64l) ∧ (¬ (m64l x0 0) ≤ v2_64 → PL_X6_take_74 d E x0 x1 v2_64 Q (PJ_X6_take_110 d E v2_64 X64 Q) 0 m64l)) → X64 v2_64 m64l) → X64 v2_64 m64l
def PJ_X6_take_62 (d : Nat) (E : zb_E) (x0 : Int) (x1 : Int) (Q : Int → zb_M → Prop) (m62j : zb_M) : Prop :=
  PL_X6_take_64 d E x0 x1 Q 0 m62j
def PL_X6_take_28 (d : Nat) (E : zb_E) (x0 : Int) (x1 : Int) (Q : Int → zb_M → Prop) (K62_28 : zb_M → Prop) (v2_28 : Int) (m28l : zb_M) : Prop :=
  ∀ X28 : Int → zb_M → Prop, (∀ (v2_28 : Int) (m28l : zb_M), (((m28l x1 0) ≤ v2_28 → K62_28 m28l) ∧ (¬ (m28l x1 0) ≤ v2_28 → (0 ≤ v2_28 ∧ v2_28 < 12) ∧ (((m28l (E.2 x1 1) v2_28) = 4 → (zb_inI (v2_28 + 1)) ∧ (X28 (v2_28 + 1) m28l)) ∧ (¬ (m28l (E.2 x1 1) v2_28) = 4 → zb_Tp K_X4_keyOf d [(2, x1), (0, v2_28)] E m28l (fun r50 => zb_T K_X6_addThing d [(2, x0), (0, v2_28), (0, r50)] E m28l (fun r53 m53 => (zb_inI (v2_28 + 1)) ∧ (X28 (v2_28 + 1) m53))))))) → X28 v2_28 m28l) → X28 v2_28 m28l
def PJ_X6_take_26 (d : Nat) (E : zb_E) (x0 : Int) (x1 : Int) (Q : Int → zb_M → Prop) (m26j : zb_M) : Prop :=
  PL_X6_take_28 d E x0 x1 Q (PJ_X6_take_62 d E x0 x1 Q) 0 m26j
def PL_X6_take_7 (d : Nat) (E : zb_E) (x0 : Int) (Q : Int → zb_M → Prop) (K26_7 : zb_M → Prop) (v2_7 : Int) (m7l : zb_M) : Prop :=
  ∀ X7 : Int → zb_M → Prop, (∀ (v2_7 : Int) (m7l : zb_M), ((12 ≤ v2_7 → K26_7 m7l) ∧ (¬ 12 ≤ v2_7 → (0 ≤ v2_7 ∧ v2_7 < 12) ∧ (∀ m19, m19 = zb_up m7l (E.2 x0 2) v2_7 (-1) → ((zb_inI (v2_7 + 1)) ∧ (X7 (v2_7 + 1) m19))))) → X7 v2_7 m7l) → X7 v2_7 m7l
def PM_X6_take (d : Nat) (E : zb_E) (x0 : Int) (x1 : Int) (m : zb_M) (Q : Int → zb_M → Prop) : Prop :=
  ∀ m2, m2 = zb_up m x0 0 0 → (PL_X6_take_7 d E x0 Q (PJ_X6_take_26 d E x0 x1 Q) 0 m2)
set_option maxRecDepth 100000 in
set_option maxHeartbeats 4000000 in
theorem w_X6_take {d : Nat} {E : zb_E} {x0 x1 : Int} {m : zb_M} {Q : Int → zb_M → Prop} (h : PM_X6_take d E x0 x1 m Q) : zb_T K_X6_take (d + 1) [(2, x0), (2, x1)] E m Q := by
  unfold PM_X6_take at h
  refine zb_T_in gd_X6_take rfl rfl (fun hW hA G C hF => ?_)
  have i_0 : zb_is E.1 x0 6 := zb_aH hA (by decide)
  have i_1 : zb_is E.1 x1 4 := zb_aH (zb_aT hA) (by decide)
  show zb_WP _ _ 0 [(0, (2, x0)), (1, (2, x1))] [] _ _ _ _
  refine zb_aload_n (j := 0) dX6_take_0 rfl rfl ?_
  refine zb_iconst dX6_take_1 (zb_inIc rfl) ?_
  refine zb_pF 0 dX6_take_2 fl_X6_28 rfl rfl i_0 (Or.inl rfl) hF rfl rfl (fun m2 e2 hF => ?_)
  have h := h m2 e2
  refine zb_iconst dX6_take_5 (zb_inIc rfl) ?_
  refine zb_istore_n (L' := [(2, (0, 0)), (0, (2, x0)), (1, (2, x1))]) dX6_take_6 rfl (by decide) rfl ?_
  refine zb_sub (L' := [(0, (2, x0)), (1, (2, x1)), (2, (0, 0))]) [1, 2, 0] rfl ?_
  have hJ26 : ∀ (m26j : zb_M), zb_FIN E m26j → PJ_X6_take_26 d E x0 x1 Q m26j → zb_WP (G, C, d + 1, 0, 0, zb_q E Q) F_X6_take 26 [(0, (2, x0)), (1, (2, x1))] [] E.1 m26j 0 0 := by
    intro m26j hF h
    unfold PJ_X6_take_26 at h
    refine zb_iconst dX6_take_26 (zb_inIc rfl) ?_
    refine zb_istore_n (L' := [(2, (0, 0)), (0, (2, x0)), (1, (2, x1))]) dX6_take_27 rfl (by decide) rfl ?_
    refine zb_sub (L' := [(0, (2, x0)), (1, (2, x1)), (2, (0, 0))]) [1, 2, 0] rfl ?_
    have hJ62 : ∀ (m62j : zb_M), zb_FIN E m62j → PJ_X6_take_62 d E x0 x1 Q m62j → zb_WP (G, C, d + 1, 0, 0, zb_q E Q) F_X6_take 62 [(0, (2, x0)), (1, (2, x1))] [] E.1 m62j 0 0 := by
      intro m62j hF h
      unfold PJ_X6_take_62 at h
      refine zb_iconst dX6_take_62 (zb_inIc rfl) ?_
      refine zb_istore_n (L' := [(2, (0, 0)), (0, (2, x0)), (1, (2, x1))]) dX6_take_63 rfl (by decide) rfl ?_
      refine zb_sub (L' := [(0, (2, x0)), (1, (2, x1)), (2, (0, 0))]) [1, 2, 0] rfl ?_
      unfold PL_X6_take_64 at h
      obtain ⟨X64, hX64⟩ : ∃ X : Int → zb_M → Prop, ∀ (v2_64 : Int) (m64l : zb_M), (X v2_64 m64l ↔ (zb_FIN E m64l → zb_WP (G, C, d + 1, 0, 0, zb_q E Q) F_X6_take 64 [(0, (2, x0)), (1, (2, x1)), (2, (0, v2_64))] [] E.1 m64l 0 0)) := ⟨fun v2_64 m64l => zb_FIN E m64l → zb_WP (G, C, d + 1, 0, 0, zb_q E Q) F_X6_take 64 [(0, (2, x0)), (1, (2, x1)), (2, (0, v2_64))] [] E.1 m64l 0 0, fun _ _ => Iff.rfl⟩
      refine (hX64 _ _).mp (h X64 (fun v2_64 m64l h => (hX64 _ _).mpr (fun hF => ?_))) hF
      refine zb_iload_n (j := 2) dX6_take_64 rfl rfl ?_
      refine zb_aload_n (j := 0) dX6_take_65 rfl rfl ?_
      refine zb_gI 0 dX6_take_66 fl_X6_28 i_0 rfl rfl ?_
      refine zb_icmp_ge (tgt := 116) dX6_take_69 (by decide) (fun c1 => ?_) (fun c1 => ?_)
      · have h := h.1 c1
        exact zb_rV dX6_take_116 rfl hF h
      · have h := h.2 c1
        refine zb_iconst dX6_take_72 (zb_inIc rfl) ?_
        refine zb_istore_n (L' := [(3, (0, 0)), (0, (2, x0)), (1, (2, x1)), (2, (0, v2_64))]) dX6_take_73 rfl (by decide) rfl ?_
        refine zb_sub (L' := [(0, (2, x0)), (1, (2, x1)), (2, (0, v2_64)), (3, (0, 0))]) [1, 2, 3, 0] rfl ?_
        have hJ110 : ∀ (m110j : zb_M), zb_FIN E m110j → PJ_X6_take_110 d E v2_64 X64 Q m110j → zb_WP (G, C, d + 1, 0, 0, zb_q E Q) F_X6_take 110 [(0, (2, x0)), (1, (2, x1)), (2, (0, v2_64))] [] E.1 m110j 0 0 := by
          intro m110j hF h
          unfold PJ_X6_take_110 at h
          obtain ⟨o2, h⟩ := h
          refine zb_iinc (j := 2) (L' := [(2, (0, (v2_64 + 1))), (0, (2, x0)), (1, (2, x1))]) dX6_take_110 rfl o2 (by decide) rfl ?_
          refine zb_goto (tgt := 64) dX6_take_113 (by decide) ?_
          refine zb_sub (L' := [(0, (2, x0)), (1, (2, x1)), (2, (0, (v2_64 + 1)))]) [1, 2, 0] rfl ?_
          exact (hX64 _ _).mp h hF
        unfold PL_X6_take_74 at h
        obtain ⟨X74, hX74⟩ : ∃ X : Int → zb_M → Prop, ∀ (v3_74 : Int) (m74l : zb_M), (X v3_74 m74l ↔ (zb_FIN E m74l → zb_WP (G, C, d + 1, 0, 0, zb_q E Q) F_X6_take 74 [(0, (2, x0)), (1, (2, x1)), (2, (0, v2_64)), (3, (0, v3_74))] [] E.1 m74l 0 0)) := ⟨fun v3_74 m74l => zb_FIN E m74l → zb_WP (G, C, d + 1, 0, 0, zb_q E Q) F_X6_take 74 [(0, (2, x0)), (1, (2, x1)), (2, (0, v2_64)), (3, (0, v3_74))] [] E.1 m74l 0 0, fun _ _ => Iff.rfl⟩
        refine (hX74 _ _).mp (h X74 (fun v3_74 m74l h => (hX74 _ _).mpr (fun hF => ?_))) hF
        refine zb_iload_n (j := 3) dX6_take_74 rfl rfl ?_
        refine zb_aload_n (j := 0) dX6_take_75 rfl rfl ?_
        refine zb_gI 0 dX6_take_76 fl_X6_28 i_0 rfl rfl ?_
        refine zb_icmp_ge (tgt := 110) dX6_take_79 (by decide) (fun c3 => ?_) (fun c3 => ?_)
        · have h := h.1 c3
          refine zb_sub (L' := [(0, (2, x0)), (1, (2, x1)), (2, (0, v2_64))]) [0, 1, 2] rfl ?_
          exact hJ110 _ hF h
        · have h := h.2 c3
          refine zb_aload_n (j := 0) dX6_take_82 rfl rfl ?_
          refine zb_iload_n (j := 2) dX6_take_83 rfl rfl ?_
          refine zb_iload_n (j := 3) dX6_take_84 rfl rfl ?_
          refine zb_aload_n (j := 1) dX6_take_85 rfl rfl ?_
          refine zb_aload_n (j := 0) dX6_take_86 rfl rfl ?_
          refine zb_gFa 1 dX6_take_87 fl_X6_9 i_0 hW hF rfl rfl rfl (by decide) rfl 12 rfl (fun i4 l5 => ?_)
          refine zb_iload_n (j := 2) dX6_take_90 rfl rfl ?_
          obtain ⟨o6, h⟩ := h
          refine zb_lI dX6_take_91 i4 l5 o6.1 o6.2 ?_
          refine zb_aload_n (j := 0) dX6_take_92 rfl rfl ?_
          refine zb_gFa 1 dX6_take_93 fl_X6_9 i_0 hW hF rfl rfl rfl (by decide) rfl 12 rfl (fun i7 l8 => ?_)
          refine zb_iload_n (j := 3) dX6_take_96 rfl rfl ?_
          obtain ⟨o9, h⟩ := h
          refine zb_lI dX6_take_97 i7 l8 o9.1 o9.2 ?_
          refine zb_cVp (As := [(0, (m74l (E.2 x0 1) v2_64)), (0, (m74l (E.2 x0 1) v3_74))]) (As' := [(0, (m74l (E.2 x0 1) v3_74)), (0, (m74l (E.2 x0 1) v2_64))]) (st := [(0, v3_74), (0, v2_64), (2, x0)]) dX6_take_98 lk_X6_46 gd_X4_lineFrom rfl rfl i_1 ⟨_, rfl, rfl⟩ h hW hF (zb_aR i_1 (zb_aI (zb_aI zb_a0))) (Nat.le_refl _) (Nat.le_of_ble_eq_true rfl) (fun r98 h => ?_)
          show zb_WP _ _ _ _ [(0, r98), (0, v3_74), (0, v2_64), (2, x0)] _ _ _ _
          refine zb_cV (As := [(0, v2_64), (0, v3_74), (0, r98)]) (As' := [(0, r98), (0, v3_74), (0, v2_64)]) (st := []) dX6_take_101 lk_X6_50 gd_X6_setLine rfl rfl i_0 ⟨_, rfl, rfl⟩ h hW hF (zb_aR i_0 (zb_aI (zb_aI (zb_aI zb_a0)))) (Nat.le_refl _) (Nat.le_of_ble_eq_true rfl) (fun r101 m101 hF h => ?_)
          show zb_WP _ _ _ _ [] _ _ _ _
          obtain ⟨o10, h⟩ := h
          refine zb_iinc (j := 3) (L' := [(3, (0, (v3_74 + 1))), (0, (2, x0)), (1, (2, x1)), (2, (0, v2_64))]) dX6_take_104 rfl o10 (by decide) rfl ?_
          refine zb_goto (tgt := 74) dX6_take_107 (by decide) ?_
          refine zb_sub (L' := [(0, (2, x0)), (1, (2, x1)), (2, (0, v2_64)), (3, (0, (v3_74 + 1)))]) [1, 2, 3, 0] rfl ?_
          exact (hX74 _ _).mp h hF
    unfold PL_X6_take_28 at h
    obtain ⟨X28, hX28⟩ : ∃ X : Int → zb_M → Prop, ∀ (v2_28 : Int) (m28l : zb_M), (X v2_28 m28l ↔ (zb_FIN E m28l → zb_WP (G, C, d + 1, 0, 0, zb_q E Q) F_X6_take 28 [(0, (2, x0)), (1, (2, x1)), (2, (0, v2_28))] [] E.1 m28l 0 0)) := ⟨fun v2_28 m28l => zb_FIN E m28l → zb_WP (G, C, d + 1, 0, 0, zb_q E Q) F_X6_take 28 [(0, (2, x0)), (1, (2, x1)), (2, (0, v2_28))] [] E.1 m28l 0 0, fun _ _ => Iff.rfl⟩
    refine (hX28 _ _).mp (h X28 (fun v2_28 m28l h => (hX28 _ _).mpr (fun hF => ?_))) hF
    refine zb_iload_n (j := 2) dX6_take_28 rfl rfl ?_
    refine zb_aload_n (j := 1) dX6_take_29 rfl rfl ?_
    refine zb_gI 0 dX6_take_30 fl_X6_32 i_1 rfl rfl ?_
    refine zb_icmp_ge (tgt := 62) dX6_take_33 (by decide) (fun c11 => ?_) (fun c11 => ?_)
    · have h := h.1 c11
      refine zb_sub (L' := [(0, (2, x0)), (1, (2, x1))]) [0, 1] rfl ?_
      exact hJ62 _ hF h
    · have h := h.2 c11
      refine zb_aload_n (j := 1) dX6_take_36 rfl rfl ?_
      refine zb_gFa 1 dX6_take_37 fl_X6_35 i_1 hW hF rfl rfl rfl (by decide) rfl 12 rfl (fun i12 l13 => ?_)
      refine zb_iload_n (j := 2) dX6_take_40 rfl rfl ?_
      obtain ⟨o14, h⟩ := h
      refine zb_lI dX6_take_41 i12 l13 o14.1 o14.2 ?_
      refine zb_iconst dX6_take_42 (zb_inIc rfl) ?_
      refine zb_icmp_eq (tgt := 56) dX6_take_43 (by decide) (fun c15 => ?_) (fun c15 => ?_)
      · have h := h.1 c15
        obtain ⟨o16, h⟩ := h
        refine zb_iinc (j := 2) (L' := [(2, (0, (v2_28 + 1))), (0, (2, x0)), (1, (2, x1))]) dX6_take_56 rfl o16 (by decide) rfl ?_
        refine zb_goto (tgt := 28) dX6_take_59 (by decide) ?_
        refine zb_sub (L' := [(0, (2, x0)), (1, (2, x1)), (2, (0, (v2_28 + 1)))]) [1, 2, 0] rfl ?_
        exact (hX28 _ _).mp h hF
      · have h := h.2 c15
        refine zb_aload_n (j := 0) dX6_take_46 rfl rfl ?_
        refine zb_iload_n (j := 2) dX6_take_47 rfl rfl ?_
        refine zb_aload_n (j := 1) dX6_take_48 rfl rfl ?_
        refine zb_iload_n (j := 2) dX6_take_49 rfl rfl ?_
        refine zb_cVp (As := [(0, v2_28)]) (As' := [(0, v2_28)]) (st := [(0, v2_28), (2, x0)]) dX6_take_50 lk_X6_38 gd_X4_keyOf rfl rfl i_1 ⟨_, rfl, rfl⟩ h hW hF (zb_aR i_1 (zb_aI zb_a0)) (Nat.le_refl _) (Nat.le_of_ble_eq_true rfl) (fun r50 h => ?_)
        show zb_WP _ _ _ _ [(0, r50), (0, v2_28), (2, x0)] _ _ _ _
        refine zb_cV (As := [(0, v2_28), (0, r50)]) (As' := [(0, r50), (0, v2_28)]) (st := []) dX6_take_53 lk_X6_42 gd_X6_addThing rfl rfl i_0 ⟨_, rfl, rfl⟩ h hW hF (zb_aR i_0 (zb_aI (zb_aI zb_a0))) (Nat.le_refl _) (Nat.le_of_ble_eq_true rfl) (fun r53 m53 hF h => ?_)
        show zb_WP _ _ _ _ [] _ _ _ _
        obtain ⟨o17, h⟩ := h
        refine zb_iinc (j := 2) (L' := [(2, (0, (v2_28 + 1))), (0, (2, x0)), (1, (2, x1))]) dX6_take_56 rfl o17 (by decide) rfl ?_
        refine zb_goto (tgt := 28) dX6_take_59 (by decide) ?_
        refine zb_sub (L' := [(0, (2, x0)), (1, (2, x1)), (2, (0, (v2_28 + 1)))]) [1, 2, 0] rfl ?_
        exact (hX28 _ _).mp h hF
  unfold PL_X6_take_7 at h
  obtain ⟨X7, hX7⟩ : ∃ X : Int → zb_M → Prop, ∀ (v2_7 : Int) (m7l : zb_M), (X v2_7 m7l ↔ (zb_FIN E m7l → zb_WP (G, C, d + 1, 0, 0, zb_q E Q) F_X6_take 7 [(0, (2, x0)), (1, (2, x1)), (2, (0, v2_7))] [] E.1 m7l 0 0)) := ⟨fun v2_7 m7l => zb_FIN E m7l → zb_WP (G, C, d + 1, 0, 0, zb_q E Q) F_X6_take 7 [(0, (2, x0)), (1, (2, x1)), (2, (0, v2_7))] [] E.1 m7l 0 0, fun _ _ => Iff.rfl⟩
  refine (hX7 _ _).mp (h X7 (fun v2_7 m7l h => (hX7 _ _).mpr (fun hF => ?_))) hF
  refine zb_iload_n (j := 2) dX6_take_7 rfl rfl ?_
  refine zb_bipush dX6_take_8 (by decide) (zb_inIc rfl) ?_
  refine zb_icmp_ge (tgt := 26) dX6_take_10 (by decide) (fun c18 => ?_) (fun c18 => ?_)
  · have h := h.1 c18
    refine zb_sub (L' := [(0, (2, x0)), (1, (2, x1))]) [0, 1] rfl ?_
    exact hJ26 _ hF h
  · have h := h.2 c18
    refine zb_aload_n (j := 0) dX6_take_13 rfl rfl ?_
    refine zb_gFa 2 dX6_take_14 fl_X6_15 i_0 hW hF rfl rfl rfl (by decide) rfl 12 rfl (fun i19 l20 => ?_)
    refine zb_iload_n (j := 2) dX6_take_17 rfl rfl ?_
    refine zb_iconst dX6_take_18 (zb_inIc rfl) ?_
    obtain ⟨o21, h⟩ := h
    refine zb_sI dX6_take_19 i19 l20 o21.1 o21.2 hF (fun m19 e19 hF => ?_)
    have h := h m19 e19
    obtain ⟨o22, h⟩ := h
    refine zb_iinc (j := 2) (L' := [(2, (0, (v2_7 + 1))), (0, (2, x0)), (1, (2, x1))]) dX6_take_20 rfl o22 (by decide) rfl ?_
    refine zb_goto (tgt := 7) dX6_take_23 (by decide) ?_
    refine zb_sub (L' := [(0, (2, x0)), (1, (2, x1)), (2, (0, (v2_7 + 1)))]) [1, 2, 0] rfl ?_
    exact (hX7 _ _).mp h hF
theorem dX6_takePairs_0 : decode cX6_takePairs 0 = .ok (.aload_n 0, 1) := by decide +kernel
theorem dX6_takePairs_1 : decode cX6_takePairs 1 = .ok (.iconst 0, 1) := by decide +kernel
theorem dX6_takePairs_2 : decode cX6_takePairs 2 = .ok (.putfield 28, 3) := by decide +kernel
theorem dX6_takePairs_5 : decode cX6_takePairs 5 = .ok (.iconst 0, 1) := by decide +kernel
theorem dX6_takePairs_6 : decode cX6_takePairs 6 = .ok (.istore_n 3, 1) := by decide +kernel
theorem dX6_takePairs_7 : decode cX6_takePairs 7 = .ok (.iload_n 3, 1) := by decide +kernel
theorem dX6_takePairs_8 : decode cX6_takePairs 8 = .ok (.bipush 12, 2) := by decide +kernel
theorem dX6_takePairs_10 : decode cX6_takePairs 10 = .ok (.if_icmp .ge 16, 3) := by decide +kernel
theorem dX6_takePairs_13 : decode cX6_takePairs 13 = .ok (.aload_n 0, 1) := by decide +kernel
theorem dX6_takePairs_14 : decode cX6_takePairs 14 = .ok (.getfield 15, 3) := by decide +kernel
theorem dX6_takePairs_17 : decode cX6_takePairs 17 = .ok (.iload_n 3, 1) := by decide +kernel
theorem dX6_takePairs_18 : decode cX6_takePairs 18 = .ok (.iconst (-1), 1) := by decide +kernel
theorem dX6_takePairs_19 : decode cX6_takePairs 19 = .ok (.iastore, 1) := by decide +kernel
theorem dX6_takePairs_20 : decode cX6_takePairs 20 = .ok (.iinc 3 1, 3) := by decide +kernel
theorem dX6_takePairs_23 : decode cX6_takePairs 23 = .ok (.goto (-16), 3) := by decide +kernel
theorem dX6_takePairs_26 : decode cX6_takePairs 26 = .ok (.iconst 0, 1) := by decide +kernel
theorem dX6_takePairs_27 : decode cX6_takePairs 27 = .ok (.istore_n 3, 1) := by decide +kernel
theorem dX6_takePairs_28 : decode cX6_takePairs 28 = .ok (.iload_n 3, 1) := by decide +kernel
theorem dX6_takePairs_29 : decode cX6_takePairs 29 = .ok (.iload_n 1, 1) := by decide +kernel
theorem dX6_takePairs_30 : decode cX6_takePairs 30 = .ok (.if_icmp .ge 15, 3) := by decide +kernel
theorem dX6_takePairs_33 : decode cX6_takePairs 33 = .ok (.aload_n 0, 1) := by decide +kernel
theorem dX6_takePairs_34 : decode cX6_takePairs 34 = .ok (.iload_n 3, 1) := by decide +kernel
theorem dX6_takePairs_35 : decode cX6_takePairs 35 = .ok (.iconst 0, 1) := by decide +kernel
theorem dX6_takePairs_36 : decode cX6_takePairs 36 = .ok (.invokevirtual 42, 3) := by decide +kernel
theorem dX6_takePairs_39 : decode cX6_takePairs 39 = .ok (.iinc 3 1, 3) := by decide +kernel
theorem dX6_takePairs_42 : decode cX6_takePairs 42 = .ok (.goto (-14), 3) := by decide +kernel
theorem dX6_takePairs_45 : decode cX6_takePairs 45 = .ok (.iconst 0, 1) := by decide +kernel
theorem dX6_takePairs_46 : decode cX6_takePairs 46 = .ok (.istore_n 3, 1) := by decide +kernel
theorem dX6_takePairs_47 : decode cX6_takePairs 47 = .ok (.iload_n 3, 1) := by decide +kernel
theorem dX6_takePairs_48 : decode cX6_takePairs 48 = .ok (.iload_n 1, 1) := by decide +kernel
theorem dX6_takePairs_49 : decode cX6_takePairs 49 = .ok (.if_icmp .ge 61, 3) := by decide +kernel
theorem dX6_takePairs_52 : decode cX6_takePairs 52 = .ok (.aload_n 0, 1) := by decide +kernel
theorem dX6_takePairs_53 : decode cX6_takePairs 53 = .ok (.iload_n 3, 1) := by decide +kernel
theorem dX6_takePairs_54 : decode cX6_takePairs 54 = .ok (.iload_n 3, 1) := by decide +kernel
theorem dX6_takePairs_55 : decode cX6_takePairs 55 = .ok (.iconst 0, 1) := by decide +kernel
theorem dX6_takePairs_56 : decode cX6_takePairs 56 = .ok (.invokevirtual 50, 3) := by decide +kernel
theorem dX6_takePairs_59 : decode cX6_takePairs 59 = .ok (.iconst 0, 1) := by decide +kernel
theorem dX6_takePairs_60 : decode cX6_takePairs 60 = .ok (.istore 4, 2) := by decide +kernel
theorem dX6_takePairs_62 : decode cX6_takePairs 62 = .ok (.iload 4, 2) := by decide +kernel
theorem dX6_takePairs_64 : decode cX6_takePairs 64 = .ok (.iload_n 3, 1) := by decide +kernel
theorem dX6_takePairs_65 : decode cX6_takePairs 65 = .ok (.if_icmp .ge 39, 3) := by decide +kernel
theorem dX6_takePairs_68 : decode cX6_takePairs 68 = .ok (.iload_n 2, 1) := by decide +kernel
theorem dX6_takePairs_69 : decode cX6_takePairs 69 = .ok (.iload_n 3, 1) := by decide +kernel
theorem dX6_takePairs_70 : decode cX6_takePairs 70 = .ok (.iload 4, 2) := by decide +kernel
theorem dX6_takePairs_72 : decode cX6_takePairs 72 = .ok (.invokestatic 54, 3) := by decide +kernel
theorem dX6_takePairs_75 : decode cX6_takePairs 75 = .ok (.ishr, 1) := by decide +kernel
theorem dX6_takePairs_76 : decode cX6_takePairs 76 = .ok (.iconst 1, 1) := by decide +kernel
theorem dX6_takePairs_77 : decode cX6_takePairs 77 = .ok (.iand, 1) := by decide +kernel
theorem dX6_takePairs_78 : decode cX6_takePairs 78 = .ok (.istore 5, 2) := by decide +kernel
theorem dX6_takePairs_80 : decode cX6_takePairs 80 = .ok (.aload_n 0, 1) := by decide +kernel
theorem dX6_takePairs_81 : decode cX6_takePairs 81 = .ok (.iload_n 3, 1) := by decide +kernel
theorem dX6_takePairs_82 : decode cX6_takePairs 82 = .ok (.iload 4, 2) := by decide +kernel
theorem dX6_takePairs_84 : decode cX6_takePairs 84 = .ok (.iload 5, 2) := by decide +kernel
theorem dX6_takePairs_86 : decode cX6_takePairs 86 = .ok (.invokevirtual 50, 3) := by decide +kernel
theorem dX6_takePairs_89 : decode cX6_takePairs 89 = .ok (.aload_n 0, 1) := by decide +kernel
theorem dX6_takePairs_90 : decode cX6_takePairs 90 = .ok (.iload 4, 2) := by decide +kernel
theorem dX6_takePairs_92 : decode cX6_takePairs 92 = .ok (.iload_n 3, 1) := by decide +kernel
theorem dX6_takePairs_93 : decode cX6_takePairs 93 = .ok (.iload 5, 2) := by decide +kernel
theorem dX6_takePairs_95 : decode cX6_takePairs 95 = .ok (.invokevirtual 50, 3) := by decide +kernel
theorem dX6_takePairs_98 : decode cX6_takePairs 98 = .ok (.iinc 4 1, 3) := by decide +kernel
theorem dX6_takePairs_101 : decode cX6_takePairs 101 = .ok (.goto (-39), 3) := by decide +kernel
theorem dX6_takePairs_104 : decode cX6_takePairs 104 = .ok (.iinc 3 1, 3) := by decide +kernel
theorem dX6_takePairs_107 : decode cX6_takePairs 107 = .ok (.goto (-60), 3) := by decide +kernel
theorem dX6_takePairs_110 : decode cX6_takePairs 110 = .ok (.return_, 1) := by decide +kernel
def PJ_X6_takePairs_104 (d : Nat) (E : zb_E) (v3_47 : Int) (X47 : Int → zb_M → Prop) (Q : Int → zb_M → Prop) (m104j : zb_M) : Prop :=
  (zb_inI (v3_47 + 1)) ∧ (X47 (v3_47 + 1) m104j)
def PL_X6_takePairs_62 (d : Nat) (E : zb_E) (x0 : Int) (x2 : Int) (v3_47 : Int) (Q : Int → zb_M → Prop) (K104_62 : zb_M → Prop) (v4_62 : Int) (m62l : zb_M) : Prop :=
  ∀ X62 : Int → zb_M → Prop, (∀ (v4_62 : Int) (m62l : zb_M), ((v3_47 ≤ v4_62 → K104_62 m62l) ∧ (¬ v3_47 ≤ v4_62 → zb_Tp K_X2_bitOf d [(0, v3_47), (0, v4_62)] E m62l (fun r72 => zb_T K_X6_setLine d [(2, x0), (0, v3_47), (0, v4_62), (0, (zb_and (zb_shr x2 r72) 1))] E m62l (fun r86 m86 => zb_T K_X6_setLine d [(2, x0), (0, v4_62), (0, v3_47), (0, (zb_and (zb_shr x2 r72) 1))] E m86 (fun r95 m95 => (zb_inI (v4_62 + 1)) ∧ (X62 (v4_62 + 1) m95)))))) → X62 v4_62 m62l) → X62 v4_62 m62l
def PL_X6_takePairs_47 (d : Nat) (E : zb_E) (x0 : Int) (x1 : Int) (x2 : Int) (Q : Int → zb_M → Prop)  (v3_47 : Int) (m47l : zb_M) : Prop :=
  ∀ X47 : Int → zb_M → Prop, (∀ (v3_47 : Int) (m47l : zb_M), ((x1 ≤ v3_47 → Q 0 m47l) ∧ (¬ x1 ≤ v3_47 → zb_T K_X6_setLine d [(2, x0), (0, v3_47), (0, v3_47), (0, 0)] E m47l (fun r56 m56 => PL_X6_takePairs_62 d E x0 x2 v3_47 Q (PJ_X6_takePairs_104 d E v3_47 X47 Q) 0 m56))) → X47 v3_47 m47l) → X47 v3_47 m47l
def PJ_X6_takePairs_45 (d : Nat) (E : zb_E) (x0 : Int) (x1 : Int) (x2 : Int) (Q : Int → zb_M → Prop) (m45j : zb_M) : Prop :=
  PL_X6_takePairs_47 d E x0 x1 x2 Q 0 m45j
def PL_X6_takePairs_28 (d : Nat) (E : zb_E) (x0 : Int) (x1 : Int) (Q : Int → zb_M → Prop) (K45_28 : zb_M → Prop) (v3_28 : Int) (m28l : zb_M) : Prop :=
  ∀ X28 : Int → zb_M → Prop, (∀ (v3_28 : Int) (m28l : zb_M), ((x1 ≤ v3_28 → K45_28 m28l) ∧ (¬ x1 ≤ v3_28 → zb_T K_X6_addThing d [(2, x0), (0, v3_28), (0, 0)] E m28l (fun r36 m36 => (zb_inI (v3_28 + 1)) ∧ (X28 (v3_28 + 1) m36)))) → X28 v3_28 m28l) → X28 v3_28 m28l
def PJ_X6_takePairs_26 (d : Nat) (E : zb_E) (x0 : Int) (x1 : Int) (x2 : Int) (Q : Int → zb_M → Prop) (m26j : zb_M) : Prop :=
  PL_X6_takePairs_28 d E x0 x1 Q (PJ_X6_takePairs_45 d E x0 x1 x2 Q) 0 m26j
def PL_X6_takePairs_7 (d : Nat) (E : zb_E) (x0 : Int) (Q : Int → zb_M → Prop) (K26_7 : zb_M → Prop) (v3_7 : Int) (m7l : zb_M) : Prop :=
  ∀ X7 : Int → zb_M → Prop, (∀ (v3_7 : Int) (m7l : zb_M), ((12 ≤ v3_7 → K26_7 m7l) ∧ (¬ 12 ≤ v3_7 → (0 ≤ v3_7 ∧ v3_7 < 12) ∧ (∀ m19, m19 = zb_up m7l (E.2 x0 2) v3_7 (-1) → ((zb_inI (v3_7 + 1)) ∧ (X7 (v3_7 + 1) m19))))) → X7 v3_7 m7l) → X7 v3_7 m7l
def PM_X6_takePairs (d : Nat) (E : zb_E) (x0 : Int) (x1 : Int) (x2 : Int) (m : zb_M) (Q : Int → zb_M → Prop) : Prop :=
  ∀ m2, m2 = zb_up m x0 0 0 → (PL_X6_takePairs_7 d E x0 Q (PJ_X6_takePairs_26 d E x0 x1 x2 Q) 0 m2)
set_option maxRecDepth 100000 in
set_option maxHeartbeats 4000000 in
theorem w_X6_takePairs {d : Nat} {E : zb_E} {x0 x1 x2 : Int} {m : zb_M} {Q : Int → zb_M → Prop} (h : PM_X6_takePairs d E x0 x1 x2 m Q) : zb_T K_X6_takePairs (d + 1) [(2, x0), (0, x1), (0, x2)] E m Q := by
  unfold PM_X6_takePairs at h
  refine zb_T_in gd_X6_takePairs rfl rfl (fun hW hA G C hF => ?_)
  have i_0 : zb_is E.1 x0 6 := zb_aH hA (by decide)
  show zb_WP _ _ 0 [(0, (2, x0)), (1, (0, x1)), (2, (0, x2))] [] _ _ _ _
  refine zb_aload_n (j := 0) dX6_takePairs_0 rfl rfl ?_
  refine zb_iconst dX6_takePairs_1 (zb_inIc rfl) ?_
  refine zb_pF 0 dX6_takePairs_2 fl_X6_28 rfl rfl i_0 (Or.inl rfl) hF rfl rfl (fun m2 e2 hF => ?_)
  have h := h m2 e2
  refine zb_iconst dX6_takePairs_5 (zb_inIc rfl) ?_
  refine zb_istore_n (L' := [(3, (0, 0)), (0, (2, x0)), (1, (0, x1)), (2, (0, x2))]) dX6_takePairs_6 rfl (by decide) rfl ?_
  refine zb_sub (L' := [(0, (2, x0)), (1, (0, x1)), (2, (0, x2)), (3, (0, 0))]) [1, 2, 3, 0] rfl ?_
  have hJ26 : ∀ (m26j : zb_M), zb_FIN E m26j → PJ_X6_takePairs_26 d E x0 x1 x2 Q m26j → zb_WP (G, C, d + 1, 0, 0, zb_q E Q) F_X6_takePairs 26 [(0, (2, x0)), (1, (0, x1)), (2, (0, x2))] [] E.1 m26j 0 0 := by
    intro m26j hF h
    unfold PJ_X6_takePairs_26 at h
    refine zb_iconst dX6_takePairs_26 (zb_inIc rfl) ?_
    refine zb_istore_n (L' := [(3, (0, 0)), (0, (2, x0)), (1, (0, x1)), (2, (0, x2))]) dX6_takePairs_27 rfl (by decide) rfl ?_
    refine zb_sub (L' := [(0, (2, x0)), (1, (0, x1)), (2, (0, x2)), (3, (0, 0))]) [1, 2, 3, 0] rfl ?_
    have hJ45 : ∀ (m45j : zb_M), zb_FIN E m45j → PJ_X6_takePairs_45 d E x0 x1 x2 Q m45j → zb_WP (G, C, d + 1, 0, 0, zb_q E Q) F_X6_takePairs 45 [(0, (2, x0)), (1, (0, x1)), (2, (0, x2))] [] E.1 m45j 0 0 := by
      intro m45j hF h
      unfold PJ_X6_takePairs_45 at h
      refine zb_iconst dX6_takePairs_45 (zb_inIc rfl) ?_
      refine zb_istore_n (L' := [(3, (0, 0)), (0, (2, x0)), (1, (0, x1)), (2, (0, x2))]) dX6_takePairs_46 rfl (by decide) rfl ?_
      refine zb_sub (L' := [(0, (2, x0)), (1, (0, x1)), (2, (0, x2)), (3, (0, 0))]) [1, 2, 3, 0] rfl ?_
      unfold PL_X6_takePairs_47 at h
      obtain ⟨X47, hX47⟩ : ∃ X : Int → zb_M → Prop, ∀ (v3_47 : Int) (m47l : zb_M), (X v3_47 m47l ↔ (zb_FIN E m47l → zb_WP (G, C, d + 1, 0, 0, zb_q E Q) F_X6_takePairs 47 [(0, (2, x0)), (1, (0, x1)), (2, (0, x2)), (3, (0, v3_47))] [] E.1 m47l 0 0)) := ⟨fun v3_47 m47l => zb_FIN E m47l → zb_WP (G, C, d + 1, 0, 0, zb_q E Q) F_X6_takePairs 47 [(0, (2, x0)), (1, (0, x1)), (2, (0, x2)), (3, (0, v3_47))] [] E.1 m47l 0 0, fun _ _ => Iff.rfl⟩
      refine (hX47 _ _).mp (h X47 (fun v3_47 m47l h => (hX47 _ _).mpr (fun hF => ?_))) hF
      refine zb_iload_n (j := 3) dX6_takePairs_47 rfl rfl ?_
      refine zb_iload_n (j := 1) dX6_takePairs_48 rfl rfl ?_
      refine zb_icmp_ge (tgt := 110) dX6_takePairs_49 (by decide) (fun c1 => ?_) (fun c1 => ?_)
      · have h := h.1 c1
        exact zb_rV dX6_takePairs_110 rfl hF h
      · have h := h.2 c1
        refine zb_aload_n (j := 0) dX6_takePairs_52 rfl rfl ?_
        refine zb_iload_n (j := 3) dX6_takePairs_53 rfl rfl ?_
        refine zb_iload_n (j := 3) dX6_takePairs_54 rfl rfl ?_
        refine zb_iconst dX6_takePairs_55 (zb_inIc rfl) ?_
        refine zb_cV (As := [(0, v3_47), (0, v3_47), (0, 0)]) (As' := [(0, 0), (0, v3_47), (0, v3_47)]) (st := []) dX6_takePairs_56 lk_X6_50 gd_X6_setLine rfl rfl i_0 ⟨_, rfl, rfl⟩ h hW hF (zb_aR i_0 (zb_aI (zb_aI (zb_aI zb_a0)))) (Nat.le_refl _) (Nat.le_of_ble_eq_true rfl) (fun r56 m56 hF h => ?_)
        show zb_WP _ _ _ _ [] _ _ _ _
        refine zb_iconst dX6_takePairs_59 (zb_inIc rfl) ?_
        refine zb_istore (L' := [(4, (0, 0)), (0, (2, x0)), (1, (0, x1)), (2, (0, x2)), (3, (0, v3_47))]) dX6_takePairs_60 (by decide) rfl ?_
        refine zb_sub (L' := [(0, (2, x0)), (1, (0, x1)), (2, (0, x2)), (3, (0, v3_47)), (4, (0, 0))]) [1, 2, 3, 4, 0] rfl ?_
        have hJ104 : ∀ (m104j : zb_M), zb_FIN E m104j → PJ_X6_takePairs_104 d E v3_47 X47 Q m104j → zb_WP (G, C, d + 1, 0, 0, zb_q E Q) F_X6_takePairs 104 [(0, (2, x0)), (1, (0, x1)), (2, (0, x2)), (3, (0, v3_47))] [] E.1 m104j 0 0 := by
          intro m104j hF h
          unfold PJ_X6_takePairs_104 at h
          obtain ⟨o2, h⟩ := h
          refine zb_iinc (j := 3) (L' := [(3, (0, (v3_47 + 1))), (0, (2, x0)), (1, (0, x1)), (2, (0, x2))]) dX6_takePairs_104 rfl o2 (by decide) rfl ?_
          refine zb_goto (tgt := 47) dX6_takePairs_107 (by decide) ?_
          refine zb_sub (L' := [(0, (2, x0)), (1, (0, x1)), (2, (0, x2)), (3, (0, (v3_47 + 1)))]) [1, 2, 3, 0] rfl ?_
          exact (hX47 _ _).mp h hF
        unfold PL_X6_takePairs_62 at h
        obtain ⟨X62, hX62⟩ : ∃ X : Int → zb_M → Prop, ∀ (v4_62 : Int) (m62l : zb_M), (X v4_62 m62l ↔ (zb_FIN E m62l → zb_WP (G, C, d + 1, 0, 0, zb_q E Q) F_X6_takePairs 62 [(0, (2, x0)), (1, (0, x1)), (2, (0, x2)), (3, (0, v3_47)), (4, (0, v4_62))] [] E.1 m62l 0 0)) := ⟨fun v4_62 m62l => zb_FIN E m62l → zb_WP (G, C, d + 1, 0, 0, zb_q E Q) F_X6_takePairs 62 [(0, (2, x0)), (1, (0, x1)), (2, (0, x2)), (3, (0, v3_47)), (4, (0, v4_62))] [] E.1 m62l 0 0, fun _ _ => Iff.rfl⟩
        refine (hX62 _ _).mp (h X62 (fun v4_62 m62l h => (hX62 _ _).mpr (fun hF => ?_))) hF
        refine zb_iload (j := 4) dX6_takePairs_62 rfl ?_
        refine zb_iload_n (j := 3) dX6_takePairs_64 rfl rfl ?_
        refine zb_icmp_ge (tgt := 104) dX6_takePairs_65 (by decide) (fun c3 => ?_) (fun c3 => ?_)
        · have h := h.1 c3
          refine zb_sub (L' := [(0, (2, x0)), (1, (0, x1)), (2, (0, x2)), (3, (0, v3_47))]) [0, 1, 2, 3] rfl ?_
          exact hJ104 _ hF h
        · have h := h.2 c3
          refine zb_iload_n (j := 2) dX6_takePairs_68 rfl rfl ?_
          refine zb_iload_n (j := 3) dX6_takePairs_69 rfl rfl ?_
          refine zb_iload (j := 4) dX6_takePairs_70 rfl ?_
          refine zb_cSp (As := [(0, v3_47), (0, v4_62)]) (As' := [(0, v4_62), (0, v3_47)]) (st := [(0, x2)]) dX6_takePairs_72 lk_X6_54 gd_X2_bitOf rfl rfl h hW hF (zb_aI (zb_aI zb_a0)) (Nat.le_refl _) (Nat.le_of_ble_eq_true rfl) (fun r72 h => ?_)
          show zb_WP _ _ _ _ [(0, r72), (0, x2)] _ _ _ _
          refine zb_ishr dX6_takePairs_75 ?_
          refine zb_iconst dX6_takePairs_76 (zb_inIc rfl) ?_
          refine zb_iand dX6_takePairs_77 ?_
          refine zb_istore (L' := [(5, (0, (zb_and (zb_shr x2 r72) 1))), (0, (2, x0)), (1, (0, x1)), (2, (0, x2)), (3, (0, v3_47)), (4, (0, v4_62))]) dX6_takePairs_78 (by decide) rfl ?_
          refine zb_aload_n (j := 1) dX6_takePairs_80 rfl rfl ?_
          refine zb_iload_n (j := 4) dX6_takePairs_81 rfl rfl ?_
          refine zb_iload (j := 5) dX6_takePairs_82 rfl ?_
          refine zb_iload (j := 0) dX6_takePairs_84 rfl ?_
          refine zb_cV (As := [(0, v3_47), (0, v4_62), (0, (zb_and (zb_shr x2 r72) 1))]) (As' := [(0, (zb_and (zb_shr x2 r72) 1)), (0, v4_62), (0, v3_47)]) (st := []) dX6_takePairs_86 lk_X6_50 gd_X6_setLine rfl rfl i_0 ⟨_, rfl, rfl⟩ h hW hF (zb_aR i_0 (zb_aI (zb_aI (zb_aI zb_a0)))) (Nat.le_refl _) (Nat.le_of_ble_eq_true rfl) (fun r86 m86 hF h => ?_)
          show zb_WP _ _ _ _ [] _ _ _ _
          refine zb_aload_n (j := 1) dX6_takePairs_89 rfl rfl ?_
          refine zb_iload (j := 5) dX6_takePairs_90 rfl ?_
          refine zb_iload_n (j := 4) dX6_takePairs_92 rfl rfl ?_
          refine zb_iload (j := 0) dX6_takePairs_93 rfl ?_
          refine zb_cV (As := [(0, v4_62), (0, v3_47), (0, (zb_and (zb_shr x2 r72) 1))]) (As' := [(0, (zb_and (zb_shr x2 r72) 1)), (0, v3_47), (0, v4_62)]) (st := []) dX6_takePairs_95 lk_X6_50 gd_X6_setLine rfl rfl i_0 ⟨_, rfl, rfl⟩ h hW hF (zb_aR i_0 (zb_aI (zb_aI (zb_aI zb_a0)))) (Nat.le_refl _) (Nat.le_of_ble_eq_true rfl) (fun r95 m95 hF h => ?_)
          show zb_WP _ _ _ _ [] _ _ _ _
          obtain ⟨o4, h⟩ := h
          refine zb_iinc (j := 5) (L' := [(4, (0, (v4_62 + 1))), (5, (0, (zb_and (zb_shr x2 r72) 1))), (0, (2, x0)), (1, (0, x1)), (2, (0, x2)), (3, (0, v3_47))]) dX6_takePairs_98 rfl o4 (by decide) rfl ?_
          refine zb_goto (tgt := 62) dX6_takePairs_101 (by decide) ?_
          refine zb_sub (L' := [(0, (2, x0)), (1, (0, x1)), (2, (0, x2)), (3, (0, v3_47)), (4, (0, (v4_62 + 1)))]) [2, 3, 4, 5, 0] rfl ?_
          exact (hX62 _ _).mp h hF
    unfold PL_X6_takePairs_28 at h
    obtain ⟨X28, hX28⟩ : ∃ X : Int → zb_M → Prop, ∀ (v3_28 : Int) (m28l : zb_M), (X v3_28 m28l ↔ (zb_FIN E m28l → zb_WP (G, C, d + 1, 0, 0, zb_q E Q) F_X6_takePairs 28 [(0, (2, x0)), (1, (0, x1)), (2, (0, x2)), (3, (0, v3_28))] [] E.1 m28l 0 0)) := ⟨fun v3_28 m28l => zb_FIN E m28l → zb_WP (G, C, d + 1, 0, 0, zb_q E Q) F_X6_takePairs 28 [(0, (2, x0)), (1, (0, x1)), (2, (0, x2)), (3, (0, v3_28))] [] E.1 m28l 0 0, fun _ _ => Iff.rfl⟩
    refine (hX28 _ _).mp (h X28 (fun v3_28 m28l h => (hX28 _ _).mpr (fun hF => ?_))) hF
    refine zb_iload_n (j := 3) dX6_takePairs_28 rfl rfl ?_
    refine zb_iload_n (j := 1) dX6_takePairs_29 rfl rfl ?_
    refine zb_icmp_ge (tgt := 45) dX6_takePairs_30 (by decide) (fun c5 => ?_) (fun c5 => ?_)
    · have h := h.1 c5
      refine zb_sub (L' := [(0, (2, x0)), (1, (0, x1)), (2, (0, x2))]) [0, 1, 2] rfl ?_
      exact hJ45 _ hF h
    · have h := h.2 c5
      refine zb_aload_n (j := 0) dX6_takePairs_33 rfl rfl ?_
      refine zb_iload_n (j := 3) dX6_takePairs_34 rfl rfl ?_
      refine zb_iconst dX6_takePairs_35 (zb_inIc rfl) ?_
      refine zb_cV (As := [(0, v3_28), (0, 0)]) (As' := [(0, 0), (0, v3_28)]) (st := []) dX6_takePairs_36 lk_X6_42 gd_X6_addThing rfl rfl i_0 ⟨_, rfl, rfl⟩ h hW hF (zb_aR i_0 (zb_aI (zb_aI zb_a0))) (Nat.le_refl _) (Nat.le_of_ble_eq_true rfl) (fun r36 m36 hF h => ?_)
      show zb_WP _ _ _ _ [] _ _ _ _
      obtain ⟨o6, h⟩ := h
      refine zb_iinc (j := 3) (L' := [(3, (0, (v3_28 + 1))), (0, (2, x0)), (1, (0, x1)), (2, (0, x2))]) dX6_takePairs_39 rfl o6 (by decide) rfl ?_
      refine zb_goto (tgt := 28) dX6_takePairs_42 (by decide) ?_
      refine zb_sub (L' := [(0, (2, x0)), (1, (0, x1)), (2, (0, x2)), (3, (0, (v3_28 + 1)))]) [1, 2, 3, 0] rfl ?_
      exact (hX28 _ _).mp h hF
  unfold PL_X6_takePairs_7 at h
  obtain ⟨X7, hX7⟩ : ∃ X : Int → zb_M → Prop, ∀ (v3_7 : Int) (m7l : zb_M), (X v3_7 m7l ↔ (zb_FIN E m7l → zb_WP (G, C, d + 1, 0, 0, zb_q E Q) F_X6_takePairs 7 [(0, (2, x0)), (1, (0, x1)), (2, (0, x2)), (3, (0, v3_7))] [] E.1 m7l 0 0)) := ⟨fun v3_7 m7l => zb_FIN E m7l → zb_WP (G, C, d + 1, 0, 0, zb_q E Q) F_X6_takePairs 7 [(0, (2, x0)), (1, (0, x1)), (2, (0, x2)), (3, (0, v3_7))] [] E.1 m7l 0 0, fun _ _ => Iff.rfl⟩
  refine (hX7 _ _).mp (h X7 (fun v3_7 m7l h => (hX7 _ _).mpr (fun hF => ?_))) hF
  refine zb_iload_n (j := 3) dX6_takePairs_7 rfl rfl ?_
  refine zb_bipush dX6_takePairs_8 (by decide) (zb_inIc rfl) ?_
  refine zb_icmp_ge (tgt := 26) dX6_takePairs_10 (by decide) (fun c7 => ?_) (fun c7 => ?_)
  · have h := h.1 c7
    refine zb_sub (L' := [(0, (2, x0)), (1, (0, x1)), (2, (0, x2))]) [0, 1, 2] rfl ?_
    exact hJ26 _ hF h
  · have h := h.2 c7
    refine zb_aload_n (j := 0) dX6_takePairs_13 rfl rfl ?_
    refine zb_gFa 2 dX6_takePairs_14 fl_X6_15 i_0 hW hF rfl rfl rfl (by decide) rfl 12 rfl (fun i8 l9 => ?_)
    refine zb_iload_n (j := 3) dX6_takePairs_17 rfl rfl ?_
    refine zb_iconst dX6_takePairs_18 (zb_inIc rfl) ?_
    obtain ⟨o10, h⟩ := h
    refine zb_sI dX6_takePairs_19 i8 l9 o10.1 o10.2 hF (fun m19 e19 hF => ?_)
    have h := h m19 e19
    obtain ⟨o11, h⟩ := h
    refine zb_iinc (j := 3) (L' := [(3, (0, (v3_7 + 1))), (0, (2, x0)), (1, (0, x1)), (2, (0, x2))]) dX6_takePairs_20 rfl o11 (by decide) rfl ?_
    refine zb_goto (tgt := 7) dX6_takePairs_23 (by decide) ?_
    refine zb_sub (L' := [(0, (2, x0)), (1, (0, x1)), (2, (0, x2)), (3, (0, (v3_7 + 1)))]) [1, 2, 3, 0] rfl ?_
    exact (hX7 _ _).mp h hF
theorem dX6_addThing_0 : decode cX6_addThing 0 = .ok (.aload_n 0, 1) := by decide +kernel
theorem dX6_addThing_1 : decode cX6_addThing 1 = .ok (.getfield 9, 3) := by decide +kernel
theorem dX6_addThing_4 : decode cX6_addThing 4 = .ok (.aload_n 0, 1) := by decide +kernel
theorem dX6_addThing_5 : decode cX6_addThing 5 = .ok (.getfield 28, 3) := by decide +kernel
theorem dX6_addThing_8 : decode cX6_addThing 8 = .ok (.iload_n 1, 1) := by decide +kernel
theorem dX6_addThing_9 : decode cX6_addThing 9 = .ok (.iastore, 1) := by decide +kernel
theorem dX6_addThing_10 : decode cX6_addThing 10 = .ok (.aload_n 0, 1) := by decide +kernel
theorem dX6_addThing_11 : decode cX6_addThing 11 = .ok (.getfield 15, 3) := by decide +kernel
theorem dX6_addThing_14 : decode cX6_addThing 14 = .ok (.iload_n 1, 1) := by decide +kernel
theorem dX6_addThing_15 : decode cX6_addThing 15 = .ok (.aload_n 0, 1) := by decide +kernel
theorem dX6_addThing_16 : decode cX6_addThing 16 = .ok (.getfield 28, 3) := by decide +kernel
theorem dX6_addThing_19 : decode cX6_addThing 19 = .ok (.iastore, 1) := by decide +kernel
theorem dX6_addThing_20 : decode cX6_addThing 20 = .ok (.aload_n 0, 1) := by decide +kernel
theorem dX6_addThing_21 : decode cX6_addThing 21 = .ok (.getfield 18, 3) := by decide +kernel
theorem dX6_addThing_24 : decode cX6_addThing 24 = .ok (.aload_n 0, 1) := by decide +kernel
theorem dX6_addThing_25 : decode cX6_addThing 25 = .ok (.getfield 28, 3) := by decide +kernel
theorem dX6_addThing_28 : decode cX6_addThing 28 = .ok (.iload_n 2, 1) := by decide +kernel
theorem dX6_addThing_29 : decode cX6_addThing 29 = .ok (.iastore, 1) := by decide +kernel
theorem dX6_addThing_30 : decode cX6_addThing 30 = .ok (.aload_n 0, 1) := by decide +kernel
theorem dX6_addThing_31 : decode cX6_addThing 31 = .ok (.dup, 1) := by decide +kernel
theorem dX6_addThing_32 : decode cX6_addThing 32 = .ok (.getfield 28, 3) := by decide +kernel
theorem dX6_addThing_35 : decode cX6_addThing 35 = .ok (.iconst 1, 1) := by decide +kernel
theorem dX6_addThing_36 : decode cX6_addThing 36 = .ok (.iadd, 1) := by decide +kernel
theorem dX6_addThing_37 : decode cX6_addThing 37 = .ok (.putfield 28, 3) := by decide +kernel
theorem dX6_addThing_40 : decode cX6_addThing 40 = .ok (.return_, 1) := by decide +kernel
def PM_X6_addThing (d : Nat) (E : zb_E) (x0 : Int) (x1 : Int) (x2 : Int) (m : zb_M) (Q : Int → zb_M → Prop) : Prop :=
  (0 ≤ (m x0 0) ∧ (m x0 0) < 12) ∧ (∀ m9, m9 = zb_up m (E.2 x0 1) (m x0 0) x1 → ((0 ≤ x1 ∧ x1 < 12) ∧ (∀ m19, m19 = zb_up m9 (E.2 x0 2) x1 (m9 x0 0) → ((0 ≤ (m19 x0 0) ∧ (m19 x0 0) < 12) ∧ (∀ m29, m29 = zb_up m19 (E.2 x0 3) (m19 x0 0) x2 → ((zb_inI ((m29 x0 0) + 1)) ∧ (∀ m37, m37 = zb_up m29 x0 0 ((m29 x0 0) + 1) → (Q 0 m37))))))))
set_option maxRecDepth 100000 in
set_option maxHeartbeats 4000000 in
theorem w_X6_addThing {d : Nat} {E : zb_E} {x0 x1 x2 : Int} {m : zb_M} {Q : Int → zb_M → Prop} (h : PM_X6_addThing d E x0 x1 x2 m Q) : zb_T K_X6_addThing (d + 1) [(2, x0), (0, x1), (0, x2)] E m Q := by
  unfold PM_X6_addThing at h
  refine zb_T_in gd_X6_addThing rfl rfl (fun hW hA G C hF => ?_)
  have i_0 : zb_is E.1 x0 6 := zb_aH hA (by decide)
  show zb_WP _ _ 0 [(0, (2, x0)), (1, (0, x1)), (2, (0, x2))] [] _ _ _ _
  refine zb_aload_n (j := 0) dX6_addThing_0 rfl rfl ?_
  refine zb_gFa 1 dX6_addThing_1 fl_X6_9 i_0 hW hF rfl rfl rfl (by decide) rfl 12 rfl (fun i1 l2 => ?_)
  refine zb_aload_n (j := 0) dX6_addThing_4 rfl rfl ?_
  refine zb_gI 0 dX6_addThing_5 fl_X6_28 i_0 rfl rfl ?_
  refine zb_iload_n (j := 1) dX6_addThing_8 rfl rfl ?_
  obtain ⟨o3, h⟩ := h
  refine zb_sI dX6_addThing_9 i1 l2 o3.1 o3.2 hF (fun m9 e9 hF => ?_)
  have h := h m9 e9
  refine zb_aload_n (j := 0) dX6_addThing_10 rfl rfl ?_
  refine zb_gFa 2 dX6_addThing_11 fl_X6_15 i_0 hW hF rfl rfl rfl (by decide) rfl 12 rfl (fun i4 l5 => ?_)
  refine zb_iload_n (j := 1) dX6_addThing_14 rfl rfl ?_
  refine zb_aload_n (j := 0) dX6_addThing_15 rfl rfl ?_
  refine zb_gI 0 dX6_addThing_16 fl_X6_28 i_0 rfl rfl ?_
  obtain ⟨o6, h⟩ := h
  refine zb_sI dX6_addThing_19 i4 l5 o6.1 o6.2 hF (fun m19 e19 hF => ?_)
  have h := h m19 e19
  refine zb_aload_n (j := 0) dX6_addThing_20 rfl rfl ?_
  refine zb_gFa 3 dX6_addThing_21 fl_X6_18 i_0 hW hF rfl rfl rfl (by decide) rfl 12 rfl (fun i7 l8 => ?_)
  refine zb_aload_n (j := 0) dX6_addThing_24 rfl rfl ?_
  refine zb_gI 0 dX6_addThing_25 fl_X6_28 i_0 rfl rfl ?_
  refine zb_iload_n (j := 2) dX6_addThing_28 rfl rfl ?_
  obtain ⟨o9, h⟩ := h
  refine zb_sI dX6_addThing_29 i7 l8 o9.1 o9.2 hF (fun m29 e29 hF => ?_)
  have h := h m29 e29
  refine zb_aload_n (j := 0) dX6_addThing_30 rfl rfl ?_
  refine zb_dup dX6_addThing_31 rfl ?_
  refine zb_gI 0 dX6_addThing_32 fl_X6_28 i_0 rfl rfl ?_
  refine zb_iconst dX6_addThing_35 (zb_inIc rfl) ?_
  obtain ⟨o10, h⟩ := h
  refine zb_iadd dX6_addThing_36 o10 ?_
  refine zb_pF 0 dX6_addThing_37 fl_X6_28 rfl rfl i_0 (Or.inl rfl) hF rfl rfl (fun m37 e37 hF => ?_)
  have h := h m37 e37
  exact zb_rV dX6_addThing_40 rfl hF h
theorem dX6_setLine_0 : decode cX6_setLine 0 = .ok (.aload_n 0, 1) := by decide +kernel
theorem dX6_setLine_1 : decode cX6_setLine 1 = .ok (.getfield 21, 3) := by decide +kernel
theorem dX6_setLine_4 : decode cX6_setLine 4 = .ok (.iload_n 1, 1) := by decide +kernel
theorem dX6_setLine_5 : decode cX6_setLine 5 = .ok (.bipush 12, 2) := by decide +kernel
theorem dX6_setLine_7 : decode cX6_setLine 7 = .ok (.imul, 1) := by decide +kernel
theorem dX6_setLine_8 : decode cX6_setLine 8 = .ok (.iload_n 2, 1) := by decide +kernel
theorem dX6_setLine_9 : decode cX6_setLine 9 = .ok (.iadd, 1) := by decide +kernel
theorem dX6_setLine_10 : decode cX6_setLine 10 = .ok (.iload_n 3, 1) := by decide +kernel
theorem dX6_setLine_11 : decode cX6_setLine 11 = .ok (.iastore, 1) := by decide +kernel
theorem dX6_setLine_12 : decode cX6_setLine 12 = .ok (.aload_n 0, 1) := by decide +kernel
theorem dX6_setLine_13 : decode cX6_setLine 13 = .ok (.getfield 24, 3) := by decide +kernel
theorem dX6_setLine_16 : decode cX6_setLine 16 = .ok (.iload_n 1, 1) := by decide +kernel
theorem dX6_setLine_17 : decode cX6_setLine 17 = .ok (.bipush 12, 2) := by decide +kernel
theorem dX6_setLine_19 : decode cX6_setLine 19 = .ok (.imul, 1) := by decide +kernel
theorem dX6_setLine_20 : decode cX6_setLine 20 = .ok (.iload_n 2, 1) := by decide +kernel
theorem dX6_setLine_21 : decode cX6_setLine 21 = .ok (.iadd, 1) := by decide +kernel
theorem dX6_setLine_22 : decode cX6_setLine 22 = .ok (.iload_n 3, 1) := by decide +kernel
theorem dX6_setLine_23 : decode cX6_setLine 23 = .ok (.ifCond .ne 7, 3) := by decide +kernel
theorem dX6_setLine_26 : decode cX6_setLine 26 = .ok (.lconst 0, 1) := by decide +kernel
theorem dX6_setLine_27 : decode cX6_setLine 27 = .ok (.goto 11, 3) := by decide +kernel
theorem dX6_setLine_30 : decode cX6_setLine 30 = .ok (.lconst 1, 1) := by decide +kernel
theorem dX6_setLine_31 : decode cX6_setLine 31 = .ok (.iconst 4, 1) := by decide +kernel
theorem dX6_setLine_32 : decode cX6_setLine 32 = .ok (.bipush 9, 2) := by decide +kernel
theorem dX6_setLine_34 : decode cX6_setLine 34 = .ok (.iload_n 3, 1) := by decide +kernel
theorem dX6_setLine_35 : decode cX6_setLine 35 = .ok (.isub, 1) := by decide +kernel
theorem dX6_setLine_36 : decode cX6_setLine 36 = .ok (.imul, 1) := by decide +kernel
theorem dX6_setLine_37 : decode cX6_setLine 37 = .ok (.lshl, 1) := by decide +kernel
theorem dX6_setLine_38 : decode cX6_setLine 38 = .ok (.lastore, 1) := by decide +kernel
theorem dX6_setLine_39 : decode cX6_setLine 39 = .ok (.return_, 1) := by decide +kernel
def PM_X6_setLine (d : Nat) (E : zb_E) (x0 : Int) (x1 : Int) (x2 : Int) (x3 : Int) (m : zb_M) (Q : Int → zb_M → Prop) : Prop :=
  (zb_inI (x1 * 12)) ∧ ((zb_inI ((x1 * 12) + x2)) ∧ ((0 ≤ ((x1 * 12) + x2) ∧ ((x1 * 12) + x2) < 144) ∧ (∀ m11, m11 = zb_up m (E.2 x0 4) ((x1 * 12) + x2) x3 → ((x3 = 0 → ∀ m38, m38 = zb_up m11 (E.2 x0 5) ((x1 * 12) + x2) 0 → (Q 0 m38)) ∧ (¬ x3 = 0 → (zb_inI (9 - x3)) ∧ ((zb_inI (4 * (9 - x3))) ∧ (∀ m38, m38 = zb_up m11 (E.2 x0 5) ((x1 * 12) + x2) (zb_lshl 1 (4 * (9 - x3))) → (Q 0 m38))))))))
set_option maxRecDepth 100000 in
set_option maxHeartbeats 4000000 in
theorem w_X6_setLine {d : Nat} {E : zb_E} {x0 x1 x2 x3 : Int} {m : zb_M} {Q : Int → zb_M → Prop} (h : PM_X6_setLine d E x0 x1 x2 x3 m Q) : zb_T K_X6_setLine (d + 1) [(2, x0), (0, x1), (0, x2), (0, x3)] E m Q := by
  unfold PM_X6_setLine at h
  refine zb_T_in gd_X6_setLine rfl rfl (fun hW hA G C hF => ?_)
  have i_0 : zb_is E.1 x0 6 := zb_aH hA (by decide)
  show zb_WP _ _ 0 [(0, (2, x0)), (1, (0, x1)), (2, (0, x2)), (3, (0, x3))] [] _ _ _ _
  refine zb_aload_n (j := 0) dX6_setLine_0 rfl rfl ?_
  refine zb_gFa 4 dX6_setLine_1 fl_X6_21 i_0 hW hF rfl rfl rfl (by decide) rfl 144 rfl (fun i1 l2 => ?_)
  refine zb_iload_n (j := 1) dX6_setLine_4 rfl rfl ?_
  refine zb_bipush dX6_setLine_5 (by decide) (zb_inIc rfl) ?_
  obtain ⟨o3, h⟩ := h
  refine zb_imul dX6_setLine_7 o3 ?_
  refine zb_iload_n (j := 2) dX6_setLine_8 rfl rfl ?_
  obtain ⟨o4, h⟩ := h
  refine zb_iadd dX6_setLine_9 o4 ?_
  refine zb_iload_n (j := 3) dX6_setLine_10 rfl rfl ?_
  obtain ⟨o5, h⟩ := h
  refine zb_sI dX6_setLine_11 i1 l2 o5.1 o5.2 hF (fun m11 e11 hF => ?_)
  have h := h m11 e11
  refine zb_aload_n (j := 0) dX6_setLine_12 rfl rfl ?_
  refine zb_gFa 5 dX6_setLine_13 fl_X6_24 i_0 hW hF rfl rfl rfl (by decide) rfl 144 rfl (fun i6 l7 => ?_)
  refine zb_iload_n (j := 1) dX6_setLine_16 rfl rfl ?_
  refine zb_bipush dX6_setLine_17 (by decide) (zb_inIc rfl) ?_
  refine zb_imul dX6_setLine_19 o3 ?_
  refine zb_iload_n (j := 2) dX6_setLine_20 rfl rfl ?_
  refine zb_iadd dX6_setLine_21 o4 ?_
  refine zb_iload_n (j := 3) dX6_setLine_22 rfl rfl ?_
  refine zb_if_ne (tgt := 30) dX6_setLine_23 (by decide) (fun c8 => ?_) (fun c8 => ?_)
  · have h := h.2 c8
    refine zb_lconst dX6_setLine_30 rfl ?_
    refine zb_iconst dX6_setLine_31 (zb_inIc rfl) ?_
    refine zb_bipush dX6_setLine_32 (by decide) (zb_inIc rfl) ?_
    refine zb_iload_n (j := 3) dX6_setLine_34 rfl rfl ?_
    obtain ⟨o9, h⟩ := h
    refine zb_isub dX6_setLine_35 o9 ?_
    obtain ⟨o10, h⟩ := h
    refine zb_imul dX6_setLine_36 o10 ?_
    refine zb_lshlr dX6_setLine_37 ?_
    refine zb_sL dX6_setLine_38 i6 l7 o5.1 o5.2 hF (fun m38 e38 hF => ?_)
    have h := h m38 e38
    exact zb_rV dX6_setLine_39 rfl hF h
  · have h := h.1 c8
    refine zb_lconst dX6_setLine_26 rfl ?_
    refine zb_goto (tgt := 38) dX6_setLine_27 (by decide) ?_
    refine zb_sL dX6_setLine_38 i6 l7 o5.1 o5.2 hF (fun m38 e38 hF => ?_)
    have h := h m38 e38
    exact zb_rV dX6_setLine_39 rfl hF h
theorem dX6_lineFrom_0 : decode cX6_lineFrom 0 = .ok (.aload_n 0, 1) := by decide +kernel
theorem dX6_lineFrom_1 : decode cX6_lineFrom 1 = .ok (.getfield 21, 3) := by decide +kernel
theorem dX6_lineFrom_4 : decode cX6_lineFrom 4 = .ok (.iload_n 1, 1) := by decide +kernel
theorem dX6_lineFrom_5 : decode cX6_lineFrom 5 = .ok (.bipush 12, 2) := by decide +kernel
theorem dX6_lineFrom_7 : decode cX6_lineFrom 7 = .ok (.imul, 1) := by decide +kernel
theorem dX6_lineFrom_8 : decode cX6_lineFrom 8 = .ok (.iload_n 2, 1) := by decide +kernel
theorem dX6_lineFrom_9 : decode cX6_lineFrom 9 = .ok (.iadd, 1) := by decide +kernel
theorem dX6_lineFrom_10 : decode cX6_lineFrom 10 = .ok (.iaload, 1) := by decide +kernel
theorem dX6_lineFrom_11 : decode cX6_lineFrom 11 = .ok (.ireturn, 1) := by decide +kernel
def PM_X6_lineFrom (d : Nat) (E : zb_E) (x0 : Int) (x1 : Int) (x2 : Int) (m : zb_M) (Q : Int → Prop) : Prop :=
  (zb_inI (x1 * 12)) ∧ ((zb_inI ((x1 * 12) + x2)) ∧ ((0 ≤ ((x1 * 12) + x2) ∧ ((x1 * 12) + x2) < 144) ∧ (Q (m (E.2 x0 4) ((x1 * 12) + x2)))))
set_option maxRecDepth 100000 in
set_option maxHeartbeats 4000000 in
theorem w_X6_lineFrom {d : Nat} {E : zb_E} {x0 x1 x2 : Int} {m : zb_M} {Q : Int → Prop} (h : PM_X6_lineFrom d E x0 x1 x2 m Q) : zb_Tp K_X6_lineFrom (d + 1) [(2, x0), (0, x1), (0, x2)] E m Q := by
  unfold PM_X6_lineFrom at h
  refine zb_T_in gd_X6_lineFrom rfl rfl (fun hW hA G C hF => ?_)
  have i_0 : zb_is E.1 x0 6 := zb_aH hA (by decide)
  show zb_WP _ _ 0 [(0, (2, x0)), (1, (0, x1)), (2, (0, x2))] [] _ _ _ _
  refine zb_aload_n (j := 0) dX6_lineFrom_0 rfl rfl ?_
  refine zb_gFa 4 dX6_lineFrom_1 fl_X6_21 i_0 hW hF rfl rfl rfl (by decide) rfl 144 rfl (fun i1 l2 => ?_)
  refine zb_iload_n (j := 1) dX6_lineFrom_4 rfl rfl ?_
  refine zb_bipush dX6_lineFrom_5 (by decide) (zb_inIc rfl) ?_
  obtain ⟨o3, h⟩ := h
  refine zb_imul dX6_lineFrom_7 o3 ?_
  refine zb_iload_n (j := 2) dX6_lineFrom_8 rfl rfl ?_
  obtain ⟨o4, h⟩ := h
  refine zb_iadd dX6_lineFrom_9 o4 ?_
  obtain ⟨o5, h⟩ := h
  refine zb_lI dX6_lineFrom_10 i1 l2 o5.1 o5.2 ?_
  exact zb_rI dX6_lineFrom_11 rfl hF ⟨rfl, h⟩
theorem dX6_indexOf_0 : decode cX6_indexOf 0 = .ok (.iload_n 1, 1) := by decide +kernel
theorem dX6_indexOf_1 : decode cX6_indexOf 1 = .ok (.bipush 12, 2) := by decide +kernel
theorem dX6_indexOf_3 : decode cX6_indexOf 3 = .ok (.invokestatic 59, 3) := by decide +kernel
theorem dX6_indexOf_6 : decode cX6_indexOf 6 = .ok (.ifCond .eq 12, 3) := by decide +kernel
theorem dX6_indexOf_9 : decode cX6_indexOf 9 = .ok (.aload_n 0, 1) := by decide +kernel
theorem dX6_indexOf_10 : decode cX6_indexOf 10 = .ok (.getfield 15, 3) := by decide +kernel
theorem dX6_indexOf_13 : decode cX6_indexOf 13 = .ok (.iload_n 1, 1) := by decide +kernel
theorem dX6_indexOf_14 : decode cX6_indexOf 14 = .ok (.iaload, 1) := by decide +kernel
theorem dX6_indexOf_15 : decode cX6_indexOf 15 = .ok (.goto 4, 3) := by decide +kernel
theorem dX6_indexOf_18 : decode cX6_indexOf 18 = .ok (.iconst (-1), 1) := by decide +kernel
theorem dX6_indexOf_19 : decode cX6_indexOf 19 = .ok (.ireturn, 1) := by decide +kernel
def PM_X6_indexOf (d : Nat) (E : zb_E) (x0 : Int) (x1 : Int) (m : zb_M) (Q : Int → Prop) : Prop :=
  zb_Tp K_X11_isBelow d [(0, x1), (0, 12)] E m (fun r3 => (r3 = 0 → Q (-1)) ∧ (¬ r3 = 0 → (0 ≤ x1 ∧ x1 < 12) ∧ (Q (m (E.2 x0 2) x1))))
set_option maxRecDepth 100000 in
set_option maxHeartbeats 4000000 in
theorem w_X6_indexOf {d : Nat} {E : zb_E} {x0 x1 : Int} {m : zb_M} {Q : Int → Prop} (h : PM_X6_indexOf d E x0 x1 m Q) : zb_Tp K_X6_indexOf (d + 1) [(2, x0), (0, x1)] E m Q := by
  unfold PM_X6_indexOf at h
  refine zb_T_in gd_X6_indexOf rfl rfl (fun hW hA G C hF => ?_)
  have i_0 : zb_is E.1 x0 6 := zb_aH hA (by decide)
  show zb_WP _ _ 0 [(0, (2, x0)), (1, (0, x1))] [] _ _ _ _
  refine zb_iload_n (j := 1) dX6_indexOf_0 rfl rfl ?_
  refine zb_bipush dX6_indexOf_1 (by decide) (zb_inIc rfl) ?_
  refine zb_cNp (As := [(0, x1), (0, 12)]) (As' := [(0, 12), (0, x1)]) (st := []) dX6_indexOf_3 lk_X6_59 gd_X11_isBelow rfl rfl h hW hF (zb_aI (zb_aI zb_a0)) (Nat.le_refl _) (Nat.le_of_ble_eq_true rfl) (fun r3 h => ?_)
  show zb_WP _ _ _ _ [(0, r3)] _ _ _ _
  refine zb_if_eq (tgt := 18) dX6_indexOf_6 (by decide) (fun c1 => ?_) (fun c1 => ?_)
  · have h := h.1 c1
    refine zb_iconst dX6_indexOf_18 (zb_inIc rfl) ?_
    exact zb_rI dX6_indexOf_19 rfl hF ⟨rfl, h⟩
  · have h := h.2 c1
    refine zb_aload_n (j := 0) dX6_indexOf_9 rfl rfl ?_
    refine zb_gFa 2 dX6_indexOf_10 fl_X6_15 i_0 hW hF rfl rfl rfl (by decide) rfl 12 rfl (fun i2 l3 => ?_)
    refine zb_iload_n (j := 1) dX6_indexOf_13 rfl rfl ?_
    obtain ⟨o4, h⟩ := h
    refine zb_lI dX6_indexOf_14 i2 l3 o4.1 o4.2 ?_
    refine zb_goto (tgt := 19) dX6_indexOf_15 (by decide) ?_
    exact zb_rI dX6_indexOf_19 rfl hF ⟨rfl, h⟩
theorem dX6_areTwins_0 : decode cX6_areTwins 0 = .ok (.aload_n 0, 1) := by decide +kernel
theorem dX6_areTwins_1 : decode cX6_areTwins 1 = .ok (.getfield 18, 3) := by decide +kernel
theorem dX6_areTwins_4 : decode cX6_areTwins 4 = .ok (.iload_n 1, 1) := by decide +kernel
theorem dX6_areTwins_5 : decode cX6_areTwins 5 = .ok (.iaload, 1) := by decide +kernel
theorem dX6_areTwins_6 : decode cX6_areTwins 6 = .ok (.aload_n 0, 1) := by decide +kernel
theorem dX6_areTwins_7 : decode cX6_areTwins 7 = .ok (.getfield 18, 3) := by decide +kernel
theorem dX6_areTwins_10 : decode cX6_areTwins 10 = .ok (.iload_n 2, 1) := by decide +kernel
theorem dX6_areTwins_11 : decode cX6_areTwins 11 = .ok (.iaload, 1) := by decide +kernel
theorem dX6_areTwins_12 : decode cX6_areTwins 12 = .ok (.if_icmp .ne 33, 3) := by decide +kernel
theorem dX6_areTwins_15 : decode cX6_areTwins 15 = .ok (.aload_n 0, 1) := by decide +kernel
theorem dX6_areTwins_16 : decode cX6_areTwins 16 = .ok (.iload_n 1, 1) := by decide +kernel
theorem dX6_areTwins_17 : decode cX6_areTwins 17 = .ok (.iload_n 1, 1) := by decide +kernel
theorem dX6_areTwins_18 : decode cX6_areTwins 18 = .ok (.invokevirtual 63, 3) := by decide +kernel
theorem dX6_areTwins_21 : decode cX6_areTwins 21 = .ok (.aload_n 0, 1) := by decide +kernel
theorem dX6_areTwins_22 : decode cX6_areTwins 22 = .ok (.iload_n 2, 1) := by decide +kernel
theorem dX6_areTwins_23 : decode cX6_areTwins 23 = .ok (.iload_n 2, 1) := by decide +kernel
theorem dX6_areTwins_24 : decode cX6_areTwins 24 = .ok (.invokevirtual 63, 3) := by decide +kernel
theorem dX6_areTwins_27 : decode cX6_areTwins 27 = .ok (.if_icmp .ne 18, 3) := by decide +kernel
theorem dX6_areTwins_30 : decode cX6_areTwins 30 = .ok (.aload_n 0, 1) := by decide +kernel
theorem dX6_areTwins_31 : decode cX6_areTwins 31 = .ok (.iload_n 1, 1) := by decide +kernel
theorem dX6_areTwins_32 : decode cX6_areTwins 32 = .ok (.iload_n 2, 1) := by decide +kernel
theorem dX6_areTwins_33 : decode cX6_areTwins 33 = .ok (.invokevirtual 63, 3) := by decide +kernel
theorem dX6_areTwins_36 : decode cX6_areTwins 36 = .ok (.aload_n 0, 1) := by decide +kernel
theorem dX6_areTwins_37 : decode cX6_areTwins 37 = .ok (.iload_n 2, 1) := by decide +kernel
theorem dX6_areTwins_38 : decode cX6_areTwins 38 = .ok (.iload_n 1, 1) := by decide +kernel
theorem dX6_areTwins_39 : decode cX6_areTwins 39 = .ok (.invokevirtual 63, 3) := by decide +kernel
theorem dX6_areTwins_42 : decode cX6_areTwins 42 = .ok (.if_icmp .eq 5, 3) := by decide +kernel
theorem dX6_areTwins_45 : decode cX6_areTwins 45 = .ok (.iconst 0, 1) := by decide +kernel
theorem dX6_areTwins_46 : decode cX6_areTwins 46 = .ok (.ireturn, 1) := by decide +kernel
theorem dX6_areTwins_47 : decode cX6_areTwins 47 = .ok (.iconst 0, 1) := by decide +kernel
theorem dX6_areTwins_48 : decode cX6_areTwins 48 = .ok (.istore_n 3, 1) := by decide +kernel
theorem dX6_areTwins_49 : decode cX6_areTwins 49 = .ok (.iload_n 3, 1) := by decide +kernel
theorem dX6_areTwins_50 : decode cX6_areTwins 50 = .ok (.aload_n 0, 1) := by decide +kernel
theorem dX6_areTwins_51 : decode cX6_areTwins 51 = .ok (.getfield 28, 3) := by decide +kernel
theorem dX6_areTwins_54 : decode cX6_areTwins 54 = .ok (.if_icmp .ge 54, 3) := by decide +kernel
theorem dX6_areTwins_57 : decode cX6_areTwins 57 = .ok (.iload_n 3, 1) := by decide +kernel
theorem dX6_areTwins_58 : decode cX6_areTwins 58 = .ok (.iload_n 1, 1) := by decide +kernel
theorem dX6_areTwins_59 : decode cX6_areTwins 59 = .ok (.if_icmp .eq 43, 3) := by decide +kernel
theorem dX6_areTwins_62 : decode cX6_areTwins 62 = .ok (.iload_n 3, 1) := by decide +kernel
theorem dX6_areTwins_63 : decode cX6_areTwins 63 = .ok (.iload_n 2, 1) := by decide +kernel
theorem dX6_areTwins_64 : decode cX6_areTwins 64 = .ok (.if_icmp .ne 6, 3) := by decide +kernel
theorem dX6_areTwins_67 : decode cX6_areTwins 67 = .ok (.goto 35, 3) := by decide +kernel
theorem dX6_areTwins_70 : decode cX6_areTwins 70 = .ok (.aload_n 0, 1) := by decide +kernel
theorem dX6_areTwins_71 : decode cX6_areTwins 71 = .ok (.iload_n 1, 1) := by decide +kernel
theorem dX6_areTwins_72 : decode cX6_areTwins 72 = .ok (.iload_n 3, 1) := by decide +kernel
theorem dX6_areTwins_73 : decode cX6_areTwins 73 = .ok (.invokevirtual 63, 3) := by decide +kernel
theorem dX6_areTwins_76 : decode cX6_areTwins 76 = .ok (.aload_n 0, 1) := by decide +kernel
theorem dX6_areTwins_77 : decode cX6_areTwins 77 = .ok (.iload_n 2, 1) := by decide +kernel
theorem dX6_areTwins_78 : decode cX6_areTwins 78 = .ok (.iload_n 3, 1) := by decide +kernel
theorem dX6_areTwins_79 : decode cX6_areTwins 79 = .ok (.invokevirtual 63, 3) := by decide +kernel
theorem dX6_areTwins_82 : decode cX6_areTwins 82 = .ok (.if_icmp .ne 18, 3) := by decide +kernel
theorem dX6_areTwins_85 : decode cX6_areTwins 85 = .ok (.aload_n 0, 1) := by decide +kernel
theorem dX6_areTwins_86 : decode cX6_areTwins 86 = .ok (.iload_n 3, 1) := by decide +kernel
theorem dX6_areTwins_87 : decode cX6_areTwins 87 = .ok (.iload_n 1, 1) := by decide +kernel
theorem dX6_areTwins_88 : decode cX6_areTwins 88 = .ok (.invokevirtual 63, 3) := by decide +kernel
theorem dX6_areTwins_91 : decode cX6_areTwins 91 = .ok (.aload_n 0, 1) := by decide +kernel
theorem dX6_areTwins_92 : decode cX6_areTwins 92 = .ok (.iload_n 3, 1) := by decide +kernel
theorem dX6_areTwins_93 : decode cX6_areTwins 93 = .ok (.iload_n 2, 1) := by decide +kernel
theorem dX6_areTwins_94 : decode cX6_areTwins 94 = .ok (.invokevirtual 63, 3) := by decide +kernel
theorem dX6_areTwins_97 : decode cX6_areTwins 97 = .ok (.if_icmp .eq 5, 3) := by decide +kernel
theorem dX6_areTwins_100 : decode cX6_areTwins 100 = .ok (.iconst 0, 1) := by decide +kernel
theorem dX6_areTwins_101 : decode cX6_areTwins 101 = .ok (.ireturn, 1) := by decide +kernel
theorem dX6_areTwins_102 : decode cX6_areTwins 102 = .ok (.iinc 3 1, 3) := by decide +kernel
theorem dX6_areTwins_105 : decode cX6_areTwins 105 = .ok (.goto (-56), 3) := by decide +kernel
theorem dX6_areTwins_108 : decode cX6_areTwins 108 = .ok (.iconst 1, 1) := by decide +kernel
theorem dX6_areTwins_109 : decode cX6_areTwins 109 = .ok (.ireturn, 1) := by decide +kernel
def PL_X6_areTwins_49 (d : Nat) (E : zb_E) (x0 : Int) (x1 : Int) (x2 : Int) (m : zb_M) (Q : Int → Prop)  (v3_49 : Int) : Prop :=
  ∀ X49 : Int → Prop, (∀ (v3_49 : Int), (((m x0 0) ≤ v3_49 → Q 1) ∧ (¬ (m x0 0) ≤ v3_49 → (v3_49 = x1 → (zb_inI (v3_49 + 1)) ∧ (X49 (v3_49 + 1))) ∧ (¬ v3_49 = x1 → (v3_49 = x2 → (zb_inI (v3_49 + 1)) ∧ (X49 (v3_49 + 1))) ∧ (¬ v3_49 = x2 → zb_Tp K_X6_lineFrom d [(2, x0), (0, x1), (0, v3_49)] E m (fun r73 => zb_Tp K_X6_lineFrom d [(2, x0), (0, x2), (0, v3_49)] E m (fun r79 => (r73 = r79 → zb_Tp K_X6_lineFrom d [(2, x0), (0, v3_49), (0, x1)] E m (fun r88 => zb_Tp K_X6_lineFrom d [(2, x0), (0, v3_49), (0, x2)] E m (fun r94 => (r88 = r94 → (zb_inI (v3_49 + 1)) ∧ (X49 (v3_49 + 1))) ∧ (¬ r88 = r94 → Q 0)))) ∧ (¬ r73 = r79 → Q 0))))))) → X49 v3_49) → X49 v3_49
def PM_X6_areTwins (d : Nat) (E : zb_E) (x0 : Int) (x1 : Int) (x2 : Int) (m : zb_M) (Q : Int → Prop) : Prop :=
  (0 ≤ x1 ∧ x1 < 12) ∧ ((0 ≤ x2 ∧ x2 < 12) ∧ (((m (E.2 x0 3) x1) = (m (E.2 x0 3) x2) → zb_Tp K_X6_lineFrom d [(2, x0), (0, x1), (0, x1)] E m (fun r18 => zb_Tp K_X6_lineFrom d [(2, x0), (0, x2), (0, x2)] E m (fun r24 => (r18 = r24 → zb_Tp K_X6_lineFrom d [(2, x0), (0, x1), (0, x2)] E m (fun r33 => zb_Tp K_X6_lineFrom d [(2, x0), (0, x2), (0, x1)] E m (fun r39 => (r33 = r39 → PL_X6_areTwins_49 d E x0 x1 x2 m Q 0) ∧ (¬ r33 = r39 → Q 0)))) ∧ (¬ r18 = r24 → Q 0)))) ∧ (¬ (m (E.2 x0 3) x1) = (m (E.2 x0 3) x2) → Q 0)))
set_option maxRecDepth 100000 in
set_option maxHeartbeats 4000000 in
theorem w_X6_areTwins {d : Nat} {E : zb_E} {x0 x1 x2 : Int} {m : zb_M} {Q : Int → Prop} (h : PM_X6_areTwins d E x0 x1 x2 m Q) : zb_Tp K_X6_areTwins (d + 1) [(2, x0), (0, x1), (0, x2)] E m Q := by
  unfold PM_X6_areTwins at h
  refine zb_T_in gd_X6_areTwins rfl rfl (fun hW hA G C hF => ?_)
  have i_0 : zb_is E.1 x0 6 := zb_aH hA (by decide)
  show zb_WP _ _ 0 [(0, (2, x0)), (1, (0, x1)), (2, (0, x2))] [] _ _ _ _
  refine zb_aload_n (j := 0) dX6_areTwins_0 rfl rfl ?_
  refine zb_gFa 3 dX6_areTwins_1 fl_X6_18 i_0 hW hF rfl rfl rfl (by decide) rfl 12 rfl (fun i1 l2 => ?_)
  refine zb_iload_n (j := 1) dX6_areTwins_4 rfl rfl ?_
  obtain ⟨o3, h⟩ := h
  refine zb_lI dX6_areTwins_5 i1 l2 o3.1 o3.2 ?_
  refine zb_aload_n (j := 0) dX6_areTwins_6 rfl rfl ?_
  refine zb_gFa 3 dX6_areTwins_7 fl_X6_18 i_0 hW hF rfl rfl rfl (by decide) rfl 12 rfl (fun i4 l5 => ?_)
  refine zb_iload_n (j := 2) dX6_areTwins_10 rfl rfl ?_
  obtain ⟨o6, h⟩ := h
  refine zb_lI dX6_areTwins_11 i4 l5 o6.1 o6.2 ?_
  refine zb_icmp_ne (tgt := 45) dX6_areTwins_12 (by decide) (fun c7 => ?_) (fun c7 => ?_)
  · have h := h.2 c7
    refine zb_iconst dX6_areTwins_45 (zb_inIc rfl) ?_
    exact zb_rZ dX6_areTwins_46 rfl hF (by decide) ⟨rfl, h⟩
  · have h := h.1 c7
    refine zb_aload_n (j := 0) dX6_areTwins_15 rfl rfl ?_
    refine zb_iload_n (j := 1) dX6_areTwins_16 rfl rfl ?_
    refine zb_iload_n (j := 1) dX6_areTwins_17 rfl rfl ?_
    refine zb_cVp (As := [(0, x1), (0, x1)]) (As' := [(0, x1), (0, x1)]) (st := []) dX6_areTwins_18 lk_X6_63 gd_X6_lineFrom rfl rfl i_0 ⟨_, rfl, rfl⟩ h hW hF (zb_aR i_0 (zb_aI (zb_aI zb_a0))) (Nat.le_refl _) (Nat.le_of_ble_eq_true rfl) (fun r18 h => ?_)
    show zb_WP _ _ _ _ [(0, r18)] _ _ _ _
    refine zb_aload_n (j := 0) dX6_areTwins_21 rfl rfl ?_
    refine zb_iload_n (j := 2) dX6_areTwins_22 rfl rfl ?_
    refine zb_iload_n (j := 2) dX6_areTwins_23 rfl rfl ?_
    refine zb_cVp (As := [(0, x2), (0, x2)]) (As' := [(0, x2), (0, x2)]) (st := [(0, r18)]) dX6_areTwins_24 lk_X6_63 gd_X6_lineFrom rfl rfl i_0 ⟨_, rfl, rfl⟩ h hW hF (zb_aR i_0 (zb_aI (zb_aI zb_a0))) (Nat.le_refl _) (Nat.le_of_ble_eq_true rfl) (fun r24 h => ?_)
    show zb_WP _ _ _ _ [(0, r24), (0, r18)] _ _ _ _
    refine zb_icmp_ne (tgt := 45) dX6_areTwins_27 (by decide) (fun c8 => ?_) (fun c8 => ?_)
    · have h := h.2 c8
      refine zb_iconst dX6_areTwins_45 (zb_inIc rfl) ?_
      exact zb_rZ dX6_areTwins_46 rfl hF (by decide) ⟨rfl, h⟩
    · have h := h.1 c8
      refine zb_aload_n (j := 0) dX6_areTwins_30 rfl rfl ?_
      refine zb_iload_n (j := 1) dX6_areTwins_31 rfl rfl ?_
      refine zb_iload_n (j := 2) dX6_areTwins_32 rfl rfl ?_
      refine zb_cVp (As := [(0, x1), (0, x2)]) (As' := [(0, x2), (0, x1)]) (st := []) dX6_areTwins_33 lk_X6_63 gd_X6_lineFrom rfl rfl i_0 ⟨_, rfl, rfl⟩ h hW hF (zb_aR i_0 (zb_aI (zb_aI zb_a0))) (Nat.le_refl _) (Nat.le_of_ble_eq_true rfl) (fun r33 h => ?_)
      show zb_WP _ _ _ _ [(0, r33)] _ _ _ _
      refine zb_aload_n (j := 0) dX6_areTwins_36 rfl rfl ?_
      refine zb_iload_n (j := 2) dX6_areTwins_37 rfl rfl ?_
      refine zb_iload_n (j := 1) dX6_areTwins_38 rfl rfl ?_
      refine zb_cVp (As := [(0, x2), (0, x1)]) (As' := [(0, x1), (0, x2)]) (st := [(0, r33)]) dX6_areTwins_39 lk_X6_63 gd_X6_lineFrom rfl rfl i_0 ⟨_, rfl, rfl⟩ h hW hF (zb_aR i_0 (zb_aI (zb_aI zb_a0))) (Nat.le_refl _) (Nat.le_of_ble_eq_true rfl) (fun r39 h => ?_)
      show zb_WP _ _ _ _ [(0, r39), (0, r33)] _ _ _ _
      refine zb_icmp_eq (tgt := 47) dX6_areTwins_42 (by decide) (fun c9 => ?_) (fun c9 => ?_)
      · have h := h.1 c9
        refine zb_iconst dX6_areTwins_47 (zb_inIc rfl) ?_
        refine zb_istore_n (L' := [(3, (0, 0)), (0, (2, x0)), (1, (0, x1)), (2, (0, x2))]) dX6_areTwins_48 rfl (by decide) rfl ?_
        refine zb_sub (L' := [(0, (2, x0)), (1, (0, x1)), (2, (0, x2)), (3, (0, 0))]) [1, 2, 3, 0] rfl ?_
        unfold PL_X6_areTwins_49 at h
        obtain ⟨X49, hX49⟩ : ∃ X : Int → Prop, ∀ (v3_49 : Int), (X v3_49 ↔ (zb_FIN E m → zb_WP (G, C, d + 1, 0, 0, zb_q E (fun r m' => m' = m ∧ Q r)) F_X6_areTwins 49 [(0, (2, x0)), (1, (0, x1)), (2, (0, x2)), (3, (0, v3_49))] [] E.1 m 0 0)) := ⟨fun v3_49 => zb_FIN E m → zb_WP (G, C, d + 1, 0, 0, zb_q E (fun r m' => m' = m ∧ Q r)) F_X6_areTwins 49 [(0, (2, x0)), (1, (0, x1)), (2, (0, x2)), (3, (0, v3_49))] [] E.1 m 0 0, fun _ => Iff.rfl⟩
        refine (hX49 _).mp (h X49 (fun v3_49 h => (hX49 _).mpr (fun hF => ?_))) hF
        refine zb_iload_n (j := 3) dX6_areTwins_49 rfl rfl ?_
        refine zb_aload_n (j := 0) dX6_areTwins_50 rfl rfl ?_
        refine zb_gI 0 dX6_areTwins_51 fl_X6_28 i_0 rfl rfl ?_
        refine zb_icmp_ge (tgt := 108) dX6_areTwins_54 (by decide) (fun c10 => ?_) (fun c10 => ?_)
        · have h := h.1 c10
          refine zb_iconst dX6_areTwins_108 (zb_inIc rfl) ?_
          exact zb_rZ dX6_areTwins_109 rfl hF (by decide) ⟨rfl, h⟩
        · have h := h.2 c10
          refine zb_iload_n (j := 3) dX6_areTwins_57 rfl rfl ?_
          refine zb_iload_n (j := 1) dX6_areTwins_58 rfl rfl ?_
          refine zb_icmp_eq (tgt := 102) dX6_areTwins_59 (by decide) (fun c11 => ?_) (fun c11 => ?_)
          · have h := h.1 c11
            obtain ⟨o12, h⟩ := h
            refine zb_iinc (j := 3) (L' := [(3, (0, (v3_49 + 1))), (0, (2, x0)), (1, (0, x1)), (2, (0, x2))]) dX6_areTwins_102 rfl o12 (by decide) rfl ?_
            refine zb_goto (tgt := 49) dX6_areTwins_105 (by decide) ?_
            refine zb_sub (L' := [(0, (2, x0)), (1, (0, x1)), (2, (0, x2)), (3, (0, (v3_49 + 1)))]) [1, 2, 3, 0] rfl ?_
            exact (hX49 _).mp h hF
          · have h := h.2 c11
            refine zb_iload_n (j := 3) dX6_areTwins_62 rfl rfl ?_
            refine zb_iload_n (j := 2) dX6_areTwins_63 rfl rfl ?_
            refine zb_icmp_ne (tgt := 70) dX6_areTwins_64 (by decide) (fun c13 => ?_) (fun c13 => ?_)
            · have h := h.2 c13
              refine zb_aload_n (j := 0) dX6_areTwins_70 rfl rfl ?_
              refine zb_iload_n (j := 1) dX6_areTwins_71 rfl rfl ?_
              refine zb_iload_n (j := 3) dX6_areTwins_72 rfl rfl ?_
              refine zb_cVp (As := [(0, x1), (0, v3_49)]) (As' := [(0, v3_49), (0, x1)]) (st := []) dX6_areTwins_73 lk_X6_63 gd_X6_lineFrom rfl rfl i_0 ⟨_, rfl, rfl⟩ h hW hF (zb_aR i_0 (zb_aI (zb_aI zb_a0))) (Nat.le_refl _) (Nat.le_of_ble_eq_true rfl) (fun r73 h => ?_)
              show zb_WP _ _ _ _ [(0, r73)] _ _ _ _
              refine zb_aload_n (j := 0) dX6_areTwins_76 rfl rfl ?_
              refine zb_iload_n (j := 2) dX6_areTwins_77 rfl rfl ?_
              refine zb_iload_n (j := 3) dX6_areTwins_78 rfl rfl ?_
              refine zb_cVp (As := [(0, x2), (0, v3_49)]) (As' := [(0, v3_49), (0, x2)]) (st := [(0, r73)]) dX6_areTwins_79 lk_X6_63 gd_X6_lineFrom rfl rfl i_0 ⟨_, rfl, rfl⟩ h hW hF (zb_aR i_0 (zb_aI (zb_aI zb_a0))) (Nat.le_refl _) (Nat.le_of_ble_eq_true rfl) (fun r79 h => ?_)
              show zb_WP _ _ _ _ [(0, r79), (0, r73)] _ _ _ _
              refine zb_icmp_ne (tgt := 100) dX6_areTwins_82 (by decide) (fun c14 => ?_) (fun c14 => ?_)
              · have h := h.2 c14
                refine zb_iconst dX6_areTwins_100 (zb_inIc rfl) ?_
                exact zb_rZ dX6_areTwins_101 rfl hF (by decide) ⟨rfl, h⟩
              · have h := h.1 c14
                refine zb_aload_n (j := 0) dX6_areTwins_85 rfl rfl ?_
                refine zb_iload_n (j := 3) dX6_areTwins_86 rfl rfl ?_
                refine zb_iload_n (j := 1) dX6_areTwins_87 rfl rfl ?_
                refine zb_cVp (As := [(0, v3_49), (0, x1)]) (As' := [(0, x1), (0, v3_49)]) (st := []) dX6_areTwins_88 lk_X6_63 gd_X6_lineFrom rfl rfl i_0 ⟨_, rfl, rfl⟩ h hW hF (zb_aR i_0 (zb_aI (zb_aI zb_a0))) (Nat.le_refl _) (Nat.le_of_ble_eq_true rfl) (fun r88 h => ?_)
                show zb_WP _ _ _ _ [(0, r88)] _ _ _ _
                refine zb_aload_n (j := 0) dX6_areTwins_91 rfl rfl ?_
                refine zb_iload_n (j := 3) dX6_areTwins_92 rfl rfl ?_
                refine zb_iload_n (j := 2) dX6_areTwins_93 rfl rfl ?_
                refine zb_cVp (As := [(0, v3_49), (0, x2)]) (As' := [(0, x2), (0, v3_49)]) (st := [(0, r88)]) dX6_areTwins_94 lk_X6_63 gd_X6_lineFrom rfl rfl i_0 ⟨_, rfl, rfl⟩ h hW hF (zb_aR i_0 (zb_aI (zb_aI zb_a0))) (Nat.le_refl _) (Nat.le_of_ble_eq_true rfl) (fun r94 h => ?_)
                show zb_WP _ _ _ _ [(0, r94), (0, r88)] _ _ _ _
                refine zb_icmp_eq (tgt := 102) dX6_areTwins_97 (by decide) (fun c15 => ?_) (fun c15 => ?_)
                · have h := h.1 c15
                  obtain ⟨o16, h⟩ := h
                  refine zb_iinc (j := 3) (L' := [(3, (0, (v3_49 + 1))), (0, (2, x0)), (1, (0, x1)), (2, (0, x2))]) dX6_areTwins_102 rfl o16 (by decide) rfl ?_
                  refine zb_goto (tgt := 49) dX6_areTwins_105 (by decide) ?_
                  refine zb_sub (L' := [(0, (2, x0)), (1, (0, x1)), (2, (0, x2)), (3, (0, (v3_49 + 1)))]) [1, 2, 3, 0] rfl ?_
                  exact (hX49 _).mp h hF
                · have h := h.2 c15
                  refine zb_iconst dX6_areTwins_100 (zb_inIc rfl) ?_
                  exact zb_rZ dX6_areTwins_101 rfl hF (by decide) ⟨rfl, h⟩
            · have h := h.1 c13
              refine zb_goto (tgt := 102) dX6_areTwins_67 (by decide) ?_
              obtain ⟨o17, h⟩ := h
              refine zb_iinc (j := 3) (L' := [(3, (0, (v3_49 + 1))), (0, (2, x0)), (1, (0, x1)), (2, (0, x2))]) dX6_areTwins_102 rfl o17 (by decide) rfl ?_
              refine zb_goto (tgt := 49) dX6_areTwins_105 (by decide) ?_
              refine zb_sub (L' := [(0, (2, x0)), (1, (0, x1)), (2, (0, x2)), (3, (0, (v3_49 + 1)))]) [1, 2, 3, 0] rfl ?_
              exact (hX49 _).mp h hF
      · have h := h.2 c9
        refine zb_iconst dX6_areTwins_45 (zb_inIc rfl) ?_
        exact zb_rZ dX6_areTwins_46 rfl hF (by decide) ⟨rfl, h⟩
theorem dX6_isTurning_0 : decode cX6_isTurning 0 = .ok (.iconst 0, 1) := by decide +kernel
theorem dX6_isTurning_1 : decode cX6_isTurning 1 = .ok (.istore_n 2, 1) := by decide +kernel
theorem dX6_isTurning_2 : decode cX6_isTurning 2 = .ok (.iload_n 2, 1) := by decide +kernel
theorem dX6_isTurning_3 : decode cX6_isTurning 3 = .ok (.aload_n 0, 1) := by decide +kernel
theorem dX6_isTurning_4 : decode cX6_isTurning 4 = .ok (.getfield 28, 3) := by decide +kernel
theorem dX6_isTurning_7 : decode cX6_isTurning 7 = .ok (.if_icmp .ge 65, 3) := by decide +kernel
theorem dX6_isTurning_10 : decode cX6_isTurning 10 = .ok (.aload_n 0, 1) := by decide +kernel
theorem dX6_isTurning_11 : decode cX6_isTurning 11 = .ok (.getfield 18, 3) := by decide +kernel
theorem dX6_isTurning_14 : decode cX6_isTurning 14 = .ok (.iload_n 2, 1) := by decide +kernel
theorem dX6_isTurning_15 : decode cX6_isTurning 15 = .ok (.iaload, 1) := by decide +kernel
theorem dX6_isTurning_16 : decode cX6_isTurning 16 = .ok (.aload_n 0, 1) := by decide +kernel
theorem dX6_isTurning_17 : decode cX6_isTurning 17 = .ok (.getfield 18, 3) := by decide +kernel
theorem dX6_isTurning_20 : decode cX6_isTurning 20 = .ok (.aload_n 1, 1) := by decide +kernel
theorem dX6_isTurning_21 : decode cX6_isTurning 21 = .ok (.iload_n 2, 1) := by decide +kernel
theorem dX6_isTurning_22 : decode cX6_isTurning 22 = .ok (.iaload, 1) := by decide +kernel
theorem dX6_isTurning_23 : decode cX6_isTurning 23 = .ok (.iaload, 1) := by decide +kernel
theorem dX6_isTurning_24 : decode cX6_isTurning 24 = .ok (.if_icmp .eq 5, 3) := by decide +kernel
theorem dX6_isTurning_27 : decode cX6_isTurning 27 = .ok (.iconst 0, 1) := by decide +kernel
theorem dX6_isTurning_28 : decode cX6_isTurning 28 = .ok (.ireturn, 1) := by decide +kernel
theorem dX6_isTurning_29 : decode cX6_isTurning 29 = .ok (.iconst 0, 1) := by decide +kernel
theorem dX6_isTurning_30 : decode cX6_isTurning 30 = .ok (.istore_n 3, 1) := by decide +kernel
theorem dX6_isTurning_31 : decode cX6_isTurning 31 = .ok (.iload_n 3, 1) := by decide +kernel
theorem dX6_isTurning_32 : decode cX6_isTurning 32 = .ok (.aload_n 0, 1) := by decide +kernel
theorem dX6_isTurning_33 : decode cX6_isTurning 33 = .ok (.getfield 28, 3) := by decide +kernel
theorem dX6_isTurning_36 : decode cX6_isTurning 36 = .ok (.if_icmp .ge 30, 3) := by decide +kernel
theorem dX6_isTurning_39 : decode cX6_isTurning 39 = .ok (.aload_n 0, 1) := by decide +kernel
theorem dX6_isTurning_40 : decode cX6_isTurning 40 = .ok (.iload_n 2, 1) := by decide +kernel
theorem dX6_isTurning_41 : decode cX6_isTurning 41 = .ok (.iload_n 3, 1) := by decide +kernel
theorem dX6_isTurning_42 : decode cX6_isTurning 42 = .ok (.invokevirtual 63, 3) := by decide +kernel
theorem dX6_isTurning_45 : decode cX6_isTurning 45 = .ok (.aload_n 0, 1) := by decide +kernel
theorem dX6_isTurning_46 : decode cX6_isTurning 46 = .ok (.aload_n 1, 1) := by decide +kernel
theorem dX6_isTurning_47 : decode cX6_isTurning 47 = .ok (.iload_n 2, 1) := by decide +kernel
theorem dX6_isTurning_48 : decode cX6_isTurning 48 = .ok (.iaload, 1) := by decide +kernel
theorem dX6_isTurning_49 : decode cX6_isTurning 49 = .ok (.aload_n 1, 1) := by decide +kernel
theorem dX6_isTurning_50 : decode cX6_isTurning 50 = .ok (.iload_n 3, 1) := by decide +kernel
theorem dX6_isTurning_51 : decode cX6_isTurning 51 = .ok (.iaload, 1) := by decide +kernel
theorem dX6_isTurning_52 : decode cX6_isTurning 52 = .ok (.invokevirtual 63, 3) := by decide +kernel
theorem dX6_isTurning_55 : decode cX6_isTurning 55 = .ok (.if_icmp .eq 5, 3) := by decide +kernel
theorem dX6_isTurning_58 : decode cX6_isTurning 58 = .ok (.iconst 0, 1) := by decide +kernel
theorem dX6_isTurning_59 : decode cX6_isTurning 59 = .ok (.ireturn, 1) := by decide +kernel
theorem dX6_isTurning_60 : decode cX6_isTurning 60 = .ok (.iinc 3 1, 3) := by decide +kernel
theorem dX6_isTurning_63 : decode cX6_isTurning 63 = .ok (.goto (-32), 3) := by decide +kernel
theorem dX6_isTurning_66 : decode cX6_isTurning 66 = .ok (.iinc 2 1, 3) := by decide +kernel
theorem dX6_isTurning_69 : decode cX6_isTurning 69 = .ok (.goto (-67), 3) := by decide +kernel
theorem dX6_isTurning_72 : decode cX6_isTurning 72 = .ok (.iconst 1, 1) := by decide +kernel
theorem dX6_isTurning_73 : decode cX6_isTurning 73 = .ok (.ireturn, 1) := by decide +kernel
def PJ_X6_isTurning_66 (d : Nat) (E : zb_E) (v2_2 : Int) (X2 : Int → Prop) (Q : Int → Prop)  : Prop :=
  (zb_inI (v2_2 + 1)) ∧ (X2 (v2_2 + 1))
def PL_X6_isTurning_31 (d : Nat) (E : zb_E) (x0 : Int) (x1 : Int) (m : zb_M) (v2_2 : Int) (Q : Int → Prop) (K66_31 : Prop) (v3_31 : Int) : Prop :=
  ∀ X31 : Int → Prop, (∀ (v3_31 : Int), (((m x0 0) ≤ v3_31 → K66_31) ∧ (¬ (m x0 0) ≤ v3_31 → zb_Tp K_X6_lineFrom d [(2, x0), (0, v2_2), (0, v3_31)] E m (fun r42 => (0 ≤ v3_31 ∧ v3_31 < (zb_len E.1 x1)) ∧ (zb_Tp K_X6_lineFrom d [(2, x0), (0, (m x1 v2_2)), (0, (m x1 v3_31))] E m (fun r52 => (r42 = r52 → (zb_inI (v3_31 + 1)) ∧ (X31 (v3_31 + 1))) ∧ (¬ r42 = r52 → Q 0)))))) → X31 v3_31) → X31 v3_31
def PL_X6_isTurning_2 (d : Nat) (E : zb_E) (x0 : Int) (x1 : Int) (m : zb_M) (Q : Int → Prop)  (v2_2 : Int) : Prop :=
  ∀ X2 : Int → Prop, (∀ (v2_2 : Int), (((m x0 0) ≤ v2_2 → Q 1) ∧ (¬ (m x0 0) ≤ v2_2 → (0 ≤ v2_2 ∧ v2_2 < 12) ∧ ((0 ≤ v2_2 ∧ v2_2 < (zb_len E.1 x1)) ∧ ((0 ≤ (m x1 v2_2) ∧ (m x1 v2_2) < 12) ∧ (((m (E.2 x0 3) v2_2) = (m (E.2 x0 3) (m x1 v2_2)) → PL_X6_isTurning_31 d E x0 x1 m v2_2 Q (PJ_X6_isTurning_66 d E v2_2 X2 Q) 0) ∧ (¬ (m (E.2 x0 3) v2_2) = (m (E.2 x0 3) (m x1 v2_2)) → Q 0)))))) → X2 v2_2) → X2 v2_2
def PM_X6_isTurning (d : Nat) (E : zb_E) (x0 : Int) (x1 : Int) (m : zb_M) (Q : Int → Prop) : Prop :=
  PL_X6_isTurning_2 d E x0 x1 m Q 0
set_option maxRecDepth 100000 in
set_option maxHeartbeats 4000000 in
theorem w_X6_isTurning {d : Nat} {E : zb_E} {x0 x1 : Int} {m : zb_M} {Q : Int → Prop} (h : PM_X6_isTurning d E x0 x1 m Q) : zb_Tp K_X6_isTurning (d + 1) [(2, x0), (2, x1)] E m Q := by
  unfold PM_X6_isTurning at h
  refine zb_T_in gd_X6_isTurning rfl rfl (fun hW hA G C hF => ?_)
  have i_0 : zb_is E.1 x0 6 := zb_aH hA (by decide)
  have i_1 : zb_is E.1 x1 13 := zb_aH (zb_aT hA) (by decide)
  show zb_WP _ _ 0 [(0, (2, x0)), (1, (2, x1))] [] _ _ _ _
  refine zb_iconst dX6_isTurning_0 (zb_inIc rfl) ?_
  refine zb_istore_n (L' := [(2, (0, 0)), (0, (2, x0)), (1, (2, x1))]) dX6_isTurning_1 rfl (by decide) rfl ?_
  refine zb_sub (L' := [(0, (2, x0)), (1, (2, x1)), (2, (0, 0))]) [1, 2, 0] rfl ?_
  unfold PL_X6_isTurning_2 at h
  obtain ⟨X2, hX2⟩ : ∃ X : Int → Prop, ∀ (v2_2 : Int), (X v2_2 ↔ (zb_FIN E m → zb_WP (G, C, d + 1, 0, 0, zb_q E (fun r m' => m' = m ∧ Q r)) F_X6_isTurning 2 [(0, (2, x0)), (1, (2, x1)), (2, (0, v2_2))] [] E.1 m 0 0)) := ⟨fun v2_2 => zb_FIN E m → zb_WP (G, C, d + 1, 0, 0, zb_q E (fun r m' => m' = m ∧ Q r)) F_X6_isTurning 2 [(0, (2, x0)), (1, (2, x1)), (2, (0, v2_2))] [] E.1 m 0 0, fun _ => Iff.rfl⟩
  refine (hX2 _).mp (h X2 (fun v2_2 h => (hX2 _).mpr (fun hF => ?_))) hF
  refine zb_iload_n (j := 2) dX6_isTurning_2 rfl rfl ?_
  refine zb_aload_n (j := 0) dX6_isTurning_3 rfl rfl ?_
  refine zb_gI 0 dX6_isTurning_4 fl_X6_28 i_0 rfl rfl ?_
  refine zb_icmp_ge (tgt := 72) dX6_isTurning_7 (by decide) (fun c1 => ?_) (fun c1 => ?_)
  · have h := h.1 c1
    refine zb_iconst dX6_isTurning_72 (zb_inIc rfl) ?_
    exact zb_rZ dX6_isTurning_73 rfl hF (by decide) ⟨rfl, h⟩
  · have h := h.2 c1
    refine zb_aload_n (j := 0) dX6_isTurning_10 rfl rfl ?_
    refine zb_gFa 3 dX6_isTurning_11 fl_X6_18 i_0 hW hF rfl rfl rfl (by decide) rfl 12 rfl (fun i2 l3 => ?_)
    refine zb_iload_n (j := 2) dX6_isTurning_14 rfl rfl ?_
    obtain ⟨o4, h⟩ := h
    refine zb_lI dX6_isTurning_15 i2 l3 o4.1 o4.2 ?_
    refine zb_aload_n (j := 0) dX6_isTurning_16 rfl rfl ?_
    refine zb_gFa 3 dX6_isTurning_17 fl_X6_18 i_0 hW hF rfl rfl rfl (by decide) rfl 12 rfl (fun i5 l6 => ?_)
    refine zb_aload_n (j := 1) dX6_isTurning_20 rfl rfl ?_
    refine zb_iload_n (j := 2) dX6_isTurning_21 rfl rfl ?_
    obtain ⟨o7, h⟩ := h
    refine zb_lI dX6_isTurning_22 i_1 rfl o7.1 o7.2 ?_
    obtain ⟨o8, h⟩ := h
    refine zb_lI dX6_isTurning_23 i5 l6 o8.1 o8.2 ?_
    refine zb_icmp_eq (tgt := 29) dX6_isTurning_24 (by decide) (fun c9 => ?_) (fun c9 => ?_)
    · have h := h.1 c9
      refine zb_iconst dX6_isTurning_29 (zb_inIc rfl) ?_
      refine zb_istore_n (L' := [(3, (0, 0)), (0, (2, x0)), (1, (2, x1)), (2, (0, v2_2))]) dX6_isTurning_30 rfl (by decide) rfl ?_
      refine zb_sub (L' := [(0, (2, x0)), (1, (2, x1)), (2, (0, v2_2)), (3, (0, 0))]) [1, 2, 3, 0] rfl ?_
      have hJ66 : zb_FIN E m → PJ_X6_isTurning_66 d E v2_2 X2 Q  → zb_WP (G, C, d + 1, 0, 0, zb_q E (fun r m' => m' = m ∧ Q r)) F_X6_isTurning 66 [(0, (2, x0)), (1, (2, x1)), (2, (0, v2_2))] [] E.1 m 0 0 := by
        intro  hF h
        unfold PJ_X6_isTurning_66 at h
        obtain ⟨o10, h⟩ := h
        refine zb_iinc (j := 2) (L' := [(2, (0, (v2_2 + 1))), (0, (2, x0)), (1, (2, x1))]) dX6_isTurning_66 rfl o10 (by decide) rfl ?_
        refine zb_goto (tgt := 2) dX6_isTurning_69 (by decide) ?_
        refine zb_sub (L' := [(0, (2, x0)), (1, (2, x1)), (2, (0, (v2_2 + 1)))]) [1, 2, 0] rfl ?_
        exact (hX2 _).mp h hF
      unfold PL_X6_isTurning_31 at h
      obtain ⟨X31, hX31⟩ : ∃ X : Int → Prop, ∀ (v3_31 : Int), (X v3_31 ↔ (zb_FIN E m → zb_WP (G, C, d + 1, 0, 0, zb_q E (fun r m' => m' = m ∧ Q r)) F_X6_isTurning 31 [(0, (2, x0)), (1, (2, x1)), (2, (0, v2_2)), (3, (0, v3_31))] [] E.1 m 0 0)) := ⟨fun v3_31 => zb_FIN E m → zb_WP (G, C, d + 1, 0, 0, zb_q E (fun r m' => m' = m ∧ Q r)) F_X6_isTurning 31 [(0, (2, x0)), (1, (2, x1)), (2, (0, v2_2)), (3, (0, v3_31))] [] E.1 m 0 0, fun _ => Iff.rfl⟩
      refine (hX31 _).mp (h X31 (fun v3_31 h => (hX31 _).mpr (fun hF => ?_))) hF
      refine zb_iload_n (j := 3) dX6_isTurning_31 rfl rfl ?_
      refine zb_aload_n (j := 0) dX6_isTurning_32 rfl rfl ?_
      refine zb_gI 0 dX6_isTurning_33 fl_X6_28 i_0 rfl rfl ?_
      refine zb_icmp_ge (tgt := 66) dX6_isTurning_36 (by decide) (fun c11 => ?_) (fun c11 => ?_)
      · have h := h.1 c11
        refine zb_sub (L' := [(0, (2, x0)), (1, (2, x1)), (2, (0, v2_2))]) [0, 1, 2] rfl ?_
        exact hJ66 hF h
      · have h := h.2 c11
        refine zb_aload_n (j := 0) dX6_isTurning_39 rfl rfl ?_
        refine zb_iload_n (j := 2) dX6_isTurning_40 rfl rfl ?_
        refine zb_iload_n (j := 3) dX6_isTurning_41 rfl rfl ?_
        refine zb_cVp (As := [(0, v2_2), (0, v3_31)]) (As' := [(0, v3_31), (0, v2_2)]) (st := []) dX6_isTurning_42 lk_X6_63 gd_X6_lineFrom rfl rfl i_0 ⟨_, rfl, rfl⟩ h hW hF (zb_aR i_0 (zb_aI (zb_aI zb_a0))) (Nat.le_refl _) (Nat.le_of_ble_eq_true rfl) (fun r42 h => ?_)
        show zb_WP _ _ _ _ [(0, r42)] _ _ _ _
        refine zb_aload_n (j := 0) dX6_isTurning_45 rfl rfl ?_
        refine zb_aload_n (j := 1) dX6_isTurning_46 rfl rfl ?_
        refine zb_iload_n (j := 2) dX6_isTurning_47 rfl rfl ?_
        refine zb_lI dX6_isTurning_48 i_1 rfl o7.1 o7.2 ?_
        refine zb_aload_n (j := 1) dX6_isTurning_49 rfl rfl ?_
        refine zb_iload_n (j := 3) dX6_isTurning_50 rfl rfl ?_
        obtain ⟨o12, h⟩ := h
        refine zb_lI dX6_isTurning_51 i_1 rfl o12.1 o12.2 ?_
        refine zb_cVp (As := [(0, (m x1 v2_2)), (0, (m x1 v3_31))]) (As' := [(0, (m x1 v3_31)), (0, (m x1 v2_2))]) (st := [(0, r42)]) dX6_isTurning_52 lk_X6_63 gd_X6_lineFrom rfl rfl i_0 ⟨_, rfl, rfl⟩ h hW hF (zb_aR i_0 (zb_aI (zb_aI zb_a0))) (Nat.le_refl _) (Nat.le_of_ble_eq_true rfl) (fun r52 h => ?_)
        show zb_WP _ _ _ _ [(0, r52), (0, r42)] _ _ _ _
        refine zb_icmp_eq (tgt := 60) dX6_isTurning_55 (by decide) (fun c13 => ?_) (fun c13 => ?_)
        · have h := h.1 c13
          obtain ⟨o14, h⟩ := h
          refine zb_iinc (j := 3) (L' := [(3, (0, (v3_31 + 1))), (0, (2, x0)), (1, (2, x1)), (2, (0, v2_2))]) dX6_isTurning_60 rfl o14 (by decide) rfl ?_
          refine zb_goto (tgt := 31) dX6_isTurning_63 (by decide) ?_
          refine zb_sub (L' := [(0, (2, x0)), (1, (2, x1)), (2, (0, v2_2)), (3, (0, (v3_31 + 1)))]) [1, 2, 3, 0] rfl ?_
          exact (hX31 _).mp h hF
        · have h := h.2 c13
          refine zb_iconst dX6_isTurning_58 (zb_inIc rfl) ?_
          exact zb_rZ dX6_isTurning_59 rfl hF (by decide) ⟨rfl, h⟩
    · have h := h.2 c9
      refine zb_iconst dX6_isTurning_27 (zb_inIc rfl) ?_
      exact zb_rZ dX6_isTurning_28 rfl hF (by decide) ⟨rfl, h⟩
