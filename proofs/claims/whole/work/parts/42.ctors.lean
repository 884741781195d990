/-! ===== the constructors (laid by gen/cwalk.py) ===== -/
theorem dX4_init_0 : decode cX4_init 0 = .ok (.aload_n 0, 1) := by decide +kernel
theorem dX4_init_1 : decode cX4_init 1 = .ok (.invokespecial 3, 3) := by decide +kernel
theorem dX4_init_4 : decode cX4_init 4 = .ok (.aload_n 0, 1) := by decide +kernel
theorem dX4_init_5 : decode cX4_init 5 = .ok (.bipush 12, 2) := by decide +kernel
theorem dX4_init_7 : decode cX4_init 7 = .ok (.newarray .int, 2) := by decide +kernel
theorem dX4_init_9 : decode cX4_init 9 = .ok (.putfield 9, 3) := by decide +kernel
theorem dX4_init_12 : decode cX4_init 12 = .ok (.aload_n 0, 1) := by decide +kernel
theorem dX4_init_13 : decode cX4_init 13 = .ok (.bipush 12, 2) := by decide +kernel
theorem dX4_init_15 : decode cX4_init 15 = .ok (.newarray .int, 2) := by decide +kernel
theorem dX4_init_17 : decode cX4_init 17 = .ok (.putfield 15, 3) := by decide +kernel
theorem dX4_init_20 : decode cX4_init 20 = .ok (.aload_n 0, 1) := by decide +kernel
theorem dX4_init_21 : decode cX4_init 21 = .ok (.bipush 12, 2) := by decide +kernel
theorem dX4_init_23 : decode cX4_init 23 = .ok (.newarray .int, 2) := by decide +kernel
theorem dX4_init_25 : decode cX4_init 25 = .ok (.putfield 18, 3) := by decide +kernel
theorem dX4_init_28 : decode cX4_init 28 = .ok (.aload_n 0, 1) := by decide +kernel
theorem dX4_init_29 : decode cX4_init 29 = .ok (.bipush 12, 2) := by decide +kernel
theorem dX4_init_31 : decode cX4_init 31 = .ok (.newarray .int, 2) := by decide +kernel
theorem dX4_init_33 : decode cX4_init 33 = .ok (.putfield 21, 3) := by decide +kernel
theorem dX4_init_36 : decode cX4_init 36 = .ok (.aload_n 0, 1) := by decide +kernel
theorem dX4_init_37 : decode cX4_init 37 = .ok (.sipush 144, 3) := by decide +kernel
theorem dX4_init_40 : decode cX4_init 40 = .ok (.newarray .int, 2) := by decide +kernel
theorem dX4_init_42 : decode cX4_init 42 = .ok (.putfield 24, 3) := by decide +kernel
theorem dX4_init_45 : decode cX4_init 45 = .ok (.return_, 1) := by decide +kernel
def CM_X4_init (x0 : Int) (σ : zb_Sg) (K : zb_Sg → Bool) : Bool :=
  zb_let ((13, 12, []) :: σ) (fun s7 => ((zb_isb s7 x0 4) && (zb_let (zb_stv s7 x0 1 ((σ.length : Int) + 1)) (fun s9 => zb_let ((13, 12, []) :: s9) (fun s15 => ((zb_isb s15 x0 4) && (zb_let (zb_stv s15 x0 2 ((s9.length : Int) + 1)) (fun s17 => zb_let ((13, 12, []) :: s17) (fun s23 => ((zb_isb s23 x0 4) && (zb_let (zb_stv s23 x0 3 ((s17.length : Int) + 1)) (fun s25 => zb_let ((13, 12, []) :: s25) (fun s31 => ((zb_isb s31 x0 4) && (zb_let (zb_stv s31 x0 4 ((s25.length : Int) + 1)) (fun s33 => zb_let ((13, 144, []) :: s33) (fun s40 => ((zb_isb s40 x0 4) && (zb_let (zb_stv s40 x0 5 ((s33.length : Int) + 1)) (fun s42 => K s42))))))))))))))))))))
set_option maxRecDepth 100000 in
set_option maxHeartbeats 40000000 in
theorem cw_X4_init {d : Nat} {x0 : Int} {σ : zb_Sg} {K : zb_Sg → Bool} (h : CM_X4_init x0 σ K = true) : zb_Ct F_X4_init (d + 1) 5 192 [(2, x0)] σ K := by
  unfold CM_X4_init at h
  refine zb_k_tri gd_X4_init rfl rfl (fun G C hO => ?_)
  show zb_WP _ _ 0 [(0, (2, x0))] [] _ _ _ _
  have hx0 : 1 ≤ x0 := hO (2, x0) List.mem_cons_self
  refine zb_aload_n (j := 0) dX4_init_0 rfl rfl ?_
  refine zb_objI dX4_init_1 lk_X4_3 hx0 (by omega) (Nat.le_of_ble_eq_true rfl) ?_
  refine zb_aload_n (j := 0) dX4_init_4 rfl rfl ?_
  refine zb_bipush dX4_init_5 (by decide) (zb_inIc rfl) ?_
  refine zb_k_newa (len := 12) dX4_init_7 rfl ac_int rfl 1 12 rfl rfl rfl rfl (fun s7 e7 => ?_)
  have h := zb_letE e7 h
  obtain ⟨o1, h⟩ := zb_andT h
  refine zb_k_putf (j := 1) dX4_init_9 fl_X4_9 rfl (Or.inr ⟨rfl, rfl, rfl⟩) o1 (Or.inr (Or.inr rfl)) (fun s9 e9 => ?_)
  have h := zb_letE e9 h
  refine zb_aload_n (j := 0) dX4_init_12 rfl rfl ?_
  refine zb_bipush dX4_init_13 (by decide) (zb_inIc rfl) ?_
  refine zb_k_newa (len := 12) dX4_init_15 rfl ac_int rfl 2 24 rfl rfl rfl rfl (fun s15 e15 => ?_)
  have h := zb_letE e15 h
  obtain ⟨o2, h⟩ := zb_andT h
  refine zb_k_putf (j := 2) dX4_init_17 fl_X4_15 rfl (Or.inr ⟨rfl, rfl, rfl⟩) o2 (Or.inr (Or.inr rfl)) (fun s17 e17 => ?_)
  have h := zb_letE e17 h
  refine zb_aload_n (j := 0) dX4_init_20 rfl rfl ?_
  refine zb_bipush dX4_init_21 (by decide) (zb_inIc rfl) ?_
  refine zb_k_newa (len := 12) dX4_init_23 rfl ac_int rfl 3 36 rfl rfl rfl rfl (fun s23 e23 => ?_)
  have h := zb_letE e23 h
  obtain ⟨o3, h⟩ := zb_andT h
  refine zb_k_putf (j := 3) dX4_init_25 fl_X4_18 rfl (Or.inr ⟨rfl, rfl, rfl⟩) o3 (Or.inr (Or.inr rfl)) (fun s25 e25 => ?_)
  have h := zb_letE e25 h
  refine zb_aload_n (j := 0) dX4_init_28 rfl rfl ?_
  refine zb_bipush dX4_init_29 (by decide) (zb_inIc rfl) ?_
  refine zb_k_newa (len := 12) dX4_init_31 rfl ac_int rfl 4 48 rfl rfl rfl rfl (fun s31 e31 => ?_)
  have h := zb_letE e31 h
  obtain ⟨o4, h⟩ := zb_andT h
  refine zb_k_putf (j := 4) dX4_init_33 fl_X4_21 rfl (Or.inr ⟨rfl, rfl, rfl⟩) o4 (Or.inr (Or.inr rfl)) (fun s33 e33 => ?_)
  have h := zb_letE e33 h
  refine zb_aload_n (j := 0) dX4_init_36 rfl rfl ?_
  refine zb_sipush dX4_init_37 (by decide) (zb_inIc rfl) ?_
  refine zb_k_newa (len := 144) dX4_init_40 rfl ac_int rfl 5 192 rfl rfl rfl rfl (fun s40 e40 => ?_)
  have h := zb_letE e40 h
  obtain ⟨o5, h⟩ := zb_andT h
  refine zb_k_putf (j := 5) dX4_init_42 fl_X4_24 rfl (Or.inr ⟨rfl, rfl, rfl⟩) o5 (Or.inr (Or.inr rfl)) (fun s42 e42 => ?_)
  have h := zb_letE e42 h
  exact zb_vreturn dX4_init_45 rfl (Nat.le_of_ble_eq_true rfl) (Nat.le_of_ble_eq_true rfl) ⟨_, rfl, rfl, h⟩
theorem dX5_init_0 : decode cX5_init 0 = .ok (.aload_n 0, 1) := by decide +kernel
theorem dX5_init_1 : decode cX5_init 1 = .ok (.invokespecial 3, 3) := by decide +kernel
theorem dX5_init_4 : decode cX5_init 4 = .ok (.aload_n 0, 1) := by decide +kernel
theorem dX5_init_5 : decode cX5_init 5 = .ok (.bipush 12, 2) := by decide +kernel
theorem dX5_init_7 : decode cX5_init 7 = .ok (.newarray .int, 2) := by decide +kernel
theorem dX5_init_9 : decode cX5_init 9 = .ok (.putfield 9, 3) := by decide +kernel
theorem dX5_init_12 : decode cX5_init 12 = .ok (.aload_n 0, 1) := by decide +kernel
theorem dX5_init_13 : decode cX5_init 13 = .ok (.bipush 12, 2) := by decide +kernel
theorem dX5_init_15 : decode cX5_init 15 = .ok (.newarray .int, 2) := by decide +kernel
theorem dX5_init_17 : decode cX5_init 17 = .ok (.putfield 15, 3) := by decide +kernel
theorem dX5_init_20 : decode cX5_init 20 = .ok (.aload_n 0, 1) := by decide +kernel
theorem dX5_init_21 : decode cX5_init 21 = .ok (.bipush 12, 2) := by decide +kernel
theorem dX5_init_23 : decode cX5_init 23 = .ok (.newarray .int, 2) := by decide +kernel
theorem dX5_init_25 : decode cX5_init 25 = .ok (.putfield 18, 3) := by decide +kernel
theorem dX5_init_28 : decode cX5_init 28 = .ok (.return_, 1) := by decide +kernel
def CM_X5_init (x0 : Int) (σ : zb_Sg) (K : zb_Sg → Bool) : Bool :=
  zb_let ((13, 12, []) :: σ) (fun s7 => ((zb_isb s7 x0 5) && (zb_let (zb_stv s7 x0 2 ((σ.length : Int) + 1)) (fun s9 => zb_let ((13, 12, []) :: s9) (fun s15 => ((zb_isb s15 x0 5) && (zb_let (zb_stv s15 x0 3 ((s9.length : Int) + 1)) (fun s17 => zb_let ((13, 12, []) :: s17) (fun s23 => ((zb_isb s23 x0 5) && (zb_let (zb_stv s23 x0 4 ((s17.length : Int) + 1)) (fun s25 => K s25))))))))))))
set_option maxRecDepth 100000 in
set_option maxHeartbeats 40000000 in
theorem cw_X5_init {d : Nat} {x0 : Int} {σ : zb_Sg} {K : zb_Sg → Bool} (h : CM_X5_init x0 σ K = true) : zb_Ct F_X5_init (d + 1) 3 36 [(2, x0)] σ K := by
  unfold CM_X5_init at h
  refine zb_k_tri gd_X5_init rfl rfl (fun G C hO => ?_)
  show zb_WP _ _ 0 [(0, (2, x0))] [] _ _ _ _
  have hx0 : 1 ≤ x0 := hO (2, x0) List.mem_cons_self
  refine zb_aload_n (j := 0) dX5_init_0 rfl rfl ?_
  refine zb_objI dX5_init_1 lk_X5_3 hx0 (by omega) (Nat.le_of_ble_eq_true rfl) ?_
  refine zb_aload_n (j := 0) dX5_init_4 rfl rfl ?_
  refine zb_bipush dX5_init_5 (by decide) (zb_inIc rfl) ?_
  refine zb_k_newa (len := 12) dX5_init_7 rfl ac_int rfl 1 12 rfl rfl rfl rfl (fun s7 e7 => ?_)
  have h := zb_letE e7 h
  obtain ⟨o1, h⟩ := zb_andT h
  refine zb_k_putf (j := 2) dX5_init_9 fl_X5_9 rfl (Or.inr ⟨rfl, rfl, rfl⟩) o1 (Or.inr (Or.inr rfl)) (fun s9 e9 => ?_)
  have h := zb_letE e9 h
  refine zb_aload_n (j := 0) dX5_init_12 rfl rfl ?_
  refine zb_bipush dX5_init_13 (by decide) (zb_inIc rfl) ?_
  refine zb_k_newa (len := 12) dX5_init_15 rfl ac_int rfl 2 24 rfl rfl rfl rfl (fun s15 e15 => ?_)
  have h := zb_letE e15 h
  obtain ⟨o2, h⟩ := zb_andT h
  refine zb_k_putf (j := 3) dX5_init_17 fl_X5_15 rfl (Or.inr ⟨rfl, rfl, rfl⟩) o2 (Or.inr (Or.inr rfl)) (fun s17 e17 => ?_)
  have h := zb_letE e17 h
  refine zb_aload_n (j := 0) dX5_init_20 rfl rfl ?_
  refine zb_bipush dX5_init_21 (by decide) (zb_inIc rfl) ?_
  refine zb_k_newa (len := 12) dX5_init_23 rfl ac_int rfl 3 36 rfl rfl rfl rfl (fun s23 e23 => ?_)
  have h := zb_letE e23 h
  obtain ⟨o3, h⟩ := zb_andT h
  refine zb_k_putf (j := 4) dX5_init_25 fl_X5_18 rfl (Or.inr ⟨rfl, rfl, rfl⟩) o3 (Or.inr (Or.inr rfl)) (fun s25 e25 => ?_)
  have h := zb_letE e25 h
  exact zb_vreturn dX5_init_28 rfl (Nat.le_of_ble_eq_true rfl) (Nat.le_of_ble_eq_true rfl) ⟨_, rfl, rfl, h⟩
theorem dX3_init_0 : decode cX3_init 0 = .ok (.aload_n 0, 1) := by decide +kernel
theorem dX3_init_1 : decode cX3_init 1 = .ok (.invokespecial 3, 3) := by decide +kernel
theorem dX3_init_4 : decode cX3_init 4 = .ok (.aload_n 0, 1) := by decide +kernel
theorem dX3_init_5 : decode cX3_init 5 = .ok (.sipush 157, 3) := by decide +kernel
theorem dX3_init_8 : decode cX3_init 8 = .ok (.newarray .int, 2) := by decide +kernel
theorem dX3_init_10 : decode cX3_init 10 = .ok (.putfield 9, 3) := by decide +kernel
theorem dX3_init_13 : decode cX3_init 13 = .ok (.aload_n 0, 1) := by decide +kernel
theorem dX3_init_14 : decode cX3_init 14 = .ok (.bipush 12, 2) := by decide +kernel
theorem dX3_init_16 : decode cX3_init 16 = .ok (.newarray .int, 2) := by decide +kernel
theorem dX3_init_18 : decode cX3_init 18 = .ok (.putfield 15, 3) := by decide +kernel
theorem dX3_init_21 : decode cX3_init 21 = .ok (.return_, 1) := by decide +kernel
def CM_X3_init (x0 : Int) (σ : zb_Sg) (K : zb_Sg → Bool) : Bool :=
  zb_let ((13, 157, []) :: σ) (fun s8 => ((zb_isb s8 x0 3) && (zb_let (zb_stv s8 x0 5 ((σ.length : Int) + 1)) (fun s10 => zb_let ((13, 12, []) :: s10) (fun s16 => ((zb_isb s16 x0 3) && (zb_let (zb_stv s16 x0 6 ((s10.length : Int) + 1)) (fun s18 => K s18))))))))
set_option maxRecDepth 100000 in
set_option maxHeartbeats 40000000 in
theorem cw_X3_init {d : Nat} {x0 : Int} {σ : zb_Sg} {K : zb_Sg → Bool} (h : CM_X3_init x0 σ K = true) : zb_Ct F_X3_init (d + 1) 2 169 [(2, x0)] σ K := by
  unfold CM_X3_init at h
  refine zb_k_tri gd_X3_init rfl rfl (fun G C hO => ?_)
  show zb_WP _ _ 0 [(0, (2, x0))] [] _ _ _ _
  have hx0 : 1 ≤ x0 := hO (2, x0) List.mem_cons_self
  refine zb_aload_n (j := 0) dX3_init_0 rfl rfl ?_
  refine zb_objI dX3_init_1 lk_X3_3 hx0 (by omega) (Nat.le_of_ble_eq_true rfl) ?_
  refine zb_aload_n (j := 0) dX3_init_4 rfl rfl ?_
  refine zb_sipush dX3_init_5 (by decide) (zb_inIc rfl) ?_
  refine zb_k_newa (len := 157) dX3_init_8 rfl ac_int rfl 1 157 rfl rfl rfl rfl (fun s8 e8 => ?_)
  have h := zb_letE e8 h
  obtain ⟨o1, h⟩ := zb_andT h
  refine zb_k_putf (j := 5) dX3_init_10 fl_X3_9 rfl (Or.inr ⟨rfl, rfl, rfl⟩) o1 (Or.inr (Or.inr rfl)) (fun s10 e10 => ?_)
  have h := zb_letE e10 h
  refine zb_aload_n (j := 0) dX3_init_13 rfl rfl ?_
  refine zb_bipush dX3_init_14 (by decide) (zb_inIc rfl) ?_
  refine zb_k_newa (len := 12) dX3_init_16 rfl ac_int rfl 2 169 rfl rfl rfl rfl (fun s16 e16 => ?_)
  have h := zb_letE e16 h
  obtain ⟨o2, h⟩ := zb_andT h
  refine zb_k_putf (j := 6) dX3_init_18 fl_X3_15 rfl (Or.inr ⟨rfl, rfl, rfl⟩) o2 (Or.inr (Or.inr rfl)) (fun s18 e18 => ?_)
  have h := zb_letE e18 h
  exact zb_vreturn dX3_init_21 rfl (Nat.le_of_ble_eq_true rfl) (Nat.le_of_ble_eq_true rfl) ⟨_, rfl, rfl, h⟩
theorem dX10_init_0 : decode cX10_init 0 = .ok (.aload_n 0, 1) := by decide +kernel
theorem dX10_init_1 : decode cX10_init 1 = .ok (.invokespecial 3, 3) := by decide +kernel
theorem dX10_init_4 : decode cX10_init 4 = .ok (.aload_n 0, 1) := by decide +kernel
theorem dX10_init_5 : decode cX10_init 5 = .ok (.bipush 12, 2) := by decide +kernel
theorem dX10_init_7 : decode cX10_init 7 = .ok (.newarray .int, 2) := by decide +kernel
theorem dX10_init_9 : decode cX10_init 9 = .ok (.putfield 9, 3) := by decide +kernel
theorem dX10_init_12 : decode cX10_init 12 = .ok (.return_, 1) := by decide +kernel
def CM_X10_init (x0 : Int) (σ : zb_Sg) (K : zb_Sg → Bool) : Bool :=
  zb_let ((13, 12, []) :: σ) (fun s7 => ((zb_isb s7 x0 10) && (zb_let (zb_stv s7 x0 1 ((σ.length : Int) + 1)) (fun s9 => K s9))))
set_option maxRecDepth 100000 in
set_option maxHeartbeats 40000000 in
theorem cw_X10_init {d : Nat} {x0 : Int} {σ : zb_Sg} {K : zb_Sg → Bool} (h : CM_X10_init x0 σ K = true) : zb_Ct F_X10_init (d + 1) 1 12 [(2, x0)] σ K := by
  unfold CM_X10_init at h
  refine zb_k_tri gd_X10_init rfl rfl (fun G C hO => ?_)
  show zb_WP _ _ 0 [(0, (2, x0))] [] _ _ _ _
  have hx0 : 1 ≤ x0 := hO (2, x0) List.mem_cons_self
  refine zb_aload_n (j := 0) dX10_init_0 rfl rfl ?_
  refine zb_objI dX10_init_1 lk_X10_3 hx0 (by omega) (Nat.le_of_ble_eq_true rfl) ?_
  refine zb_aload_n (j := 0) dX10_init_4 rfl rfl ?_
  refine zb_bipush dX10_init_5 (by decide) (zb_inIc rfl) ?_
  refine zb_k_newa (len := 12) dX10_init_7 rfl ac_int rfl 1 12 rfl rfl rfl rfl (fun s7 e7 => ?_)
  have h := zb_letE e7 h
  obtain ⟨o1, h⟩ := zb_andT h
  refine zb_k_putf (j := 1) dX10_init_9 fl_X10_9 rfl (Or.inr ⟨rfl, rfl, rfl⟩) o1 (Or.inr (Or.inr rfl)) (fun s9 e9 => ?_)
  have h := zb_letE e9 h
  exact zb_vreturn dX10_init_12 rfl (Nat.le_of_ble_eq_true rfl) (Nat.le_of_ble_eq_true rfl) ⟨_, rfl, rfl, h⟩
theorem dX6_init_0 : decode cX6_init 0 = .ok (.aload_n 0, 1) := by decide +kernel
theorem dX6_init_1 : decode cX6_init 1 = .ok (.invokespecial 3, 3) := by decide +kernel
theorem dX6_init_4 : decode cX6_init 4 = .ok (.aload_n 0, 1) := by decide +kernel
theorem dX6_init_5 : decode cX6_init 5 = .ok (.bipush 12, 2) := by decide +kernel
theorem dX6_init_7 : decode cX6_init 7 = .ok (.newarray .int, 2) := by decide +kernel
theorem dX6_init_9 : decode cX6_init 9 = .ok (.putfield 9, 3) := by decide +kernel
theorem dX6_init_12 : decode cX6_init 12 = .ok (.aload_n 0, 1) := by decide +kernel
theorem dX6_init_13 : decode cX6_init 13 = .ok (.bipush 12, 2) := by decide +kernel
theorem dX6_init_15 : decode cX6_init 15 = .ok (.newarray .int, 2) := by decide +kernel
theorem dX6_init_17 : decode cX6_init 17 = .ok (.putfield 15, 3) := by decide +kernel
theorem dX6_init_20 : decode cX6_init 20 = .ok (.aload_n 0, 1) := by decide +kernel
theorem dX6_init_21 : decode cX6_init 21 = .ok (.bipush 12, 2) := by decide +kernel
theorem dX6_init_23 : decode cX6_init 23 = .ok (.newarray .int, 2) := by decide +kernel
theorem dX6_init_25 : decode cX6_init 25 = .ok (.putfield 18, 3) := by decide +kernel
theorem dX6_init_28 : decode cX6_init 28 = .ok (.aload_n 0, 1) := by decide +kernel
theorem dX6_init_29 : decode cX6_init 29 = .ok (.sipush 144, 3) := by decide +kernel
theorem dX6_init_32 : decode cX6_init 32 = .ok (.newarray .int, 2) := by decide +kernel
theorem dX6_init_34 : decode cX6_init 34 = .ok (.putfield 21, 3) := by decide +kernel
theorem dX6_init_37 : decode cX6_init 37 = .ok (.aload_n 0, 1) := by decide +kernel
theorem dX6_init_38 : decode cX6_init 38 = .ok (.sipush 144, 3) := by decide +kernel
theorem dX6_init_41 : decode cX6_init 41 = .ok (.newarray .long, 2) := by decide +kernel
theorem dX6_init_43 : decode cX6_init 43 = .ok (.putfield 24, 3) := by decide +kernel
theorem dX6_init_46 : decode cX6_init 46 = .ok (.return_, 1) := by decide +kernel
def CM_X6_init (x0 : Int) (σ : zb_Sg) (K : zb_Sg → Bool) : Bool :=
  zb_let ((13, 12, []) :: σ) (fun s7 => ((zb_isb s7 x0 6) && (zb_let (zb_stv s7 x0 1 ((σ.length : Int) + 1)) (fun s9 => zb_let ((13, 12, []) :: s9) (fun s15 => ((zb_isb s15 x0 6) && (zb_let (zb_stv s15 x0 2 ((s9.length : Int) + 1)) (fun s17 => zb_let ((13, 12, []) :: s17) (fun s23 => ((zb_isb s23 x0 6) && (zb_let (zb_stv s23 x0 3 ((s17.length : Int) + 1)) (fun s25 => zb_let ((13, 144, []) :: s25) (fun s32 => ((zb_isb s32 x0 6) && (zb_let (zb_stv s32 x0 4 ((s25.length : Int) + 1)) (fun s34 => zb_let ((14, 144, []) :: s34) (fun s41 => ((zb_isb s41 x0 6) && (zb_let (zb_stv s41 x0 5 ((s34.length : Int) + 1)) (fun s43 => K s43))))))))))))))))))))
set_option maxRecDepth 100000 in
set_option maxHeartbeats 40000000 in
theorem cw_X6_init {d : Nat} {x0 : Int} {σ : zb_Sg} {K : zb_Sg → Bool} (h : CM_X6_init x0 σ K = true) : zb_Ct F_X6_init (d + 1) 5 324 [(2, x0)] σ K := by
  unfold CM_X6_init at h
  refine zb_k_tri gd_X6_init rfl rfl (fun G C hO => ?_)
  show zb_WP _ _ 0 [(0, (2, x0))] [] _ _ _ _
  have hx0 : 1 ≤ x0 := hO (2, x0) List.mem_cons_self
  refine zb_aload_n (j := 0) dX6_init_0 rfl rfl ?_
  refine zb_objI dX6_init_1 lk_X6_3 hx0 (by omega) (Nat.le_of_ble_eq_true rfl) ?_
  refine zb_aload_n (j := 0) dX6_init_4 rfl rfl ?_
  refine zb_bipush dX6_init_5 (by decide) (zb_inIc rfl) ?_
  refine zb_k_newa (len := 12) dX6_init_7 rfl ac_int rfl 1 12 rfl rfl rfl rfl (fun s7 e7 => ?_)
  have h := zb_letE e7 h
  obtain ⟨o1, h⟩ := zb_andT h
  refine zb_k_putf (j := 1) dX6_init_9 fl_X6_9 rfl (Or.inr ⟨rfl, rfl, rfl⟩) o1 (Or.inr (Or.inr rfl)) (fun s9 e9 => ?_)
  have h := zb_letE e9 h
  refine zb_aload_n (j := 0) dX6_init_12 rfl rfl ?_
  refine zb_bipush dX6_init_13 (by decide) (zb_inIc rfl) ?_
  refine zb_k_newa (len := 12) dX6_init_15 rfl ac_int rfl 2 24 rfl rfl rfl rfl (fun s15 e15 => ?_)
  have h := zb_letE e15 h
  obtain ⟨o2, h⟩ := zb_andT h
  refine zb_k_putf (j := 2) dX6_init_17 fl_X6_15 rfl (Or.inr ⟨rfl, rfl, rfl⟩) o2 (Or.inr (Or.inr rfl)) (fun s17 e17 => ?_)
  have h := zb_letE e17 h
  refine zb_aload_n (j := 0) dX6_init_20 rfl rfl ?_
  refine zb_bipush dX6_init_21 (by decide) (zb_inIc rfl) ?_
  refine zb_k_newa (len := 12) dX6_init_23 rfl ac_int rfl 3 36 rfl rfl rfl rfl (fun s23 e23 => ?_)
  have h := zb_letE e23 h
  obtain ⟨o3, h⟩ := zb_andT h
  refine zb_k_putf (j := 3) dX6_init_25 fl_X6_18 rfl (Or.inr ⟨rfl, rfl, rfl⟩) o3 (Or.inr (Or.inr rfl)) (fun s25 e25 => ?_)
  have h := zb_letE e25 h
  refine zb_aload_n (j := 0) dX6_init_28 rfl rfl ?_
  refine zb_sipush dX6_init_29 (by decide) (zb_inIc rfl) ?_
  refine zb_k_newa (len := 144) dX6_init_32 rfl ac_int rfl 4 180 rfl rfl rfl rfl (fun s32 e32 => ?_)
  have h := zb_letE e32 h
  obtain ⟨o4, h⟩ := zb_andT h
  refine zb_k_putf (j := 4) dX6_init_34 fl_X6_21 rfl (Or.inr ⟨rfl, rfl, rfl⟩) o4 (Or.inr (Or.inr rfl)) (fun s34 e34 => ?_)
  have h := zb_letE e34 h
  refine zb_aload_n (j := 0) dX6_init_37 rfl rfl ?_
  refine zb_sipush dX6_init_38 (by decide) (zb_inIc rfl) ?_
  refine zb_k_newa (len := 144) dX6_init_41 rfl ac_long rfl 5 324 rfl rfl rfl rfl (fun s41 e41 => ?_)
  have h := zb_letE e41 h
  obtain ⟨o5, h⟩ := zb_andT h
  refine zb_k_putf (j := 5) dX6_init_43 fl_X6_24 rfl (Or.inr ⟨rfl, rfl, rfl⟩) o5 (Or.inr (Or.inr rfl)) (fun s43 e43 => ?_)
  have h := zb_letE e43 h
  exact zb_vreturn dX6_init_46 rfl (Nat.le_of_ble_eq_true rfl) (Nat.le_of_ble_eq_true rfl) ⟨_, rfl, rfl, h⟩
theorem dX7_init_0 : decode cX7_init 0 = .ok (.aload_n 0, 1) := by decide +kernel
theorem dX7_init_1 : decode cX7_init 1 = .ok (.invokespecial 3, 3) := by decide +kernel
theorem dX7_init_4 : decode cX7_init 4 = .ok (.aload_n 0, 1) := by decide +kernel
theorem dX7_init_5 : decode cX7_init 5 = .ok (.sipush 288, 3) := by decide +kernel
theorem dX7_init_8 : decode cX7_init 8 = .ok (.newarray .long, 2) := by decide +kernel
theorem dX7_init_10 : decode cX7_init 10 = .ok (.putfield 11, 3) := by decide +kernel
theorem dX7_init_13 : decode cX7_init 13 = .ok (.aload_n 0, 1) := by decide +kernel
theorem dX7_init_14 : decode cX7_init 14 = .ok (.bipush 12, 2) := by decide +kernel
theorem dX7_init_16 : decode cX7_init 16 = .ok (.newarray .int, 2) := by decide +kernel
theorem dX7_init_18 : decode cX7_init 18 = .ok (.putfield 15, 3) := by decide +kernel
theorem dX7_init_21 : decode cX7_init 21 = .ok (.aload_n 0, 1) := by decide +kernel
theorem dX7_init_22 : decode cX7_init 22 = .ok (.bipush 12, 2) := by decide +kernel
theorem dX7_init_24 : decode cX7_init 24 = .ok (.newarray .int, 2) := by decide +kernel
theorem dX7_init_26 : decode cX7_init 26 = .ok (.putfield 19, 3) := by decide +kernel
theorem dX7_init_29 : decode cX7_init 29 = .ok (.return_, 1) := by decide +kernel
def CM_X7_init (x0 : Int) (σ : zb_Sg) (K : zb_Sg → Bool) : Bool :=
  zb_let ((14, 288, []) :: σ) (fun s8 => ((zb_isb s8 x0 7) && (zb_let (zb_stv s8 x0 0 ((σ.length : Int) + 1)) (fun s10 => zb_let ((13, 12, []) :: s10) (fun s16 => ((zb_isb s16 x0 7) && (zb_let (zb_stv s16 x0 2 ((s10.length : Int) + 1)) (fun s18 => zb_let ((13, 12, []) :: s18) (fun s24 => ((zb_isb s24 x0 7) && (zb_let (zb_stv s24 x0 3 ((s18.length : Int) + 1)) (fun s26 => K s26))))))))))))
set_option maxRecDepth 100000 in
set_option maxHeartbeats 40000000 in
theorem cw_X7_init {d : Nat} {x0 : Int} {σ : zb_Sg} {K : zb_Sg → Bool} (h : CM_X7_init x0 σ K = true) : zb_Ct F_X7_init (d + 1) 3 312 [(2, x0)] σ K := by
  unfold CM_X7_init at h
  refine zb_k_tri gd_X7_init rfl rfl (fun G C hO => ?_)
  show zb_WP _ _ 0 [(0, (2, x0))] [] _ _ _ _
  have hx0 : 1 ≤ x0 := hO (2, x0) List.mem_cons_self
  refine zb_aload_n (j := 0) dX7_init_0 rfl rfl ?_
  refine zb_objI dX7_init_1 lk_X7_3 hx0 (by omega) (Nat.le_of_ble_eq_true rfl) ?_
  refine zb_aload_n (j := 0) dX7_init_4 rfl rfl ?_
  refine zb_sipush dX7_init_5 (by decide) (zb_inIc rfl) ?_
  refine zb_k_newa (len := 288) dX7_init_8 rfl ac_long rfl 1 288 rfl rfl rfl rfl (fun s8 e8 => ?_)
  have h := zb_letE e8 h
  obtain ⟨o1, h⟩ := zb_andT h
  refine zb_k_putf (j := 0) dX7_init_10 fl_X7_11 rfl (Or.inr ⟨rfl, rfl, rfl⟩) o1 (Or.inr (Or.inr rfl)) (fun s10 e10 => ?_)
  have h := zb_letE e10 h
  refine zb_aload_n (j := 0) dX7_init_13 rfl rfl ?_
  refine zb_bipush dX7_init_14 (by decide) (zb_inIc rfl) ?_
  refine zb_k_newa (len := 12) dX7_init_16 rfl ac_int rfl 2 300 rfl rfl rfl rfl (fun s16 e16 => ?_)
  have h := zb_letE e16 h
  obtain ⟨o2, h⟩ := zb_andT h
  refine zb_k_putf (j := 2) dX7_init_18 fl_X7_15 rfl (Or.inr ⟨rfl, rfl, rfl⟩) o2 (Or.inr (Or.inr rfl)) (fun s18 e18 => ?_)
  have h := zb_letE e18 h
  refine zb_aload_n (j := 0) dX7_init_21 rfl rfl ?_
  refine zb_bipush dX7_init_22 (by decide) (zb_inIc rfl) ?_
  refine zb_k_newa (len := 12) dX7_init_24 rfl ac_int rfl 3 312 rfl rfl rfl rfl (fun s24 e24 => ?_)
  have h := zb_letE e24 h
  obtain ⟨o3, h⟩ := zb_andT h
  refine zb_k_putf (j := 3) dX7_init_26 fl_X7_19 rfl (Or.inr ⟨rfl, rfl, rfl⟩) o3 (Or.inr (Or.inr rfl)) (fun s26 e26 => ?_)
  have h := zb_letE e26 h
  exact zb_vreturn dX7_init_29 rfl (Nat.le_of_ble_eq_true rfl) (Nat.le_of_ble_eq_true rfl) ⟨_, rfl, rfl, h⟩
theorem dX1_init_0 : decode cX1_init 0 = .ok (.aload_n 0, 1) := by decide +kernel
theorem dX1_init_1 : decode cX1_init 1 = .ok (.invokespecial 3, 3) := by decide +kernel
theorem dX1_init_4 : decode cX1_init 4 = .ok (.aload_n 0, 1) := by decide +kernel
theorem dX1_init_5 : decode cX1_init 5 = .ok (.bipush 20, 2) := by decide +kernel
theorem dX1_init_7 : decode cX1_init 7 = .ok (.anewarray 9, 3) := by decide +kernel
theorem dX1_init_10 : decode cX1_init 10 = .ok (.putfield 11, 3) := by decide +kernel
theorem dX1_init_13 : decode cX1_init 13 = .ok (.aload_n 0, 1) := by decide +kernel
theorem dX1_init_14 : decode cX1_init 14 = .ok (.bipush 20, 2) := by decide +kernel
theorem dX1_init_16 : decode cX1_init 16 = .ok (.newarray .int, 2) := by decide +kernel
theorem dX1_init_18 : decode cX1_init 18 = .ok (.putfield 17, 3) := by decide +kernel
theorem dX1_init_21 : decode cX1_init 21 = .ok (.iconst 0, 1) := by decide +kernel
theorem dX1_init_22 : decode cX1_init 22 = .ok (.istore_n 1, 1) := by decide +kernel
theorem dX1_init_23 : decode cX1_init 23 = .ok (.iload_n 1, 1) := by decide +kernel
theorem dX1_init_24 : decode cX1_init 24 = .ok (.bipush 20, 2) := by decide +kernel
theorem dX1_init_26 : decode cX1_init 26 = .ok (.if_icmp .ge 22, 3) := by decide +kernel
theorem dX1_init_29 : decode cX1_init 29 = .ok (.aload_n 0, 1) := by decide +kernel
theorem dX1_init_30 : decode cX1_init 30 = .ok (.getfield 11, 3) := by decide +kernel
theorem dX1_init_33 : decode cX1_init 33 = .ok (.iload_n 1, 1) := by decide +kernel
theorem dX1_init_34 : decode cX1_init 34 = .ok (.new 9, 3) := by decide +kernel
theorem dX1_init_37 : decode cX1_init 37 = .ok (.dup, 1) := by decide +kernel
theorem dX1_init_38 : decode cX1_init 38 = .ok (.invokespecial 21, 3) := by decide +kernel
theorem dX1_init_41 : decode cX1_init 41 = .ok (.aastore, 1) := by decide +kernel
theorem dX1_init_42 : decode cX1_init 42 = .ok (.iinc 1 1, 3) := by decide +kernel
theorem dX1_init_45 : decode cX1_init 45 = .ok (.goto (-22), 3) := by decide +kernel
theorem dX1_init_48 : decode cX1_init 48 = .ok (.return_, 1) := by decide +kernel
def CL_X1_init_23 (K : zb_Sg → Bool) : Nat → Int → Int → zb_Sg → Nat → Nat → Bool
  | 0, _, _, _, _, _ => false
  | fuel + 1, x0, v23, z23, k23, n23 => (if 20 ≤ v23 then ((Nat.ble k23 122) && (((Nat.ble n23 4000) && (K z23)))) else ((zb_isb z23 x0 1) && (((decide (1 ≤ (zb_dM z23 x0 (0 : Nat)))) && (((Nat.ble (k23 + 1) 122) && (((Nat.ble (n23 + 6) 4000) && (zb_let ((4, 0, []) :: z23) (fun s34 => ((Nat.ble ((k23 + 1) + 5) 122) && (((Nat.ble ((n23 + 6) + 192) 4000) && (CM_X4_init ((z23.length : Int) + 1) s34 (fun s38 => ((decide (v23 = (((v23).toNat : Nat) : Int))) && (((zb_isb s38 (zb_dM z23 x0 (0 : Nat)) (13 + 3)) && (((Nat.blt (v23).toNat (zb_lnb s38 (zb_dM z23 x0 (0 : Nat)))) && (((zb_isb s38 ((z23.length : Int) + 1) (zb_comp 3)) && (zb_let (zb_stv s38 (zb_dM z23 x0 (0 : Nat)) (v23).toNat ((z23.length : Int) + 1)) (fun s41 => ((decide (-2147483648 ≤ (v23 + 1)) && decide ((v23 + 1) ≤ 2147483647)) && (CL_X1_init_23 K fuel x0 (v23 + 1) s41 ((k23 + 1) + 5) ((n23 + 6) + 192)))))))))))))))))))))))))))
def CM_X1_init (x0 : Int) (σ : zb_Sg) (K : zb_Sg → Bool) : Bool :=
  zb_let ((16, 20, []) :: σ) (fun s7 => ((zb_isb s7 x0 1) && (zb_let (zb_stv s7 x0 0 ((σ.length : Int) + 1)) (fun s10 => zb_let ((13, 20, []) :: s10) (fun s16 => ((zb_isb s16 x0 1) && (zb_let (zb_stv s16 x0 1 ((s10.length : Int) + 1)) (fun s18 => CL_X1_init_23 K 30 x0 0 s18 2 40))))))))
set_option maxRecDepth 100000 in
set_option maxHeartbeats 40000000 in
theorem cw_X1_init {d : Nat} {x0 : Int} {σ : zb_Sg} {K : zb_Sg → Bool} (h : CM_X1_init x0 σ K = true) : zb_Ct F_X1_init (d + 2) 122 4000 [(2, x0)] σ K := by
  unfold CM_X1_init at h
  refine zb_k_tri gd_X1_init rfl rfl (fun G C hO => ?_)
  show zb_WP _ _ 0 [(0, (2, x0))] [] _ _ _ _
  have hx0 : 1 ≤ x0 := hO (2, x0) List.mem_cons_self
  refine zb_aload_n (j := 0) dX1_init_0 rfl rfl ?_
  refine zb_objI dX1_init_1 lk_X1_3 hx0 (by omega) (Nat.le_of_ble_eq_true rfl) ?_
  refine zb_aload_n (j := 0) dX1_init_4 rfl rfl ?_
  refine zb_bipush dX1_init_5 (by decide) (zb_inIc rfl) ?_
  refine zb_k_newq (t := 3) (len := 20) rfl dX1_init_7 (by decide) rfl mq_X1_9 (by decide +kernel) rfl 1 20 rfl rfl rfl rfl (fun s7 e7 => ?_)
  have h := zb_letE e7 h
  obtain ⟨o1, h⟩ := zb_andT h
  refine zb_k_putf (j := 0) dX1_init_10 fl_X1_11 rfl (Or.inr ⟨rfl, rfl, rfl⟩) o1 (Or.inr (Or.inr rfl)) (fun s10 e10 => ?_)
  have h := zb_letE e10 h
  refine zb_aload_n (j := 0) dX1_init_13 rfl rfl ?_
  refine zb_bipush dX1_init_14 (by decide) (zb_inIc rfl) ?_
  refine zb_k_newa (len := 20) dX1_init_16 rfl ac_int rfl 2 40 rfl rfl rfl rfl (fun s16 e16 => ?_)
  have h := zb_letE e16 h
  obtain ⟨o2, h⟩ := zb_andT h
  refine zb_k_putf (j := 1) dX1_init_18 fl_X1_17 rfl (Or.inr ⟨rfl, rfl, rfl⟩) o2 (Or.inr (Or.inr rfl)) (fun s18 e18 => ?_)
  have h := zb_letE e18 h
  refine zb_iconst dX1_init_21 (zb_inIc rfl) ?_
  refine zb_istore_n (L' := [(1, (0, 0)), (0, (2, x0))]) dX1_init_22 rfl (by decide) rfl ?_
  refine zb_sub (L' := [(0, (2, x0)), (1, (0, 0))]) [1, 0] rfl ?_
  have hL23 : ∀ (fuel : Nat) (v23 : Int) (z23 : zb_Sg) (k23 n23 : Nat), CL_X1_init_23 K fuel x0 v23 z23 k23 n23 = true → zb_WP (G, C, d + 2, 122, 4000, fun _ S' m' => ∃ σ', S' = zb_dS σ' ∧ m' = zb_dM σ' ∧ K σ' = true) F_X1_init 23 [(0, (2, x0)), (1, (0, v23))] [] (zb_dS z23) (zb_dM z23) k23 n23 := by
    intro fuel
    induction fuel with
    | zero =>
      intro v23 z23 k23 n23 h
      cases h
    | succ fuel ih23 =>
      intro v23 z23 k23 n23 h
      rw [CL_X1_init_23] at h
      refine zb_iload_n (j := 1) dX1_init_23 rfl rfl ?_
      refine zb_bipush dX1_init_24 (by decide) (zb_inIc rfl) ?_
      refine zb_icmp_ge (tgt := 48) dX1_init_26 (by decide) (fun c26 => ?_) (fun c26 => ?_)
      · rw [if_pos c26] at h
        obtain ⟨o3, h⟩ := zb_andT h
        obtain ⟨o4, h⟩ := zb_andT h
        exact zb_vreturn dX1_init_48 rfl (Nat.le_of_ble_eq_true o3) (Nat.le_of_ble_eq_true o4) ⟨_, rfl, rfl, h⟩
      · rw [if_neg c26] at h
        refine zb_aload_n (j := 0) dX1_init_29 rfl rfl ?_
        obtain ⟨o5, h⟩ := zb_andT h
        obtain ⟨o6, h⟩ := zb_andT h
        refine zb_k_getf (j := 0) dX1_init_30 fl_X1_11 rfl o5 o6 ?_
        refine zb_iload_n (j := 1) dX1_init_33 rfl rfl ?_
        obtain ⟨o7, h⟩ := zb_andT h
        obtain ⟨o8, h⟩ := zb_andT h
        refine zb_k_new (sz := 6) dX1_init_34 mk_X1_9 rfl (k23 + 1) (n23 + 6) rfl rfl o7 o8 (fun s34 e34 => ?_)
        have h := zb_letE e34 h
        refine zb_dup dX1_init_37 rfl ?_
        obtain ⟨o9, h⟩ := zb_andT h
        obtain ⟨o10, h⟩ := zb_andT h
        refine zb_k_IN (g := F_X4_init) (d' := d + 1) (k' := 5) (n' := 192) (As := []) (As' := []) (st := [(2, ((z23.length : Int) + 1)), (0, v23), (2, (zb_dM z23 x0 (0 : Nat)))]) dX1_init_38 lk_X1_21 rfl gd_X4_init rfl rfl (by omega) (cw_X4_init h) (by omega) ((k23 + 1) + 5) ((n23 + 6) + 192) rfl rfl o9 o10 (Nat.le_of_ble_eq_true rfl) (fun s38 h => ?_)
        obtain ⟨o11, h⟩ := zb_andT h
        obtain ⟨o12, h⟩ := zb_andT h
        obtain ⟨o13, h⟩ := zb_andT h
        obtain ⟨o14, h⟩ := zb_andT h
        refine zb_k_aast (t := 3) (j := (v23).toNat) dX1_init_41 o11 o12 (by decide) o13 o14 (fun s41 e41 => ?_)
        have h := zb_letE e41 h
        obtain ⟨o15, h⟩ := zb_andT h
        refine zb_iinc (j := 1) (L' := [(1, (0, (v23 + 1))), (0, (2, x0))]) dX1_init_42 rfl (zb_inIc o15) (by decide) rfl ?_
        refine zb_goto (tgt := 23) dX1_init_45 (by decide) ?_
        refine zb_sub (L' := [(0, (2, x0)), (1, (0, (v23 + 1)))]) [1, 0] rfl ?_
        exact ih23 _ _ _ _ h
  exact hL23 _ _ _ _ _ h
theorem dX2_init_0 : decode cX2_init 0 = .ok (.aload_n 0, 1) := by decide +kernel
theorem dX2_init_1 : decode cX2_init 1 = .ok (.invokespecial 3, 3) := by decide +kernel
theorem dX2_init_4 : decode cX2_init 4 = .ok (.aload_n 0, 1) := by decide +kernel
theorem dX2_init_5 : decode cX2_init 5 = .ok (.bipush 8, 2) := by decide +kernel
theorem dX2_init_7 : decode cX2_init 7 = .ok (.anewarray 11, 3) := by decide +kernel
theorem dX2_init_10 : decode cX2_init 10 = .ok (.putfield 13, 3) := by decide +kernel
theorem dX2_init_13 : decode cX2_init 13 = .ok (.aload_n 0, 1) := by decide +kernel
theorem dX2_init_14 : decode cX2_init 14 = .ok (.sipush 1024, 3) := by decide +kernel
theorem dX2_init_17 : decode cX2_init 17 = .ok (.newarray .boolean, 2) := by decide +kernel
theorem dX2_init_19 : decode cX2_init 19 = .ok (.putfield 17, 3) := by decide +kernel
theorem dX2_init_22 : decode cX2_init 22 = .ok (.aload_n 0, 1) := by decide +kernel
theorem dX2_init_23 : decode cX2_init 23 = .ok (.sipush 1024, 3) := by decide +kernel
theorem dX2_init_26 : decode cX2_init 26 = .ok (.newarray .int, 2) := by decide +kernel
theorem dX2_init_28 : decode cX2_init 28 = .ok (.putfield 21, 3) := by decide +kernel
theorem dX2_init_31 : decode cX2_init 31 = .ok (.iconst 0, 1) := by decide +kernel
theorem dX2_init_32 : decode cX2_init 32 = .ok (.istore_n 1, 1) := by decide +kernel
theorem dX2_init_33 : decode cX2_init 33 = .ok (.iload_n 1, 1) := by decide +kernel
theorem dX2_init_34 : decode cX2_init 34 = .ok (.bipush 8, 2) := by decide +kernel
theorem dX2_init_36 : decode cX2_init 36 = .ok (.if_icmp .ge 22, 3) := by decide +kernel
theorem dX2_init_39 : decode cX2_init 39 = .ok (.aload_n 0, 1) := by decide +kernel
theorem dX2_init_40 : decode cX2_init 40 = .ok (.getfield 13, 3) := by decide +kernel
theorem dX2_init_43 : decode cX2_init 43 = .ok (.iload_n 1, 1) := by decide +kernel
theorem dX2_init_44 : decode cX2_init 44 = .ok (.new 11, 3) := by decide +kernel
theorem dX2_init_47 : decode cX2_init 47 = .ok (.dup, 1) := by decide +kernel
theorem dX2_init_48 : decode cX2_init 48 = .ok (.invokespecial 25, 3) := by decide +kernel
theorem dX2_init_51 : decode cX2_init 51 = .ok (.aastore, 1) := by decide +kernel
theorem dX2_init_52 : decode cX2_init 52 = .ok (.iinc 1 1, 3) := by decide +kernel
theorem dX2_init_55 : decode cX2_init 55 = .ok (.goto (-22), 3) := by decide +kernel
theorem dX2_init_58 : decode cX2_init 58 = .ok (.return_, 1) := by decide +kernel
def CL_X2_init_33 (K : zb_Sg → Bool) : Nat → Int → Int → zb_Sg → Nat → Nat → Bool
  | 0, _, _, _, _, _ => false
  | fuel + 1, x0, v33, z33, k33, n33 => (if 8 ≤ v33 then ((Nat.ble k33 27) && (((Nat.ble n33 3464) && (K z33)))) else ((zb_isb z33 x0 2) && (((decide (1 ≤ (zb_dM z33 x0 (0 : Nat)))) && (((Nat.ble (k33 + 1) 27) && (((Nat.ble (n33 + 7) 3464) && (zb_let ((3, 0, []) :: z33) (fun s44 => ((Nat.ble ((k33 + 1) + 2) 27) && (((Nat.ble ((n33 + 7) + 169) 3464) && (CM_X3_init ((z33.length : Int) + 1) s44 (fun s48 => ((decide (v33 = (((v33).toNat : Nat) : Int))) && (((zb_isb s48 (zb_dM z33 x0 (0 : Nat)) (13 + 5)) && (((Nat.blt (v33).toNat (zb_lnb s48 (zb_dM z33 x0 (0 : Nat)))) && (((zb_isb s48 ((z33.length : Int) + 1) (zb_comp 5)) && (zb_let (zb_stv s48 (zb_dM z33 x0 (0 : Nat)) (v33).toNat ((z33.length : Int) + 1)) (fun s51 => ((decide (-2147483648 ≤ (v33 + 1)) && decide ((v33 + 1) ≤ 2147483647)) && (CL_X2_init_33 K fuel x0 (v33 + 1) s51 ((k33 + 1) + 2) ((n33 + 7) + 169)))))))))))))))))))))))))))
def CM_X2_init (x0 : Int) (σ : zb_Sg) (K : zb_Sg → Bool) : Bool :=
  zb_let ((18, 8, []) :: σ) (fun s7 => ((zb_isb s7 x0 2) && (zb_let (zb_stv s7 x0 0 ((σ.length : Int) + 1)) (fun s10 => zb_let ((15, 1024, []) :: s10) (fun s17 => ((zb_isb s17 x0 2) && (zb_let (zb_stv s17 x0 2 ((s10.length : Int) + 1)) (fun s19 => zb_let ((13, 1024, []) :: s19) (fun s26 => ((zb_isb s26 x0 2) && (zb_let (zb_stv s26 x0 3 ((s19.length : Int) + 1)) (fun s28 => CL_X2_init_33 K 30 x0 0 s28 3 2056))))))))))))
set_option maxRecDepth 100000 in
set_option maxHeartbeats 40000000 in
theorem cw_X2_init {d : Nat} {x0 : Int} {σ : zb_Sg} {K : zb_Sg → Bool} (h : CM_X2_init x0 σ K = true) : zb_Ct F_X2_init (d + 2) 27 3464 [(2, x0)] σ K := by
  unfold CM_X2_init at h
  refine zb_k_tri gd_X2_init rfl rfl (fun G C hO => ?_)
  show zb_WP _ _ 0 [(0, (2, x0))] [] _ _ _ _
  have hx0 : 1 ≤ x0 := hO (2, x0) List.mem_cons_self
  refine zb_aload_n (j := 0) dX2_init_0 rfl rfl ?_
  refine zb_objI dX2_init_1 lk_X2_3 hx0 (by omega) (Nat.le_of_ble_eq_true rfl) ?_
  refine zb_aload_n (j := 0) dX2_init_4 rfl rfl ?_
  refine zb_bipush dX2_init_5 (by decide) (zb_inIc rfl) ?_
  refine zb_k_newq (t := 5) (len := 8) rfl dX2_init_7 (by decide) rfl mq_X2_11 (by decide +kernel) rfl 1 8 rfl rfl rfl rfl (fun s7 e7 => ?_)
  have h := zb_letE e7 h
  obtain ⟨o1, h⟩ := zb_andT h
  refine zb_k_putf (j := 0) dX2_init_10 fl_X2_13 rfl (Or.inr ⟨rfl, rfl, rfl⟩) o1 (Or.inr (Or.inr rfl)) (fun s10 e10 => ?_)
  have h := zb_letE e10 h
  refine zb_aload_n (j := 0) dX2_init_13 rfl rfl ?_
  refine zb_sipush dX2_init_14 (by decide) (zb_inIc rfl) ?_
  refine zb_k_newa (len := 1024) dX2_init_17 rfl ac_boolean rfl 2 1032 rfl rfl rfl rfl (fun s17 e17 => ?_)
  have h := zb_letE e17 h
  obtain ⟨o2, h⟩ := zb_andT h
  refine zb_k_putf (j := 2) dX2_init_19 fl_X2_17 rfl (Or.inr ⟨rfl, rfl, rfl⟩) o2 (Or.inr (Or.inr rfl)) (fun s19 e19 => ?_)
  have h := zb_letE e19 h
  refine zb_aload_n (j := 0) dX2_init_22 rfl rfl ?_
  refine zb_sipush dX2_init_23 (by decide) (zb_inIc rfl) ?_
  refine zb_k_newa (len := 1024) dX2_init_26 rfl ac_int rfl 3 2056 rfl rfl rfl rfl (fun s26 e26 => ?_)
  have h := zb_letE e26 h
  obtain ⟨o3, h⟩ := zb_andT h
  refine zb_k_putf (j := 3) dX2_init_28 fl_X2_21 rfl (Or.inr ⟨rfl, rfl, rfl⟩) o3 (Or.inr (Or.inr rfl)) (fun s28 e28 => ?_)
  have h := zb_letE e28 h
  refine zb_iconst dX2_init_31 (zb_inIc rfl) ?_
  refine zb_istore_n (L' := [(1, (0, 0)), (0, (2, x0))]) dX2_init_32 rfl (by decide) rfl ?_
  refine zb_sub (L' := [(0, (2, x0)), (1, (0, 0))]) [1, 0] rfl ?_
  have hL33 : ∀ (fuel : Nat) (v33 : Int) (z33 : zb_Sg) (k33 n33 : Nat), CL_X2_init_33 K fuel x0 v33 z33 k33 n33 = true → zb_WP (G, C, d + 2, 27, 3464, fun _ S' m' => ∃ σ', S' = zb_dS σ' ∧ m' = zb_dM σ' ∧ K σ' = true) F_X2_init 33 [(0, (2, x0)), (1, (0, v33))] [] (zb_dS z33) (zb_dM z33) k33 n33 := by
    intro fuel
    induction fuel with
    | zero =>
      intro v33 z33 k33 n33 h
      cases h
    | succ fuel ih33 =>
      intro v33 z33 k33 n33 h
      rw [CL_X2_init_33] at h
      refine zb_iload_n (j := 1) dX2_init_33 rfl rfl ?_
      refine zb_bipush dX2_init_34 (by decide) (zb_inIc rfl) ?_
      refine zb_icmp_ge (tgt := 58) dX2_init_36 (by decide) (fun c36 => ?_) (fun c36 => ?_)
      · rw [if_pos c36] at h
        obtain ⟨o4, h⟩ := zb_andT h
        obtain ⟨o5, h⟩ := zb_andT h
        exact zb_vreturn dX2_init_58 rfl (Nat.le_of_ble_eq_true o4) (Nat.le_of_ble_eq_true o5) ⟨_, rfl, rfl, h⟩
      · rw [if_neg c36] at h
        refine zb_aload_n (j := 0) dX2_init_39 rfl rfl ?_
        obtain ⟨o6, h⟩ := zb_andT h
        obtain ⟨o7, h⟩ := zb_andT h
        refine zb_k_getf (j := 0) dX2_init_40 fl_X2_13 rfl o6 o7 ?_
        refine zb_iload_n (j := 1) dX2_init_43 rfl rfl ?_
        obtain ⟨o8, h⟩ := zb_andT h
        obtain ⟨o9, h⟩ := zb_andT h
        refine zb_k_new (sz := 7) dX2_init_44 mk_X2_11 rfl (k33 + 1) (n33 + 7) rfl rfl o8 o9 (fun s44 e44 => ?_)
        have h := zb_letE e44 h
        refine zb_dup dX2_init_47 rfl ?_
        obtain ⟨o10, h⟩ := zb_andT h
        obtain ⟨o11, h⟩ := zb_andT h
        refine zb_k_IN (g := F_X3_init) (d' := d + 1) (k' := 2) (n' := 169) (As := []) (As' := []) (st := [(2, ((z33.length : Int) + 1)), (0, v33), (2, (zb_dM z33 x0 (0 : Nat)))]) dX2_init_48 lk_X2_25 rfl gd_X3_init rfl rfl (by omega) (cw_X3_init h) (by omega) ((k33 + 1) + 2) ((n33 + 7) + 169) rfl rfl o10 o11 (Nat.le_of_ble_eq_true rfl) (fun s48 h => ?_)
        obtain ⟨o12, h⟩ := zb_andT h
        obtain ⟨o13, h⟩ := zb_andT h
        obtain ⟨o14, h⟩ := zb_andT h
        obtain ⟨o15, h⟩ := zb_andT h
        refine zb_k_aast (t := 5) (j := (v33).toNat) dX2_init_51 o12 o13 (by decide) o14 o15 (fun s51 e51 => ?_)
        have h := zb_letE e51 h
        obtain ⟨o16, h⟩ := zb_andT h
        refine zb_iinc (j := 1) (L' := [(1, (0, (v33 + 1))), (0, (2, x0))]) dX2_init_52 rfl (zb_inIc o16) (by decide) rfl ?_
        refine zb_goto (tgt := 33) dX2_init_55 (by decide) ?_
        refine zb_sub (L' := [(0, (2, x0)), (1, (0, (v33 + 1)))]) [1, 0] rfl ?_
        exact ih33 _ _ _ _ h
  exact hL33 _ _ _ _ _ h
theorem dX11_makePartings_0 : decode cX11_makePartings 0 = .ok (.iload_n 0, 1) := by decide +kernel
theorem dX11_makePartings_1 : decode cX11_makePartings 1 = .ok (.iconst 0, 1) := by decide +kernel
theorem dX11_makePartings_2 : decode cX11_makePartings 2 = .ok (.invokestatic 334, 3) := by decide +kernel
theorem dX11_makePartings_5 : decode cX11_makePartings 5 = .ok (.anewarray 64, 3) := by decide +kernel
theorem dX11_makePartings_8 : decode cX11_makePartings 8 = .ok (.astore_n 1, 1) := by decide +kernel
theorem dX11_makePartings_9 : decode cX11_makePartings 9 = .ok (.iconst 0, 1) := by decide +kernel
theorem dX11_makePartings_10 : decode cX11_makePartings 10 = .ok (.istore_n 2, 1) := by decide +kernel
theorem dX11_makePartings_11 : decode cX11_makePartings 11 = .ok (.iload_n 2, 1) := by decide +kernel
theorem dX11_makePartings_12 : decode cX11_makePartings 12 = .ok (.aload_n 1, 1) := by decide +kernel
theorem dX11_makePartings_13 : decode cX11_makePartings 13 = .ok (.arraylength, 1) := by decide +kernel
theorem dX11_makePartings_14 : decode cX11_makePartings 14 = .ok (.if_icmp .ge 19, 3) := by decide +kernel
theorem dX11_makePartings_17 : decode cX11_makePartings 17 = .ok (.aload_n 1, 1) := by decide +kernel
theorem dX11_makePartings_18 : decode cX11_makePartings 18 = .ok (.iload_n 2, 1) := by decide +kernel
theorem dX11_makePartings_19 : decode cX11_makePartings 19 = .ok (.new 64, 3) := by decide +kernel
theorem dX11_makePartings_22 : decode cX11_makePartings 22 = .ok (.dup, 1) := by decide +kernel
theorem dX11_makePartings_23 : decode cX11_makePartings 23 = .ok (.invokespecial 66, 3) := by decide +kernel
theorem dX11_makePartings_26 : decode cX11_makePartings 26 = .ok (.aastore, 1) := by decide +kernel
theorem dX11_makePartings_27 : decode cX11_makePartings 27 = .ok (.iinc 2 1, 3) := by decide +kernel
theorem dX11_makePartings_30 : decode cX11_makePartings 30 = .ok (.goto (-19), 3) := by decide +kernel
theorem dX11_makePartings_33 : decode cX11_makePartings 33 = .ok (.aload_n 1, 1) := by decide +kernel
theorem dX11_makePartings_34 : decode cX11_makePartings 34 = .ok (.areturn, 1) := by decide +kernel
def CL_X11_makePartings_11 (K : Int → zb_Sg → Bool) : Nat → Int → Int → zb_Sg → Nat → Nat → Bool
  | 0, _, _, _, _, _ => false
  | fuel + 1, w11_1, v11, z11, k11, n11 => ((zb_isb z11 w11_1 (13 + 4)) && (((Nat.ble (zb_lnb z11 w11_1) 100000) && ((if (zb_lnb z11 w11_1 : Int) ≤ v11 then ((decide (1 ≤ w11_1)) && (((Nat.ble k11 53) && (((Nat.ble n11 546) && (K w11_1 z11)))))) else ((Nat.ble (k11 + 1) 53) && (((Nat.ble (n11 + 5) 546) && (zb_let ((5, 0, []) :: z11) (fun s19 => ((Nat.ble ((k11 + 1) + 3) 53) && (((Nat.ble ((n11 + 5) + 36) 546) && (CM_X5_init ((z11.length : Int) + 1) s19 (fun s23 => ((decide (v11 = (((v11).toNat : Nat) : Int))) && (((zb_isb s23 w11_1 (13 + 4)) && (((Nat.blt (v11).toNat (zb_lnb s23 w11_1)) && (((zb_isb s23 ((z11.length : Int) + 1) (zb_comp 4)) && (zb_let (zb_stv s23 w11_1 (v11).toNat ((z11.length : Int) + 1)) (fun s26 => ((decide (-2147483648 ≤ (v11 + 1)) && decide ((v11 + 1) ≤ 2147483647)) && (CL_X11_makePartings_11 K fuel w11_1 (v11 + 1) s26 ((k11 + 1) + 3) ((n11 + 5) + 36)))))))))))))))))))))))))))
def CM_X11_makePartings (x0 : Int) (σ : zb_Sg) (K : Int → zb_Sg → Bool) : Bool :=
  ((decide ((if x0 < 0 then 0 else x0) = ((((if x0 < 0 then 0 else x0)).toNat : Nat) : Int))) && (((Nat.ble ((if x0 < 0 then 0 else x0)).toNat 100000) && (((Nat.ble (0 + ((if x0 < 0 then 0 else x0)).toNat) 546) && (zb_let ((17, ((if x0 < 0 then 0 else x0)).toNat, []) :: σ) (fun s5 => CL_X11_makePartings_11 K 30 ((σ.length : Int) + 1) 0 s5 1 (0 + ((if x0 < 0 then 0 else x0)).toNat))))))))
set_option maxRecDepth 100000 in
set_option maxHeartbeats 40000000 in
theorem cw_X11_makePartings {d : Nat} {x0 : Int} {σ : zb_Sg} {K : Int → zb_Sg → Bool} (h : CM_X11_makePartings x0 σ K = true) : zb_Cr F_X11_makePartings (d + 2) 53 546 [(0, x0)] σ K := by
  unfold CM_X11_makePartings at h
  refine zb_k_trr gd_X11_makePartings rfl rfl (fun G C hO => ?_)
  show zb_WP _ _ 0 [(0, (0, x0))] [] _ _ _ _
  refine zb_iload_n (j := 0) dX11_makePartings_0 rfl rfl ?_
  refine zb_iconst dX11_makePartings_1 (zb_inIc rfl) ?_
  refine zb_mx dX11_makePartings_2 lk_X11_334 (by omega) (Nat.zero_le _) (Nat.zero_le _) (Nat.le_of_ble_eq_true rfl) ?_
  obtain ⟨o1, h⟩ := zb_andT h
  obtain ⟨o2, h⟩ := zb_andT h
  obtain ⟨o3, h⟩ := zb_andT h
  refine zb_k_newq (t := 4) (len := ((if x0 < 0 then 0 else x0)).toNat) (of_decide_eq_true o1) dX11_makePartings_5 (by decide) rfl mq_X11_64 (by decide +kernel) o2 1 (0 + ((if x0 < 0 then 0 else x0)).toNat) rfl rfl rfl o3 (fun s5 e5 => ?_)
  have h := zb_letE e5 h
  refine zb_astore_n (L' := [(1, (2, ((σ.length : Int) + 1))), (0, (0, x0))]) dX11_makePartings_8 rfl (by decide) rfl ?_
  refine zb_iconst dX11_makePartings_9 (zb_inIc rfl) ?_
  refine zb_istore_n (L' := [(2, (0, 0)), (1, (2, ((σ.length : Int) + 1))), (0, (0, x0))]) dX11_makePartings_10 rfl (by decide) rfl ?_
  refine zb_sub (L' := [(1, (2, ((σ.length : Int) + 1))), (2, (0, 0))]) [1, 0] rfl ?_
  generalize ((σ.length : Int) + 1) = w11_1 at h ⊢
  have hL11 : ∀ (fuel : Nat) (v11 : Int) (z11 : zb_Sg) (k11 n11 : Nat), CL_X11_makePartings_11 K fuel w11_1 v11 z11 k11 n11 = true → zb_WP (G, C, d + 2, 53, 546, fun r S' m' => ∃ σ', S' = zb_dS σ' ∧ m' = zb_dM σ' ∧ K r σ' = true) F_X11_makePartings 11 [(1, (2, w11_1)), (2, (0, v11))] [] (zb_dS z11) (zb_dM z11) k11 n11 := by
    intro fuel
    induction fuel with
    | zero =>
      intro v11 z11 k11 n11 h
      cases h
    | succ fuel ih11 =>
      intro v11 z11 k11 n11 h
      rw [CL_X11_makePartings_11] at h
      refine zb_iload_n (j := 1) dX11_makePartings_11 rfl rfl ?_
      refine zb_aload_n (j := 0) dX11_makePartings_12 rfl rfl ?_
      obtain ⟨o4, h⟩ := zb_andT h
      obtain ⟨o5, h⟩ := zb_andT h
      refine zb_k_alen (t := 4) dX11_makePartings_13 o4 (by decide) o5 ?_
      refine zb_icmp_ge (tgt := 33) dX11_makePartings_14 (by decide) (fun c14 => ?_) (fun c14 => ?_)
      · rw [if_pos c14] at h
        refine zb_aload_n (j := 0) dX11_makePartings_33 rfl rfl ?_
        obtain ⟨o6, h⟩ := zb_andT h
        obtain ⟨o7, h⟩ := zb_andT h
        obtain ⟨o8, h⟩ := zb_andT h
        exact zb_areturn dX11_makePartings_34 (Or.inr ⟨_, rfl⟩) (of_decide_eq_true o6) (Nat.le_of_ble_eq_true o7) (Nat.le_of_ble_eq_true o8) ⟨_, rfl, rfl, h⟩
      · rw [if_neg c14] at h
        refine zb_aload_n (j := 0) dX11_makePartings_17 rfl rfl ?_
        refine zb_iload_n (j := 1) dX11_makePartings_18 rfl rfl ?_
        obtain ⟨o9, h⟩ := zb_andT h
        obtain ⟨o10, h⟩ := zb_andT h
        refine zb_k_new (sz := 5) dX11_makePartings_19 mk_X11_64 rfl (k11 + 1) (n11 + 5) rfl rfl o9 o10 (fun s19 e19 => ?_)
        have h := zb_letE e19 h
        refine zb_dup dX11_makePartings_22 rfl ?_
        obtain ⟨o11, h⟩ := zb_andT h
        obtain ⟨o12, h⟩ := zb_andT h
        refine zb_k_IN (g := F_X5_init) (d' := d + 1) (k' := 3) (n' := 36) (As := []) (As' := []) (st := [(2, ((z11.length : Int) + 1)), (0, v11), (2, w11_1)]) dX11_makePartings_23 lk_X11_66 rfl gd_X5_init rfl rfl (by omega) (cw_X5_init h) (by omega) ((k11 + 1) + 3) ((n11 + 5) + 36) rfl rfl o11 o12 (Nat.le_of_ble_eq_true rfl) (fun s23 h => ?_)
        obtain ⟨o13, h⟩ := zb_andT h
        obtain ⟨o14, h⟩ := zb_andT h
        obtain ⟨o15, h⟩ := zb_andT h
        obtain ⟨o16, h⟩ := zb_andT h
        refine zb_k_aast (t := 4) (j := (v11).toNat) dX11_makePartings_26 o13 o14 (by decide) o15 o16 (fun s26 e26 => ?_)
        have h := zb_letE e26 h
        obtain ⟨o17, h⟩ := zb_andT h
        refine zb_iinc (j := 1) (L' := [(2, (0, (v11 + 1))), (1, (2, w11_1))]) dX11_makePartings_27 rfl (zb_inIc o17) (by decide) rfl ?_
        refine zb_goto (tgt := 11) dX11_makePartings_30 (by decide) ?_
        refine zb_sub (L' := [(1, (2, w11_1)), (2, (0, (v11 + 1)))]) [1, 0] rfl ?_
        exact ih11 _ _ _ _ h
  exact hL11 _ _ _ _ _ h
theorem dX8_init_0 : decode cX8_init 0 = .ok (.aload_n 0, 1) := by decide +kernel
theorem dX8_init_1 : decode cX8_init 1 = .ok (.invokespecial 3, 3) := by decide +kernel
theorem dX8_init_4 : decode cX8_init 4 = .ok (.aload_n 0, 1) := by decide +kernel
theorem dX8_init_5 : decode cX8_init 5 = .ok (.bipush 13, 2) := by decide +kernel
theorem dX8_init_7 : decode cX8_init 7 = .ok (.invokestatic 9, 3) := by decide +kernel
theorem dX8_init_10 : decode cX8_init 10 = .ok (.putfield 13, 3) := by decide +kernel
theorem dX8_init_13 : decode cX8_init 13 = .ok (.aload_n 0, 1) := by decide +kernel
theorem dX8_init_14 : decode cX8_init 14 = .ok (.sipush 144, 3) := by decide +kernel
theorem dX8_init_17 : decode cX8_init 17 = .ok (.newarray .boolean, 2) := by decide +kernel
theorem dX8_init_19 : decode cX8_init 19 = .ok (.putfield 19, 3) := by decide +kernel
theorem dX8_init_22 : decode cX8_init 22 = .ok (.aload_n 0, 1) := by decide +kernel
theorem dX8_init_23 : decode cX8_init 23 = .ok (.sipush 157, 3) := by decide +kernel
theorem dX8_init_26 : decode cX8_init 26 = .ok (.newarray .int, 2) := by decide +kernel
theorem dX8_init_28 : decode cX8_init 28 = .ok (.putfield 23, 3) := by decide +kernel
theorem dX8_init_31 : decode cX8_init 31 = .ok (.aload_n 0, 1) := by decide +kernel
theorem dX8_init_32 : decode cX8_init 32 = .ok (.aload_n 1, 1) := by decide +kernel
theorem dX8_init_33 : decode cX8_init 33 = .ok (.putfield 27, 3) := by decide +kernel
theorem dX8_init_36 : decode cX8_init 36 = .ok (.return_, 1) := by decide +kernel
def CM_X8_init (x0 : Int) (x1 : Int) (σ : zb_Sg) (K : zb_Sg → Bool) : Bool :=
  CM_X11_makePartings 13 σ (fun r7 s7 => ((zb_isb s7 x0 8) && (zb_let (zb_stv s7 x0 1 r7) (fun s10 => zb_let ((15, 144, []) :: s10) (fun s17 => ((zb_isb s17 x0 8) && (zb_let (zb_stv s17 x0 2 ((s10.length : Int) + 1)) (fun s19 => zb_let ((13, 157, []) :: s19) (fun s26 => ((zb_isb s26 x0 8) && (zb_let (zb_stv s26 x0 3 ((s19.length : Int) + 1)) (fun s28 => ((zb_isb s28 x0 8) && (zb_let (zb_stv s28 x0 0 x1) (fun s33 => K s33)))))))))))))))
set_option maxRecDepth 100000 in
set_option maxHeartbeats 40000000 in
theorem cw_X8_init {d : Nat} {x0 x1 : Int} {σ : zb_Sg} {K : zb_Sg → Bool} (h : CM_X8_init x0 x1 σ K = true) : zb_Ct F_X8_init (d + 3) 55 847 [(2, x0), (2, x1)] σ K := by
  unfold CM_X8_init at h
  refine zb_k_tri gd_X8_init rfl rfl (fun G C hO => ?_)
  show zb_WP _ _ 0 [(0, (2, x0)), (1, (2, x1))] [] _ _ _ _
  have hx0 : 1 ≤ x0 := hO (2, x0) List.mem_cons_self
  refine zb_aload_n (j := 0) dX8_init_0 rfl rfl ?_
  refine zb_objI dX8_init_1 lk_X8_3 hx0 (by omega) (Nat.le_of_ble_eq_true rfl) ?_
  refine zb_aload_n (j := 0) dX8_init_4 rfl rfl ?_
  refine zb_bipush dX8_init_5 (by decide) (zb_inIc rfl) ?_
  refine zb_k_S (g := F_X11_makePartings) (d' := d + 2) (k' := 53) (n' := 546) (As := [(0, 13)]) (As' := [(0, 13)]) (st := [(2, x0)]) dX8_init_7 (Or.inr lk_X8_9) rfl rfl gd_X11_makePartings rfl rfl (cw_X11_makePartings h) (by omega) 53 546 rfl rfl rfl rfl (Nat.le_of_ble_eq_true rfl) (fun r7 s7 h => ?_)
  obtain ⟨o1, h⟩ := zb_andT h
  refine zb_k_putf (j := 1) dX8_init_10 fl_X8_13 rfl (Or.inr ⟨rfl, rfl, rfl⟩) o1 (Or.inr (Or.inr rfl)) (fun s10 e10 => ?_)
  have h := zb_letE e10 h
  refine zb_aload_n (j := 0) dX8_init_13 rfl rfl ?_
  refine zb_sipush dX8_init_14 (by decide) (zb_inIc rfl) ?_
  refine zb_k_newa (len := 144) dX8_init_17 rfl ac_boolean rfl 54 690 rfl rfl rfl rfl (fun s17 e17 => ?_)
  have h := zb_letE e17 h
  obtain ⟨o2, h⟩ := zb_andT h
  refine zb_k_putf (j := 2) dX8_init_19 fl_X8_19 rfl (Or.inr ⟨rfl, rfl, rfl⟩) o2 (Or.inr (Or.inr rfl)) (fun s19 e19 => ?_)
  have h := zb_letE e19 h
  refine zb_aload_n (j := 0) dX8_init_22 rfl rfl ?_
  refine zb_sipush dX8_init_23 (by decide) (zb_inIc rfl) ?_
  refine zb_k_newa (len := 157) dX8_init_26 rfl ac_int rfl 55 847 rfl rfl rfl rfl (fun s26 e26 => ?_)
  have h := zb_letE e26 h
  obtain ⟨o3, h⟩ := zb_andT h
  refine zb_k_putf (j := 3) dX8_init_28 fl_X8_23 rfl (Or.inr ⟨rfl, rfl, rfl⟩) o3 (Or.inr (Or.inr rfl)) (fun s28 e28 => ?_)
  have h := zb_letE e28 h
  refine zb_aload_n (j := 0) dX8_init_31 rfl rfl ?_
  refine zb_aload_n (j := 1) dX8_init_32 rfl rfl ?_
  obtain ⟨o4, h⟩ := zb_andT h
  refine zb_k_putf (j := 0) dX8_init_33 fl_X8_27 rfl (Or.inr ⟨rfl, rfl, rfl⟩) o4 (Or.inr (Or.inr rfl)) (fun s33 e33 => ?_)
  have h := zb_letE e33 h
  exact zb_vreturn dX8_init_36 rfl (Nat.le_of_ble_eq_true rfl) (Nat.le_of_ble_eq_true rfl) ⟨_, rfl, rfl, h⟩
theorem dX9_init_0 : decode cX9_init 0 = .ok (.aload_n 0, 1) := by decide +kernel
theorem dX9_init_1 : decode cX9_init 1 = .ok (.invokespecial 3, 3) := by decide +kernel
theorem dX9_init_4 : decode cX9_init 4 = .ok (.aload_n 0, 1) := by decide +kernel
theorem dX9_init_5 : decode cX9_init 5 = .ok (.bipush 13, 2) := by decide +kernel
theorem dX9_init_7 : decode cX9_init 7 = .ok (.invokestatic 9, 3) := by decide +kernel
theorem dX9_init_10 : decode cX9_init 10 = .ok (.putfield 13, 3) := by decide +kernel
theorem dX9_init_13 : decode cX9_init 13 = .ok (.aload_n 0, 1) := by decide +kernel
theorem dX9_init_14 : decode cX9_init 14 = .ok (.bipush 13, 2) := by decide +kernel
theorem dX9_init_16 : decode cX9_init 16 = .ok (.invokestatic 9, 3) := by decide +kernel
theorem dX9_init_19 : decode cX9_init 19 = .ok (.putfield 19, 3) := by decide +kernel
theorem dX9_init_22 : decode cX9_init 22 = .ok (.aload_n 0, 1) := by decide +kernel
theorem dX9_init_23 : decode cX9_init 23 = .ok (.bipush 13, 2) := by decide +kernel
theorem dX9_init_25 : decode cX9_init 25 = .ok (.invokestatic 9, 3) := by decide +kernel
theorem dX9_init_28 : decode cX9_init 28 = .ok (.putfield 22, 3) := by decide +kernel
theorem dX9_init_31 : decode cX9_init 31 = .ok (.aload_n 0, 1) := by decide +kernel
theorem dX9_init_32 : decode cX9_init 32 = .ok (.bipush 12, 2) := by decide +kernel
theorem dX9_init_34 : decode cX9_init 34 = .ok (.newarray .int, 2) := by decide +kernel
theorem dX9_init_36 : decode cX9_init 36 = .ok (.putfield 25, 3) := by decide +kernel
theorem dX9_init_39 : decode cX9_init 39 = .ok (.aload_n 0, 1) := by decide +kernel
theorem dX9_init_40 : decode cX9_init 40 = .ok (.sipush 144, 3) := by decide +kernel
theorem dX9_init_43 : decode cX9_init 43 = .ok (.newarray .int, 2) := by decide +kernel
theorem dX9_init_45 : decode cX9_init 45 = .ok (.putfield 29, 3) := by decide +kernel
theorem dX9_init_48 : decode cX9_init 48 = .ok (.aload_n 0, 1) := by decide +kernel
theorem dX9_init_49 : decode cX9_init 49 = .ok (.bipush 12, 2) := by decide +kernel
theorem dX9_init_51 : decode cX9_init 51 = .ok (.newarray .int, 2) := by decide +kernel
theorem dX9_init_53 : decode cX9_init 53 = .ok (.putfield 32, 3) := by decide +kernel
theorem dX9_init_56 : decode cX9_init 56 = .ok (.aload_n 0, 1) := by decide +kernel
theorem dX9_init_57 : decode cX9_init 57 = .ok (.bipush 12, 2) := by decide +kernel
theorem dX9_init_59 : decode cX9_init 59 = .ok (.newarray .int, 2) := by decide +kernel
theorem dX9_init_61 : decode cX9_init 61 = .ok (.putfield 35, 3) := by decide +kernel
theorem dX9_init_64 : decode cX9_init 64 = .ok (.aload_n 0, 1) := by decide +kernel
theorem dX9_init_65 : decode cX9_init 65 = .ok (.aload_n 1, 1) := by decide +kernel
theorem dX9_init_66 : decode cX9_init 66 = .ok (.putfield 38, 3) := by decide +kernel
theorem dX9_init_69 : decode cX9_init 69 = .ok (.return_, 1) := by decide +kernel
def CJ_X9_init_56 (x0 : Int) (x1 : Int) (σ : zb_Sg) (K : zb_Sg → Bool) : Bool :=
  zb_let ((13, 12, []) :: σ) (fun s59 => ((zb_isb s59 x0 9) && (zb_let (zb_stv s59 x0 8 ((σ.length : Int) + 1)) (fun s61 => ((zb_isb s61 x0 9) && (zb_let (zb_stv s61 x0 0 x1) (fun s66 => K s66)))))))
set_option maxRecDepth 100000 in
set_option maxHeartbeats 40000000 in
theorem cj_X9_init_56 {d : Nat} {G : zb_G} {C : zb_C} {x0 x1 : Int} {σ : zb_Sg} {K : zb_Sg → Bool} (hx0 : 1 ≤ x0) (h : CJ_X9_init_56 x0 x1 σ K = true) : zb_WP (G, C, d + 3, 163, 1818, fun _ S' m' => ∃ σ', S' = zb_dS σ' ∧ m' = zb_dM σ' ∧ K σ' = true) F_X9_init 56 [(0, (2, x0)), (1, (2, x1))] [] (zb_dS σ) (zb_dM σ) 162 1806 := by
  unfold CJ_X9_init_56 at h
  refine zb_aload_n (j := 0) dX9_init_56 rfl rfl ?_
  refine zb_bipush dX9_init_57 (by decide) (zb_inIc rfl) ?_
  refine zb_k_newa (len := 12) dX9_init_59 rfl ac_int rfl 163 1818 rfl rfl rfl rfl (fun s59 e59 => ?_)
  have h := zb_letE e59 h
  obtain ⟨o7, h⟩ := zb_andT h
  refine zb_k_putf (j := 8) dX9_init_61 fl_X9_35 rfl (Or.inr ⟨rfl, rfl, rfl⟩) o7 (Or.inr (Or.inr rfl)) (fun s61 e61 => ?_)
  have h := zb_letE e61 h
  refine zb_aload_n (j := 0) dX9_init_64 rfl rfl ?_
  refine zb_aload_n (j := 1) dX9_init_65 rfl rfl ?_
  obtain ⟨o8, h⟩ := zb_andT h
  refine zb_k_putf (j := 0) dX9_init_66 fl_X9_38 rfl (Or.inr ⟨rfl, rfl, rfl⟩) o8 (Or.inr (Or.inr rfl)) (fun s66 e66 => ?_)
  have h := zb_letE e66 h
  exact zb_vreturn dX9_init_69 rfl (Nat.le_of_ble_eq_true rfl) (Nat.le_of_ble_eq_true rfl) ⟨_, rfl, rfl, h⟩
def CM_X9_init (x0 : Int) (x1 : Int) (σ : zb_Sg) (K : zb_Sg → Bool) : Bool :=
  CM_X11_makePartings 13 σ (fun r7 s7 => ((zb_isb s7 x0 9) && (zb_let (zb_stv s7 x0 1 r7) (fun s10 => CM_X11_makePartings 13 s10 (fun r16 s16 => ((zb_isb s16 x0 9) && (zb_let (zb_stv s16 x0 2 r16) (fun s19 => CM_X11_makePartings 13 s19 (fun r25 s25 => ((zb_isb s25 x0 9) && (zb_let (zb_stv s25 x0 3 r25) (fun s28 => zb_let ((13, 12, []) :: s28) (fun s34 => ((zb_isb s34 x0 9) && (zb_let (zb_stv s34 x0 4 ((s28.length : Int) + 1)) (fun s36 => zb_let ((13, 144, []) :: s36) (fun s43 => ((zb_isb s43 x0 9) && (zb_let (zb_stv s43 x0 5 ((s36.length : Int) + 1)) (fun s45 => zb_let ((13, 12, []) :: s45) (fun s51 => ((zb_isb s51 x0 9) && (zb_let (zb_stv s51 x0 7 ((s45.length : Int) + 1)) (fun s53 => CJ_X9_init_56 x0 x1 s53 K))))))))))))))))))))))))
set_option maxRecDepth 100000 in
set_option maxHeartbeats 40000000 in
theorem cw_X9_init {d : Nat} {x0 x1 : Int} {σ : zb_Sg} {K : zb_Sg → Bool} (h : CM_X9_init x0 x1 σ K = true) : zb_Ct F_X9_init (d + 3) 163 1818 [(2, x0), (2, x1)] σ K := by
  unfold CM_X9_init at h
  refine zb_k_tri gd_X9_init rfl rfl (fun G C hO => ?_)
  show zb_WP _ _ 0 [(0, (2, x0)), (1, (2, x1))] [] _ _ _ _
  have hx0 : 1 ≤ x0 := hO (2, x0) List.mem_cons_self
  refine zb_aload_n (j := 0) dX9_init_0 rfl rfl ?_
  refine zb_objI dX9_init_1 lk_X9_3 hx0 (by omega) (Nat.le_of_ble_eq_true rfl) ?_
  refine zb_aload_n (j := 0) dX9_init_4 rfl rfl ?_
  refine zb_bipush dX9_init_5 (by decide) (zb_inIc rfl) ?_
  refine zb_k_S (g := F_X11_makePartings) (d' := d + 2) (k' := 53) (n' := 546) (As := [(0, 13)]) (As' := [(0, 13)]) (st := [(2, x0)]) dX9_init_7 (Or.inr lk_X9_9) rfl rfl gd_X11_makePartings rfl rfl (cw_X11_makePartings h) (by omega) 53 546 rfl rfl rfl rfl (Nat.le_of_ble_eq_true rfl) (fun r7 s7 h => ?_)
  obtain ⟨o1, h⟩ := zb_andT h
  refine zb_k_putf (j := 1) dX9_init_10 fl_X9_13 rfl (Or.inr ⟨rfl, rfl, rfl⟩) o1 (Or.inr (Or.inr rfl)) (fun s10 e10 => ?_)
  have h := zb_letE e10 h
  refine zb_aload_n (j := 0) dX9_init_13 rfl rfl ?_
  refine zb_bipush dX9_init_14 (by decide) (zb_inIc rfl) ?_
  refine zb_k_S (g := F_X11_makePartings) (d' := d + 2) (k' := 53) (n' := 546) (As := [(0, 13)]) (As' := [(0, 13)]) (st := [(2, x0)]) dX9_init_16 (Or.inr lk_X9_9) rfl rfl gd_X11_makePartings rfl rfl (cw_X11_makePartings h) (by omega) 106 1092 rfl rfl rfl rfl (Nat.le_of_ble_eq_true rfl) (fun r16 s16 h => ?_)
  obtain ⟨o2, h⟩ := zb_andT h
  refine zb_k_putf (j := 2) dX9_init_19 fl_X9_19 rfl (Or.inr ⟨rfl, rfl, rfl⟩) o2 (Or.inr (Or.inr rfl)) (fun s19 e19 => ?_)
  have h := zb_letE e19 h
  refine zb_aload_n (j := 0) dX9_init_22 rfl rfl ?_
  refine zb_bipush dX9_init_23 (by decide) (zb_inIc rfl) ?_
  refine zb_k_S (g := F_X11_makePartings) (d' := d + 2) (k' := 53) (n' := 546) (As := [(0, 13)]) (As' := [(0, 13)]) (st := [(2, x0)]) dX9_init_25 (Or.inr lk_X9_9) rfl rfl gd_X11_makePartings rfl rfl (cw_X11_makePartings h) (by omega) 159 1638 rfl rfl rfl rfl (Nat.le_of_ble_eq_true rfl) (fun r25 s25 h => ?_)
  obtain ⟨o3, h⟩ := zb_andT h
  refine zb_k_putf (j := 3) dX9_init_28 fl_X9_22 rfl (Or.inr ⟨rfl, rfl, rfl⟩) o3 (Or.inr (Or.inr rfl)) (fun s28 e28 => ?_)
  have h := zb_letE e28 h
  refine zb_aload_n (j := 0) dX9_init_31 rfl rfl ?_
  refine zb_bipush dX9_init_32 (by decide) (zb_inIc rfl) ?_
  refine zb_k_newa (len := 12) dX9_init_34 rfl ac_int rfl 160 1650 rfl rfl rfl rfl (fun s34 e34 => ?_)
  have h := zb_letE e34 h
  obtain ⟨o4, h⟩ := zb_andT h
  refine zb_k_putf (j := 4) dX9_init_36 fl_X9_25 rfl (Or.inr ⟨rfl, rfl, rfl⟩) o4 (Or.inr (Or.inr rfl)) (fun s36 e36 => ?_)
  have h := zb_letE e36 h
  refine zb_aload_n (j := 0) dX9_init_39 rfl rfl ?_
  refine zb_sipush dX9_init_40 (by decide) (zb_inIc rfl) ?_
  refine zb_k_newa (len := 144) dX9_init_43 rfl ac_int rfl 161 1794 rfl rfl rfl rfl (fun s43 e43 => ?_)
  have h := zb_letE e43 h
  obtain ⟨o5, h⟩ := zb_andT h
  refine zb_k_putf (j := 5) dX9_init_45 fl_X9_29 rfl (Or.inr ⟨rfl, rfl, rfl⟩) o5 (Or.inr (Or.inr rfl)) (fun s45 e45 => ?_)
  have h := zb_letE e45 h
  refine zb_aload_n (j := 0) dX9_init_48 rfl rfl ?_
  refine zb_bipush dX9_init_49 (by decide) (zb_inIc rfl) ?_
  refine zb_k_newa (len := 12) dX9_init_51 rfl ac_int rfl 162 1806 rfl rfl rfl rfl (fun s51 e51 => ?_)
  have h := zb_letE e51 h
  obtain ⟨o6, h⟩ := zb_andT h
  refine zb_k_putf (j := 7) dX9_init_53 fl_X9_32 rfl (Or.inr ⟨rfl, rfl, rfl⟩) o6 (Or.inr (Or.inr rfl)) (fun s53 e53 => ?_)
  have h := zb_letE e53 h
  exact cj_X9_init_56 hx0 h
theorem dX0_init_0 : decode cX0_init 0 = .ok (.aload_n 0, 1) := by decide +kernel
theorem dX0_init_1 : decode cX0_init 1 = .ok (.invokespecial 3, 3) := by decide +kernel
theorem dX0_init_4 : decode cX0_init 4 = .ok (.aload_n 0, 1) := by decide +kernel
theorem dX0_init_5 : decode cX0_init 5 = .ok (.new 9, 3) := by decide +kernel
theorem dX0_init_8 : decode cX0_init 8 = .ok (.dup, 1) := by decide +kernel
theorem dX0_init_9 : decode cX0_init 9 = .ok (.invokespecial 11, 3) := by decide +kernel
theorem dX0_init_12 : decode cX0_init 12 = .ok (.putfield 12, 3) := by decide +kernel
theorem dX0_init_15 : decode cX0_init 15 = .ok (.aload_n 0, 1) := by decide +kernel
theorem dX0_init_16 : decode cX0_init 16 = .ok (.new 9, 3) := by decide +kernel
theorem dX0_init_19 : decode cX0_init 19 = .ok (.dup, 1) := by decide +kernel
theorem dX0_init_20 : decode cX0_init 20 = .ok (.invokespecial 11, 3) := by decide +kernel
theorem dX0_init_23 : decode cX0_init 23 = .ok (.putfield 18, 3) := by decide +kernel
theorem dX0_init_26 : decode cX0_init 26 = .ok (.aload_n 0, 1) := by decide +kernel
theorem dX0_init_27 : decode cX0_init 27 = .ok (.new 21, 3) := by decide +kernel
theorem dX0_init_30 : decode cX0_init 30 = .ok (.dup, 1) := by decide +kernel
theorem dX0_init_31 : decode cX0_init 31 = .ok (.invokespecial 23, 3) := by decide +kernel
theorem dX0_init_34 : decode cX0_init 34 = .ok (.putfield 24, 3) := by decide +kernel
theorem dX0_init_37 : decode cX0_init 37 = .ok (.aload_n 0, 1) := by decide +kernel
theorem dX0_init_38 : decode cX0_init 38 = .ok (.new 21, 3) := by decide +kernel
theorem dX0_init_41 : decode cX0_init 41 = .ok (.dup, 1) := by decide +kernel
theorem dX0_init_42 : decode cX0_init 42 = .ok (.invokespecial 23, 3) := by decide +kernel
theorem dX0_init_45 : decode cX0_init 45 = .ok (.putfield 28, 3) := by decide +kernel
theorem dX0_init_48 : decode cX0_init 48 = .ok (.aload_n 0, 1) := by decide +kernel
theorem dX0_init_49 : decode cX0_init 49 = .ok (.new 31, 3) := by decide +kernel
theorem dX0_init_52 : decode cX0_init 52 = .ok (.dup, 1) := by decide +kernel
theorem dX0_init_53 : decode cX0_init 53 = .ok (.invokespecial 33, 3) := by decide +kernel
theorem dX0_init_56 : decode cX0_init 56 = .ok (.putfield 34, 3) := by decide +kernel
theorem dX0_init_59 : decode cX0_init 59 = .ok (.aload_n 0, 1) := by decide +kernel
theorem dX0_init_60 : decode cX0_init 60 = .ok (.new 31, 3) := by decide +kernel
theorem dX0_init_63 : decode cX0_init 63 = .ok (.dup, 1) := by decide +kernel
theorem dX0_init_64 : decode cX0_init 64 = .ok (.invokespecial 33, 3) := by decide +kernel
theorem dX0_init_67 : decode cX0_init 67 = .ok (.putfield 38, 3) := by decide +kernel
theorem dX0_init_70 : decode cX0_init 70 = .ok (.aload_n 0, 1) := by decide +kernel
theorem dX0_init_71 : decode cX0_init 71 = .ok (.iconst 3, 1) := by decide +kernel
theorem dX0_init_72 : decode cX0_init 72 = .ok (.newarray .int, 2) := by decide +kernel
theorem dX0_init_74 : decode cX0_init 74 = .ok (.putfield 41, 3) := by decide +kernel
theorem dX0_init_77 : decode cX0_init 77 = .ok (.aload_n 0, 1) := by decide +kernel
theorem dX0_init_78 : decode cX0_init 78 = .ok (.aload_n 1, 1) := by decide +kernel
theorem dX0_init_79 : decode cX0_init 79 = .ok (.putfield 45, 3) := by decide +kernel
theorem dX0_init_82 : decode cX0_init 82 = .ok (.aload_n 0, 1) := by decide +kernel
theorem dX0_init_83 : decode cX0_init 83 = .ok (.aload_n 2, 1) := by decide +kernel
theorem dX0_init_84 : decode cX0_init 84 = .ok (.putfield 49, 3) := by decide +kernel
theorem dX0_init_87 : decode cX0_init 87 = .ok (.return_, 1) := by decide +kernel
def CJ_X0_init_70 (x0 : Int) (x1 : Int) (x2 : Int) (σ : zb_Sg) (K : zb_Sg → Bool) : Bool :=
  zb_let ((13, 3, []) :: σ) (fun s72 => ((zb_isb s72 x0 0) && (zb_let (zb_stv s72 x0 8 ((σ.length : Int) + 1)) (fun s74 => ((zb_isb s74 x0 0) && (zb_let (zb_stv s74 x0 0 x1) (fun s79 => ((zb_isb s79 x0 0) && (zb_let (zb_stv s79 x0 1 x2) (fun s84 => K s84))))))))))
set_option maxRecDepth 100000 in
set_option maxHeartbeats 40000000 in
theorem cj_X0_init_70 {d : Nat} {G : zb_G} {C : zb_C} {x0 x1 x2 : Int} {σ : zb_Sg} {K : zb_Sg → Bool} (hx0 : 1 ≤ x0) (h : CJ_X0_init_70 x0 x1 x2 σ K = true) : zb_WP (G, C, d + 2, 27, 1097, fun _ S' m' => ∃ σ', S' = zb_dS σ' ∧ m' = zb_dM σ' ∧ K σ' = true) F_X0_init 70 [(0, (2, x0)), (1, (2, x1)), (2, (2, x2))] [] (zb_dS σ) (zb_dM σ) 26 1094 := by
  unfold CJ_X0_init_70 at h
  refine zb_aload_n (j := 0) dX0_init_70 rfl rfl ?_
  refine zb_iconst dX0_init_71 (zb_inIc rfl) ?_
  refine zb_k_newa (len := 3) dX0_init_72 rfl ac_int rfl 27 1097 rfl rfl rfl rfl (fun s72 e72 => ?_)
  have h := zb_letE e72 h
  obtain ⟨o7, h⟩ := zb_andT h
  refine zb_k_putf (j := 8) dX0_init_74 fl_X0_41 rfl (Or.inr ⟨rfl, rfl, rfl⟩) o7 (Or.inr (Or.inr rfl)) (fun s74 e74 => ?_)
  have h := zb_letE e74 h
  refine zb_aload_n (j := 0) dX0_init_77 rfl rfl ?_
  refine zb_aload_n (j := 1) dX0_init_78 rfl rfl ?_
  obtain ⟨o8, h⟩ := zb_andT h
  refine zb_k_putf (j := 0) dX0_init_79 fl_X0_45 rfl (Or.inr ⟨rfl, rfl, rfl⟩) o8 (Or.inr (Or.inr rfl)) (fun s79 e79 => ?_)
  have h := zb_letE e79 h
  refine zb_aload_n (j := 0) dX0_init_82 rfl rfl ?_
  refine zb_aload_n (j := 2) dX0_init_83 rfl rfl ?_
  obtain ⟨o9, h⟩ := zb_andT h
  refine zb_k_putf (j := 1) dX0_init_84 fl_X0_49 rfl (Or.inr ⟨rfl, rfl, rfl⟩) o9 (Or.inr (Or.inr rfl)) (fun s84 e84 => ?_)
  have h := zb_letE e84 h
  exact zb_vreturn dX0_init_87 rfl (Nat.le_of_ble_eq_true rfl) (Nat.le_of_ble_eq_true rfl) ⟨_, rfl, rfl, h⟩
def CM_X0_init (x0 : Int) (x1 : Int) (x2 : Int) (σ : zb_Sg) (K : zb_Sg → Bool) : Bool :=
  zb_let ((6, 0, []) :: σ) (fun s5 => CM_X6_init ((σ.length : Int) + 1) s5 (fun s9 => ((zb_isb s9 x0 0) && (zb_let (zb_stv s9 x0 2 ((σ.length : Int) + 1)) (fun s12 => zb_let ((6, 0, []) :: s12) (fun s16 => CM_X6_init ((s12.length : Int) + 1) s16 (fun s20 => ((zb_isb s20 x0 0) && (zb_let (zb_stv s20 x0 3 ((s12.length : Int) + 1)) (fun s23 => zb_let ((5, 0, []) :: s23) (fun s27 => CM_X5_init ((s23.length : Int) + 1) s27 (fun s31 => ((zb_isb s31 x0 0) && (zb_let (zb_stv s31 x0 4 ((s23.length : Int) + 1)) (fun s34 => zb_let ((5, 0, []) :: s34) (fun s38 => CM_X5_init ((s34.length : Int) + 1) s38 (fun s42 => ((zb_isb s42 x0 0) && (zb_let (zb_stv s42 x0 5 ((s34.length : Int) + 1)) (fun s45 => zb_let ((3, 0, []) :: s45) (fun s49 => CM_X3_init ((s45.length : Int) + 1) s49 (fun s53 => ((zb_isb s53 x0 0) && (zb_let (zb_stv s53 x0 6 ((s45.length : Int) + 1)) (fun s56 => zb_let ((3, 0, []) :: s56) (fun s60 => CM_X3_init ((s56.length : Int) + 1) s60 (fun s64 => ((zb_isb s64 x0 0) && (zb_let (zb_stv s64 x0 7 ((s56.length : Int) + 1)) (fun s67 => CJ_X0_init_70 x0 x1 x2 s67 K))))))))))))))))))))))))))))))
set_option maxRecDepth 100000 in
set_option maxHeartbeats 40000000 in
theorem cw_X0_init {d : Nat} {x0 x1 x2 : Int} {σ : zb_Sg} {K : zb_Sg → Bool} (h : CM_X0_init x0 x1 x2 σ K = true) : zb_Ct F_X0_init (d + 2) 27 1097 [(2, x0), (2, x1), (2, x2)] σ K := by
  unfold CM_X0_init at h
  refine zb_k_tri gd_X0_init rfl rfl (fun G C hO => ?_)
  show zb_WP _ _ 0 [(0, (2, x0)), (1, (2, x1)), (2, (2, x2))] [] _ _ _ _
  have hx0 : 1 ≤ x0 := hO (2, x0) List.mem_cons_self
  refine zb_aload_n (j := 0) dX0_init_0 rfl rfl ?_
  refine zb_objI dX0_init_1 lk_X0_3 hx0 (by omega) (Nat.le_of_ble_eq_true rfl) ?_
  refine zb_aload_n (j := 0) dX0_init_4 rfl rfl ?_
  refine zb_k_new (sz := 6) dX0_init_5 mk_X0_9 rfl 1 6 rfl rfl rfl rfl (fun s5 e5 => ?_)
  have h := zb_letE e5 h
  refine zb_dup dX0_init_8 rfl ?_
  refine zb_k_IN (g := F_X6_init) (d' := d + 1) (k' := 5) (n' := 324) (As := []) (As' := []) (st := [(2, ((σ.length : Int) + 1)), (2, x0)]) dX0_init_9 lk_X0_11 rfl gd_X6_init rfl rfl (by omega) (cw_X6_init h) (by omega) 6 330 rfl rfl rfl rfl (Nat.le_of_ble_eq_true rfl) (fun s9 h => ?_)
  obtain ⟨o1, h⟩ := zb_andT h
  refine zb_k_putf (j := 2) dX0_init_12 fl_X0_12 rfl (Or.inr ⟨rfl, rfl, rfl⟩) o1 (Or.inr (Or.inr rfl)) (fun s12 e12 => ?_)
  have h := zb_letE e12 h
  refine zb_aload_n (j := 0) dX0_init_15 rfl rfl ?_
  refine zb_k_new (sz := 6) dX0_init_16 mk_X0_9 rfl 7 336 rfl rfl rfl rfl (fun s16 e16 => ?_)
  have h := zb_letE e16 h
  refine zb_dup dX0_init_19 rfl ?_
  refine zb_k_IN (g := F_X6_init) (d' := d + 1) (k' := 5) (n' := 324) (As := []) (As' := []) (st := [(2, ((s12.length : Int) + 1)), (2, x0)]) dX0_init_20 lk_X0_11 rfl gd_X6_init rfl rfl (by omega) (cw_X6_init h) (by omega) 12 660 rfl rfl rfl rfl (Nat.le_of_ble_eq_true rfl) (fun s20 h => ?_)
  obtain ⟨o2, h⟩ := zb_andT h
  refine zb_k_putf (j := 3) dX0_init_23 fl_X0_18 rfl (Or.inr ⟨rfl, rfl, rfl⟩) o2 (Or.inr (Or.inr rfl)) (fun s23 e23 => ?_)
  have h := zb_letE e23 h
  refine zb_aload_n (j := 0) dX0_init_26 rfl rfl ?_
  refine zb_k_new (sz := 5) dX0_init_27 mk_X0_21 rfl 13 665 rfl rfl rfl rfl (fun s27 e27 => ?_)
  have h := zb_letE e27 h
  refine zb_dup dX0_init_30 rfl ?_
  refine zb_k_IN (g := F_X5_init) (d' := d + 1) (k' := 3) (n' := 36) (As := []) (As' := []) (st := [(2, ((s23.length : Int) + 1)), (2, x0)]) dX0_init_31 lk_X0_23 rfl gd_X5_init rfl rfl (by omega) (cw_X5_init h) (by omega) 16 701 rfl rfl rfl rfl (Nat.le_of_ble_eq_true rfl) (fun s31 h => ?_)
  obtain ⟨o3, h⟩ := zb_andT h
  refine zb_k_putf (j := 4) dX0_init_34 fl_X0_24 rfl (Or.inr ⟨rfl, rfl, rfl⟩) o3 (Or.inr (Or.inr rfl)) (fun s34 e34 => ?_)
  have h := zb_letE e34 h
  refine zb_aload_n (j := 0) dX0_init_37 rfl rfl ?_
  refine zb_k_new (sz := 5) dX0_init_38 mk_X0_21 rfl 17 706 rfl rfl rfl rfl (fun s38 e38 => ?_)
  have h := zb_letE e38 h
  refine zb_dup dX0_init_41 rfl ?_
  refine zb_k_IN (g := F_X5_init) (d' := d + 1) (k' := 3) (n' := 36) (As := []) (As' := []) (st := [(2, ((s34.length : Int) + 1)), (2, x0)]) dX0_init_42 lk_X0_23 rfl gd_X5_init rfl rfl (by omega) (cw_X5_init h) (by omega) 20 742 rfl rfl rfl rfl (Nat.le_of_ble_eq_true rfl) (fun s42 h => ?_)
  obtain ⟨o4, h⟩ := zb_andT h
  refine zb_k_putf (j := 5) dX0_init_45 fl_X0_28 rfl (Or.inr ⟨rfl, rfl, rfl⟩) o4 (Or.inr (Or.inr rfl)) (fun s45 e45 => ?_)
  have h := zb_letE e45 h
  refine zb_aload_n (j := 0) dX0_init_48 rfl rfl ?_
  refine zb_k_new (sz := 7) dX0_init_49 mk_X0_31 rfl 21 749 rfl rfl rfl rfl (fun s49 e49 => ?_)
  have h := zb_letE e49 h
  refine zb_dup dX0_init_52 rfl ?_
  refine zb_k_IN (g := F_X3_init) (d' := d + 1) (k' := 2) (n' := 169) (As := []) (As' := []) (st := [(2, ((s45.length : Int) + 1)), (2, x0)]) dX0_init_53 lk_X0_33 rfl gd_X3_init rfl rfl (by omega) (cw_X3_init h) (by omega) 23 918 rfl rfl rfl rfl (Nat.le_of_ble_eq_true rfl) (fun s53 h => ?_)
  obtain ⟨o5, h⟩ := zb_andT h
  refine zb_k_putf (j := 6) dX0_init_56 fl_X0_34 rfl (Or.inr ⟨rfl, rfl, rfl⟩) o5 (Or.inr (Or.inr rfl)) (fun s56 e56 => ?_)
  have h := zb_letE e56 h
  refine zb_aload_n (j := 0) dX0_init_59 rfl rfl ?_
  refine zb_k_new (sz := 7) dX0_init_60 mk_X0_31 rfl 24 925 rfl rfl rfl rfl (fun s60 e60 => ?_)
  have h := zb_letE e60 h
  refine zb_dup dX0_init_63 rfl ?_
  refine zb_k_IN (g := F_X3_init) (d' := d + 1) (k' := 2) (n' := 169) (As := []) (As' := []) (st := [(2, ((s56.length : Int) + 1)), (2, x0)]) dX0_init_64 lk_X0_33 rfl gd_X3_init rfl rfl (by omega) (cw_X3_init h) (by omega) 26 1094 rfl rfl rfl rfl (Nat.le_of_ble_eq_true rfl) (fun s64 h => ?_)
  obtain ⟨o6, h⟩ := zb_andT h
  refine zb_k_putf (j := 7) dX0_init_67 fl_X0_38 rfl (Or.inr ⟨rfl, rfl, rfl⟩) o6 (Or.inr (Or.inr rfl)) (fun s67 e67 => ?_)
  have h := zb_letE e67 h
  exact cj_X0_init_70 hx0 h
theorem dX11_init_0 : decode cX11_init 0 = .ok (.aload_n 0, 1) := by decide +kernel
theorem dX11_init_1 : decode cX11_init 1 = .ok (.invokespecial 1, 3) := by decide +kernel
theorem dX11_init_4 : decode cX11_init 4 = .ok (.aload_n 0, 1) := by decide +kernel
theorem dX11_init_5 : decode cX11_init 5 = .ok (.bipush 8, 2) := by decide +kernel
theorem dX11_init_7 : decode cX11_init 7 = .ok (.anewarray 9, 3) := by decide +kernel
theorem dX11_init_10 : decode cX11_init 10 = .ok (.putfield 11, 3) := by decide +kernel
theorem dX11_init_13 : decode cX11_init 13 = .ok (.aload_n 0, 1) := by decide +kernel
theorem dX11_init_14 : decode cX11_init 14 = .ok (.new 15, 3) := by decide +kernel
theorem dX11_init_17 : decode cX11_init 17 = .ok (.dup, 1) := by decide +kernel
theorem dX11_init_18 : decode cX11_init 18 = .ok (.invokespecial 17, 3) := by decide +kernel
theorem dX11_init_21 : decode cX11_init 21 = .ok (.putfield 18, 3) := by decide +kernel
theorem dX11_init_24 : decode cX11_init 24 = .ok (.aload_n 0, 1) := by decide +kernel
theorem dX11_init_25 : decode cX11_init 25 = .ok (.new 22, 3) := by decide +kernel
theorem dX11_init_28 : decode cX11_init 28 = .ok (.dup, 1) := by decide +kernel
theorem dX11_init_29 : decode cX11_init 29 = .ok (.invokespecial 24, 3) := by decide +kernel
theorem dX11_init_32 : decode cX11_init 32 = .ok (.putfield 25, 3) := by decide +kernel
theorem dX11_init_35 : decode cX11_init 35 = .ok (.aload_n 0, 1) := by decide +kernel
theorem dX11_init_36 : decode cX11_init 36 = .ok (.new 29, 3) := by decide +kernel
theorem dX11_init_39 : decode cX11_init 39 = .ok (.dup, 1) := by decide +kernel
theorem dX11_init_40 : decode cX11_init 40 = .ok (.invokespecial 31, 3) := by decide +kernel
theorem dX11_init_43 : decode cX11_init 43 = .ok (.putfield 32, 3) := by decide +kernel
theorem dX11_init_46 : decode cX11_init 46 = .ok (.aload_n 0, 1) := by decide +kernel
theorem dX11_init_47 : decode cX11_init 47 = .ok (.new 36, 3) := by decide +kernel
theorem dX11_init_50 : decode cX11_init 50 = .ok (.dup, 1) := by decide +kernel
theorem dX11_init_51 : decode cX11_init 51 = .ok (.aload_n 0, 1) := by decide +kernel
theorem dX11_init_52 : decode cX11_init 52 = .ok (.getfield 32, 3) := by decide +kernel
theorem dX11_init_55 : decode cX11_init 55 = .ok (.invokespecial 38, 3) := by decide +kernel
theorem dX11_init_58 : decode cX11_init 58 = .ok (.putfield 41, 3) := by decide +kernel
theorem dX11_init_61 : decode cX11_init 61 = .ok (.aload_n 0, 1) := by decide +kernel
theorem dX11_init_62 : decode cX11_init 62 = .ok (.new 45, 3) := by decide +kernel
theorem dX11_init_65 : decode cX11_init 65 = .ok (.dup, 1) := by decide +kernel
theorem dX11_init_66 : decode cX11_init 66 = .ok (.aload_n 0, 1) := by decide +kernel
theorem dX11_init_67 : decode cX11_init 67 = .ok (.getfield 32, 3) := by decide +kernel
theorem dX11_init_70 : decode cX11_init 70 = .ok (.invokespecial 47, 3) := by decide +kernel
theorem dX11_init_73 : decode cX11_init 73 = .ok (.putfield 48, 3) := by decide +kernel
theorem dX11_init_76 : decode cX11_init 76 = .ok (.aload_n 0, 1) := by decide +kernel
theorem dX11_init_77 : decode cX11_init 77 = .ok (.new 52, 3) := by decide +kernel
theorem dX11_init_80 : decode cX11_init 80 = .ok (.dup, 1) := by decide +kernel
theorem dX11_init_81 : decode cX11_init 81 = .ok (.aload_n 0, 1) := by decide +kernel
theorem dX11_init_82 : decode cX11_init 82 = .ok (.getfield 32, 3) := by decide +kernel
theorem dX11_init_85 : decode cX11_init 85 = .ok (.aload_n 0, 1) := by decide +kernel
theorem dX11_init_86 : decode cX11_init 86 = .ok (.getfield 41, 3) := by decide +kernel
theorem dX11_init_89 : decode cX11_init 89 = .ok (.invokespecial 54, 3) := by decide +kernel
theorem dX11_init_92 : decode cX11_init 92 = .ok (.putfield 57, 3) := by decide +kernel
theorem dX11_init_95 : decode cX11_init 95 = .ok (.aload_n 0, 1) := by decide +kernel
theorem dX11_init_96 : decode cX11_init 96 = .ok (.new 22, 3) := by decide +kernel
theorem dX11_init_99 : decode cX11_init 99 = .ok (.dup, 1) := by decide +kernel
theorem dX11_init_100 : decode cX11_init 100 = .ok (.invokespecial 24, 3) := by decide +kernel
theorem dX11_init_103 : decode cX11_init 103 = .ok (.putfield 61, 3) := by decide +kernel
theorem dX11_init_106 : decode cX11_init 106 = .ok (.aload_n 0, 1) := by decide +kernel
theorem dX11_init_107 : decode cX11_init 107 = .ok (.new 64, 3) := by decide +kernel
theorem dX11_init_110 : decode cX11_init 110 = .ok (.dup, 1) := by decide +kernel
theorem dX11_init_111 : decode cX11_init 111 = .ok (.invokespecial 66, 3) := by decide +kernel
theorem dX11_init_114 : decode cX11_init 114 = .ok (.putfield 67, 3) := by decide +kernel
theorem dX11_init_117 : decode cX11_init 117 = .ok (.aload_n 0, 1) := by decide +kernel
theorem dX11_init_118 : decode cX11_init 118 = .ok (.new 71, 3) := by decide +kernel
theorem dX11_init_121 : decode cX11_init 121 = .ok (.dup, 1) := by decide +kernel
theorem dX11_init_122 : decode cX11_init 122 = .ok (.invokespecial 73, 3) := by decide +kernel
theorem dX11_init_125 : decode cX11_init 125 = .ok (.putfield 74, 3) := by decide +kernel
theorem dX11_init_128 : decode cX11_init 128 = .ok (.aload_n 0, 1) := by decide +kernel
theorem dX11_init_129 : decode cX11_init 129 = .ok (.new 78, 3) := by decide +kernel
theorem dX11_init_132 : decode cX11_init 132 = .ok (.dup, 1) := by decide +kernel
theorem dX11_init_133 : decode cX11_init 133 = .ok (.invokespecial 80, 3) := by decide +kernel
theorem dX11_init_136 : decode cX11_init 136 = .ok (.putfield 81, 3) := by decide +kernel
theorem dX11_init_139 : decode cX11_init 139 = .ok (.aload_n 0, 1) := by decide +kernel
theorem dX11_init_140 : decode cX11_init 140 = .ok (.bipush 12, 2) := by decide +kernel
theorem dX11_init_142 : decode cX11_init 142 = .ok (.anewarray 78, 3) := by decide +kernel
theorem dX11_init_145 : decode cX11_init 145 = .ok (.putfield 85, 3) := by decide +kernel
theorem dX11_init_148 : decode cX11_init 148 = .ok (.aload_n 0, 1) := by decide +kernel
theorem dX11_init_149 : decode cX11_init 149 = .ok (.new 89, 3) := by decide +kernel
theorem dX11_init_152 : decode cX11_init 152 = .ok (.dup, 1) := by decide +kernel
theorem dX11_init_153 : decode cX11_init 153 = .ok (.invokespecial 91, 3) := by decide +kernel
theorem dX11_init_156 : decode cX11_init 156 = .ok (.putfield 92, 3) := by decide +kernel
theorem dX11_init_159 : decode cX11_init 159 = .ok (.iconst 0, 1) := by decide +kernel
theorem dX11_init_160 : decode cX11_init 160 = .ok (.istore_n 1, 1) := by decide +kernel
theorem dX11_init_161 : decode cX11_init 161 = .ok (.iload_n 1, 1) := by decide +kernel
theorem dX11_init_162 : decode cX11_init 162 = .ok (.bipush 8, 2) := by decide +kernel
theorem dX11_init_164 : decode cX11_init 164 = .ok (.if_icmp .ge 22, 3) := by decide +kernel
theorem dX11_init_167 : decode cX11_init 167 = .ok (.aload_n 0, 1) := by decide +kernel
theorem dX11_init_168 : decode cX11_init 168 = .ok (.getfield 11, 3) := by decide +kernel
theorem dX11_init_171 : decode cX11_init 171 = .ok (.iload_n 1, 1) := by decide +kernel
theorem dX11_init_172 : decode cX11_init 172 = .ok (.new 9, 3) := by decide +kernel
theorem dX11_init_175 : decode cX11_init 175 = .ok (.dup, 1) := by decide +kernel
theorem dX11_init_176 : decode cX11_init 176 = .ok (.invokespecial 96, 3) := by decide +kernel
theorem dX11_init_179 : decode cX11_init 179 = .ok (.aastore, 1) := by decide +kernel
theorem dX11_init_180 : decode cX11_init 180 = .ok (.iinc 1 1, 3) := by decide +kernel
theorem dX11_init_183 : decode cX11_init 183 = .ok (.goto (-22), 3) := by decide +kernel
theorem dX11_init_186 : decode cX11_init 186 = .ok (.iconst 0, 1) := by decide +kernel
theorem dX11_init_187 : decode cX11_init 187 = .ok (.istore_n 1, 1) := by decide +kernel
theorem dX11_init_188 : decode cX11_init 188 = .ok (.iload_n 1, 1) := by decide +kernel
theorem dX11_init_189 : decode cX11_init 189 = .ok (.bipush 12, 2) := by decide +kernel
theorem dX11_init_191 : decode cX11_init 191 = .ok (.if_icmp .ge 22, 3) := by decide +kernel
theorem dX11_init_194 : decode cX11_init 194 = .ok (.aload_n 0, 1) := by decide +kernel
theorem dX11_init_195 : decode cX11_init 195 = .ok (.getfield 85, 3) := by decide +kernel
theorem dX11_init_198 : decode cX11_init 198 = .ok (.iload_n 1, 1) := by decide +kernel
theorem dX11_init_199 : decode cX11_init 199 = .ok (.new 78, 3) := by decide +kernel
theorem dX11_init_202 : decode cX11_init 202 = .ok (.dup, 1) := by decide +kernel
theorem dX11_init_203 : decode cX11_init 203 = .ok (.invokespecial 80, 3) := by decide +kernel
theorem dX11_init_206 : decode cX11_init 206 = .ok (.aastore, 1) := by decide +kernel
theorem dX11_init_207 : decode cX11_init 207 = .ok (.iinc 1 1, 3) := by decide +kernel
theorem dX11_init_210 : decode cX11_init 210 = .ok (.goto (-22), 3) := by decide +kernel
theorem dX11_init_213 : decode cX11_init 213 = .ok (.return_, 1) := by decide +kernel
def CL_X11_init_188 (K : zb_Sg → Bool) : Nat → Int → Int → zb_Sg → Nat → Nat → Bool
  | 0, _, _, _, _, _ => false
  | fuel + 1, x0, v188, z188, k188, n188 => (if 12 ≤ v188 then ((Nat.ble k188 498) && (((Nat.ble n188 14239) && (K z188)))) else ((zb_isb z188 x0 11) && (((decide (1 ≤ (zb_dM z188 x0 (12 : Nat)))) && (((Nat.ble (k188 + 1) 498) && (((Nat.ble (n188 + 2) 14239) && (zb_let ((10, 0, []) :: z188) (fun s199 => ((Nat.ble ((k188 + 1) + 1) 498) && (((Nat.ble ((n188 + 2) + 12) 14239) && (CM_X10_init ((z188.length : Int) + 1) s199 (fun s203 => ((decide (v188 = (((v188).toNat : Nat) : Int))) && (((zb_isb s203 (zb_dM z188 x0 (12 : Nat)) (13 + 6)) && (((Nat.blt (v188).toNat (zb_lnb s203 (zb_dM z188 x0 (12 : Nat)))) && (((zb_isb s203 ((z188.length : Int) + 1) (zb_comp 6)) && (zb_let (zb_stv s203 (zb_dM z188 x0 (12 : Nat)) (v188).toNat ((z188.length : Int) + 1)) (fun s206 => ((decide (-2147483648 ≤ (v188 + 1)) && decide ((v188 + 1) ≤ 2147483647)) && (CL_X11_init_188 K fuel x0 (v188 + 1) s206 ((k188 + 1) + 1) ((n188 + 2) + 12)))))))))))))))))))))))))))
def CL_X11_init_161 (K : zb_Sg → Bool) : Nat → Int → Int → zb_Sg → Nat → Nat → Bool
  | 0, _, _, _, _, _ => false
  | fuel + 1, x0, v161, z161, k161, n161 => (if 8 ≤ v161 then CL_X11_init_188 K 30 x0 0 z161 k161 n161 else ((zb_isb z161 x0 11) && (((decide (1 ≤ (zb_dM z161 x0 (0 : Nat)))) && (((Nat.ble (k161 + 1) 498) && (((Nat.ble (n161 + 6) 14239) && (zb_let ((4, 0, []) :: z161) (fun s172 => ((Nat.ble ((k161 + 1) + 5) 498) && (((Nat.ble ((n161 + 6) + 192) 14239) && (CM_X4_init ((z161.length : Int) + 1) s172 (fun s176 => ((decide (v161 = (((v161).toNat : Nat) : Int))) && (((zb_isb s176 (zb_dM z161 x0 (0 : Nat)) (13 + 3)) && (((Nat.blt (v161).toNat (zb_lnb s176 (zb_dM z161 x0 (0 : Nat)))) && (((zb_isb s176 ((z161.length : Int) + 1) (zb_comp 3)) && (zb_let (zb_stv s176 (zb_dM z161 x0 (0 : Nat)) (v161).toNat ((z161.length : Int) + 1)) (fun s179 => ((decide (-2147483648 ≤ (v161 + 1)) && decide ((v161 + 1) ≤ 2147483647)) && (CL_X11_init_161 K fuel x0 (v161 + 1) s179 ((k161 + 1) + 5) ((n161 + 6) + 192)))))))))))))))))))))))))))
def CJ_X11_init_148 (x0 : Int) (σ : zb_Sg) (K : zb_Sg → Bool) : Bool :=
  zb_let ((2, 0, []) :: σ) (fun s149 => CM_X2_init ((σ.length : Int) + 1) s149 (fun s153 => ((zb_isb s153 x0 11) && (zb_let (zb_stv s153 x0 14 ((σ.length : Int) + 1)) (fun s156 => CL_X11_init_161 K 30 x0 0 s156 426 12487)))))
set_option maxRecDepth 100000 in
set_option maxHeartbeats 40000000 in
theorem cj_X11_init_148 {d : Nat} {G : zb_G} {C : zb_C} {x0 : Int} {σ : zb_Sg} {K : zb_Sg → Bool} (hx0 : 1 ≤ x0) (h : CJ_X11_init_148 x0 σ K = true) : zb_WP (G, C, d + 4, 498, 14239, fun _ S' m' => ∃ σ', S' = zb_dS σ' ∧ m' = zb_dM σ' ∧ K σ' = true) F_X11_init 148 [(0, (2, x0))] [] (zb_dS σ) (zb_dM σ) 398 9019 := by
  unfold CJ_X11_init_148 at h
  refine zb_aload_n (j := 0) dX11_init_148 rfl rfl ?_
  refine zb_k_new (sz := 4) dX11_init_149 mk_X11_89 rfl 399 9023 rfl rfl rfl rfl (fun s149 e149 => ?_)
  have h := zb_letE e149 h
  refine zb_dup dX11_init_152 rfl ?_
  refine zb_k_I (g := F_X2_init) (d' := d + 2) (k' := 27) (n' := 3464) (As := []) (As' := []) (st := [(2, ((σ.length : Int) + 1)), (2, x0)]) dX11_init_153 lk_X11_91 rfl gd_X2_init rfl rfl (by omega) (cw_X2_init h) (by omega) 426 12487 rfl rfl rfl rfl (Nat.le_of_ble_eq_true rfl) (fun s153 h => ?_)
  obtain ⟨o21, h⟩ := zb_andT h
  refine zb_k_putf (j := 14) dX11_init_156 fl_X11_92 rfl (Or.inr ⟨rfl, rfl, rfl⟩) o21 (Or.inr (Or.inr rfl)) (fun s156 e156 => ?_)
  have h := zb_letE e156 h
  refine zb_iconst dX11_init_159 (zb_inIc rfl) ?_
  refine zb_istore_n (L' := [(1, (0, 0)), (0, (2, x0))]) dX11_init_160 rfl (by decide) rfl ?_
  refine zb_sub (L' := [(0, (2, x0)), (1, (0, 0))]) [1, 0] rfl ?_
  have hL161 : ∀ (fuel : Nat) (v161 : Int) (z161 : zb_Sg) (k161 n161 : Nat), CL_X11_init_161 K fuel x0 v161 z161 k161 n161 = true → zb_WP (G, C, d + 4, 498, 14239, fun _ S' m' => ∃ σ', S' = zb_dS σ' ∧ m' = zb_dM σ' ∧ K σ' = true) F_X11_init 161 [(0, (2, x0)), (1, (0, v161))] [] (zb_dS z161) (zb_dM z161) k161 n161 := by
    intro fuel
    induction fuel with
    | zero =>
      intro v161 z161 k161 n161 h
      cases h
    | succ fuel ih161 =>
      intro v161 z161 k161 n161 h
      rw [CL_X11_init_161] at h
      refine zb_iload_n (j := 1) dX11_init_161 rfl rfl ?_
      refine zb_bipush dX11_init_162 (by decide) (zb_inIc rfl) ?_
      refine zb_icmp_ge (tgt := 186) dX11_init_164 (by decide) (fun c164 => ?_) (fun c164 => ?_)
      · rw [if_pos c164] at h
        refine zb_iconst dX11_init_186 (zb_inIc rfl) ?_
        refine zb_istore_n (L' := [(1, (0, 0)), (0, (2, x0))]) dX11_init_187 rfl (by decide) rfl ?_
        refine zb_sub (L' := [(0, (2, x0)), (1, (0, 0))]) [1, 0] rfl ?_
        have hL188 : ∀ (fuel : Nat) (v188 : Int) (z188 : zb_Sg) (k188 n188 : Nat), CL_X11_init_188 K fuel x0 v188 z188 k188 n188 = true → zb_WP (G, C, d + 4, 498, 14239, fun _ S' m' => ∃ σ', S' = zb_dS σ' ∧ m' = zb_dM σ' ∧ K σ' = true) F_X11_init 188 [(0, (2, x0)), (1, (0, v188))] [] (zb_dS z188) (zb_dM z188) k188 n188 := by
          intro fuel
          induction fuel with
          | zero =>
            intro v188 z188 k188 n188 h
            cases h
          | succ fuel ih188 =>
            intro v188 z188 k188 n188 h
            rw [CL_X11_init_188] at h
            refine zb_iload_n (j := 1) dX11_init_188 rfl rfl ?_
            refine zb_bipush dX11_init_189 (by decide) (zb_inIc rfl) ?_
            refine zb_icmp_ge (tgt := 213) dX11_init_191 (by decide) (fun c191 => ?_) (fun c191 => ?_)
            · rw [if_pos c191] at h
              obtain ⟨o22, h⟩ := zb_andT h
              obtain ⟨o23, h⟩ := zb_andT h
              exact zb_vreturn dX11_init_213 rfl (Nat.le_of_ble_eq_true o22) (Nat.le_of_ble_eq_true o23) ⟨_, rfl, rfl, h⟩
            · rw [if_neg c191] at h
              refine zb_aload_n (j := 0) dX11_init_194 rfl rfl ?_
              obtain ⟨o24, h⟩ := zb_andT h
              obtain ⟨o25, h⟩ := zb_andT h
              refine zb_k_getf (j := 12) dX11_init_195 fl_X11_85 rfl o24 o25 ?_
              refine zb_iload_n (j := 1) dX11_init_198 rfl rfl ?_
              obtain ⟨o26, h⟩ := zb_andT h
              obtain ⟨o27, h⟩ := zb_andT h
              refine zb_k_new (sz := 2) dX11_init_199 mk_X11_78 rfl (k188 + 1) (n188 + 2) rfl rfl o26 o27 (fun s199 e199 => ?_)
              have h := zb_letE e199 h
              refine zb_dup dX11_init_202 rfl ?_
              obtain ⟨o28, h⟩ := zb_andT h
              obtain ⟨o29, h⟩ := zb_andT h
              refine zb_k_IN (g := F_X10_init) (d' := d + 1) (k' := 1) (n' := 12) (As := []) (As' := []) (st := [(2, ((z188.length : Int) + 1)), (0, v188), (2, (zb_dM z188 x0 (12 : Nat)))]) dX11_init_203 lk_X11_80 rfl gd_X10_init rfl rfl (by omega) (cw_X10_init h) (by omega) ((k188 + 1) + 1) ((n188 + 2) + 12) rfl rfl o28 o29 (Nat.le_of_ble_eq_true rfl) (fun s203 h => ?_)
              obtain ⟨o30, h⟩ := zb_andT h
              obtain ⟨o31, h⟩ := zb_andT h
              obtain ⟨o32, h⟩ := zb_andT h
              obtain ⟨o33, h⟩ := zb_andT h
              refine zb_k_aast (t := 6) (j := (v188).toNat) dX11_init_206 o30 o31 (by decide) o32 o33 (fun s206 e206 => ?_)
              have h := zb_letE e206 h
              obtain ⟨o34, h⟩ := zb_andT h
              refine zb_iinc (j := 1) (L' := [(1, (0, (v188 + 1))), (0, (2, x0))]) dX11_init_207 rfl (zb_inIc o34) (by decide) rfl ?_
              refine zb_goto (tgt := 188) dX11_init_210 (by decide) ?_
              refine zb_sub (L' := [(0, (2, x0)), (1, (0, (v188 + 1)))]) [1, 0] rfl ?_
              exact ih188 _ _ _ _ h
        exact hL188 _ _ _ _ _ h
      · rw [if_neg c164] at h
        refine zb_aload_n (j := 0) dX11_init_167 rfl rfl ?_
        obtain ⟨o35, h⟩ := zb_andT h
        obtain ⟨o36, h⟩ := zb_andT h
        refine zb_k_getf (j := 0) dX11_init_168 fl_X11_11 rfl o35 o36 ?_
        refine zb_iload_n (j := 1) dX11_init_171 rfl rfl ?_
        obtain ⟨o37, h⟩ := zb_andT h
        obtain ⟨o38, h⟩ := zb_andT h
        refine zb_k_new (sz := 6) dX11_init_172 mk_X11_9 rfl (k161 + 1) (n161 + 6) rfl rfl o37 o38 (fun s172 e172 => ?_)
        have h := zb_letE e172 h
        refine zb_dup dX11_init_175 rfl ?_
        obtain ⟨o39, h⟩ := zb_andT h
        obtain ⟨o40, h⟩ := zb_andT h
        refine zb_k_IN (g := F_X4_init) (d' := d + 1) (k' := 5) (n' := 192) (As := []) (As' := []) (st := [(2, ((z161.length : Int) + 1)), (0, v161), (2, (zb_dM z161 x0 (0 : Nat)))]) dX11_init_176 lk_X11_96 rfl gd_X4_init rfl rfl (by omega) (cw_X4_init h) (by omega) ((k161 + 1) + 5) ((n161 + 6) + 192) rfl rfl o39 o40 (Nat.le_of_ble_eq_true rfl) (fun s176 h => ?_)
        obtain ⟨o41, h⟩ := zb_andT h
        obtain ⟨o42, h⟩ := zb_andT h
        obtain ⟨o43, h⟩ := zb_andT h
        obtain ⟨o44, h⟩ := zb_andT h
        refine zb_k_aast (t := 3) (j := (v161).toNat) dX11_init_179 o41 o42 (by decide) o43 o44 (fun s179 e179 => ?_)
        have h := zb_letE e179 h
        obtain ⟨o45, h⟩ := zb_andT h
        refine zb_iinc (j := 1) (L' := [(1, (0, (v161 + 1))), (0, (2, x0))]) dX11_init_180 rfl (zb_inIc o45) (by decide) rfl ?_
        refine zb_goto (tgt := 161) dX11_init_183 (by decide) ?_
        refine zb_sub (L' := [(0, (2, x0)), (1, (0, (v161 + 1)))]) [1, 0] rfl ?_
        exact ih161 _ _ _ _ h
  exact hL161 _ _ _ _ _ h
def CJ_X11_init_76 (x0 : Int) (σ : zb_Sg) (K : zb_Sg → Bool) : Bool :=
  zb_let ((0, 0, []) :: σ) (fun s77 => ((zb_isb s77 x0 11) && (((decide (1 ≤ (zb_dM s77 x0 (3 : Nat)))) && (((zb_isb s77 x0 11) && (((decide (1 ≤ (zb_dM s77 x0 (4 : Nat)))) && (CM_X0_init ((σ.length : Int) + 1) (zb_dM s77 x0 (3 : Nat)) (zb_dM s77 x0 (4 : Nat)) s77 (fun s89 => ((zb_isb s89 x0 11) && (zb_let (zb_stv s89 x0 6 ((σ.length : Int) + 1)) (fun s92 => zb_let ((6, 0, []) :: s92) (fun s96 => CM_X6_init ((s92.length : Int) + 1) s96 (fun s100 => ((zb_isb s100 x0 11) && (zb_let (zb_stv s100 x0 8 ((s92.length : Int) + 1)) (fun s103 => zb_let ((5, 0, []) :: s103) (fun s107 => CM_X5_init ((s103.length : Int) + 1) s107 (fun s111 => ((zb_isb s111 x0 11) && (zb_let (zb_stv s111 x0 9 ((s103.length : Int) + 1)) (fun s114 => zb_let ((3, 0, []) :: s114) (fun s118 => CM_X3_init ((s114.length : Int) + 1) s118 (fun s122 => ((zb_isb s122 x0 11) && (zb_let (zb_stv s122 x0 10 ((s114.length : Int) + 1)) (fun s125 => zb_let ((10, 0, []) :: s125) (fun s129 => CM_X10_init ((s125.length : Int) + 1) s129 (fun s133 => ((zb_isb s133 x0 11) && (zb_let (zb_stv s133 x0 11 ((s125.length : Int) + 1)) (fun s136 => zb_let ((19, 12, []) :: s136) (fun s142 => ((zb_isb s142 x0 11) && (zb_let (zb_stv s142 x0 12 ((s136.length : Int) + 1)) (fun s145 => CJ_X11_init_148 x0 s145 K)))))))))))))))))))))))))))))))))))))
set_option maxRecDepth 100000 in
set_option maxHeartbeats 40000000 in
theorem cj_X11_init_76 {d : Nat} {G : zb_G} {C : zb_C} {x0 : Int} {σ : zb_Sg} {K : zb_Sg → Bool} (hx0 : 1 ≤ x0) (h : CJ_X11_init_76 x0 σ K = true) : zb_WP (G, C, d + 4, 498, 14239, fun _ S' m' => ∃ σ', S' = zb_dS σ' ∧ m' = zb_dM σ' ∧ K σ' = true) F_X11_init 76 [(0, (2, x0))] [] (zb_dS σ) (zb_dM σ) 354 7339 := by
  unfold CJ_X11_init_76 at h
  refine zb_aload_n (j := 0) dX11_init_76 rfl rfl ?_
  refine zb_k_new (sz := 10) dX11_init_77 mk_X11_52 rfl 355 7349 rfl rfl rfl rfl (fun s77 e77 => ?_)
  have h := zb_letE e77 h
  refine zb_dup dX11_init_80 rfl ?_
  refine zb_aload_n (j := 0) dX11_init_81 rfl rfl ?_
  obtain ⟨o11, h⟩ := zb_andT h
  obtain ⟨o12, h⟩ := zb_andT h
  refine zb_k_getf (j := 3) dX11_init_82 fl_X11_32 rfl o11 o12 ?_
  refine zb_aload_n (j := 0) dX11_init_85 rfl rfl ?_
  obtain ⟨o13, h⟩ := zb_andT h
  obtain ⟨o14, h⟩ := zb_andT h
  refine zb_k_getf (j := 4) dX11_init_86 fl_X11_41 rfl o13 o14 ?_
  refine zb_k_I (g := F_X0_init) (d' := d + 2) (k' := 27) (n' := 1097) (As := [(2, (zb_dM s77 x0 (3 : Nat))), (2, (zb_dM s77 x0 (4 : Nat)))]) (As' := [(2, (zb_dM s77 x0 (4 : Nat))), (2, (zb_dM s77 x0 (3 : Nat)))]) (st := [(2, ((σ.length : Int) + 1)), (2, x0)]) dX11_init_89 lk_X11_54 rfl gd_X0_init rfl rfl (by omega) (cw_X0_init h) (by omega) 382 8446 rfl rfl rfl rfl (Nat.le_of_ble_eq_true rfl) (fun s89 h => ?_)
  obtain ⟨o15, h⟩ := zb_andT h
  refine zb_k_putf (j := 6) dX11_init_92 fl_X11_57 rfl (Or.inr ⟨rfl, rfl, rfl⟩) o15 (Or.inr (Or.inr rfl)) (fun s92 e92 => ?_)
  have h := zb_letE e92 h
  refine zb_aload_n (j := 0) dX11_init_95 rfl rfl ?_
  refine zb_k_new (sz := 6) dX11_init_96 mk_X11_22 rfl 383 8452 rfl rfl rfl rfl (fun s96 e96 => ?_)
  have h := zb_letE e96 h
  refine zb_dup dX11_init_99 rfl ?_
  refine zb_k_IN (g := F_X6_init) (d' := d + 1) (k' := 5) (n' := 324) (As := []) (As' := []) (st := [(2, ((s92.length : Int) + 1)), (2, x0)]) dX11_init_100 lk_X11_24 rfl gd_X6_init rfl rfl (by omega) (cw_X6_init h) (by omega) 388 8776 rfl rfl rfl rfl (Nat.le_of_ble_eq_true rfl) (fun s100 h => ?_)
  obtain ⟨o16, h⟩ := zb_andT h
  refine zb_k_putf (j := 8) dX11_init_103 fl_X11_61 rfl (Or.inr ⟨rfl, rfl, rfl⟩) o16 (Or.inr (Or.inr rfl)) (fun s103 e103 => ?_)
  have h := zb_letE e103 h
  refine zb_aload_n (j := 0) dX11_init_106 rfl rfl ?_
  refine zb_k_new (sz := 5) dX11_init_107 mk_X11_64 rfl 389 8781 rfl rfl rfl rfl (fun s107 e107 => ?_)
  have h := zb_letE e107 h
  refine zb_dup dX11_init_110 rfl ?_
  refine zb_k_IN (g := F_X5_init) (d' := d + 1) (k' := 3) (n' := 36) (As := []) (As' := []) (st := [(2, ((s103.length : Int) + 1)), (2, x0)]) dX11_init_111 lk_X11_66 rfl gd_X5_init rfl rfl (by omega) (cw_X5_init h) (by omega) 392 8817 rfl rfl rfl rfl (Nat.le_of_ble_eq_true rfl) (fun s111 h => ?_)
  obtain ⟨o17, h⟩ := zb_andT h
  refine zb_k_putf (j := 9) dX11_init_114 fl_X11_67 rfl (Or.inr ⟨rfl, rfl, rfl⟩) o17 (Or.inr (Or.inr rfl)) (fun s114 e114 => ?_)
  have h := zb_letE e114 h
  refine zb_aload_n (j := 0) dX11_init_117 rfl rfl ?_
  refine zb_k_new (sz := 7) dX11_init_118 mk_X11_71 rfl 393 8824 rfl rfl rfl rfl (fun s118 e118 => ?_)
  have h := zb_letE e118 h
  refine zb_dup dX11_init_121 rfl ?_
  refine zb_k_IN (g := F_X3_init) (d' := d + 1) (k' := 2) (n' := 169) (As := []) (As' := []) (st := [(2, ((s114.length : Int) + 1)), (2, x0)]) dX11_init_122 lk_X11_73 rfl gd_X3_init rfl rfl (by omega) (cw_X3_init h) (by omega) 395 8993 rfl rfl rfl rfl (Nat.le_of_ble_eq_true rfl) (fun s122 h => ?_)
  obtain ⟨o18, h⟩ := zb_andT h
  refine zb_k_putf (j := 10) dX11_init_125 fl_X11_74 rfl (Or.inr ⟨rfl, rfl, rfl⟩) o18 (Or.inr (Or.inr rfl)) (fun s125 e125 => ?_)
  have h := zb_letE e125 h
  refine zb_aload_n (j := 0) dX11_init_128 rfl rfl ?_
  refine zb_k_new (sz := 2) dX11_init_129 mk_X11_78 rfl 396 8995 rfl rfl rfl rfl (fun s129 e129 => ?_)
  have h := zb_letE e129 h
  refine zb_dup dX11_init_132 rfl ?_
  refine zb_k_IN (g := F_X10_init) (d' := d + 1) (k' := 1) (n' := 12) (As := []) (As' := []) (st := [(2, ((s125.length : Int) + 1)), (2, x0)]) dX11_init_133 lk_X11_80 rfl gd_X10_init rfl rfl (by omega) (cw_X10_init h) (by omega) 397 9007 rfl rfl rfl rfl (Nat.le_of_ble_eq_true rfl) (fun s133 h => ?_)
  obtain ⟨o19, h⟩ := zb_andT h
  refine zb_k_putf (j := 11) dX11_init_136 fl_X11_81 rfl (Or.inr ⟨rfl, rfl, rfl⟩) o19 (Or.inr (Or.inr rfl)) (fun s136 e136 => ?_)
  have h := zb_letE e136 h
  refine zb_aload_n (j := 0) dX11_init_139 rfl rfl ?_
  refine zb_bipush dX11_init_140 (by decide) (zb_inIc rfl) ?_
  refine zb_k_newq (t := 6) (len := 12) rfl dX11_init_142 (by decide) rfl mq_X11_78 (by decide +kernel) rfl 398 9019 rfl rfl rfl rfl (fun s142 e142 => ?_)
  have h := zb_letE e142 h
  obtain ⟨o20, h⟩ := zb_andT h
  refine zb_k_putf (j := 12) dX11_init_145 fl_X11_85 rfl (Or.inr ⟨rfl, rfl, rfl⟩) o20 (Or.inr (Or.inr rfl)) (fun s145 e145 => ?_)
  have h := zb_letE e145 h
  exact cj_X11_init_148 hx0 h
def CM_X11_init (x0 : Int) (σ : zb_Sg) (K : zb_Sg → Bool) : Bool :=
  zb_let ((16, 8, []) :: σ) (fun s7 => ((zb_isb s7 x0 11) && (zb_let (zb_stv s7 x0 0 ((σ.length : Int) + 1)) (fun s10 => zb_let ((1, 0, []) :: s10) (fun s14 => CM_X1_init ((s10.length : Int) + 1) s14 (fun s18 => ((zb_isb s18 x0 11) && (zb_let (zb_stv s18 x0 1 ((s10.length : Int) + 1)) (fun s21 => zb_let ((6, 0, []) :: s21) (fun s25 => CM_X6_init ((s21.length : Int) + 1) s25 (fun s29 => ((zb_isb s29 x0 11) && (zb_let (zb_stv s29 x0 2 ((s21.length : Int) + 1)) (fun s32 => zb_let ((7, 0, []) :: s32) (fun s36 => CM_X7_init ((s32.length : Int) + 1) s36 (fun s40 => ((zb_isb s40 x0 11) && (zb_let (zb_stv s40 x0 3 ((s32.length : Int) + 1)) (fun s43 => zb_let ((8, 0, []) :: s43) (fun s47 => ((zb_isb s47 x0 11) && (((decide (1 ≤ (zb_dM s47 x0 (3 : Nat)))) && (CM_X8_init ((s43.length : Int) + 1) (zb_dM s47 x0 (3 : Nat)) s47 (fun s55 => ((zb_isb s55 x0 11) && (zb_let (zb_stv s55 x0 4 ((s43.length : Int) + 1)) (fun s58 => zb_let ((9, 0, []) :: s58) (fun s62 => ((zb_isb s62 x0 11) && (((decide (1 ≤ (zb_dM s62 x0 (3 : Nat)))) && (CM_X9_init ((s58.length : Int) + 1) (zb_dM s62 x0 (3 : Nat)) s62 (fun s70 => ((zb_isb s70 x0 11) && (zb_let (zb_stv s70 x0 5 ((s58.length : Int) + 1)) (fun s73 => CJ_X11_init_76 x0 s73 K)))))))))))))))))))))))))))))))))))))
set_option maxRecDepth 100000 in
set_option maxHeartbeats 40000000 in
theorem cw_X11_init {d : Nat} {x0 : Int} {σ : zb_Sg} {K : zb_Sg → Bool} (h : CM_X11_init x0 σ K = true) : zb_Ct F_X11_init (d + 4) 498 14239 [(2, x0)] σ K := by
  unfold CM_X11_init at h
  refine zb_k_tri gd_X11_init rfl rfl (fun G C hO => ?_)
  show zb_WP _ _ 0 [(0, (2, x0))] [] _ _ _ _
  have hx0 : 1 ≤ x0 := hO (2, x0) List.mem_cons_self
  refine zb_aload_n (j := 0) dX11_init_0 rfl rfl ?_
  refine zb_objI dX11_init_1 lk_X11_1 hx0 (by omega) (Nat.le_of_ble_eq_true rfl) ?_
  refine zb_aload_n (j := 0) dX11_init_4 rfl rfl ?_
  refine zb_bipush dX11_init_5 (by decide) (zb_inIc rfl) ?_
  refine zb_k_newq (t := 3) (len := 8) rfl dX11_init_7 (by decide) rfl mq_X11_9 (by decide +kernel) rfl 1 8 rfl rfl rfl rfl (fun s7 e7 => ?_)
  have h := zb_letE e7 h
  obtain ⟨o1, h⟩ := zb_andT h
  refine zb_k_putf (j := 0) dX11_init_10 fl_X11_11 rfl (Or.inr ⟨rfl, rfl, rfl⟩) o1 (Or.inr (Or.inr rfl)) (fun s10 e10 => ?_)
  have h := zb_letE e10 h
  refine zb_aload_n (j := 0) dX11_init_13 rfl rfl ?_
  refine zb_k_new (sz := 4) dX11_init_14 mk_X11_15 rfl 2 12 rfl rfl rfl rfl (fun s14 e14 => ?_)
  have h := zb_letE e14 h
  refine zb_dup dX11_init_17 rfl ?_
  refine zb_k_I (g := F_X1_init) (d' := d + 2) (k' := 122) (n' := 4000) (As := []) (As' := []) (st := [(2, ((s10.length : Int) + 1)), (2, x0)]) dX11_init_18 lk_X11_17 rfl gd_X1_init rfl rfl (by omega) (cw_X1_init h) (by omega) 124 4012 rfl rfl rfl rfl (Nat.le_of_ble_eq_true rfl) (fun s18 h => ?_)
  obtain ⟨o2, h⟩ := zb_andT h
  refine zb_k_putf (j := 1) dX11_init_21 fl_X11_18 rfl (Or.inr ⟨rfl, rfl, rfl⟩) o2 (Or.inr (Or.inr rfl)) (fun s21 e21 => ?_)
  have h := zb_letE e21 h
  refine zb_aload_n (j := 0) dX11_init_24 rfl rfl ?_
  refine zb_k_new (sz := 6) dX11_init_25 mk_X11_22 rfl 125 4018 rfl rfl rfl rfl (fun s25 e25 => ?_)
  have h := zb_letE e25 h
  refine zb_dup dX11_init_28 rfl ?_
  refine zb_k_IN (g := F_X6_init) (d' := d + 1) (k' := 5) (n' := 324) (As := []) (As' := []) (st := [(2, ((s21.length : Int) + 1)), (2, x0)]) dX11_init_29 lk_X11_24 rfl gd_X6_init rfl rfl (by omega) (cw_X6_init h) (by omega) 130 4342 rfl rfl rfl rfl (Nat.le_of_ble_eq_true rfl) (fun s29 h => ?_)
  obtain ⟨o3, h⟩ := zb_andT h
  refine zb_k_putf (j := 2) dX11_init_32 fl_X11_25 rfl (Or.inr ⟨rfl, rfl, rfl⟩) o3 (Or.inr (Or.inr rfl)) (fun s32 e32 => ?_)
  have h := zb_letE e32 h
  refine zb_aload_n (j := 0) dX11_init_35 rfl rfl ?_
  refine zb_k_new (sz := 4) dX11_init_36 mk_X11_29 rfl 131 4346 rfl rfl rfl rfl (fun s36 e36 => ?_)
  have h := zb_letE e36 h
  refine zb_dup dX11_init_39 rfl ?_
  refine zb_k_IN (g := F_X7_init) (d' := d + 1) (k' := 3) (n' := 312) (As := []) (As' := []) (st := [(2, ((s32.length : Int) + 1)), (2, x0)]) dX11_init_40 lk_X11_31 rfl gd_X7_init rfl rfl (by omega) (cw_X7_init h) (by omega) 134 4658 rfl rfl rfl rfl (Nat.le_of_ble_eq_true rfl) (fun s40 h => ?_)
  obtain ⟨o4, h⟩ := zb_andT h
  refine zb_k_putf (j := 3) dX11_init_43 fl_X11_32 rfl (Or.inr ⟨rfl, rfl, rfl⟩) o4 (Or.inr (Or.inr rfl)) (fun s43 e43 => ?_)
  have h := zb_letE e43 h
  refine zb_aload_n (j := 0) dX11_init_46 rfl rfl ?_
  refine zb_k_new (sz := 6) dX11_init_47 mk_X11_36 rfl 135 4664 rfl rfl rfl rfl (fun s47 e47 => ?_)
  have h := zb_letE e47 h
  refine zb_dup dX11_init_50 rfl ?_
  refine zb_aload_n (j := 0) dX11_init_51 rfl rfl ?_
  obtain ⟨o5, h⟩ := zb_andT h
  obtain ⟨o6, h⟩ := zb_andT h
  refine zb_k_getf (j := 3) dX11_init_52 fl_X11_32 rfl o5 o6 ?_
  refine zb_k_I (g := F_X8_init) (d' := d + 3) (k' := 55) (n' := 847) (As := [(2, (zb_dM s47 x0 (3 : Nat)))]) (As' := [(2, (zb_dM s47 x0 (3 : Nat)))]) (st := [(2, ((s43.length : Int) + 1)), (2, x0)]) dX11_init_55 lk_X11_38 rfl gd_X8_init rfl rfl (by omega) (cw_X8_init h) (by omega) 190 5511 rfl rfl rfl rfl (Nat.le_of_ble_eq_true rfl) (fun s55 h => ?_)
  obtain ⟨o7, h⟩ := zb_andT h
  refine zb_k_putf (j := 4) dX11_init_58 fl_X11_41 rfl (Or.inr ⟨rfl, rfl, rfl⟩) o7 (Or.inr (Or.inr rfl)) (fun s58 e58 => ?_)
  have h := zb_letE e58 h
  refine zb_aload_n (j := 0) dX11_init_61 rfl rfl ?_
  refine zb_k_new (sz := 10) dX11_init_62 mk_X11_45 rfl 191 5521 rfl rfl rfl rfl (fun s62 e62 => ?_)
  have h := zb_letE e62 h
  refine zb_dup dX11_init_65 rfl ?_
  refine zb_aload_n (j := 0) dX11_init_66 rfl rfl ?_
  obtain ⟨o8, h⟩ := zb_andT h
  obtain ⟨o9, h⟩ := zb_andT h
  refine zb_k_getf (j := 3) dX11_init_67 fl_X11_32 rfl o8 o9 ?_
  refine zb_k_I (g := F_X9_init) (d' := d + 3) (k' := 163) (n' := 1818) (As := [(2, (zb_dM s62 x0 (3 : Nat)))]) (As' := [(2, (zb_dM s62 x0 (3 : Nat)))]) (st := [(2, ((s58.length : Int) + 1)), (2, x0)]) dX11_init_70 lk_X11_47 rfl gd_X9_init rfl rfl (by omega) (cw_X9_init h) (by omega) 354 7339 rfl rfl rfl rfl (Nat.le_of_ble_eq_true rfl) (fun s70 h => ?_)
  obtain ⟨o10, h⟩ := zb_andT h
  refine zb_k_putf (j := 5) dX11_init_73 fl_X11_48 rfl (Or.inr ⟨rfl, rfl, rfl⟩) o10 (Or.inr (Or.inr rfl)) (fun s73 e73 => ?_)
  have h := zb_letE e73 h
  exact cj_X11_init_76 hx0 h
theorem dX12_init_0 : decode cX12_init 0 = .ok (.aload_n 0, 1) := by decide +kernel
theorem dX12_init_1 : decode cX12_init 1 = .ok (.invokespecial 1, 3) := by decide +kernel
theorem dX12_init_4 : decode cX12_init 4 = .ok (.aload_n 0, 1) := by decide +kernel
theorem dX12_init_5 : decode cX12_init 5 = .ok (.bipush 8, 2) := by decide +kernel
theorem dX12_init_7 : decode cX12_init 7 = .ok (.newarray .int, 2) := by decide +kernel
theorem dX12_init_9 : decode cX12_init 9 = .ok (.putfield 7, 3) := by decide +kernel
theorem dX12_init_12 : decode cX12_init 12 = .ok (.aload_n 0, 1) := by decide +kernel
theorem dX12_init_13 : decode cX12_init 13 = .ok (.bipush 96, 2) := by decide +kernel
theorem dX12_init_15 : decode cX12_init 15 = .ok (.newarray .int, 2) := by decide +kernel
theorem dX12_init_17 : decode cX12_init 17 = .ok (.putfield 13, 3) := by decide +kernel
theorem dX12_init_20 : decode cX12_init 20 = .ok (.aload_n 0, 1) := by decide +kernel
theorem dX12_init_21 : decode cX12_init 21 = .ok (.bipush 96, 2) := by decide +kernel
theorem dX12_init_23 : decode cX12_init 23 = .ok (.newarray .int, 2) := by decide +kernel
theorem dX12_init_25 : decode cX12_init 25 = .ok (.putfield 16, 3) := by decide +kernel
theorem dX12_init_28 : decode cX12_init 28 = .ok (.aload_n 0, 1) := by decide +kernel
theorem dX12_init_29 : decode cX12_init 29 = .ok (.bipush 96, 2) := by decide +kernel
theorem dX12_init_31 : decode cX12_init 31 = .ok (.newarray .int, 2) := by decide +kernel
theorem dX12_init_33 : decode cX12_init 33 = .ok (.putfield 19, 3) := by decide +kernel
theorem dX12_init_36 : decode cX12_init 36 = .ok (.aload_n 0, 1) := by decide +kernel
theorem dX12_init_37 : decode cX12_init 37 = .ok (.bipush 96, 2) := by decide +kernel
theorem dX12_init_39 : decode cX12_init 39 = .ok (.newarray .int, 2) := by decide +kernel
theorem dX12_init_41 : decode cX12_init 41 = .ok (.putfield 22, 3) := by decide +kernel
theorem dX12_init_44 : decode cX12_init 44 = .ok (.aload_n 0, 1) := by decide +kernel
theorem dX12_init_45 : decode cX12_init 45 = .ok (.sipush 1152, 3) := by decide +kernel
theorem dX12_init_48 : decode cX12_init 48 = .ok (.newarray .int, 2) := by decide +kernel
theorem dX12_init_50 : decode cX12_init 50 = .ok (.putfield 25, 3) := by decide +kernel
theorem dX12_init_53 : decode cX12_init 53 = .ok (.aload_n 0, 1) := by decide +kernel
theorem dX12_init_54 : decode cX12_init 54 = .ok (.bipush 20, 2) := by decide +kernel
theorem dX12_init_56 : decode cX12_init 56 = .ok (.newarray .int, 2) := by decide +kernel
theorem dX12_init_58 : decode cX12_init 58 = .ok (.putfield 28, 3) := by decide +kernel
theorem dX12_init_61 : decode cX12_init 61 = .ok (.aload_n 0, 1) := by decide +kernel
theorem dX12_init_62 : decode cX12_init 62 = .ok (.bipush 20, 2) := by decide +kernel
theorem dX12_init_64 : decode cX12_init 64 = .ok (.newarray .int, 2) := by decide +kernel
theorem dX12_init_66 : decode cX12_init 66 = .ok (.putfield 31, 3) := by decide +kernel
theorem dX12_init_69 : decode cX12_init 69 = .ok (.aload_n 0, 1) := by decide +kernel
theorem dX12_init_70 : decode cX12_init 70 = .ok (.sipush 240, 3) := by decide +kernel
theorem dX12_init_73 : decode cX12_init 73 = .ok (.newarray .int, 2) := by decide +kernel
theorem dX12_init_75 : decode cX12_init 75 = .ok (.putfield 34, 3) := by decide +kernel
theorem dX12_init_78 : decode cX12_init 78 = .ok (.aload_n 0, 1) := by decide +kernel
theorem dX12_init_79 : decode cX12_init 79 = .ok (.sipush 240, 3) := by decide +kernel
theorem dX12_init_82 : decode cX12_init 82 = .ok (.newarray .int, 2) := by decide +kernel
theorem dX12_init_84 : decode cX12_init 84 = .ok (.putfield 37, 3) := by decide +kernel
theorem dX12_init_87 : decode cX12_init 87 = .ok (.aload_n 0, 1) := by decide +kernel
theorem dX12_init_88 : decode cX12_init 88 = .ok (.sipush 240, 3) := by decide +kernel
theorem dX12_init_91 : decode cX12_init 91 = .ok (.newarray .int, 2) := by decide +kernel
theorem dX12_init_93 : decode cX12_init 93 = .ok (.putfield 40, 3) := by decide +kernel
theorem dX12_init_96 : decode cX12_init 96 = .ok (.aload_n 0, 1) := by decide +kernel
theorem dX12_init_97 : decode cX12_init 97 = .ok (.sipush 240, 3) := by decide +kernel
theorem dX12_init_100 : decode cX12_init 100 = .ok (.newarray .int, 2) := by decide +kernel
theorem dX12_init_102 : decode cX12_init 102 = .ok (.putfield 43, 3) := by decide +kernel
theorem dX12_init_105 : decode cX12_init 105 = .ok (.aload_n 0, 1) := by decide +kernel
theorem dX12_init_106 : decode cX12_init 106 = .ok (.sipush 2880, 3) := by decide +kernel
theorem dX12_init_109 : decode cX12_init 109 = .ok (.newarray .int, 2) := by decide +kernel
theorem dX12_init_111 : decode cX12_init 111 = .ok (.putfield 46, 3) := by decide +kernel
theorem dX12_init_114 : decode cX12_init 114 = .ok (.aload_n 0, 1) := by decide +kernel
theorem dX12_init_115 : decode cX12_init 115 = .ok (.sipush 144, 3) := by decide +kernel
theorem dX12_init_118 : decode cX12_init 118 = .ok (.newarray .int, 2) := by decide +kernel
theorem dX12_init_120 : decode cX12_init 120 = .ok (.putfield 49, 3) := by decide +kernel
theorem dX12_init_123 : decode cX12_init 123 = .ok (.aload_n 0, 1) := by decide +kernel
theorem dX12_init_124 : decode cX12_init 124 = .ok (.bipush 12, 2) := by decide +kernel
theorem dX12_init_126 : decode cX12_init 126 = .ok (.newarray .int, 2) := by decide +kernel
theorem dX12_init_128 : decode cX12_init 128 = .ok (.putfield 52, 3) := by decide +kernel
theorem dX12_init_131 : decode cX12_init 131 = .ok (.aload_n 0, 1) := by decide +kernel
theorem dX12_init_132 : decode cX12_init 132 = .ok (.bipush 12, 2) := by decide +kernel
theorem dX12_init_134 : decode cX12_init 134 = .ok (.newarray .int, 2) := by decide +kernel
theorem dX12_init_136 : decode cX12_init 136 = .ok (.putfield 55, 3) := by decide +kernel
theorem dX12_init_139 : decode cX12_init 139 = .ok (.aload_n 0, 1) := by decide +kernel
theorem dX12_init_140 : decode cX12_init 140 = .ok (.sipush 144, 3) := by decide +kernel
theorem dX12_init_143 : decode cX12_init 143 = .ok (.newarray .int, 2) := by decide +kernel
theorem dX12_init_145 : decode cX12_init 145 = .ok (.putfield 58, 3) := by decide +kernel
theorem dX12_init_148 : decode cX12_init 148 = .ok (.aload_n 0, 1) := by decide +kernel
theorem dX12_init_149 : decode cX12_init 149 = .ok (.sipush 180, 3) := by decide +kernel
theorem dX12_init_152 : decode cX12_init 152 = .ok (.newarray .int, 2) := by decide +kernel
theorem dX12_init_154 : decode cX12_init 154 = .ok (.putfield 61, 3) := by decide +kernel
theorem dX12_init_157 : decode cX12_init 157 = .ok (.aload_n 0, 1) := by decide +kernel
theorem dX12_init_158 : decode cX12_init 158 = .ok (.bipush 15, 2) := by decide +kernel
theorem dX12_init_160 : decode cX12_init 160 = .ok (.newarray .int, 2) := by decide +kernel
theorem dX12_init_162 : decode cX12_init 162 = .ok (.putfield 64, 3) := by decide +kernel
theorem dX12_init_165 : decode cX12_init 165 = .ok (.aload_n 0, 1) := by decide +kernel
theorem dX12_init_166 : decode cX12_init 166 = .ok (.sipush 2640, 3) := by decide +kernel
theorem dX12_init_169 : decode cX12_init 169 = .ok (.newarray .int, 2) := by decide +kernel
theorem dX12_init_171 : decode cX12_init 171 = .ok (.putfield 67, 3) := by decide +kernel
theorem dX12_init_174 : decode cX12_init 174 = .ok (.aload_n 0, 1) := by decide +kernel
theorem dX12_init_175 : decode cX12_init 175 = .ok (.bipush 12, 2) := by decide +kernel
theorem dX12_init_177 : decode cX12_init 177 = .ok (.newarray .int, 2) := by decide +kernel
theorem dX12_init_179 : decode cX12_init 179 = .ok (.putfield 70, 3) := by decide +kernel
theorem dX12_init_182 : decode cX12_init 182 = .ok (.aload_n 0, 1) := by decide +kernel
theorem dX12_init_183 : decode cX12_init 183 = .ok (.bipush 12, 2) := by decide +kernel
theorem dX12_init_185 : decode cX12_init 185 = .ok (.newarray .int, 2) := by decide +kernel
theorem dX12_init_187 : decode cX12_init 187 = .ok (.putfield 73, 3) := by decide +kernel
theorem dX12_init_190 : decode cX12_init 190 = .ok (.aload_n 0, 1) := by decide +kernel
theorem dX12_init_191 : decode cX12_init 191 = .ok (.sipush 144, 3) := by decide +kernel
theorem dX12_init_194 : decode cX12_init 194 = .ok (.newarray .int, 2) := by decide +kernel
theorem dX12_init_196 : decode cX12_init 196 = .ok (.putfield 76, 3) := by decide +kernel
theorem dX12_init_199 : decode cX12_init 199 = .ok (.aload_n 0, 1) := by decide +kernel
theorem dX12_init_200 : decode cX12_init 200 = .ok (.bipush 13, 2) := by decide +kernel
theorem dX12_init_202 : decode cX12_init 202 = .ok (.newarray .int, 2) := by decide +kernel
theorem dX12_init_204 : decode cX12_init 204 = .ok (.putfield 79, 3) := by decide +kernel
theorem dX12_init_207 : decode cX12_init 207 = .ok (.aload_n 0, 1) := by decide +kernel
theorem dX12_init_208 : decode cX12_init 208 = .ok (.sipush 160, 3) := by decide +kernel
theorem dX12_init_211 : decode cX12_init 211 = .ok (.newarray .int, 2) := by decide +kernel
theorem dX12_init_213 : decode cX12_init 213 = .ok (.putfield 82, 3) := by decide +kernel
theorem dX12_init_216 : decode cX12_init 216 = .ok (.aload_n 0, 1) := by decide +kernel
theorem dX12_init_217 : decode cX12_init 217 = .ok (.bipush 12, 2) := by decide +kernel
theorem dX12_init_219 : decode cX12_init 219 = .ok (.newarray .int, 2) := by decide +kernel
theorem dX12_init_221 : decode cX12_init 221 = .ok (.putfield 85, 3) := by decide +kernel
theorem dX12_init_224 : decode cX12_init 224 = .ok (.aload_n 0, 1) := by decide +kernel
theorem dX12_init_225 : decode cX12_init 225 = .ok (.sipush 160, 3) := by decide +kernel
theorem dX12_init_228 : decode cX12_init 228 = .ok (.newarray .int, 2) := by decide +kernel
theorem dX12_init_230 : decode cX12_init 230 = .ok (.putfield 88, 3) := by decide +kernel
theorem dX12_init_233 : decode cX12_init 233 = .ok (.aload_n 0, 1) := by decide +kernel
theorem dX12_init_234 : decode cX12_init 234 = .ok (.bipush 12, 2) := by decide +kernel
theorem dX12_init_236 : decode cX12_init 236 = .ok (.newarray .int, 2) := by decide +kernel
theorem dX12_init_238 : decode cX12_init 238 = .ok (.putfield 91, 3) := by decide +kernel
theorem dX12_init_241 : decode cX12_init 241 = .ok (.aload_n 0, 1) := by decide +kernel
theorem dX12_init_242 : decode cX12_init 242 = .ok (.sipush 160, 3) := by decide +kernel
theorem dX12_init_245 : decode cX12_init 245 = .ok (.newarray .int, 2) := by decide +kernel
theorem dX12_init_247 : decode cX12_init 247 = .ok (.putfield 94, 3) := by decide +kernel
theorem dX12_init_250 : decode cX12_init 250 = .ok (.aload_n 0, 1) := by decide +kernel
theorem dX12_init_251 : decode cX12_init 251 = .ok (.bipush 12, 2) := by decide +kernel
theorem dX12_init_253 : decode cX12_init 253 = .ok (.newarray .int, 2) := by decide +kernel
theorem dX12_init_255 : decode cX12_init 255 = .ok (.putfield 97, 3) := by decide +kernel
theorem dX12_init_258 : decode cX12_init 258 = .ok (.aload_n 0, 1) := by decide +kernel
theorem dX12_init_259 : decode cX12_init 259 = .ok (.sipush 160, 3) := by decide +kernel
theorem dX12_init_262 : decode cX12_init 262 = .ok (.newarray .int, 2) := by decide +kernel
theorem dX12_init_264 : decode cX12_init 264 = .ok (.putfield 100, 3) := by decide +kernel
theorem dX12_init_267 : decode cX12_init 267 = .ok (.aload_n 0, 1) := by decide +kernel
theorem dX12_init_268 : decode cX12_init 268 = .ok (.bipush 12, 2) := by decide +kernel
theorem dX12_init_270 : decode cX12_init 270 = .ok (.newarray .int, 2) := by decide +kernel
theorem dX12_init_272 : decode cX12_init 272 = .ok (.putfield 103, 3) := by decide +kernel
theorem dX12_init_275 : decode cX12_init 275 = .ok (.aload_n 0, 1) := by decide +kernel
theorem dX12_init_276 : decode cX12_init 276 = .ok (.bipush 12, 2) := by decide +kernel
theorem dX12_init_278 : decode cX12_init 278 = .ok (.newarray .int, 2) := by decide +kernel
theorem dX12_init_280 : decode cX12_init 280 = .ok (.putfield 106, 3) := by decide +kernel
theorem dX12_init_283 : decode cX12_init 283 = .ok (.aload_n 0, 1) := by decide +kernel
theorem dX12_init_284 : decode cX12_init 284 = .ok (.iconst 3, 1) := by decide +kernel
theorem dX12_init_285 : decode cX12_init 285 = .ok (.newarray .int, 2) := by decide +kernel
theorem dX12_init_287 : decode cX12_init 287 = .ok (.putfield 109, 3) := by decide +kernel
theorem dX12_init_290 : decode cX12_init 290 = .ok (.aload_n 0, 1) := by decide +kernel
theorem dX12_init_291 : decode cX12_init 291 = .ok (.bipush 12, 2) := by decide +kernel
theorem dX12_init_293 : decode cX12_init 293 = .ok (.newarray .int, 2) := by decide +kernel
theorem dX12_init_295 : decode cX12_init 295 = .ok (.putfield 112, 3) := by decide +kernel
theorem dX12_init_298 : decode cX12_init 298 = .ok (.aload_n 0, 1) := by decide +kernel
theorem dX12_init_299 : decode cX12_init 299 = .ok (.bipush 13, 2) := by decide +kernel
theorem dX12_init_301 : decode cX12_init 301 = .ok (.newarray .int, 2) := by decide +kernel
theorem dX12_init_303 : decode cX12_init 303 = .ok (.putfield 115, 3) := by decide +kernel
theorem dX12_init_306 : decode cX12_init 306 = .ok (.aload_n 0, 1) := by decide +kernel
theorem dX12_init_307 : decode cX12_init 307 = .ok (.bipush 12, 2) := by decide +kernel
theorem dX12_init_309 : decode cX12_init 309 = .ok (.newarray .int, 2) := by decide +kernel
theorem dX12_init_311 : decode cX12_init 311 = .ok (.putfield 118, 3) := by decide +kernel
theorem dX12_init_314 : decode cX12_init 314 = .ok (.aload_n 0, 1) := by decide +kernel
theorem dX12_init_315 : decode cX12_init 315 = .ok (.bipush 13, 2) := by decide +kernel
theorem dX12_init_317 : decode cX12_init 317 = .ok (.newarray .int, 2) := by decide +kernel
theorem dX12_init_319 : decode cX12_init 319 = .ok (.putfield 121, 3) := by decide +kernel
theorem dX12_init_322 : decode cX12_init 322 = .ok (.aload_n 0, 1) := by decide +kernel
theorem dX12_init_323 : decode cX12_init 323 = .ok (.bipush 12, 2) := by decide +kernel
theorem dX12_init_325 : decode cX12_init 325 = .ok (.newarray .int, 2) := by decide +kernel
theorem dX12_init_327 : decode cX12_init 327 = .ok (.putfield 124, 3) := by decide +kernel
theorem dX12_init_330 : decode cX12_init 330 = .ok (.aload_n 0, 1) := by decide +kernel
theorem dX12_init_331 : decode cX12_init 331 = .ok (.sipush 1200, 3) := by decide +kernel
theorem dX12_init_334 : decode cX12_init 334 = .ok (.newarray .int, 2) := by decide +kernel
theorem dX12_init_336 : decode cX12_init 336 = .ok (.putfield 127, 3) := by decide +kernel
theorem dX12_init_339 : decode cX12_init 339 = .ok (.aload_n 0, 1) := by decide +kernel
theorem dX12_init_340 : decode cX12_init 340 = .ok (.sipush 1600, 3) := by decide +kernel
theorem dX12_init_343 : decode cX12_init 343 = .ok (.newarray .int, 2) := by decide +kernel
theorem dX12_init_345 : decode cX12_init 345 = .ok (.putfield 130, 3) := by decide +kernel
theorem dX12_init_348 : decode cX12_init 348 = .ok (.return_, 1) := by decide +kernel
def CJ_X12_init_306 (x0 : Int) (σ : zb_Sg) (K : zb_Sg → Bool) : Bool :=
  zb_let ((13, 12, []) :: σ) (fun s309 => ((zb_isb s309 x0 12) && (zb_let (zb_stv s309 x0 46 ((σ.length : Int) + 1)) (fun s311 => zb_let ((13, 13, []) :: s311) (fun s317 => ((zb_isb s317 x0 12) && (zb_let (zb_stv s317 x0 47 ((s311.length : Int) + 1)) (fun s319 => zb_let ((13, 12, []) :: s319) (fun s325 => ((zb_isb s325 x0 12) && (zb_let (zb_stv s325 x0 48 ((s319.length : Int) + 1)) (fun s327 => zb_let ((13, 1200, []) :: s327) (fun s334 => ((zb_isb s334 x0 12) && (zb_let (zb_stv s334 x0 50 ((s327.length : Int) + 1)) (fun s336 => zb_let ((13, 1600, []) :: s336) (fun s343 => ((zb_isb s343 x0 12) && (zb_let (zb_stv s343 x0 54 ((s336.length : Int) + 1)) (fun s345 => K s345))))))))))))))))))))
set_option maxRecDepth 100000 in
set_option maxHeartbeats 40000000 in
theorem cj_X12_init_306 {d : Nat} {G : zb_G} {C : zb_C} {x0 : Int} {σ : zb_Sg} {K : zb_Sg → Bool} (hx0 : 1 ≤ x0) (h : CJ_X12_init_306 x0 σ K = true) : zb_WP (G, C, d + 1, 41, 12317, fun _ S' m' => ∃ σ', S' = zb_dS σ' ∧ m' = zb_dM σ' ∧ K σ' = true) F_X12_init 306 [(0, (2, x0))] [] (zb_dS σ) (zb_dM σ) 36 9480 := by
  unfold CJ_X12_init_306 at h
  refine zb_aload_n (j := 0) dX12_init_306 rfl rfl ?_
  refine zb_bipush dX12_init_307 (by decide) (zb_inIc rfl) ?_
  refine zb_k_newa (len := 12) dX12_init_309 rfl ac_int rfl 37 9492 rfl rfl rfl rfl (fun s309 e309 => ?_)
  have h := zb_letE e309 h
  obtain ⟨o37, h⟩ := zb_andT h
  refine zb_k_putf (j := 46) dX12_init_311 fl_X12_118 rfl (Or.inr ⟨rfl, rfl, rfl⟩) o37 (Or.inr (Or.inr rfl)) (fun s311 e311 => ?_)
  have h := zb_letE e311 h
  refine zb_aload_n (j := 0) dX12_init_314 rfl rfl ?_
  refine zb_bipush dX12_init_315 (by decide) (zb_inIc rfl) ?_
  refine zb_k_newa (len := 13) dX12_init_317 rfl ac_int rfl 38 9505 rfl rfl rfl rfl (fun s317 e317 => ?_)
  have h := zb_letE e317 h
  obtain ⟨o38, h⟩ := zb_andT h
  refine zb_k_putf (j := 47) dX12_init_319 fl_X12_121 rfl (Or.inr ⟨rfl, rfl, rfl⟩) o38 (Or.inr (Or.inr rfl)) (fun s319 e319 => ?_)
  have h := zb_letE e319 h
  refine zb_aload_n (j := 0) dX12_init_322 rfl rfl ?_
  refine zb_bipush dX12_init_323 (by decide) (zb_inIc rfl) ?_
  refine zb_k_newa (len := 12) dX12_init_325 rfl ac_int rfl 39 9517 rfl rfl rfl rfl (fun s325 e325 => ?_)
  have h := zb_letE e325 h
  obtain ⟨o39, h⟩ := zb_andT h
  refine zb_k_putf (j := 48) dX12_init_327 fl_X12_124 rfl (Or.inr ⟨rfl, rfl, rfl⟩) o39 (Or.inr (Or.inr rfl)) (fun s327 e327 => ?_)
  have h := zb_letE e327 h
  refine zb_aload_n (j := 0) dX12_init_330 rfl rfl ?_
  refine zb_sipush dX12_init_331 (by decide) (zb_inIc rfl) ?_
  refine zb_k_newa (len := 1200) dX12_init_334 rfl ac_int rfl 40 10717 rfl rfl rfl rfl (fun s334 e334 => ?_)
  have h := zb_letE e334 h
  obtain ⟨o40, h⟩ := zb_andT h
  refine zb_k_putf (j := 50) dX12_init_336 fl_X12_127 rfl (Or.inr ⟨rfl, rfl, rfl⟩) o40 (Or.inr (Or.inr rfl)) (fun s336 e336 => ?_)
  have h := zb_letE e336 h
  refine zb_aload_n (j := 0) dX12_init_339 rfl rfl ?_
  refine zb_sipush dX12_init_340 (by decide) (zb_inIc rfl) ?_
  refine zb_k_newa (len := 1600) dX12_init_343 rfl ac_int rfl 41 12317 rfl rfl rfl rfl (fun s343 e343 => ?_)
  have h := zb_letE e343 h
  obtain ⟨o41, h⟩ := zb_andT h
  refine zb_k_putf (j := 54) dX12_init_345 fl_X12_130 rfl (Or.inr ⟨rfl, rfl, rfl⟩) o41 (Or.inr (Or.inr rfl)) (fun s345 e345 => ?_)
  have h := zb_letE e345 h
  exact zb_vreturn dX12_init_348 rfl (Nat.le_of_ble_eq_true rfl) (Nat.le_of_ble_eq_true rfl) ⟨_, rfl, rfl, h⟩
def CJ_X12_init_258 (x0 : Int) (σ : zb_Sg) (K : zb_Sg → Bool) : Bool :=
  zb_let ((13, 160, []) :: σ) (fun s262 => ((zb_isb s262 x0 12) && (zb_let (zb_stv s262 x0 38 ((σ.length : Int) + 1)) (fun s264 => zb_let ((13, 12, []) :: s264) (fun s270 => ((zb_isb s270 x0 12) && (zb_let (zb_stv s270 x0 39 ((s264.length : Int) + 1)) (fun s272 => zb_let ((13, 12, []) :: s272) (fun s278 => ((zb_isb s278 x0 12) && (zb_let (zb_stv s278 x0 41 ((s272.length : Int) + 1)) (fun s280 => zb_let ((13, 3, []) :: s280) (fun s285 => ((zb_isb s285 x0 12) && (zb_let (zb_stv s285 x0 43 ((s280.length : Int) + 1)) (fun s287 => zb_let ((13, 12, []) :: s287) (fun s293 => ((zb_isb s293 x0 12) && (zb_let (zb_stv s293 x0 44 ((s287.length : Int) + 1)) (fun s295 => zb_let ((13, 13, []) :: s295) (fun s301 => ((zb_isb s301 x0 12) && (zb_let (zb_stv s301 x0 45 ((s295.length : Int) + 1)) (fun s303 => CJ_X12_init_306 x0 s303 K))))))))))))))))))))))))
set_option maxRecDepth 100000 in
set_option maxHeartbeats 40000000 in
theorem cj_X12_init_258 {d : Nat} {G : zb_G} {C : zb_C} {x0 : Int} {σ : zb_Sg} {K : zb_Sg → Bool} (hx0 : 1 ≤ x0) (h : CJ_X12_init_258 x0 σ K = true) : zb_WP (G, C, d + 1, 41, 12317, fun _ S' m' => ∃ σ', S' = zb_dS σ' ∧ m' = zb_dM σ' ∧ K σ' = true) F_X12_init 258 [(0, (2, x0))] [] (zb_dS σ) (zb_dM σ) 30 9268 := by
  unfold CJ_X12_init_258 at h
  refine zb_aload_n (j := 0) dX12_init_258 rfl rfl ?_
  refine zb_sipush dX12_init_259 (by decide) (zb_inIc rfl) ?_
  refine zb_k_newa (len := 160) dX12_init_262 rfl ac_int rfl 31 9428 rfl rfl rfl rfl (fun s262 e262 => ?_)
  have h := zb_letE e262 h
  obtain ⟨o31, h⟩ := zb_andT h
  refine zb_k_putf (j := 38) dX12_init_264 fl_X12_100 rfl (Or.inr ⟨rfl, rfl, rfl⟩) o31 (Or.inr (Or.inr rfl)) (fun s264 e264 => ?_)
  have h := zb_letE e264 h
  refine zb_aload_n (j := 0) dX12_init_267 rfl rfl ?_
  refine zb_bipush dX12_init_268 (by decide) (zb_inIc rfl) ?_
  refine zb_k_newa (len := 12) dX12_init_270 rfl ac_int rfl 32 9440 rfl rfl rfl rfl (fun s270 e270 => ?_)
  have h := zb_letE e270 h
  obtain ⟨o32, h⟩ := zb_andT h
  refine zb_k_putf (j := 39) dX12_init_272 fl_X12_103 rfl (Or.inr ⟨rfl, rfl, rfl⟩) o32 (Or.inr (Or.inr rfl)) (fun s272 e272 => ?_)
  have h := zb_letE e272 h
  refine zb_aload_n (j := 0) dX12_init_275 rfl rfl ?_
  refine zb_bipush dX12_init_276 (by decide) (zb_inIc rfl) ?_
  refine zb_k_newa (len := 12) dX12_init_278 rfl ac_int rfl 33 9452 rfl rfl rfl rfl (fun s278 e278 => ?_)
  have h := zb_letE e278 h
  obtain ⟨o33, h⟩ := zb_andT h
  refine zb_k_putf (j := 41) dX12_init_280 fl_X12_106 rfl (Or.inr ⟨rfl, rfl, rfl⟩) o33 (Or.inr (Or.inr rfl)) (fun s280 e280 => ?_)
  have h := zb_letE e280 h
  refine zb_aload_n (j := 0) dX12_init_283 rfl rfl ?_
  refine zb_iconst dX12_init_284 (zb_inIc rfl) ?_
  refine zb_k_newa (len := 3) dX12_init_285 rfl ac_int rfl 34 9455 rfl rfl rfl rfl (fun s285 e285 => ?_)
  have h := zb_letE e285 h
  obtain ⟨o34, h⟩ := zb_andT h
  refine zb_k_putf (j := 43) dX12_init_287 fl_X12_109 rfl (Or.inr ⟨rfl, rfl, rfl⟩) o34 (Or.inr (Or.inr rfl)) (fun s287 e287 => ?_)
  have h := zb_letE e287 h
  refine zb_aload_n (j := 0) dX12_init_290 rfl rfl ?_
  refine zb_bipush dX12_init_291 (by decide) (zb_inIc rfl) ?_
  refine zb_k_newa (len := 12) dX12_init_293 rfl ac_int rfl 35 9467 rfl rfl rfl rfl (fun s293 e293 => ?_)
  have h := zb_letE e293 h
  obtain ⟨o35, h⟩ := zb_andT h
  refine zb_k_putf (j := 44) dX12_init_295 fl_X12_112 rfl (Or.inr ⟨rfl, rfl, rfl⟩) o35 (Or.inr (Or.inr rfl)) (fun s295 e295 => ?_)
  have h := zb_letE e295 h
  refine zb_aload_n (j := 0) dX12_init_298 rfl rfl ?_
  refine zb_bipush dX12_init_299 (by decide) (zb_inIc rfl) ?_
  refine zb_k_newa (len := 13) dX12_init_301 rfl ac_int rfl 36 9480 rfl rfl rfl rfl (fun s301 e301 => ?_)
  have h := zb_letE e301 h
  obtain ⟨o36, h⟩ := zb_andT h
  refine zb_k_putf (j := 45) dX12_init_303 fl_X12_115 rfl (Or.inr ⟨rfl, rfl, rfl⟩) o36 (Or.inr (Or.inr rfl)) (fun s303 e303 => ?_)
  have h := zb_letE e303 h
  exact cj_X12_init_306 hx0 h
def CJ_X12_init_207 (x0 : Int) (σ : zb_Sg) (K : zb_Sg → Bool) : Bool :=
  zb_let ((13, 160, []) :: σ) (fun s211 => ((zb_isb s211 x0 12) && (zb_let (zb_stv s211 x0 30 ((σ.length : Int) + 1)) (fun s213 => zb_let ((13, 12, []) :: s213) (fun s219 => ((zb_isb s219 x0 12) && (zb_let (zb_stv s219 x0 31 ((s213.length : Int) + 1)) (fun s221 => zb_let ((13, 160, []) :: s221) (fun s228 => ((zb_isb s228 x0 12) && (zb_let (zb_stv s228 x0 32 ((s221.length : Int) + 1)) (fun s230 => zb_let ((13, 12, []) :: s230) (fun s236 => ((zb_isb s236 x0 12) && (zb_let (zb_stv s236 x0 33 ((s230.length : Int) + 1)) (fun s238 => zb_let ((13, 160, []) :: s238) (fun s245 => ((zb_isb s245 x0 12) && (zb_let (zb_stv s245 x0 35 ((s238.length : Int) + 1)) (fun s247 => zb_let ((13, 12, []) :: s247) (fun s253 => ((zb_isb s253 x0 12) && (zb_let (zb_stv s253 x0 36 ((s247.length : Int) + 1)) (fun s255 => CJ_X12_init_258 x0 s255 K))))))))))))))))))))))))
set_option maxRecDepth 100000 in
set_option maxHeartbeats 40000000 in
theorem cj_X12_init_207 {d : Nat} {G : zb_G} {C : zb_C} {x0 : Int} {σ : zb_Sg} {K : zb_Sg → Bool} (hx0 : 1 ≤ x0) (h : CJ_X12_init_207 x0 σ K = true) : zb_WP (G, C, d + 1, 41, 12317, fun _ S' m' => ∃ σ', S' = zb_dS σ' ∧ m' = zb_dM σ' ∧ K σ' = true) F_X12_init 207 [(0, (2, x0))] [] (zb_dS σ) (zb_dM σ) 24 8752 := by
  unfold CJ_X12_init_207 at h
  refine zb_aload_n (j := 0) dX12_init_207 rfl rfl ?_
  refine zb_sipush dX12_init_208 (by decide) (zb_inIc rfl) ?_
  refine zb_k_newa (len := 160) dX12_init_211 rfl ac_int rfl 25 8912 rfl rfl rfl rfl (fun s211 e211 => ?_)
  have h := zb_letE e211 h
  obtain ⟨o25, h⟩ := zb_andT h
  refine zb_k_putf (j := 30) dX12_init_213 fl_X12_82 rfl (Or.inr ⟨rfl, rfl, rfl⟩) o25 (Or.inr (Or.inr rfl)) (fun s213 e213 => ?_)
  have h := zb_letE e213 h
  refine zb_aload_n (j := 0) dX12_init_216 rfl rfl ?_
  refine zb_bipush dX12_init_217 (by decide) (zb_inIc rfl) ?_
  refine zb_k_newa (len := 12) dX12_init_219 rfl ac_int rfl 26 8924 rfl rfl rfl rfl (fun s219 e219 => ?_)
  have h := zb_letE e219 h
  obtain ⟨o26, h⟩ := zb_andT h
  refine zb_k_putf (j := 31) dX12_init_221 fl_X12_85 rfl (Or.inr ⟨rfl, rfl, rfl⟩) o26 (Or.inr (Or.inr rfl)) (fun s221 e221 => ?_)
  have h := zb_letE e221 h
  refine zb_aload_n (j := 0) dX12_init_224 rfl rfl ?_
  refine zb_sipush dX12_init_225 (by decide) (zb_inIc rfl) ?_
  refine zb_k_newa (len := 160) dX12_init_228 rfl ac_int rfl 27 9084 rfl rfl rfl rfl (fun s228 e228 => ?_)
  have h := zb_letE e228 h
  obtain ⟨o27, h⟩ := zb_andT h
  refine zb_k_putf (j := 32) dX12_init_230 fl_X12_88 rfl (Or.inr ⟨rfl, rfl, rfl⟩) o27 (Or.inr (Or.inr rfl)) (fun s230 e230 => ?_)
  have h := zb_letE e230 h
  refine zb_aload_n (j := 0) dX12_init_233 rfl rfl ?_
  refine zb_bipush dX12_init_234 (by decide) (zb_inIc rfl) ?_
  refine zb_k_newa (len := 12) dX12_init_236 rfl ac_int rfl 28 9096 rfl rfl rfl rfl (fun s236 e236 => ?_)
  have h := zb_letE e236 h
  obtain ⟨o28, h⟩ := zb_andT h
  refine zb_k_putf (j := 33) dX12_init_238 fl_X12_91 rfl (Or.inr ⟨rfl, rfl, rfl⟩) o28 (Or.inr (Or.inr rfl)) (fun s238 e238 => ?_)
  have h := zb_letE e238 h
  refine zb_aload_n (j := 0) dX12_init_241 rfl rfl ?_
  refine zb_sipush dX12_init_242 (by decide) (zb_inIc rfl) ?_
  refine zb_k_newa (len := 160) dX12_init_245 rfl ac_int rfl 29 9256 rfl rfl rfl rfl (fun s245 e245 => ?_)
  have h := zb_letE e245 h
  obtain ⟨o29, h⟩ := zb_andT h
  refine zb_k_putf (j := 35) dX12_init_247 fl_X12_94 rfl (Or.inr ⟨rfl, rfl, rfl⟩) o29 (Or.inr (Or.inr rfl)) (fun s247 e247 => ?_)
  have h := zb_letE e247 h
  refine zb_aload_n (j := 0) dX12_init_250 rfl rfl ?_
  refine zb_bipush dX12_init_251 (by decide) (zb_inIc rfl) ?_
  refine zb_k_newa (len := 12) dX12_init_253 rfl ac_int rfl 30 9268 rfl rfl rfl rfl (fun s253 e253 => ?_)
  have h := zb_letE e253 h
  obtain ⟨o30, h⟩ := zb_andT h
  refine zb_k_putf (j := 36) dX12_init_255 fl_X12_97 rfl (Or.inr ⟨rfl, rfl, rfl⟩) o30 (Or.inr (Or.inr rfl)) (fun s255 e255 => ?_)
  have h := zb_letE e255 h
  exact cj_X12_init_258 hx0 h
def CJ_X12_init_157 (x0 : Int) (σ : zb_Sg) (K : zb_Sg → Bool) : Bool :=
  zb_let ((13, 15, []) :: σ) (fun s160 => ((zb_isb s160 x0 12) && (zb_let (zb_stv s160 x0 20 ((σ.length : Int) + 1)) (fun s162 => zb_let ((13, 2640, []) :: s162) (fun s169 => ((zb_isb s169 x0 12) && (zb_let (zb_stv s169 x0 21 ((s162.length : Int) + 1)) (fun s171 => zb_let ((13, 12, []) :: s171) (fun s177 => ((zb_isb s177 x0 12) && (zb_let (zb_stv s177 x0 22 ((s171.length : Int) + 1)) (fun s179 => zb_let ((13, 12, []) :: s179) (fun s185 => ((zb_isb s185 x0 12) && (zb_let (zb_stv s185 x0 25 ((s179.length : Int) + 1)) (fun s187 => zb_let ((13, 144, []) :: s187) (fun s194 => ((zb_isb s194 x0 12) && (zb_let (zb_stv s194 x0 26 ((s187.length : Int) + 1)) (fun s196 => zb_let ((13, 13, []) :: s196) (fun s202 => ((zb_isb s202 x0 12) && (zb_let (zb_stv s202 x0 27 ((s196.length : Int) + 1)) (fun s204 => CJ_X12_init_207 x0 s204 K))))))))))))))))))))))))
set_option maxRecDepth 100000 in
set_option maxHeartbeats 40000000 in
theorem cj_X12_init_157 {d : Nat} {G : zb_G} {C : zb_C} {x0 : Int} {σ : zb_Sg} {K : zb_Sg → Bool} (hx0 : 1 ≤ x0) (h : CJ_X12_init_157 x0 σ K = true) : zb_WP (G, C, d + 1, 41, 12317, fun _ S' m' => ∃ σ', S' = zb_dS σ' ∧ m' = zb_dM σ' ∧ K σ' = true) F_X12_init 157 [(0, (2, x0))] [] (zb_dS σ) (zb_dM σ) 18 5916 := by
  unfold CJ_X12_init_157 at h
  refine zb_aload_n (j := 0) dX12_init_157 rfl rfl ?_
  refine zb_bipush dX12_init_158 (by decide) (zb_inIc rfl) ?_
  refine zb_k_newa (len := 15) dX12_init_160 rfl ac_int rfl 19 5931 rfl rfl rfl rfl (fun s160 e160 => ?_)
  have h := zb_letE e160 h
  obtain ⟨o19, h⟩ := zb_andT h
  refine zb_k_putf (j := 20) dX12_init_162 fl_X12_64 rfl (Or.inr ⟨rfl, rfl, rfl⟩) o19 (Or.inr (Or.inr rfl)) (fun s162 e162 => ?_)
  have h := zb_letE e162 h
  refine zb_aload_n (j := 0) dX12_init_165 rfl rfl ?_
  refine zb_sipush dX12_init_166 (by decide) (zb_inIc rfl) ?_
  refine zb_k_newa (len := 2640) dX12_init_169 rfl ac_int rfl 20 8571 rfl rfl rfl rfl (fun s169 e169 => ?_)
  have h := zb_letE e169 h
  obtain ⟨o20, h⟩ := zb_andT h
  refine zb_k_putf (j := 21) dX12_init_171 fl_X12_67 rfl (Or.inr ⟨rfl, rfl, rfl⟩) o20 (Or.inr (Or.inr rfl)) (fun s171 e171 => ?_)
  have h := zb_letE e171 h
  refine zb_aload_n (j := 0) dX12_init_174 rfl rfl ?_
  refine zb_bipush dX12_init_175 (by decide) (zb_inIc rfl) ?_
  refine zb_k_newa (len := 12) dX12_init_177 rfl ac_int rfl 21 8583 rfl rfl rfl rfl (fun s177 e177 => ?_)
  have h := zb_letE e177 h
  obtain ⟨o21, h⟩ := zb_andT h
  refine zb_k_putf (j := 22) dX12_init_179 fl_X12_70 rfl (Or.inr ⟨rfl, rfl, rfl⟩) o21 (Or.inr (Or.inr rfl)) (fun s179 e179 => ?_)
  have h := zb_letE e179 h
  refine zb_aload_n (j := 0) dX12_init_182 rfl rfl ?_
  refine zb_bipush dX12_init_183 (by decide) (zb_inIc rfl) ?_
  refine zb_k_newa (len := 12) dX12_init_185 rfl ac_int rfl 22 8595 rfl rfl rfl rfl (fun s185 e185 => ?_)
  have h := zb_letE e185 h
  obtain ⟨o22, h⟩ := zb_andT h
  refine zb_k_putf (j := 25) dX12_init_187 fl_X12_73 rfl (Or.inr ⟨rfl, rfl, rfl⟩) o22 (Or.inr (Or.inr rfl)) (fun s187 e187 => ?_)
  have h := zb_letE e187 h
  refine zb_aload_n (j := 0) dX12_init_190 rfl rfl ?_
  refine zb_sipush dX12_init_191 (by decide) (zb_inIc rfl) ?_
  refine zb_k_newa (len := 144) dX12_init_194 rfl ac_int rfl 23 8739 rfl rfl rfl rfl (fun s194 e194 => ?_)
  have h := zb_letE e194 h
  obtain ⟨o23, h⟩ := zb_andT h
  refine zb_k_putf (j := 26) dX12_init_196 fl_X12_76 rfl (Or.inr ⟨rfl, rfl, rfl⟩) o23 (Or.inr (Or.inr rfl)) (fun s196 e196 => ?_)
  have h := zb_letE e196 h
  refine zb_aload_n (j := 0) dX12_init_199 rfl rfl ?_
  refine zb_bipush dX12_init_200 (by decide) (zb_inIc rfl) ?_
  refine zb_k_newa (len := 13) dX12_init_202 rfl ac_int rfl 24 8752 rfl rfl rfl rfl (fun s202 e202 => ?_)
  have h := zb_letE e202 h
  obtain ⟨o24, h⟩ := zb_andT h
  refine zb_k_putf (j := 27) dX12_init_204 fl_X12_79 rfl (Or.inr ⟨rfl, rfl, rfl⟩) o24 (Or.inr (Or.inr rfl)) (fun s204 e204 => ?_)
  have h := zb_letE e204 h
  exact cj_X12_init_207 hx0 h
def CJ_X12_init_105 (x0 : Int) (σ : zb_Sg) (K : zb_Sg → Bool) : Bool :=
  zb_let ((13, 2880, []) :: σ) (fun s109 => ((zb_isb s109 x0 12) && (zb_let (zb_stv s109 x0 12 ((σ.length : Int) + 1)) (fun s111 => zb_let ((13, 144, []) :: s111) (fun s118 => ((zb_isb s118 x0 12) && (zb_let (zb_stv s118 x0 14 ((s111.length : Int) + 1)) (fun s120 => zb_let ((13, 12, []) :: s120) (fun s126 => ((zb_isb s126 x0 12) && (zb_let (zb_stv s126 x0 16 ((s120.length : Int) + 1)) (fun s128 => zb_let ((13, 12, []) :: s128) (fun s134 => ((zb_isb s134 x0 12) && (zb_let (zb_stv s134 x0 17 ((s128.length : Int) + 1)) (fun s136 => zb_let ((13, 144, []) :: s136) (fun s143 => ((zb_isb s143 x0 12) && (zb_let (zb_stv s143 x0 18 ((s136.length : Int) + 1)) (fun s145 => zb_let ((13, 180, []) :: s145) (fun s152 => ((zb_isb s152 x0 12) && (zb_let (zb_stv s152 x0 19 ((s145.length : Int) + 1)) (fun s154 => CJ_X12_init_157 x0 s154 K))))))))))))))))))))))))
set_option maxRecDepth 100000 in
set_option maxHeartbeats 40000000 in
theorem cj_X12_init_105 {d : Nat} {G : zb_G} {C : zb_C} {x0 : Int} {σ : zb_Sg} {K : zb_Sg → Bool} (hx0 : 1 ≤ x0) (h : CJ_X12_init_105 x0 σ K = true) : zb_WP (G, C, d + 1, 41, 12317, fun _ S' m' => ∃ σ', S' = zb_dS σ' ∧ m' = zb_dM σ' ∧ K σ' = true) F_X12_init 105 [(0, (2, x0))] [] (zb_dS σ) (zb_dM σ) 12 2544 := by
  unfold CJ_X12_init_105 at h
  refine zb_aload_n (j := 0) dX12_init_105 rfl rfl ?_
  refine zb_sipush dX12_init_106 (by decide) (zb_inIc rfl) ?_
  refine zb_k_newa (len := 2880) dX12_init_109 rfl ac_int rfl 13 5424 rfl rfl rfl rfl (fun s109 e109 => ?_)
  have h := zb_letE e109 h
  obtain ⟨o13, h⟩ := zb_andT h
  refine zb_k_putf (j := 12) dX12_init_111 fl_X12_46 rfl (Or.inr ⟨rfl, rfl, rfl⟩) o13 (Or.inr (Or.inr rfl)) (fun s111 e111 => ?_)
  have h := zb_letE e111 h
  refine zb_aload_n (j := 0) dX12_init_114 rfl rfl ?_
  refine zb_sipush dX12_init_115 (by decide) (zb_inIc rfl) ?_
  refine zb_k_newa (len := 144) dX12_init_118 rfl ac_int rfl 14 5568 rfl rfl rfl rfl (fun s118 e118 => ?_)
  have h := zb_letE e118 h
  obtain ⟨o14, h⟩ := zb_andT h
  refine zb_k_putf (j := 14) dX12_init_120 fl_X12_49 rfl (Or.inr ⟨rfl, rfl, rfl⟩) o14 (Or.inr (Or.inr rfl)) (fun s120 e120 => ?_)
  have h := zb_letE e120 h
  refine zb_aload_n (j := 0) dX12_init_123 rfl rfl ?_
  refine zb_bipush dX12_init_124 (by decide) (zb_inIc rfl) ?_
  refine zb_k_newa (len := 12) dX12_init_126 rfl ac_int rfl 15 5580 rfl rfl rfl rfl (fun s126 e126 => ?_)
  have h := zb_letE e126 h
  obtain ⟨o15, h⟩ := zb_andT h
  refine zb_k_putf (j := 16) dX12_init_128 fl_X12_52 rfl (Or.inr ⟨rfl, rfl, rfl⟩) o15 (Or.inr (Or.inr rfl)) (fun s128 e128 => ?_)
  have h := zb_letE e128 h
  refine zb_aload_n (j := 0) dX12_init_131 rfl rfl ?_
  refine zb_bipush dX12_init_132 (by decide) (zb_inIc rfl) ?_
  refine zb_k_newa (len := 12) dX12_init_134 rfl ac_int rfl 16 5592 rfl rfl rfl rfl (fun s134 e134 => ?_)
  have h := zb_letE e134 h
  obtain ⟨o16, h⟩ := zb_andT h
  refine zb_k_putf (j := 17) dX12_init_136 fl_X12_55 rfl (Or.inr ⟨rfl, rfl, rfl⟩) o16 (Or.inr (Or.inr rfl)) (fun s136 e136 => ?_)
  have h := zb_letE e136 h
  refine zb_aload_n (j := 0) dX12_init_139 rfl rfl ?_
  refine zb_sipush dX12_init_140 (by decide) (zb_inIc rfl) ?_
  refine zb_k_newa (len := 144) dX12_init_143 rfl ac_int rfl 17 5736 rfl rfl rfl rfl (fun s143 e143 => ?_)
  have h := zb_letE e143 h
  obtain ⟨o17, h⟩ := zb_andT h
  refine zb_k_putf (j := 18) dX12_init_145 fl_X12_58 rfl (Or.inr ⟨rfl, rfl, rfl⟩) o17 (Or.inr (Or.inr rfl)) (fun s145 e145 => ?_)
  have h := zb_letE e145 h
  refine zb_aload_n (j := 0) dX12_init_148 rfl rfl ?_
  refine zb_sipush dX12_init_149 (by decide) (zb_inIc rfl) ?_
  refine zb_k_newa (len := 180) dX12_init_152 rfl ac_int rfl 18 5916 rfl rfl rfl rfl (fun s152 e152 => ?_)
  have h := zb_letE e152 h
  obtain ⟨o18, h⟩ := zb_andT h
  refine zb_k_putf (j := 19) dX12_init_154 fl_X12_61 rfl (Or.inr ⟨rfl, rfl, rfl⟩) o18 (Or.inr (Or.inr rfl)) (fun s154 e154 => ?_)
  have h := zb_letE e154 h
  exact cj_X12_init_157 hx0 h
def CJ_X12_init_53 (x0 : Int) (σ : zb_Sg) (K : zb_Sg → Bool) : Bool :=
  zb_let ((13, 20, []) :: σ) (fun s56 => ((zb_isb s56 x0 12) && (zb_let (zb_stv s56 x0 6 ((σ.length : Int) + 1)) (fun s58 => zb_let ((13, 20, []) :: s58) (fun s64 => ((zb_isb s64 x0 12) && (zb_let (zb_stv s64 x0 7 ((s58.length : Int) + 1)) (fun s66 => zb_let ((13, 240, []) :: s66) (fun s73 => ((zb_isb s73 x0 12) && (zb_let (zb_stv s73 x0 8 ((s66.length : Int) + 1)) (fun s75 => zb_let ((13, 240, []) :: s75) (fun s82 => ((zb_isb s82 x0 12) && (zb_let (zb_stv s82 x0 9 ((s75.length : Int) + 1)) (fun s84 => zb_let ((13, 240, []) :: s84) (fun s91 => ((zb_isb s91 x0 12) && (zb_let (zb_stv s91 x0 10 ((s84.length : Int) + 1)) (fun s93 => zb_let ((13, 240, []) :: s93) (fun s100 => ((zb_isb s100 x0 12) && (zb_let (zb_stv s100 x0 11 ((s93.length : Int) + 1)) (fun s102 => CJ_X12_init_105 x0 s102 K))))))))))))))))))))))))
set_option maxRecDepth 100000 in
set_option maxHeartbeats 40000000 in
theorem cj_X12_init_53 {d : Nat} {G : zb_G} {C : zb_C} {x0 : Int} {σ : zb_Sg} {K : zb_Sg → Bool} (hx0 : 1 ≤ x0) (h : CJ_X12_init_53 x0 σ K = true) : zb_WP (G, C, d + 1, 41, 12317, fun _ S' m' => ∃ σ', S' = zb_dS σ' ∧ m' = zb_dM σ' ∧ K σ' = true) F_X12_init 53 [(0, (2, x0))] [] (zb_dS σ) (zb_dM σ) 6 1544 := by
  unfold CJ_X12_init_53 at h
  refine zb_aload_n (j := 0) dX12_init_53 rfl rfl ?_
  refine zb_bipush dX12_init_54 (by decide) (zb_inIc rfl) ?_
  refine zb_k_newa (len := 20) dX12_init_56 rfl ac_int rfl 7 1564 rfl rfl rfl rfl (fun s56 e56 => ?_)
  have h := zb_letE e56 h
  obtain ⟨o7, h⟩ := zb_andT h
  refine zb_k_putf (j := 6) dX12_init_58 fl_X12_28 rfl (Or.inr ⟨rfl, rfl, rfl⟩) o7 (Or.inr (Or.inr rfl)) (fun s58 e58 => ?_)
  have h := zb_letE e58 h
  refine zb_aload_n (j := 0) dX12_init_61 rfl rfl ?_
  refine zb_bipush dX12_init_62 (by decide) (zb_inIc rfl) ?_
  refine zb_k_newa (len := 20) dX12_init_64 rfl ac_int rfl 8 1584 rfl rfl rfl rfl (fun s64 e64 => ?_)
  have h := zb_letE e64 h
  obtain ⟨o8, h⟩ := zb_andT h
  refine zb_k_putf (j := 7) dX12_init_66 fl_X12_31 rfl (Or.inr ⟨rfl, rfl, rfl⟩) o8 (Or.inr (Or.inr rfl)) (fun s66 e66 => ?_)
  have h := zb_letE e66 h
  refine zb_aload_n (j := 0) dX12_init_69 rfl rfl ?_
  refine zb_sipush dX12_init_70 (by decide) (zb_inIc rfl) ?_
  refine zb_k_newa (len := 240) dX12_init_73 rfl ac_int rfl 9 1824 rfl rfl rfl rfl (fun s73 e73 => ?_)
  have h := zb_letE e73 h
  obtain ⟨o9, h⟩ := zb_andT h
  refine zb_k_putf (j := 8) dX12_init_75 fl_X12_34 rfl (Or.inr ⟨rfl, rfl, rfl⟩) o9 (Or.inr (Or.inr rfl)) (fun s75 e75 => ?_)
  have h := zb_letE e75 h
  refine zb_aload_n (j := 0) dX12_init_78 rfl rfl ?_
  refine zb_sipush dX12_init_79 (by decide) (zb_inIc rfl) ?_
  refine zb_k_newa (len := 240) dX12_init_82 rfl ac_int rfl 10 2064 rfl rfl rfl rfl (fun s82 e82 => ?_)
  have h := zb_letE e82 h
  obtain ⟨o10, h⟩ := zb_andT h
  refine zb_k_putf (j := 9) dX12_init_84 fl_X12_37 rfl (Or.inr ⟨rfl, rfl, rfl⟩) o10 (Or.inr (Or.inr rfl)) (fun s84 e84 => ?_)
  have h := zb_letE e84 h
  refine zb_aload_n (j := 0) dX12_init_87 rfl rfl ?_
  refine zb_sipush dX12_init_88 (by decide) (zb_inIc rfl) ?_
  refine zb_k_newa (len := 240) dX12_init_91 rfl ac_int rfl 11 2304 rfl rfl rfl rfl (fun s91 e91 => ?_)
  have h := zb_letE e91 h
  obtain ⟨o11, h⟩ := zb_andT h
  refine zb_k_putf (j := 10) dX12_init_93 fl_X12_40 rfl (Or.inr ⟨rfl, rfl, rfl⟩) o11 (Or.inr (Or.inr rfl)) (fun s93 e93 => ?_)
  have h := zb_letE e93 h
  refine zb_aload_n (j := 0) dX12_init_96 rfl rfl ?_
  refine zb_sipush dX12_init_97 (by decide) (zb_inIc rfl) ?_
  refine zb_k_newa (len := 240) dX12_init_100 rfl ac_int rfl 12 2544 rfl rfl rfl rfl (fun s100 e100 => ?_)
  have h := zb_letE e100 h
  obtain ⟨o12, h⟩ := zb_andT h
  refine zb_k_putf (j := 11) dX12_init_102 fl_X12_43 rfl (Or.inr ⟨rfl, rfl, rfl⟩) o12 (Or.inr (Or.inr rfl)) (fun s102 e102 => ?_)
  have h := zb_letE e102 h
  exact cj_X12_init_105 hx0 h
def CM_X12_init (x0 : Int) (σ : zb_Sg) (K : zb_Sg → Bool) : Bool :=
  zb_let ((13, 8, []) :: σ) (fun s7 => ((zb_isb s7 x0 12) && (zb_let (zb_stv s7 x0 0 ((σ.length : Int) + 1)) (fun s9 => zb_let ((13, 96, []) :: s9) (fun s15 => ((zb_isb s15 x0 12) && (zb_let (zb_stv s15 x0 1 ((s9.length : Int) + 1)) (fun s17 => zb_let ((13, 96, []) :: s17) (fun s23 => ((zb_isb s23 x0 12) && (zb_let (zb_stv s23 x0 2 ((s17.length : Int) + 1)) (fun s25 => zb_let ((13, 96, []) :: s25) (fun s31 => ((zb_isb s31 x0 12) && (zb_let (zb_stv s31 x0 3 ((s25.length : Int) + 1)) (fun s33 => zb_let ((13, 96, []) :: s33) (fun s39 => ((zb_isb s39 x0 12) && (zb_let (zb_stv s39 x0 4 ((s33.length : Int) + 1)) (fun s41 => zb_let ((13, 1152, []) :: s41) (fun s48 => ((zb_isb s48 x0 12) && (zb_let (zb_stv s48 x0 5 ((s41.length : Int) + 1)) (fun s50 => CJ_X12_init_53 x0 s50 K))))))))))))))))))))))))
set_option maxRecDepth 100000 in
set_option maxHeartbeats 40000000 in
theorem cw_X12_init {d : Nat} {x0 : Int} {σ : zb_Sg} {K : zb_Sg → Bool} (h : CM_X12_init x0 σ K = true) : zb_Ct F_X12_init (d + 1) 41 12317 [(2, x0)] σ K := by
  unfold CM_X12_init at h
  refine zb_k_tri gd_X12_init rfl rfl (fun G C hO => ?_)
  show zb_WP _ _ 0 [(0, (2, x0))] [] _ _ _ _
  have hx0 : 1 ≤ x0 := hO (2, x0) List.mem_cons_self
  refine zb_aload_n (j := 0) dX12_init_0 rfl rfl ?_
  refine zb_objI dX12_init_1 lk_X12_1 hx0 (by omega) (Nat.le_of_ble_eq_true rfl) ?_
  refine zb_aload_n (j := 0) dX12_init_4 rfl rfl ?_
  refine zb_bipush dX12_init_5 (by decide) (zb_inIc rfl) ?_
  refine zb_k_newa (len := 8) dX12_init_7 rfl ac_int rfl 1 8 rfl rfl rfl rfl (fun s7 e7 => ?_)
  have h := zb_letE e7 h
  obtain ⟨o1, h⟩ := zb_andT h
  refine zb_k_putf (j := 0) dX12_init_9 fl_X12_7 rfl (Or.inr ⟨rfl, rfl, rfl⟩) o1 (Or.inr (Or.inr rfl)) (fun s9 e9 => ?_)
  have h := zb_letE e9 h
  refine zb_aload_n (j := 0) dX12_init_12 rfl rfl ?_
  refine zb_bipush dX12_init_13 (by decide) (zb_inIc rfl) ?_
  refine zb_k_newa (len := 96) dX12_init_15 rfl ac_int rfl 2 104 rfl rfl rfl rfl (fun s15 e15 => ?_)
  have h := zb_letE e15 h
  obtain ⟨o2, h⟩ := zb_andT h
  refine zb_k_putf (j := 1) dX12_init_17 fl_X12_13 rfl (Or.inr ⟨rfl, rfl, rfl⟩) o2 (Or.inr (Or.inr rfl)) (fun s17 e17 => ?_)
  have h := zb_letE e17 h
  refine zb_aload_n (j := 0) dX12_init_20 rfl rfl ?_
  refine zb_bipush dX12_init_21 (by decide) (zb_inIc rfl) ?_
  refine zb_k_newa (len := 96) dX12_init_23 rfl ac_int rfl 3 200 rfl rfl rfl rfl (fun s23 e23 => ?_)
  have h := zb_letE e23 h
  obtain ⟨o3, h⟩ := zb_andT h
  refine zb_k_putf (j := 2) dX12_init_25 fl_X12_16 rfl (Or.inr ⟨rfl, rfl, rfl⟩) o3 (Or.inr (Or.inr rfl)) (fun s25 e25 => ?_)
  have h := zb_letE e25 h
  refine zb_aload_n (j := 0) dX12_init_28 rfl rfl ?_
  refine zb_bipush dX12_init_29 (by decide) (zb_inIc rfl) ?_
  refine zb_k_newa (len := 96) dX12_init_31 rfl ac_int rfl 4 296 rfl rfl rfl rfl (fun s31 e31 => ?_)
  have h := zb_letE e31 h
  obtain ⟨o4, h⟩ := zb_andT h
  refine zb_k_putf (j := 3) dX12_init_33 fl_X12_19 rfl (Or.inr ⟨rfl, rfl, rfl⟩) o4 (Or.inr (Or.inr rfl)) (fun s33 e33 => ?_)
  have h := zb_letE e33 h
  refine zb_aload_n (j := 0) dX12_init_36 rfl rfl ?_
  refine zb_bipush dX12_init_37 (by decide) (zb_inIc rfl) ?_
  refine zb_k_newa (len := 96) dX12_init_39 rfl ac_int rfl 5 392 rfl rfl rfl rfl (fun s39 e39 => ?_)
  have h := zb_letE e39 h
  obtain ⟨o5, h⟩ := zb_andT h
  refine zb_k_putf (j := 4) dX12_init_41 fl_X12_22 rfl (Or.inr ⟨rfl, rfl, rfl⟩) o5 (Or.inr (Or.inr rfl)) (fun s41 e41 => ?_)
  have h := zb_letE e41 h
  refine zb_aload_n (j := 0) dX12_init_44 rfl rfl ?_
  refine zb_sipush dX12_init_45 (by decide) (zb_inIc rfl) ?_
  refine zb_k_newa (len := 1152) dX12_init_48 rfl ac_int rfl 6 1544 rfl rfl rfl rfl (fun s48 e48 => ?_)
  have h := zb_letE e48 h
  obtain ⟨o6, h⟩ := zb_andT h
  refine zb_k_putf (j := 5) dX12_init_50 fl_X12_25 rfl (Or.inr ⟨rfl, rfl, rfl⟩) o6 (Or.inr (Or.inr rfl)) (fun s50 e50 => ?_)
  have h := zb_letE e50 h
  exact cj_X12_init_53 hx0 h
