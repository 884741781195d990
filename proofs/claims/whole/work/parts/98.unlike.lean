/-! ===== two graphs side by side ===== -/
/-- where, and the numbers there -/
abbrev zb_Yt : Type := Option (Int × Int × Int)
def zb_CY (m : zb_M) : zb_Yt → Prop
  | none => m 356 9 = 0
  | some q => m 356 9 = 1 ∧ m 383 0 = q.1 ∧ m 383 1 = q.2.1 ∧ m 383 2 = q.2.2
def zb_RY (m : zb_M) : zb_Yt → Prop
  | none => m 500 42 = 0
  | some q => m 500 42 = 1 ∧ m 534 0 = q.1 ∧ m 534 1 = q.2.1 ∧ m 534 2 = q.2.2
def v_why (Y : zb_Yt) (w : Int) : Int := match Y with
  | none => -1
  | some q => if w = 0 then q.1 else if w = 1 then q.2.1 else if w = 2 then q.2.2 else -1
/-- keys, the lesser first -/
noncomputable def zb_skf (N : zb_N) (i : Int) : Int := N.2.1 (Classical.choose (zb_srt_ex (fun _ => 0) N.2.1 N.1.toNat) i)
theorem zb_skf_eq {N : zb_N} (h0 : 0 ≤ N.1) {T : Int → Int} (hT : zb_pm N.1 T) (hs : ∀ x y, 0 ≤ x → x < y → y < N.1 → N.2.1 (T x) ≤ N.2.1 (T y)) {i : Int} (i0 : 0 ≤ i) (i1 : i < N.1) : N.2.1 (T i) = zb_skf N i := by
  have hc := Classical.choose_spec (zb_srt_ex (fun _ => 0) N.2.1 N.1.toNat)
  unfold zb_skf
  generalize Classical.choose (zb_srt_ex (fun _ => 0) N.2.1 N.1.toNat) = U at hc ⊢
  rw [show ((N.1.toNat : Nat) : Int) = N.1 by omega] at hc
  have hu : ∀ x y, 0 ≤ x → x < y → y < N.1 → N.2.1 (U x) ≤ N.2.1 (U y) := fun x y x0 xy y1 => by
    have := hc.2 x y x0 xy y1
    rw [zb_lt0] at this
    omega
  have a := zb_pos_lt hT hs (N.2.1 (U i) + 1) i0 i1
  have b := zb_pos_lt hc.1 hu (N.2.1 (U i) + 1) i0 i1
  have c := zb_pos_lt hT hs (N.2.1 (U i)) i0 i1
  have e := zb_pos_lt hc.1 hu (N.2.1 (U i)) i0 i1
  omega
theorem zb_beg_key {N : zb_N} {x y : Int} (x0 : 0 ≤ x) (x1 : x < N.1) (y0 : 0 ≤ y) (y1 : y < N.1) (h : (zb_beg N).1 x ≤ (zb_beg N).1 y) : N.2.1 x ≤ N.2.1 y := by
  by_cases q : N.2.1 y < N.2.1 x
  · have h1 := ((zb_rank_ok N.1 (fun _ => 0) N.2.1).1.2.2 y x y0 y1 x0 x1).2 (zb_lt0.2 q)
    have h2 : (zb_beg N).1 y < (zb_beg N).1 x := zb_stl_ref 13 (zb_st0 N) y x y0 y1 x0 x1 h1
    omega
  · omega
theorem zb_sz_0 {n : Int} {p : zb_Pt} (hp : zb_gp n p) {i : Int} (hi : p.2 ≤ i) : zb_sz n p.1 i = 0 := by
  unfold zb_sz
  rw [zb_cnt_sum]
  exact zb_sum_none (fun x x0 x1 => if_neg (by have := (hp.1 x x0 (by omega)).2; simp; omega))
theorem zb_sz_fd {n r : Int} {p q : zb_Pt} (n0 : 0 ≤ n) (n1 : n ≤ 12) (hp : zb_gp n p) (hq : zb_gp n q) (h : zb_fd (zb_sz n p.1) (zb_sz n q.1) (if q.2 < p.2 then q.2 else p.2) r) : zb_fd (zb_sz n p.1) (zb_sz n q.1) 13 r := by
  have hkp := zb_gd_le hp n0
  have hkq := zb_gd_le hq n0
  rcases h with ⟨a1, a2⟩ | ⟨a1, a2, a3, a4⟩
  · refine Or.inl ⟨a1, ?_⟩
    have cbm : ∀ (p : zb_Pt) (i j : Int), zb_cb n p.1 i ≤ zb_cb n p.1 j ∨ j < i := fun p i j => by
      by_cases c : j < i
      · exact Or.inr c
      · exact Or.inl (zb_cb_le (fun w _ _ h => by omega))
    have hc : ∀ k : Nat, (k : Int) ≤ p.2 → (k : Int) ≤ q.2 → zb_cb n p.1 k = zb_cb n q.1 k := by
      intro k
      induction k with
      | zero => intro _ _; rw [show ((0 : Nat) : Int) = 0 by rfl, zb_cb_0 (fun x x0 x1 => (hp.1 x x0 x1).1), zb_cb_0 (fun x x0 x1 => (hq.1 x x0 x1).1)]
      | succ k ih =>
        intro k1 k2
        rw [show ((k + 1 : Nat) : Int) = (k : Int) + 1 by omega, zb_cb_S, zb_cb_S, ih (by omega) (by omega), a2 k (by omega) (by split <;> omega)]
    have sp : ∀ (p : zb_Pt) (i : Int), zb_gp n p → 0 ≤ i → i < p.2 → 1 ≤ zb_sz n p.1 i := fun p i hp i0 i1 => by
      obtain ⟨x, x0, x1, hx⟩ := hp.2.1 i i0 i1
      have := zb_sz_pos (h := p.1) x0 x1
      rw [hx] at this
      exact this
    have np := zb_cb_n (h := p.1) n0 (fun x x0 x1 => (hp.1 x x0 x1).2)
    have nq := zb_cb_n (h := q.1) n0 (fun x x0 x1 => (hq.1 x x0 x1).2)
    have ee : p.2 = q.2 := by
      rcases Int.lt_trichotomy p.2 q.2 with c | c | c
      · have e := hc p.2.toNat (by have := hp.2.2.1; omega) (by have := hp.2.2.1; omega)
        rw [show ((p.2.toNat : Nat) : Int) = p.2 by have := hp.2.2.1; omega, np] at e
        have s1 := sp q p.2 hq hp.2.2.1 c
        have s2 := zb_cb_S n q.1 p.2
        have s3 := cbm q (p.2 + 1) q.2
        omega
      · exact c
      · have e := hc q.2.toNat (by have := hq.2.2.1; omega) (by have := hq.2.2.1; omega)
        rw [show ((q.2.toNat : Nat) : Int) = q.2 by have := hq.2.2.1; omega, nq] at e
        have s1 := sp p q.2 hp hq.2.2.1 c
        have s2 := zb_cb_S n p.1 q.2
        have s3 := cbm p (q.2 + 1) p.2
        omega
    intro k k0 k1
    by_cases c : k < p.2
    · exact a2 k k0 (by split <;> omega)
    · rw [zb_sz_0 hp (by omega), zb_sz_0 hq (by omega)]
  · exact Or.inr ⟨a1, by split at a2 <;> omega, a3, a4⟩
/-- what tells two nets apart -/
noncomputable def zb_unl (N1 N2 : zb_N) (Y : zb_Yt) : Int × zb_Yt :=
  if N1.1 ≠ N2.1 then (1, some (0, N1.1, N2.1))
  else if 0 ≤ zb_fdi (zb_skf N1) (zb_skf N2) N1.1.toNat then (2, some (zb_fdi (zb_skf N1) (zb_skf N2) N1.1.toNat, zb_skf N1 (zb_fdi (zb_skf N1) (zb_skf N2) N1.1.toNat), zb_skf N2 (zb_fdi (zb_skf N1) (zb_skf N2) N1.1.toNat)))
  else if 0 ≤ zb_fdi (zb_sz N1.1 (zb_beg N1).1) (zb_sz N1.1 (zb_beg N2).1) 13 then (3, some (zb_fdi (zb_sz N1.1 (zb_beg N1).1) (zb_sz N1.1 (zb_beg N2).1) 13, zb_sz N1.1 (zb_beg N1).1 (zb_fdi (zb_sz N1.1 (zb_beg N1).1) (zb_sz N1.1 (zb_beg N2).1) 13), zb_sz N1.1 (zb_beg N2).1 (zb_fdi (zb_sz N1.1 (zb_beg N1).1) (zb_sz N1.1 (zb_beg N2).1) 13)))
  else if (zb_nmW N1).1 ≤ 3000 ∧ (zb_nmW N2).1 ≤ 3000 then (if 0 ≤ zb_fdi (zb_nmW N1).2.2.1 (zb_nmW N2).2.2.1 (zb_rsz N1.1).toNat then (4, some (zb_fdi (zb_nmW N1).2.2.1 (zb_nmW N2).2.2.1 (zb_rsz N1.1).toNat, (zb_nmW N1).2.2.1 (zb_fdi (zb_nmW N1).2.2.1 (zb_nmW N2).2.2.1 (zb_rsz N1.1).toNat), (zb_nmW N2).2.2.1 (zb_fdi (zb_nmW N1).2.2.1 (zb_nmW N2).2.2.1 (zb_rsz N1.1).toNat))) else (0, Y))
  else (-3, Y)
/-- 0, or what two graphs of which one has no turnings answer -/
noncomputable def v_ref2 (s : zb_Gs) (g h : Int) : Int := if (0 ≤ g ∧ g < 8) ∧ 0 ≤ h ∧ h < 8 then (@ite Int (zb_rt (s.1 g) ∧ zb_rt (s.1 h)) (Classical.propDecidable _) 0 (-2)) else -1
theorem v_ref2_0 {s : zb_Gs} {g h : Int} (e : v_ref2 s g h = 0) : v_ref s g = 0 ∧ v_ref s h = 0 := by
  unfold v_ref2 at e
  by_cases q : (0 ≤ g ∧ g < 8) ∧ 0 ≤ h ∧ h < 8
  · rw [if_pos q] at e
    by_cases q2 : zb_rt (s.1 g) ∧ zb_rt (s.1 h)
    · exact ⟨v_ref_y q.1 q2.1, v_ref_y q.2 q2.2⟩
    · rw [if_neg q2] at e; omega
  · rw [if_neg q] at e; omega
noncomputable def v_unlike (s : zb_Gs) (Y : zb_Yt) (g h : Int) : Int × zb_Yt := if v_ref2 s g h = 0 then zb_unl (zb_shN (s.1 g)) (zb_shN (s.1 h)) Y else (v_ref2 s g h, Y)
/-- what takes the order a to the order b -/
def zb_t2 (n : Int) (a b : Int → Int) (i : Int) : Int := if 0 ≤ zb_ix a i n.toNat then b (zb_ix a i n.toNat) else -1
theorem zb_t2_S {a b : Int → Int} {v i : Int} (v0 : 0 ≤ v) : zb_t2 (v + 1) a b i = if a v = i then b v else zb_t2 v a b i := by
  unfold zb_t2
  rw [show (v + 1).toNat = v.toNat + 1 by omega]
  show (if 0 ≤ (if a ((v.toNat : Nat) : Int) = i then ((v.toNat : Nat) : Int) else zb_ix a i v.toNat) then b (if a ((v.toNat : Nat) : Int) = i then ((v.toNat : Nat) : Int) else zb_ix a i v.toNat) else -1) = _
  rw [show ((v.toNat : Nat) : Int) = v by omega]
  by_cases q : a v = i
  · rw [if_pos q, if_pos q, if_pos v0]
  · rw [if_neg q, if_neg q]
def zb_ord (s : zb_Gs) (g i : Int) : Int := zb_sha (s.1 g) i
noncomputable def zb_oo (s : zb_Gs) (g i : Int) : Int := zb_sha (s.1 g) ((zb_nmW (zb_shN (s.1 g))).2.2.2 i)
noncomputable def v_same (s : zb_Gs) (T : zb_Tn) (g h : Int) : Int × zb_Tn := if v_ref2 s g h = 0 then (if (zb_nmW (zb_shN (s.1 g))).1 ≤ 3000 ∧ (zb_nmW (zb_shN (s.1 h))).1 ≤ 3000 then (if zb_shn (s.1 g) = zb_shn (s.1 h) ∧ zb_fdi (zb_nmW (zb_shN (s.1 g))).2.2.1 (zb_nmW (zb_shN (s.1 h))).2.2.1 (zb_rsz (zb_shn (s.1 g))).toNat < 0 then (1, some (zb_t2 (zb_shn (s.1 g)) (zb_oo s g) (zb_oo s h))) else (0, T)) else (-3, T)) else (v_ref2 s g h, T)
theorem v_same_ok {s : zb_Gs} {T : zb_Tn} {g h : Int} (hO : zb_OG s) (hT : zb_OT T) : zb_OT (v_same s T g h).2 := by
  unfold v_same
  by_cases e : v_ref2 s g h = 0
  · rw [if_pos e]
    obtain ⟨e1, e2⟩ := v_ref2_0 e
    obtain ⟨hN, hA⟩ := zb_shN_asc hO e2
    by_cases q : (zb_nmW (zb_shN (s.1 g))).1 ≤ 3000 ∧ (zb_nmW (zb_shN (s.1 h))).1 ≤ 3000
    · rw [if_pos q]
      by_cases q2 : zb_shn (s.1 g) = zb_shn (s.1 h) ∧ zb_fdi (zb_nmW (zb_shN (s.1 g))).2.2.1 (zb_nmW (zb_shN (s.1 h))).2.2.1 (zb_rsz (zb_shn (s.1 g))).toNat < 0
      · rw [if_pos q2]
        intro i i0 i1
        show -1 ≤ zb_t2 _ _ _ i ∧ zb_t2 _ _ _ i < 12
        unfold zb_t2
        have r := zb_ix_rg (zb_oo s g) i (zb_shn (s.1 g)).toNat
        have hpm := (zb_nmW_ok hN).2.1
        by_cases w : 0 ≤ zb_ix (zb_oo s g) i (zb_shn (s.1 g)).toNat
        · rw [if_pos w]
          have a := hpm.1 _ w (show _ < zb_shn (s.1 h) by omega)
          have b := hA.1 _ a.1 a.2
          unfold zb_oo
          unfold zb_oo at b
          omega
        · rw [if_neg w]; omega
      · rw [if_neg q2]; exact hT
    · rw [if_neg q]; exact hT
  · rw [if_neg e]; exact hT
/-! the class -/
theorem s_X10_takeOrders {d : Nat} {m : zb_M} {a n : Int} {p q : Int → Int} (ia : zb_is zb_E0.1 a 10) (ha : a < 377 ∨ 382 < a) (ha2 : a + 1 < 377 ∨ 382 < a + 1) (n0 : 0 ≤ n) (n1 : n ≤ 12) (h1 : m 377 1 = n) (h2 : zb_eqo n (m 379) p) (h3 : zb_eqo n (m 382) q) (hp : ∀ i, 0 ≤ i → i < n → 0 ≤ p i ∧ p i < 12) : zb_T K_X10_takeOrders (d + 2) [(2, a), (2, 377), (2, 380)] zb_E0 m (fun _ m1 => m1 a 0 = 1 ∧ (∀ i, 0 ≤ i → i < 12 → m1 (a + 1) i = zb_t2 n p q i) ∧ ∀ b, b ≠ a → b ≠ a + 1 → m1 b = m b) := by
  apply w_X10_takeOrders
  unfold PM_X10_takeOrders
  refine (s_X10_begin ia).mono (fun _ m1 ⟨b1, b2, b3⟩ => ?_)
  unfold PL_X10_takeOrders_6
  rw [zb_trn ia, (zb_nam zb_i_377).2, (zb_nam zb_i_380).2]
  intro X hX
  refine zb_lp1 (fun v mm => 0 ≤ v ∧ (∀ i, 0 ≤ i → i < 12 → mm (a + 1) i = zb_t2 v p q i) ∧ ∀ b, b ≠ a + 1 → mm b = m1 b) n (fun v mm ⟨v0, t1, t2⟩ vn nxt => hX v mm ⟨fun c => ?_, fun c => ?_⟩) 0 m1 n0 ⟨by omega, fun i i0 i1 => by rw [b2 i i0 i1]; rfl, fun b _ => rfl⟩
  · rw [t2 377 (by omega), b3 377 (by omega) (by omega), h1] at c
    have hv : v = n := by omega
    subst hv
    exact ⟨by rw [t2 a (by omega)]; exact b1, t1, fun b q1 q2 => by rw [t2 b q2]; exact b3 b q1 q2⟩
  · rw [t2 377 (by omega), b3 377 (by omega) (by omega), h1] at c
    have v1 : v < n := by omega
    have e1 : mm (377 + 2) v = p v := by rw [t2 (377 + 2) (by omega), b3 (377 + 2) (by omega) (by omega)]; exact h2 v v0 v1
    have e2 : mm (380 + 2) v = q v := by rw [t2 (380 + 2) (by omega), b3 (380 + 2) (by omega) (by omega)]; exact h3 v v0 v1
    have hpv := hp v v0 v1
    rw [e1, e2]
    refine ⟨⟨v0, by omega⟩, hpv, fun m30 e30 => ⟨zb_inI_of (by omega) (by omega), nxt v1 m30 ⟨by omega, fun i i0 i1 => ?_, fun b hb => by rw [zb_u3 e30 hb]; exact t2 b hb⟩⟩⟩
    rw [zb_t2_S v0]
    by_cases w : p v = i
    · rw [if_pos w, ← w, zb_u1 e30]
    · rw [if_neg w, zb_u2 e30 (by omega)]; exact t1 i i0 i1
theorem zb_Ga_357 : zb_Ga 357 377 := ⟨zb_i_357, zb_i_377, by omega, by omega, by omega⟩
theorem zb_Ga_363 : zb_Ga 363 380 := ⟨zb_i_363, zb_i_380, by omega, by omega, by omega⟩
/-- both names -/
def zb_N2 (m : zb_M) (N1 N2 : zb_N) (o1 o2 : Int → Int) : Prop := zb_Nn m 377 N1.1 (zb_nmW N1).1 (zb_nmW N1).2.1 (zb_nmW N1).2.2.1 (fun i => o1 ((zb_nmW N1).2.2.2 i)) ∧ zb_Nn m 380 N2.1 (zb_nmW N2).1 (zb_nmW N2).2.1 (zb_nmW N2).2.2.1 (fun i => o2 ((zb_nmW N2).2.2.2 i))
theorem s_X0_findNames {d : Nat} {m : zb_M} {N1 N2 : zb_N} {o1 o2 : Int → Int} (h1 : zb_CS m 357 N1 o1) (h2 : zb_CS m 363 N2 o2) (hN1 : zb_ON N1) (hN2 : zb_ON N2) : zb_T K_X0_findNames (d + 21) [(2, 356)] zb_E0 m (fun r m1 => ((r = 1 ∧ ((zb_nmW N1).1 ≤ 3000 ∧ (zb_nmW N2).1 ≤ 3000) ∧ zb_N2 m1 N1 N2 o1 o2) ∨ (r = 0 ∧ ¬ ((zb_nmW N1).1 ≤ 3000 ∧ (zb_nmW N2).1 ≤ 3000))) ∧ ∀ x, (x < 132 ∨ 191 < x) → (x < 377 ∨ 382 < x) → m1 x = m x) := by
  apply w_X0_findNames
  unfold PM_X0_findNames
  rw [zb_v_356_1, zb_v_356_2, zb_v_356_3, zb_v_356_6, zb_v_356_7]
  refine (s_X8_findName zb_Ga_357 h1 hN1).mono (fun r12 m12 ⟨f1, f2⟩ => ?_)
  rcases f1 with ⟨q1, q2, q3⟩ | ⟨q1, q2, q3⟩
  · refine ⟨fun z => by omega, fun _ => (s_X8_findName zb_Ga_363 (zb_CS_same h2 (fun x x0 x1 => f2 x (by omega) (by omega))) hN2).mono (fun r30 m30 ⟨g1, g2⟩ => ?_)⟩
    have fr : ∀ x, (x < 132 ∨ 191 < x) → (x < 377 ∨ 382 < x) → m30 x = m x := fun x x1 x2 => by rw [g2 x x1 (by omega)]; exact f2 x x1 (by omega)
    rcases g1 with ⟨p1, p2, p3⟩ | ⟨p1, p2, p3⟩
    · exact ⟨fun z => by omega, fun _ => ⟨Or.inl ⟨rfl, ⟨q2, p2⟩, zb_Nn_same q3 (fun x x0 x1 => g2 x (by omega) (by omega)), p3⟩, fr⟩⟩
    · exact ⟨fun _ => ⟨Or.inr ⟨rfl, fun z => by omega⟩, fr⟩, fun z => absurd p1 z⟩
  · exact ⟨fun _ => ⟨Or.inr ⟨rfl, fun z => by omega⟩, fun x x1 x2 => f2 x x1 (by omega)⟩, fun z => absurd q1 z⟩
theorem s_X0_keepDifference {d : Nat} {m : zb_M} {a b c : Int} : zb_T K_X0_keepDifference (d + 1) [(2, 356), (0, a), (0, b), (0, c)] zb_E0 m (fun _ m1 => zb_CY m1 (some (a, b, c)) ∧ (∀ x, x ≠ 356 → x ≠ 383 → m1 x = m x) ∧ ∀ j, j ≠ 9 → m1 356 j = m 356 j) := by
  apply w_X0_keepDifference
  unfold PM_X0_keepDifference
  rw [zb_v_356_8]
  intro m6 e6 m13 e13 m20 e20 m23 e23
  refine ⟨⟨zb_u1 e23, ?_, ?_, ?_⟩, fun x x1 x2 => ?_, fun j hj => ?_⟩
  · rw [zb_u3 e23 (by omega), zb_u2 e20 (by omega), zb_u2 e13 (by omega), zb_u1 e6]
  · rw [zb_u3 e23 (by omega), zb_u2 e20 (by omega), zb_u1 e13]
  · rw [zb_u3 e23 (by omega), zb_u1 e20]
  · rw [zb_u3 e23 x1, zb_u3 e20 x2, zb_u3 e13 x2, zb_u3 e6 x2]
  · rw [zb_u2 e23 (by omega), zb_u3 e20 (by omega), zb_u3 e13 (by omega), zb_u3 e6 (by omega)]
theorem zb_part_369 : zb_E0.2 369 2 = 370 ∧ zb_E0.2 369 3 = 371 ∧ zb_E0.2 369 4 = 372 := zb_part zb_i_369
theorem zb_part_373 : zb_E0.2 373 2 = 374 ∧ zb_E0.2 373 3 = 375 ∧ zb_E0.2 373 4 = 376 := zb_part zb_i_373
def zb_frU (m m1 : zb_M) : Prop := (∀ x, (x < 132 ∨ (191 < x ∧ x < 357) ∨ 383 < x) → x ≠ 356 → m1 x = m x) ∧ ∀ j, j ≠ 9 → m1 356 j = m 356 j
theorem s_X0_tellApart {d : Nat} {m : zb_M} {N1 N2 : zb_N} {o1 o2 : Int → Int} {Y : zb_Yt} (h1 : zb_CS m 357 N1 o1) (h2 : zb_CS m 363 N2 o2) (hN1 : zb_ON N1) (hN2 : zb_ON N2) (hY : zb_CY m Y) : zb_T K_X0_tellApart (d + 22) [(2, 356)] zb_E0 m (fun r m1 => r = (zb_unl N1 N2 Y).1 ∧ zb_CY m1 (zb_unl N1 N2 Y).2 ∧ zb_frU m m1) := by
  apply w_X0_tellApart
  have h10 := hN1.1.1
  have h11 := hN1.1.2
  unfold PM_X0_tellApart
  rw [zb_v_356_0, zb_v_356_2, zb_v_356_3, zb_v_356_4, zb_v_356_5, h1.1, h2.1]
  unfold zb_unl
  refine ⟨fun en => ?_, fun en => ?_⟩
  · rw [if_neg (fun z => z en)]
    refine (s_X7_begin (d := d + 17) zb_i_369 zb_i_357 (by omega) (by omega) (by omega) h1 hN1).mono (fun _ m50 ⟨b1, b2⟩ => ?_)
    refine (s_X7_begin (d := d + 17) zb_i_373 zb_i_363 (by omega) (by omega) (by omega) (zb_CS_same h2 (fun x x0 x1 => b2 x (by omega) (by omega))) hN2).mono (fun _ m65 ⟨c1, c2⟩ => ?_)
    have f65 : ∀ x, (x < 132 ∨ 135 < x) → (x < 369 ∨ 376 < x) → m65 x = m x := fun x x1 x2 => by rw [c2 x x1 (by omega)]; exact b2 x x1 (by omega)
    have cp1 : zb_CP m65 369 N1.1 (zb_beg N1) := zb_CP_same b1 (fun x x0 x1 => c2 x (by omega) (by omega))
    rw [← en] at c1
    have g1 := zb_beg_gd N1
    have g2 : zb_gp N1.1 (zb_beg N2) := by rw [en]; exact zb_beg_gd N2
    have cs1 : zb_CS m65 357 N1 o1 := zb_CS_same h1 (fun x x0 x1 => f65 x (by omega) (by omega))
    have cs2 : zb_CS m65 363 N2 o2 := zb_CS_same h2 (fun x x0 x1 => f65 x (by omega) (by omega))
    have pm1 : zb_pm N1.1 (m65 372) := cp1.2.2.2.2.1
    have pm2 : zb_pm N1.1 (m65 376) := c1.2.2.2.2.1
    have s1 : ∀ x y, 0 ≤ x → x < y → y < N1.1 → (zb_beg N1).1 (m65 372 x) ≤ (zb_beg N1).1 (m65 372 y) := cp1.2.2.2.2.2
    have s2 : ∀ x y, 0 ≤ x → x < y → y < N1.1 → (zb_beg N2).1 (m65 376 x) ≤ (zb_beg N2).1 (m65 376 y) := c1.2.2.2.2.2
    have k1 : ∀ i, 0 ≤ i → i < N1.1 → m65 360 (m65 372 i) = zb_skf N1 i := fun i i0 i1 => by
      have r := pm1.1 i i0 i1
      have e : m65 360 (m65 372 i) = N1.2.1 (m65 372 i) := (cs1.2.1 _ r.1 r.2).2
      rw [e]
      exact zb_skf_eq h10 pm1 (fun x y x0 xy y1 => zb_beg_key (pm1.1 x x0 (by omega)).1 (pm1.1 x x0 (by omega)).2 (pm1.1 y (by omega) y1).1 (pm1.1 y (by omega) y1).2 (s1 x y x0 xy y1)) i0 i1
    have k2 : ∀ i, 0 ≤ i → i < N1.1 → m65 366 (m65 376 i) = zb_skf N2 i := fun i i0 i1 => by
      have r := pm2.1 i i0 i1
      have e : m65 366 (m65 376 i) = N2.2.1 (m65 376 i) := (cs2.2.1 _ r.1 (by omega)).2
      rw [e]
      exact zb_skf_eq hN2.1.1 (by rw [← en]; exact pm2) (fun x y x0 xy y1 => zb_beg_key (pm2.1 x x0 (by omega)).1 (by have := (pm2.1 x x0 (by omega)).2; omega) (pm2.1 y (by omega) (by omega)).1 (by have := (pm2.1 y (by omega) (by omega)).2; omega) (s2 x y x0 xy (by omega))) i0 (by omega)
    have hY65 : zb_CY m65 Y := by
      match Y, hY with
      | none, hY => show m65 356 9 = 0; rw [f65 356 (by omega) (by omega)]; exact hY
      | some q, hY => exact ⟨by rw [f65 356 (by omega) (by omega)]; exact hY.1, by rw [f65 383 (by omega) (by omega)]; exact hY.2⟩
    have keys : zb_T K_X0_isToldByKeys (d + 21) [(2, 356)] zb_E0 m65 (fun r m1 => (r = 0 ∧ m1 = m65 ∧ zb_fdi (zb_skf N1) (zb_skf N2) N1.1.toNat = -1) ∨ (r = 1 ∧ 0 ≤ zb_fdi (zb_skf N1) (zb_skf N2) N1.1.toNat ∧ zb_CY m1 (some (zb_fdi (zb_skf N1) (zb_skf N2) N1.1.toNat, zb_skf N1 (zb_fdi (zb_skf N1) (zb_skf N2) N1.1.toNat), zb_skf N2 (zb_fdi (zb_skf N1) (zb_skf N2) N1.1.toNat))) ∧ (∀ x, x ≠ 356 → x ≠ 383 → m1 x = m65 x) ∧ ∀ j, j ≠ 9 → m1 356 j = m65 356 j)) := by
      apply w_X0_isToldByKeys
      unfold PM_X0_isToldByKeys PL_X0_isToldByKeys_2
      rw [zb_v_356_2, zb_v_356_3, zb_v_356_4, zb_v_356_5, zb_part_369.2.2, zb_part_373.2.2, (zb_shw zb_i_357).2.2.1, (zb_shw zb_i_363).2.2.1, cs1.1]
      intro X hX
      refine zb_lp0 (fun v => 0 ≤ v ∧ ∀ k, 0 ≤ k → k < v → zb_skf N1 k = zb_skf N2 k) N1.1 (fun v ⟨v0, hv⟩ vn nxt => hX v ⟨fun c => Or.inl ⟨rfl, rfl, (zb_fd_i h10 (Or.inl ⟨rfl, fun k k0 k1 => hv k k0 (by omega)⟩)).symm⟩, fun c => ?_⟩) 0 h10 ⟨by omega, fun k k0 k1 => by omega⟩
      have v1 : v < N1.1 := by omega
      have ra := pm1.1 v v0 v1
      have rb := pm2.1 v v0 v1
      have e1 : m65 (357 + 3) (m65 372 v) = zb_skf N1 v := k1 v v0 v1
      have e2 : m65 (363 + 3) (m65 376 v) = zb_skf N2 v := k2 v v0 v1
      rw [e1, e2]
      refine ⟨⟨v0, by omega⟩, ⟨ra.1, by omega⟩, ⟨rb.1, by omega⟩, fun c2 => ⟨zb_inI_of (by omega) (by omega), nxt v1 ⟨by omega, fun k k0 kk => ?_⟩⟩, fun c2 => ?_⟩
      · by_cases w : k = v
        · rw [w]; exact c2
        · exact hv k k0 (by omega)
      · have ef := zb_fd_i h10 (Or.inr ⟨v0, v1, hv, c2⟩ : zb_fd (zb_skf N1) (zb_skf N2) N1.1 v)
        unfold PJ_X0_isToldByKeys_54
        rw [ef]
        rw [ef] at v0
        exact (s_X0_keepDifference (d := d + 19)).mono (fun _ m58 ⟨y1, y2, y3⟩ => Or.inr ⟨rfl, v0, y1, y2, y3⟩)
    refine keys.mono (fun r69 m69 hk => ?_)
    rcases hk with ⟨r1, em, hk⟩ | ⟨r1, hk, y1, y2, y3⟩
    · subst em
      refine ⟨fun _ => ?_, fun z => absurd r1 z⟩
      rw [if_neg (by omega)]
      have heaps : zb_T K_X0_isToldByHeaps (d + 21) [(2, 356)] zb_E0 m69 (fun r m1 => (r = 0 ∧ m1 = m69 ∧ zb_fdi (zb_sz N1.1 (zb_beg N1).1) (zb_sz N1.1 (zb_beg N2).1) 13 = -1) ∨ (r = 1 ∧ 0 ≤ zb_fdi (zb_sz N1.1 (zb_beg N1).1) (zb_sz N1.1 (zb_beg N2).1) 13 ∧ zb_CY m1 (some (zb_fdi (zb_sz N1.1 (zb_beg N1).1) (zb_sz N1.1 (zb_beg N2).1) 13, zb_sz N1.1 (zb_beg N1).1 (zb_fdi (zb_sz N1.1 (zb_beg N1).1) (zb_sz N1.1 (zb_beg N2).1) 13), zb_sz N1.1 (zb_beg N2).1 (zb_fdi (zb_sz N1.1 (zb_beg N1).1) (zb_sz N1.1 (zb_beg N2).1) 13))) ∧ (∀ x, x ≠ 356 → x ≠ 383 → m1 x = m69 x) ∧ ∀ j, j ≠ 9 → m1 356 j = m69 356 j)) := by
        apply w_X0_isToldByHeaps
        have ki := zb_gd_le g1 h10
        have kj := zb_gd_le g2 h10
        have k10 := g1.2.2.1
        have k20 := g2.2.2.1
        have fdi : ∀ r, zb_fd (zb_sz N1.1 (zb_beg N1).1) (zb_sz N1.1 (zb_beg N2).1) (if (zb_beg N2).2 < (zb_beg N1).2 then (zb_beg N2).2 else (zb_beg N1).2) r → r = zb_fdi (zb_sz N1.1 (zb_beg N1).1) (zb_sz N1.1 (zb_beg N2).1) 13 := fun r hr => zb_fd_i (n := 13) (by omega) (zb_sz_fd h10 h11 g1 g2 hr)
        unfold PM_X0_isToldByHeaps PL_X0_isToldByHeaps_20
        rw [zb_v_356_4, zb_v_356_5, zb_part_369.2.1, zb_part_373.2.1, cp1.2.1, c1.2.1]
        generalize hl : (if (zb_beg N2).2 < (zb_beg N1).2 then (zb_beg N2).2 else (zb_beg N1).2) = l at fdi
        have hl0 : 0 ≤ l ∧ l ≤ (zb_beg N1).2 ∧ l ≤ (zb_beg N2).2 := by rw [← hl]; split <;> omega
        intro X hX
        refine zb_lp0 (fun v => 0 ≤ v ∧ ∀ k, 0 ≤ k → k < v → zb_sz N1.1 (zb_beg N1).1 k = zb_sz N1.1 (zb_beg N2).1 k) l (fun v ⟨v0, hv⟩ vn nxt => hX v ⟨fun c => Or.inl ⟨rfl, rfl, (fdi _ (Or.inl ⟨rfl, fun k k0 k1 => hv k k0 (by omega)⟩)).symm⟩, fun c => ?_⟩) 0 hl0.1 ⟨by omega, fun k k0 k1 => by omega⟩
        have e1 : m69 371 v = zb_sz N1.1 (zb_beg N1).1 v := cp1.2.2.2.1 v v0 (by omega)
        have e2 : m69 375 v = zb_sz N1.1 (zb_beg N2).1 v := c1.2.2.2.1 v v0 (by omega)
        rw [e1, e2]
        refine ⟨⟨v0, by omega⟩, fun c2 => ⟨zb_inI_of (by omega) (by omega), nxt (by omega) ⟨by omega, fun k k0 kk => ?_⟩⟩, fun c2 => ?_⟩
        · by_cases w : k = v
          · rw [w]; exact c2
          · exact hv k k0 (by omega)
        · have ef := fdi v (Or.inr ⟨v0, by omega, hv, c2⟩)
          unfold PJ_X0_isToldByHeaps_46
          rw [zb_v_356_4, zb_v_356_5, zb_part_369.2.1, zb_part_373.2.1, e1, e2]
          have v12 : v < 12 := by omega
          rw [ef]
          rw [ef] at v0 v12
          exact ⟨⟨v0, v12⟩, (s_X0_keepDifference (d := d + 19)).mono (fun _ m58 ⟨y1, y2, y3⟩ => Or.inr ⟨rfl, v0, y1, y2, y3⟩)⟩
      refine heaps.mono (fun r78 m78 hh => ?_)
      rcases hh with ⟨r1, em, hh⟩ | ⟨r1, hh, y1, y2, y3⟩
      · subst em
        refine ⟨fun _ => ?_, fun z => absurd r1 z⟩
        rw [if_neg (by omega)]
        refine (s_X0_findNames cs1 cs2 hN1 hN2).mono (fun r87 m87 ⟨n1, n2⟩ => ?_)
        have f87 : ∀ x, (x < 132 ∨ 191 < x) → (x < 369 ∨ 382 < x) → m87 x = m x := fun x x1 x2 => by rw [n2 x x1 (by omega)]; exact f65 x (by omega) (by omega)
        have fu : zb_frU m m87 := ⟨fun x x1 x2 => f87 x (by omega) (by omega), fun j _ => by rw [f87 356 (by omega) (by omega)]⟩
        have hY87 : zb_CY m87 Y := by
          match Y, hY with
          | none, hY => show m87 356 9 = 0; rw [f87 356 (by omega) (by omega)]; exact hY
          | some q, hY => exact ⟨by rw [f87 356 (by omega) (by omega)]; exact hY.1, by rw [f87 383 (by omega) (by omega)]; exact hY.2⟩
        rcases n1 with ⟨r1, q1, q2, q3⟩ | ⟨r1, q1⟩
        · refine ⟨fun z => by omega, fun _ => ?_⟩
          rw [if_pos q1]
          obtain ⟨a0, a1, a2, a3, a4, a5, a6⟩ := q2
          obtain ⟨b0, b1', b2', b3, b4, b5, b6⟩ := q3
          have rz := zb_rsz_rng h10 h11
          rw [← en] at b2' b5
          have a5 : zb_eqo (zb_rsz N1.1) (m87 378) (zb_nmW N1).2.2.1 := a5
          have b5 : zb_eqo (zb_rsz N1.1) (m87 381) (zb_nmW N2).2.2.1 := b5
          have names : zb_T K_X0_isToldByNames (d + 21) [(2, 356)] zb_E0 m87 (fun r m1 => (r = 0 ∧ m1 = m87 ∧ zb_fdi (zb_nmW N1).2.2.1 (zb_nmW N2).2.2.1 (zb_rsz N1.1).toNat = -1) ∨ (r = 1 ∧ 0 ≤ zb_fdi (zb_nmW N1).2.2.1 (zb_nmW N2).2.2.1 (zb_rsz N1.1).toNat ∧ zb_CY m1 (some (zb_fdi (zb_nmW N1).2.2.1 (zb_nmW N2).2.2.1 (zb_rsz N1.1).toNat, (zb_nmW N1).2.2.1 (zb_fdi (zb_nmW N1).2.2.1 (zb_nmW N2).2.2.1 (zb_rsz N1.1).toNat), (zb_nmW N2).2.2.1 (zb_fdi (zb_nmW N1).2.2.1 (zb_nmW N2).2.2.1 (zb_rsz N1.1).toNat))) ∧ (∀ x, x ≠ 356 → x ≠ 383 → m1 x = m87 x) ∧ ∀ j, j ≠ 9 → m1 356 j = m87 356 j)) := by
            apply w_X0_isToldByNames
            unfold PM_X0_isToldByNames
            rw [zb_v_356_6, zb_v_356_7, (zb_nam zb_i_377).1, (zb_nam zb_i_380).1]
            refine (s_X3_differsAt (d := d + 19) zb_i_377 zb_i_380 a2 b2' (by omega) (by omega)).mono (fun r8 h8 => ?_)
            rw [if_neg (Int.lt_irrefl _)] at h8
            have h8' : zb_fd (zb_nmW N1).2.2.1 (zb_nmW N2).2.2.1 (zb_rsz N1.1) r8 := zb_fd_congr a5 b5 h8
            have ef := zb_fd_i (by omega) h8'
            refine ⟨fun c => ?_, fun c => Or.inl ⟨rfl, rfl, ?_⟩⟩
            · have lt : r8 < zb_rsz N1.1 := by
                rcases h8 with ⟨z, -⟩ | ⟨-, z, -⟩
                · omega
                · exact z
              have e1 : m87 (377 + 1) r8 = (zb_nmW N1).2.2.1 r8 := a5 r8 c lt
              have e2 : m87 (380 + 1) r8 = (zb_nmW N2).2.2.1 r8 := b5 r8 c lt
              rw [e1, e2]
              have lt2 : r8 < 157 := by omega
              rw [ef]
              rw [ef] at c lt2
              exact ⟨⟨c, lt2⟩, (s_X0_keepDifference (d := d + 19)).mono (fun _ m58 ⟨y1, y2, y3⟩ => Or.inr ⟨rfl, c, y1, y2, y3⟩)⟩
            · rcases h8 with ⟨z, -⟩ | ⟨z, -⟩
              · rw [← ef]; exact z
              · omega
          refine names.mono (fun r97 m97 hn => ?_)
          rcases hn with ⟨r1, em, hn⟩ | ⟨r1, hn, y1, y2, y3⟩
          · subst em
            refine ⟨fun _ => ?_, fun z => absurd r1 z⟩
            rw [if_neg (by omega)]
            exact ⟨rfl, hY87, fu⟩
          · refine ⟨fun z => by omega, fun _ => ?_⟩
            rw [if_pos hn]
            exact ⟨rfl, y1, fun x x1 x2 => by rw [y2 x x2 (by omega)]; exact fu.1 x x1 x2, fun j hj => by rw [y3 j hj]; exact fu.2 j hj⟩
        · refine ⟨fun _ => ?_, fun z => absurd r1 z⟩
          rw [if_neg q1]
          exact ⟨rfl, hY87, fu⟩
      · refine ⟨fun z => by omega, fun _ => ?_⟩
        rw [if_pos hh]
        exact ⟨rfl, y1, fun x x1 x2 => by rw [y2 x x2 (by omega)]; exact f65 x (by omega) (by omega), fun j hj => by rw [y3 j hj, f65 356 (by omega) (by omega)]⟩
    · refine ⟨fun z => by omega, fun _ => ?_⟩
      rw [if_pos hk]
      exact ⟨rfl, y1, fun x x1 x2 => by rw [y2 x x2 (by omega)]; exact f65 x (by omega) (by omega), fun j hj => by rw [y3 j hj, f65 356 (by omega) (by omega)]⟩
  · rw [if_pos en]
    exact (s_X0_keepDifference (d := d + 20)).mono (fun _ m33 ⟨y1, y2, y3⟩ => ⟨rfl, y1, fun x x1 x2 => y2 x x2 (by omega), y3⟩)
