/-! ===== names: what tells two rows apart; the name at hand ===== -/
/-- the first of n places where rows differ; -1: none -/
def zb_fd (f g : Int → Int) (n r : Int) : Prop := (r = -1 ∧ ∀ k, 0 ≤ k → k < n → f k = g k) ∨ (0 ≤ r ∧ r < n ∧ (∀ k, 0 ≤ k → k < r → f k = g k) ∧ f r ≠ g r)
theorem zb_fd_uniq {f g : Int → Int} {n r r' : Int} (a : zb_fd f g n r) (b : zb_fd f g n r') : r = r' := by
  rcases a with ⟨a1, a2⟩ | ⟨a1, a2, a3, a4⟩
  · rcases b with ⟨b1, b2⟩ | ⟨b1, b2, b3, b4⟩
    · omega
    · exact absurd (a2 r' b1 b2) b4
  · rcases b with ⟨b1, b2⟩ | ⟨b1, b2, b3, b4⟩
    · exact absurd (b2 r a1 a2) a4
    · rcases Int.lt_trichotomy r r' with c | c | c
      · exact absurd (b3 r a1 c) a4
      · exact c
      · exact absurd (a3 r' b1 c) b4
theorem zb_fd_congr {f g f' g' : Int → Int} {n r : Int} (h1 : zb_eqo n f f') (h2 : zb_eqo n g g') (a : zb_fd f g n r) : zb_fd f' g' n r := by
  rcases a with ⟨a1, a2⟩ | ⟨a1, a2, a3, a4⟩
  · exact Or.inl ⟨a1, fun k k0 k1 => by rw [← h1 k k0 k1, ← h2 k k0 k1]; exact a2 k k0 k1⟩
  · exact Or.inr ⟨a1, a2, fun k k0 k1 => by rw [← h1 k k0 (by omega), ← h2 k k0 (by omega)]; exact a3 k k0 k1, by rw [← h1 r a1 a2, ← h2 r a1 a2]; exact a4⟩
def zb_fdi (f g : Int → Int) : Nat → Int
  | 0 => -1
  | k + 1 => if 0 ≤ zb_fdi f g k then zb_fdi f g k else if f (k : Int) = g (k : Int) then -1 else (k : Int)
theorem zb_fdi_ok (f g : Int → Int) : ∀ k : Nat, zb_fd f g k (zb_fdi f g k) := by
  intro k
  induction k with
  | zero => exact Or.inl ⟨rfl, fun k k0 k1 => by omega⟩
  | succ k ih =>
    show zb_fd f g _ (if 0 ≤ zb_fdi f g k then zb_fdi f g k else if f (k : Int) = g (k : Int) then -1 else (k : Int))
    rcases ih with ⟨a1, a2⟩ | ⟨a1, a2, a3, a4⟩
    · rw [if_neg (by omega)]
      by_cases q : f (k : Int) = g (k : Int)
      · rw [if_pos q]
        refine Or.inl ⟨rfl, fun j j0 j1 => ?_⟩
        by_cases c : j = k
        · rw [c]; exact q
        · exact a2 j j0 (by omega)
      · rw [if_neg q]
        exact Or.inr ⟨by omega, by omega, a2, q⟩
    · rw [if_pos a1]
      exact Or.inr ⟨a1, by omega, a3, a4⟩
theorem zb_fd_i {f g : Int → Int} {n r : Int} (n0 : 0 ≤ n) (h : zb_fd f g n r) : r = zb_fdi f g n.toNat := by
  have := zb_fdi_ok f g n.toNat
  rw [show ((n.toNat : Nat) : Int) = n by omega] at this
  exact zb_fd_uniq h this
theorem s_X3_differsAt {d : Nat} {m : zb_M} {a b l1 l2 : Int} (ia : zb_is zb_E0.1 a 3) (ib : zb_is zb_E0.1 b 3) (h1 : m a 2 = l1) (h2 : m b 2 = l2) (l10 : 0 ≤ l1 ∧ l1 ≤ 157) (l20 : 0 ≤ l2 ∧ l2 ≤ 157) : zb_Tp K_X3_differsAt (d + 1) [(2, a), (2, b)] zb_E0 m (fun r => zb_fd (m (a + 1)) (m (b + 1)) (if l2 < l1 then l2 else l1) r) := by
  apply w_X3_differsAt
  unfold PM_X3_differsAt PL_X3_differsAt_14
  rw [h1, h2, (zb_nam ia).1, (zb_nam ib).1]
  generalize hl : (if l2 < l1 then l2 else l1) = l
  have hl0 : 0 ≤ l ∧ l ≤ 157 := by rw [← hl]; split <;> omega
  intro X hX
  refine zb_lp0 (fun v => 0 ≤ v ∧ ∀ k, 0 ≤ k → k < v → m (a + 1) k = m (b + 1) k) l (fun v ⟨v0, hv⟩ vn nxt => hX v ⟨fun c => Or.inl ⟨rfl, fun k k0 k1 => hv k k0 (by omega)⟩, fun c => ⟨⟨v0, by omega⟩, fun c2 => ⟨zb_inI_of (by omega) (by omega), nxt (by omega) ⟨by omega, fun k k0 k1 => ?_⟩⟩, fun c2 => Or.inr ⟨v0, by omega, hv, c2⟩⟩⟩) 0 hl0.1 ⟨by omega, fun k k0 k1 => by omega⟩
  by_cases q : k = v
  · rw [q]; exact c2
  · exact hv k k0 (by omega)
theorem zb_rsz_rng {n : Int} (h0 : 0 ≤ n) (h1 : n ≤ 12) : 1 + n ≤ zb_rsz n ∧ zb_rsz n ≤ 157 := by
  have := zb_nn h0 h1
  unfold zb_rsz
  omega
/-! the name at hand -/
/-- how many things; how many nodes; the row; the order -/
abbrev zb_Nm : Type := Option (Int × Int × (Int → Int) × (Int → Int))
def zb_ONm : zb_Nm → Prop
  | none => True
  | some q => (0 ≤ q.1 ∧ q.1 ≤ 12) ∧ q.2.2.1 0 = q.1
def zb_CNm (m : zb_M) : zb_Nm → Prop
  | none => m 394 0 = 0
  | some q => m 394 0 = 1 ∧ m 394 1 = q.1 ∧ m 394 2 = zb_rsz q.1 ∧ m 394 4 = q.2.1 ∧ zb_eqo (zb_rsz q.1) (m 395) q.2.2.1 ∧ zb_eqo q.1 (m 396) q.2.2.2
def zb_RNm (m : zb_M) : zb_Nm → Prop
  | none => m 500 34 = 0
  | some q => m 500 34 = 1 ∧ m 500 37 = q.2.1 ∧ zb_eqo (zb_rsz q.1) (m 529) q.2.2.1 ∧ zb_eqo q.1 (m 530) q.2.2.2
noncomputable def v_name (s : zb_Gs) (A : zb_Nm) (g : Int) : Int × zb_Nm := if v_ref s g = 0 then (if (zb_nmW (zb_shN (s.1 g))).1 ≤ 3000 then ((zb_nmW (zb_shN (s.1 g))).1, some (zb_shn (s.1 g), (zb_nmW (zb_shN (s.1 g))).2.1, (zb_nmW (zb_shN (s.1 g))).2.2.1, fun i => zb_sha (s.1 g) ((zb_nmW (zb_shN (s.1 g))).2.2.2 i))) else (-3, none)) else (v_ref s g, A)
def v_nameAt (A : zb_Nm) (k : Int) : Int := match A with
  | none => -1
  | some q => if k = -1 then zb_rsz q.1 else if 0 ≤ k ∧ k < zb_rsz q.1 then q.2.2.1 k else -1
def v_order (A : zb_Nm) (p : Int) : Int := match A with
  | none => -1
  | some q => if 0 ≤ p ∧ p < q.1 then q.2.2.2 p else -1
def v_nodes (A : zb_Nm) : Int := match A with
  | none => -1
  | some q => q.2.1
theorem zb_nmW_0 {N : zb_N} (hN : zb_ON N) : (zb_nmW N).2.2.1 0 = N.1 := by
  rw [(zb_nmW_ok hN).1]
  unfold zb_rw
  rw [if_pos rfl]
theorem v_name_ok {s : zb_Gs} {A : zb_Nm} {g : Int} (hO : zb_OG s) (hA : zb_ONm A) : zb_ONm (v_name s A g).2 := by
  unfold v_name
  by_cases e : v_ref s g = 0
  · rw [if_pos e]
    obtain ⟨hN, -⟩ := zb_shN_asc hO e
    by_cases q : (zb_nmW (zb_shN (s.1 g))).1 ≤ 3000
    · rw [if_pos q]; exact ⟨hN.1, zb_nmW_0 hN⟩
    · rw [if_neg q]; trivial
  · rw [if_neg e]; exact hA
theorem zb_Ga_394 : zb_Ga 126 394 := ⟨zb_i_126, zb_i_394, by omega, by omega, by omega⟩
def zb_frN (m m1 : zb_M) : Prop := ∀ b, (b < 126 ∨ 191 < b) → ¬ (394 ≤ b ∧ b ≤ 396) → m1 b = m b
theorem s_X11_name {d : Nat} {m : zb_M} {s : zb_Gs} {A : zb_Nm} {g : Int} (hC : zb_CG m s) (hO : zb_OG s) (hA : zb_CNm m A) : zb_T K_X11_name (d + 21) [(2, 1), (0, g)] zb_E0 m (fun r m1 => r = (v_name s A g).1 ∧ zb_CNm m1 (v_name s A g).2 ∧ zb_frN m m1) := by
  apply w_X11_name
  unfold PM_X11_name v_name
  refine s_X11_isGraph.mono (fun r h => ?_)
  rcases zb_if1 h with ⟨h1, h2⟩ | ⟨h1, h2⟩
  · refine ⟨fun _ => ?_, fun z => absurd h1 z⟩
    rw [v_ref_b h2, if_neg (by omega)]
    exact ⟨rfl, hA, fun _ _ _ => rfl⟩
  refine ⟨fun z => by omega, fun _ => ⟨h2, ?_⟩⟩
  obtain ⟨g0, g1⟩ := h2
  have hG := hO.1 g g0 g1
  obtain ⟨en, isn⟩ := zb_nets g0 g1
  rw [zb_v_1_0, en, zb_v_1_2, zb_v_1_4, zb_v_1_10]
  refine (s_X4_isRight (d := d + 16) isn (hC.1 g g0 g1) hG).mono (fun r15 h15 => ?_)
  rcases h15.symm with ⟨r1, r2⟩ | ⟨r1, r2⟩
  · refine ⟨fun _ => ?_, fun z => absurd r1 z⟩
    rw [v_ref_n ⟨g0, g1⟩ r2, if_neg (by omega)]
    exact ⟨rfl, hA, fun _ _ _ => rfl⟩
  refine ⟨fun z => by omega, fun _ => ?_⟩
  have e := v_ref_y ⟨g0, g1⟩ r2
  rw [if_pos e]
  obtain ⟨hN, -⟩ := zb_shN_asc hO e
  refine (s_X6_take (d := d + 16) zb_i_126 isn (by omega) (hC.1 g g0 g1) hG).mono (fun _ m34 ⟨t1, t2⟩ => ?_)
  refine (s_X8_findName zb_Ga_394 t1 hN).mono (fun r49 m49 ⟨f1, f2⟩ => ?_)
  have fr : zb_frN m m49 := fun b b1 b2 => by rw [f2 b (by omega) (by omega)]; exact t2 b (by omega)
  rcases f1 with ⟨q1, q2, q3⟩ | ⟨q1, q2, q3⟩
  · refine ⟨fun z => by omega, fun _ => ?_⟩
    rw [if_pos q2]
    obtain ⟨p0, p1, p2, p3, p4, p5, p6⟩ := q3
    exact ⟨p3, ⟨p0, p1, p2, p4, p5, p6⟩, fr⟩
  · refine ⟨fun _ => ?_, fun z => absurd q1 z⟩
    rw [if_neg (by omega)]
    exact ⟨rfl, q3, fr⟩
theorem s_X11_nameAt {d : Nat} {m : zb_M} {A : zb_Nm} {k : Int} (hA : zb_CNm m A) (hO : zb_ONm A) : zb_Tp K_X11_nameAt (d + 2) [(2, 1), (0, k)] zb_E0 m (fun r => r = v_nameAt A k) := by
  apply w_X11_nameAt
  unfold PM_X11_nameAt
  rw [zb_v_1_10, (zb_nam zb_i_394).1]
  match A, hA, hO with
  | none, hA, _ => exact ⟨fun _ => rfl, fun z => absurd hA z⟩
  | some q, ⟨p0, p1, p2, p4, p5, p6⟩, ⟨o1, o2⟩ =>
    have rz := zb_rsz_rng o1.1 o1.2
    refine ⟨fun z => by omega, fun _ => ?_⟩
    rw [p2]
    show (k = -1 → zb_rsz q.1 = (if k = -1 then zb_rsz q.1 else if 0 ≤ k ∧ k < zb_rsz q.1 then q.2.2.1 k else -1)) ∧ (¬ k = -1 → zb_Tp K_X11_isBelow (d + 1) [(0, k), (0, zb_rsz q.1)] zb_E0 m (fun r33 => (r33 = 0 → -1 = (if k = -1 then zb_rsz q.1 else if 0 ≤ k ∧ k < zb_rsz q.1 then q.2.2.1 k else -1)) ∧ (¬ r33 = 0 → (0 ≤ k ∧ k < 157) ∧ m 395 k = (if k = -1 then zb_rsz q.1 else if 0 ≤ k ∧ k < zb_rsz q.1 then q.2.2.1 k else -1))))
    refine ⟨fun c => by rw [if_pos c], fun c => s_X11_isBelow.mono (fun r h => ?_)⟩
    rw [if_neg c]
    rcases zb_if1 h with ⟨h1, h2⟩ | ⟨h1, h2⟩
    · exact ⟨fun _ => by rw [if_neg h2], fun z => absurd h1 z⟩
    · exact ⟨fun z => by omega, fun _ => ⟨⟨h2.1, by omega⟩, by rw [if_pos h2]; exact p5 k h2.1 h2.2⟩⟩
theorem s_X11_order {d : Nat} {m : zb_M} {A : zb_Nm} {p : Int} (hA : zb_CNm m A) (hO : zb_ONm A) : zb_Tp K_X11_order (d + 2) [(2, 1), (0, p)] zb_E0 m (fun r => r = v_order A p) := by
  apply w_X11_order
  unfold PM_X11_order
  rw [zb_v_1_10, (zb_nam zb_i_394).2]
  match A, hA, hO with
  | none, hA, _ => exact ⟨fun _ => rfl, fun z => absurd hA z⟩
  | some q, ⟨p0, p1, p2, p4, p5, p6⟩, ⟨o1, o2⟩ =>
    refine ⟨fun z => by omega, fun _ => ?_⟩
    rw [p1]
    refine s_X11_isBelow.mono (fun r h => ?_)
    show (r = 0 → -1 = (if 0 ≤ p ∧ p < q.1 then q.2.2.2 p else -1)) ∧ (¬ r = 0 → (0 ≤ p ∧ p < 12) ∧ m 396 p = (if 0 ≤ p ∧ p < q.1 then q.2.2.2 p else -1))
    rcases zb_if1 h with ⟨h1, h2⟩ | ⟨h1, h2⟩
    · exact ⟨fun _ => by rw [if_neg h2], fun z => absurd h1 z⟩
    · exact ⟨fun z => by omega, fun _ => ⟨⟨h2.1, by omega⟩, by rw [if_pos h2]; exact p6 p h2.1 h2.2⟩⟩
theorem s_X11_nodes {d : Nat} {m : zb_M} {A : zb_Nm} (hA : zb_CNm m A) : zb_Tp K_X11_nodes (d + 1) [(2, 1)] zb_E0 m (fun r => r = v_nodes A) := by
  apply w_X11_nodes
  unfold PM_X11_nodes
  rw [zb_v_1_10]
  match A, hA with
  | none, hA => exact ⟨fun _ => rfl, fun z => absurd hA z⟩
  | some q, ⟨p0, p1, p2, p4, p5, p6⟩ => exact ⟨fun z => by omega, fun _ => p4⟩
/-! the reference -/
def zb_frRN (m m1 : zb_M) : Prop := (∀ c, c ≠ 500 → (c < 515 ∨ (521 < c ∧ c < 524) ∨ 530 < c) → m1 c = m c) ∧ (∀ j, j ≠ 15 → j ≠ 28 → j ≠ 29 → j ≠ 34 → j ≠ 37 → m1 500 j = m 500 j) ∧ (∀ j, 156 ≤ j → m1 518 j = m 518 j) ∧ ∀ j, 13 ≤ j → m1 519 j = m 519 j
theorem zb_frRN.rf (m : zb_M) : zb_frRN m m := ⟨fun _ _ _ => rfl, fun _ _ _ _ _ _ => rfl, fun _ _ => rfl, fun _ _ => rfl⟩
theorem s_X12_name {d : Nat} {m : zb_M} {s : zb_Gs} {A : zb_Nm} {g : Int} (hC : zb_RG m s) (hO : zb_OG s) (hA : zb_RNm m A) : zb_T K_X12_name (d + 6) [(2, 500), (0, g)] zb_E0 m (fun r m1 => r = (v_name s A g).1 ∧ zb_RNm m1 (v_name s A g).2 ∧ zb_frRN m m1) := by
  apply w_X12_name
  unfold PM_X12_name
  refine zb_rcall (d := d + 1) hC hO (fun e => ?_) (fun e => ?_) (fun e r m1 l1 l2 l3 l4 => ?_)
  · unfold v_name; rw [if_neg (by omega), e]; exact ⟨rfl, hA, zb_frRN.rf m⟩
  · unfold v_name; rw [if_neg (by omega), e]; exact ⟨rfl, hA, zb_frRN.rf m⟩
  obtain ⟨hN, hAs⟩ := zb_shN_asc hO e
  have hn : zb_shn (s.1 g) ≤ 12 := hN.1.2
  have hn0 : 0 ≤ zb_shn (s.1 g) := hN.1.1
  have rz := zb_rsz_rng hn0 hn
  unfold v_name
  rw [if_pos e]
  refine (s_X12_grow hN l1 l2).mono (fun r28 m28 ⟨g1, g2⟩ => ⟨by omega, fun m31 e31 => ?_⟩)
  have f31 : ∀ c, c ≠ 500 → m31 c = m28 c := fun c hc => zb_u3 e31 hc
  have fr28 : ∀ m1', (∀ c, c ≠ 500 → c ≠ 529 → c ≠ 530 → m1' c = m28 c) → (∀ j, j ≠ 34 → j ≠ 37 → m1' 500 j = m28 500 j) → zb_frRN m m1' := fun m1' q1 q2 => ⟨fun c c1 c2 => by rw [q1 c c1 (by omega) (by omega), g2.1 c c1 (by omega)]; exact l3 c (by omega), fun j j1 j2 j3 j4 j5 => by rw [q2 j j4 j5, g2.2.1 j j2 j3]; exact l4 j j1, fun j hj => by rw [q1 518 (by omega) (by omega) (by omega), g2.2.2.1 j (by omega), l3 518 (by omega)], fun j hj => by rw [q1 519 (by omega) (by omega) (by omega), g2.2.2.2.1 j (by omega), l3 519 (by omega)]⟩
  rcases g1 with ⟨q1, q2, q3⟩ | ⟨q1, q2⟩
  · rw [zb_u1 e31, q1]
    refine ⟨fun z => by omega, fun _ => ?_⟩
    rw [if_pos q2]
    have hpos := (zb_nmW_ok hN).2.2
    obtain ⟨k1, k2, k3⟩ := q3
    obtain ⟨k4, k5⟩ := k3 (by omega)
    unfold PL_X12_name_46
    rw [zb_v_500_30, zb_v_500_35]
    intro X hX
    refine zb_lp1 (fun v mm => 0 ≤ v ∧ (∀ k, 0 ≤ k → k < v → mm 529 k = m28 525 k) ∧ ∀ c, c ≠ 529 → mm c = m31 c) 160 (fun v mm ⟨v0, t1, t2⟩ vn nxt => hX v mm ⟨fun c => ?_, fun c => ⟨⟨v0, by omega⟩, fun m64 e64 => ⟨zb_inI_of (by omega) (by omega), nxt (by omega) m64 ⟨by omega, fun k k0 kk => ?_, fun c hc => by rw [zb_u3 e64 hc]; exact t2 c hc⟩⟩⟩⟩) 0 m31 (by omega) ⟨by omega, fun k k0 kk => by omega, fun c _ => rfl⟩
    · unfold PJ_X12_name_71 PL_X12_name_73
      rw [zb_v_500_31, zb_v_500_36]
      intro Y hY
      refine zb_lp1 (fun v mn => 0 ≤ v ∧ (∀ k, 0 ≤ k → k < v → mn 530 k = m28 526 k) ∧ ∀ c, c ≠ 530 → mn c = mm c) 12 (fun v mn ⟨v0, u1, u2⟩ vn nx2 => hY v mn ⟨fun c2 => ?_, fun c2 => ⟨⟨v0, by omega⟩, fun m90 e90 => ⟨zb_inI_of (by omega) (by omega), nx2 (by omega) m90 ⟨by omega, fun k k0 kk => ?_, fun c hc => by rw [zb_u3 e90 hc]; exact u2 c hc⟩⟩⟩⟩) 0 mm (by omega) ⟨by omega, fun k k0 kk => by omega, fun c _ => rfl⟩
      · unfold PJ_X12_name_97
        intro m102 e102
        have h29 : mn 500 29 = (zb_nmW (zb_shN (s.1 g))).2.1 := by rw [u2 500 (by omega), t2 500 (by omega), zb_u2 e31 (by omega)]; exact k2
        rw [h29] at e102
        refine ⟨?_, ⟨?_, zb_u1 e102, fun k k0 kk => ?_, fun k k0 kk => ?_⟩, fr28 m102 (fun c c1 c3 c4 => ?_) (fun j j1 j2 => ?_)⟩
        · rw [zb_u2 e102 (by omega), u2 500 (by omega), t2 500 (by omega), zb_u2 e31 (by omega)]; exact k1
        · rw [zb_u2 e102 (by omega), u2 500 (by omega), t2 500 (by omega), zb_u1 e31]; exact q1
        · have kk : k < zb_rsz (zb_shn (s.1 g)) := kk
          rw [zb_u3 e102 (by omega), u2 529 (by omega), t1 k k0 (by omega)]
          exact k4 k k0 kk
        · have kk : k < zb_shn (s.1 g) := kk
          rw [zb_u3 e102 (by omega), u1 k k0 (by omega)]
          exact k5 k k0 kk
        · rw [zb_u3 e102 c1, u2 c c4, t2 c c3, f31 c c1]
        · rw [zb_u2 e102 (by omega), u2 500 (by omega), t2 500 (by omega), zb_u2 e31 (by omega)]
      · by_cases w : k = v
        · rw [w, zb_u1 e90, u2 526 (by omega), t2 526 (by omega), f31 526 (by omega)]
        · rw [zb_u2 e90 (by omega)]; exact u1 k k0 (by omega)
    · by_cases w : k = v
      · rw [w, zb_u1 e64, t2 525 (by omega), f31 525 (by omega)]
      · rw [zb_u2 e64 (by omega)]; exact t1 k k0 (by omega)
  · rw [zb_u1 e31, q1]
    refine ⟨fun _ => ?_, fun z => absurd rfl z⟩
    rw [if_neg (by omega)]
    exact ⟨rfl, by show m31 500 34 = 0; rw [zb_u1 e31]; exact q1, fr28 m31 (fun c c1 _ _ => f31 c c1) (fun j j1 _ => zb_u2 e31 (by omega))⟩
theorem s_X12_nameAt {d : Nat} {m : zb_M} {A : zb_Nm} {k : Int} (hA : zb_RNm m A) (hO : zb_ONm A) : zb_Tp K_X12_nameAt (d + 2) [(2, 500), (0, k)] zb_E0 m (fun r => r = v_nameAt A k) := by
  apply w_X12_nameAt
  unfold PM_X12_nameAt PJ_X12_nameAt_20
  rw [zb_v_500_35]
  match A, hA, hO with
  | none, hA, _ => exact ⟨fun _ => ⟨fun _ => rfl, fun z => absurd hA z⟩, fun z => absurd hA z⟩
  | some q, ⟨p0, p1, p5, p6⟩, ⟨o1, o2⟩ =>
    have rz := zb_rsz_rng o1.1 o1.2
    have e0 : m 529 0 = q.1 := by rw [p5 0 (Int.le_refl _) (by omega)]; exact o2
    rw [e0]
    refine ⟨fun z => by omega, fun _ => (s_X12_sizeOf o1.1 o1.2).mono (fun r13 h13 => ⟨fun z => by omega, fun _ => ⟨zb_inI_of (by omega) (by omega), s_X12_in.mono (fun r h => ?_)⟩⟩)⟩
    rw [h13] at h ⊢
    show (r = 0 → -1 = (if k = -1 then zb_rsz q.1 else if 0 ≤ k ∧ k < zb_rsz q.1 then q.2.2.1 k else -1)) ∧ (¬ r = 0 → (0 ≤ k → (0 ≤ k ∧ k < 160) ∧ m 529 k = (if k = -1 then zb_rsz q.1 else if 0 ≤ k ∧ k < zb_rsz q.1 then q.2.2.1 k else -1)) ∧ (¬ 0 ≤ k → zb_rsz q.1 = (if k = -1 then zb_rsz q.1 else if 0 ≤ k ∧ k < zb_rsz q.1 then q.2.2.1 k else -1)))
    rcases zb_if1 h with ⟨h1, h2⟩ | ⟨h1, h2⟩
    · exact ⟨fun _ => by rw [if_neg (by omega), if_neg (by omega)], fun z => absurd h1 z⟩
    · refine ⟨fun z => by omega, fun _ => ⟨fun c => ⟨⟨c, by omega⟩, ?_⟩, fun c => by rw [if_pos (by omega)]⟩⟩
      rw [if_neg (by omega), if_pos (by omega)]
      exact p5 k c (by omega)
theorem s_X12_order {d : Nat} {m : zb_M} {A : zb_Nm} {p : Int} (hA : zb_RNm m A) (hO : zb_ONm A) : zb_Tp K_X12_order (d + 2) [(2, 500), (0, p)] zb_E0 m (fun r => r = v_order A p) := by
  apply w_X12_order
  unfold PM_X12_order
  rw [zb_v_500_35, zb_v_500_36]
  match A, hA, hO with
  | none, hA, _ => exact ⟨fun _ => rfl, fun z => absurd hA z⟩
  | some q, ⟨p0, p1, p5, p6⟩, ⟨o1, o2⟩ =>
    have rz := zb_rsz_rng o1.1 o1.2
    have e0 : m 529 0 = q.1 := by rw [p5 0 (Int.le_refl _) (by omega)]; exact o2
    rw [e0]
    refine ⟨fun z => by omega, fun _ => ⟨zb_inI_of (by omega) (by omega), s_X12_in.mono (fun r h => ?_)⟩⟩
    show (r = 0 → -1 = (if 0 ≤ p ∧ p < q.1 then q.2.2.2 p else -1)) ∧ (¬ r = 0 → (0 ≤ p ∧ p < 12) ∧ m 530 p = (if 0 ≤ p ∧ p < q.1 then q.2.2.2 p else -1))
    rcases zb_if1 h with ⟨h1, h2⟩ | ⟨h1, h2⟩
    · exact ⟨fun _ => by rw [if_neg (by omega)], fun z => absurd h1 z⟩
    · exact ⟨fun z => by omega, fun _ => ⟨⟨h2.1, by omega⟩, by rw [if_pos (by omega)]; exact p6 p h2.1 (by omega)⟩⟩
theorem s_X12_nodes {d : Nat} {m : zb_M} {A : zb_Nm} (hA : zb_RNm m A) : zb_Tp K_X12_nodes (d + 1) [(2, 500)] zb_E0 m (fun r => r = v_nodes A) := by
  apply w_X12_nodes
  unfold PM_X12_nodes
  match A, hA with
  | none, hA => exact ⟨fun _ => rfl, fun z => absurd hA z⟩
  | some q, ⟨p0, p1, p5, p6⟩ => exact ⟨fun z => by omega, fun _ => p1⟩
