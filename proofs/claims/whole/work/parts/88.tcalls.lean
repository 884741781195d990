/-! ===== the turning at hand, the makers at hand ===== -/
/-- a row over shown things as what things go to; -1: it is none of them -/
def zb_tn (n : Int) (o f : Int → Int) (i : Int) : Int := if 0 ≤ zb_ix o i n.toNat then o (f (zb_ix o i n.toNat)) else -1
theorem zb_ix_rg (o : Int → Int) (i : Int) (k : Nat) : -1 ≤ zb_ix o i k ∧ zb_ix o i k < k ∧ (0 ≤ zb_ix o i k → o (zb_ix o i k) = i) := by
  rcases zb_ix_is o i k with ⟨h1, -⟩ | ⟨h1, h2, h3⟩
  · exact ⟨by omega, by omega, fun z => by omega⟩
  · exact ⟨by omega, h2, fun _ => h3⟩
theorem zb_ix_hit {n k : Int} {o : Int → Int} (ho : zb_asc n k o) {x : Int} (x0 : 0 ≤ x) (x1 : x < n) : zb_ix o (o x) n.toNat = x := by
  have h := zb_ix_is o (o x) n.toNat
  rw [show ((n.toNat : Nat) : Int) = n by omega] at h
  exact zb_isx_eq ho h (Or.inr ⟨x0, x1, rfl⟩)
theorem zb_tn_congr {n : Int} {o f g : Int → Int} (h : zb_eqo n f g) (i : Int) : zb_tn n o f i = zb_tn n o g i := by
  unfold zb_tn
  have r := zb_ix_rg o i n.toNat
  by_cases q : 0 ≤ zb_ix o i n.toNat
  · rw [if_pos q, if_pos q, h _ q (by omega)]
  · rw [if_neg q, if_neg q]
theorem zb_tn_rng {n : Int} {o f : Int → Int} (ho : zb_asc n 12 o) (hf : ∀ x, 0 ≤ x → x < n → 0 ≤ f x ∧ f x < n) (i : Int) : -1 ≤ zb_tn n o f i ∧ zb_tn n o f i < 12 ∧ (zb_tn n o f i = -1 ↔ zb_ix o i n.toNat = -1) := by
  unfold zb_tn
  have r := zb_ix_rg o i n.toNat
  by_cases q : 0 ≤ zb_ix o i n.toNat
  · have h1 := hf _ q (by omega)
    have h2 := ho.1 _ h1.1 h1.2
    rw [if_pos q]; omega
  · rw [if_neg q]; omega
abbrev zb_Tn : Type := Option (Int → Int)
def zb_OT : zb_Tn → Prop
  | none => True
  | some t => ∀ i, 0 ≤ i → i < 12 → -1 ≤ t i ∧ t i < 12
def zb_CT (m : zb_M) : zb_Tn → Prop
  | none => m 397 0 = 0
  | some t => m 397 0 = 1 ∧ ∀ i, 0 ≤ i → i < 12 → m 398 i = t i
def zb_RT (m : zb_M) : zb_Tn → Prop
  | none => m 500 40 = 0
  | some t => m 500 40 = 1 ∧ ∀ i, 0 ≤ i → i < 12 → m 533 i = t i
/-- how many shown things there were; which; the makers -/
abbrev zb_Km : Type := Int × (Int → Int) × zb_Mk
def zb_OK (K : zb_Km) : Prop := 0 ≤ K.1 ∧ zb_asc K.1 12 K.2.1 ∧ (0 ≤ K.2.2.1 ∧ K.2.2.1 ≤ 12) ∧ ∀ j, 0 ≤ j → j < K.2.2.1 → zb_pm K.1 (K.2.2.2 j)
def zb_CK (m : zb_M) (K : zb_Km) : Prop := m 1 13 = K.2.2.1 ∧ ∀ k, 0 ≤ k → k < K.2.2.1 → m (476 + 2 * k) 0 = 1 ∧ ∀ i, 0 ≤ i → i < 12 → m (477 + 2 * k) i = zb_tn K.1 K.2.1 (K.2.2.2 k) i
def zb_RK (m : zb_M) (K : zb_Km) : Prop := zb_rmk m K.1 K.2.1 K.2.2 ∧ ∃ b : Nat, b < 4096 ∧ m 500 51 = b ∧ ∀ i, 0 ≤ i → i < 12 → (zb_has b i ↔ 0 ≤ zb_ix K.2.1 i K.1.toNat)
/-- 0, or what a graph that has no turnings answers -/
noncomputable def v_ref (s : zb_Gs) (g : Int) : Int := if 0 ≤ g ∧ g < 8 then (@ite Int (zb_rt (s.1 g)) (Classical.propDecidable _) 0 (-2)) else -1
theorem v_ref_0 {s : zb_Gs} {g : Int} (h : v_ref s g = 0) : (0 ≤ g ∧ g < 8) ∧ zb_rt (s.1 g) := by
  unfold v_ref at h
  by_cases q : 0 ≤ g ∧ g < 8
  · rw [if_pos q] at h
    by_cases q2 : zb_rt (s.1 g)
    · exact ⟨q, q2⟩
    · rw [if_neg q2] at h; omega
  · rw [if_neg q] at h; omega
theorem v_ref_y {s : zb_Gs} {g : Int} (h1 : 0 ≤ g ∧ g < 8) (h2 : zb_rt (s.1 g)) : v_ref s g = 0 := by unfold v_ref; rw [if_pos h1, if_pos h2]
theorem v_ref_n {s : zb_Gs} {g : Int} (h1 : 0 ≤ g ∧ g < 8) (h2 : ¬ zb_rt (s.1 g)) : v_ref s g = -2 := by unfold v_ref; rw [if_pos h1, if_neg h2]
theorem v_ref_b {s : zb_Gs} {g : Int} (h1 : ¬ (0 ≤ g ∧ g < 8)) : v_ref s g = -1 := by unfold v_ref; rw [if_neg h1]
theorem s_X11_refusal {d : Nat} {m : zb_M} {s : zb_Gs} {g : Int} (hC : zb_CG m s) (hO : zb_OG s) : zb_T K_X11_refusalOfTurnings (d + 5) [(2, 1), (0, g)] zb_E0 m (fun r m1 => r = v_ref s g ∧ (r = 0 → zb_CS m1 126 (zb_shN (s.1 g)) (zb_sha (s.1 g))) ∧ ∀ c, (c < 126 ∨ 131 < c) → m1 c = m c) := by
  apply w_X11_refusalOfTurnings
  unfold PM_X11_refusalOfTurnings
  refine s_X11_isGraph.mono (fun r h => ?_)
  rcases zb_if1 h with ⟨h1, h2⟩ | ⟨h1, h2⟩
  · exact ⟨fun _ => ⟨(v_ref_b h2).symm, fun z => by omega, fun _ _ => rfl⟩, fun z => absurd h1 z⟩
  refine ⟨fun z => by omega, fun _ => ⟨h2, ?_⟩⟩
  obtain ⟨g0, g1⟩ := h2
  have hG := hO.1 g g0 g1
  obtain ⟨en, isn⟩ := zb_nets g0 g1
  rw [zb_v_1_0, en, zb_v_1_2]
  refine (s_X4_isRight isn (hC.1 g g0 g1) hG).mono (fun r15 h15 => ?_)
  rcases h15 with ⟨r1, r2⟩ | ⟨r1, r2⟩
  · exact ⟨fun z => by omega, fun _ => (s_X6_take zb_i_126 isn (by omega) (hC.1 g g0 g1) hG).mono (fun _ m34 ⟨t1, t2⟩ => ⟨(v_ref_y ⟨g0, g1⟩ r2).symm, fun _ => t1, t2⟩)⟩
  · exact ⟨fun _ => ⟨(v_ref_n ⟨g0, g1⟩ r2).symm, fun z => by omega, fun _ _ => rfl⟩, fun z => absurd r1 z⟩
theorem zb_rcall {d : Nat} {m : zb_M} {s : zb_Gs} {g : Int} {A B : Prop} {P : Int → zb_M → Prop} (hC : zb_RG m s) (hO : zb_OG s) (h1 : v_ref s g = -1 → A) (h2 : v_ref s g = -2 → B) (h3 : v_ref s g = 0 → ∀ r m1, zb_RN m1 (zb_shN (s.1 g)) → (∀ x, 0 ≤ x → x < zb_shn (s.1 g) → m1 515 x = zb_sha (s.1 g) x) → (∀ c, (c < 500 ∨ (500 < c ∧ c < 515) ∨ 517 < c) → m1 c = m c) → (∀ j, j ≠ 15 → m1 500 j = m 500 j) → P r m1) : zb_Tp K_X12_isGraph (d + 4) [(2, 500), (0, g)] zb_E0 m (fun r2 => (r2 = 0 → A) ∧ (¬ r2 = 0 → zb_Tp K_X12_isRight (d + 4) [(2, 500), (0, g)] zb_E0 m (fun r12 => (r12 = 0 → B) ∧ (¬ r12 = 0 → zb_T K_X12_layOut (d + 4) [(2, 500), (0, g)] zb_E0 m P)))) := by
  refine s_X12_isGraph.mono (fun r h => ?_)
  rcases zb_if1 h with ⟨q1, q2⟩ | ⟨q1, q2⟩
  · exact ⟨fun _ => h1 (v_ref_b q2), fun z => absurd q1 z⟩
  refine ⟨fun z => by omega, fun _ => (s_X12_isRight hC hO q2.1 q2.2).mono (fun r12 h12 => ?_)⟩
  rcases zb_rti_01 (s.1 g) with ⟨e, q3⟩ | ⟨e, q3⟩
  · exact ⟨fun z => by omega, fun _ => (s_X12_layOut hC hO q2.1 q2.2).mono (fun r m1 ⟨⟨a, b⟩, c, d⟩ => h3 (v_ref_y q2 q3) r m1 a b c d)⟩
  · exact ⟨fun _ => h2 (v_ref_n q2 q3), fun z => absurd (h12.trans e) z⟩
/-! the answers -/
def zb_prd (f : Int → Int) : Nat → Int
  | 0 => 1
  | k + 1 => zb_prd f k * f (k : Int)
theorem zb_prd_rng {f : Int → Int} : ∀ {k : Nat}, (∀ x : Int, 0 ≤ x → x < k → 0 ≤ f x ∧ f x ≤ 12) → 0 ≤ zb_prd f k ∧ zb_prd f k ≤ 12 ^ k := by
  intro k
  induction k with
  | zero => intro _; exact ⟨by show (0 : Int) ≤ 1; omega, by show (1 : Int) ≤ 12 ^ 0; simp⟩
  | succ k ih =>
    intro h
    obtain ⟨a, b⟩ := ih (fun x x0 x1 => h x x0 (by omega))
    obtain ⟨c, e⟩ := h k (by omega) (by omega)
    refine ⟨Int.mul_nonneg a c, ?_⟩
    show zb_prd f k * f k ≤ 12 ^ (k + 1)
    rw [Int.pow_succ]
    exact Int.mul_le_mul b e c (Int.le_trans a b)
theorem zb_prd_L {f : Int → Int} {k : Nat} (hk : k ≤ 12) (h : ∀ x : Int, 0 ≤ x → x < k → 0 ≤ f x ∧ f x ≤ 12) : zb_inL (zb_prd f k) := by
  obtain ⟨a, b⟩ := zb_prd_rng h
  have c : (12 : Int) ^ k ≤ 8916100448256 := by
    have : ∀ k : Nat, k < 13 → (12 : Int) ^ k ≤ 8916100448256 := by decide
    exact this k (by omega)
  exact zb_inL_of (by omega) (by omega)
theorem zb_prd_S (f : Int → Int) {v : Int} (h : 0 ≤ v) : zb_prd f (v + 1).toNat = zb_prd f v.toNat * f v := by
  have e : (v + 1).toNat = v.toNat + 1 := by omega
  have e2 : ((v.toNat : Nat) : Int) = v := by omega
  rw [e]
  show zb_prd f v.toNat * f ((v.toNat : Nat) : Int) = _
  rw [e2]
theorem zb_chn_rng {N : zb_N} (hN : zb_ON N) (x : Int) : 0 ≤ zb_chn N x ∧ zb_chn N x ≤ 12 := by
  have := zb_ctp_rng hN.1.1 (fun y => x ≤ y ∧ ∃ f, zb_led N x x y f)
  have := hN.1.2
  unfold zb_chn
  omega
noncomputable def v_turnings (s : zb_Gs) (g : Int) : Int := if v_ref s g = 0 then zb_prd (zb_chn (zb_shN (s.1 g))) (zb_shn (s.1 g)).toNat else v_ref s g
noncomputable def v_chain (s : zb_Gs) (g k : Int) : Int := if v_ref s g = 0 then (if 0 ≤ k ∧ k < zb_shn (s.1 g) then zb_chn (zb_shN (s.1 g)) k else -1) else v_ref s g
noncomputable def v_orbit (s : zb_Gs) (g a : Int) : Int := if v_ref s g = 0 then (if 0 ≤ zb_ix (zb_sha (s.1 g)) a (zb_shn (s.1 g)).toNat then zb_orb (zb_shN (s.1 g)) (zb_ix (zb_sha (s.1 g)) a (zb_shn (s.1 g)).toNat) else -1) else v_ref s g
noncomputable def zb_l0 (N : zb_N) (x y : Int) : Int → Int := @dite _ (∃ f, zb_lst N.1 (zb_led N 0 x y) f) (Classical.propDecidable _) (fun h => Classical.choose h) (fun _ => fun z => z)
theorem zb_l0_ok {N : zb_N} {x y : Int} {f : Int → Int} (h : zb_lst N.1 (zb_led N 0 x y) f) : zb_eqo N.1 f (zb_l0 N x y) := by
  unfold zb_l0
  rw [dif_pos ⟨f, h⟩]
  exact zb_lst_uniq h (Classical.choose_spec (⟨f, h⟩ : ∃ f, zb_lst N.1 (zb_led N 0 x y) f))
noncomputable def v_where (s : zb_Gs) (T : zb_Tn) (g a b : Int) : Int × zb_Tn := if v_ref s g = 0 then (if 0 ≤ zb_ix (zb_sha (s.1 g)) a (zb_shn (s.1 g)).toNat ∧ 0 ≤ zb_ix (zb_sha (s.1 g)) b (zb_shn (s.1 g)).toNat then (@ite _ (∃ f, zb_led (zb_shN (s.1 g)) 0 (zb_ix (zb_sha (s.1 g)) a (zb_shn (s.1 g)).toNat) (zb_ix (zb_sha (s.1 g)) b (zb_shn (s.1 g)).toNat) f) (Classical.propDecidable _) (1, some (zb_tn (zb_shn (s.1 g)) (zb_sha (s.1 g)) (zb_l0 (zb_shN (s.1 g)) (zb_ix (zb_sha (s.1 g)) a (zb_shn (s.1 g)).toNat) (zb_ix (zb_sha (s.1 g)) b (zb_shn (s.1 g)).toNat)))) (0, T)) else (-1, T)) else (v_ref s g, T)
def v_by (T : zb_Tn) (i : Int) : Int := match T with
  | none => -1
  | some t => if 0 ≤ i ∧ i < 12 then t i else -1
noncomputable def v_makers (s : zb_Gs) (K : zb_Km) (g : Int) : Int × zb_Km := if v_ref s g = 0 then ((zb_mks (zb_shN (s.1 g))).1, (zb_shn (s.1 g), zb_sha (s.1 g), zb_mks (zb_shN (s.1 g)))) else (v_ref s g, K)
def v_maker (K : zb_Km) (k i : Int) : Int := if (0 ≤ k ∧ k < K.2.2.1) ∧ 0 ≤ i ∧ i < 12 then zb_tn K.1 K.2.1 (K.2.2.2 k) i else -1
def zb_wth (t : Int → Int) (K : zb_Km) : Prop := ∀ i, 0 ≤ i → i < 12 → (t i ≠ -1 ↔ 0 ≤ zb_ix K.2.1 i K.1.toNat) ∧ (t i ≠ -1 → 0 ≤ zb_ix K.2.1 (t i) K.1.toNat)
noncomputable def v_then (T : zb_Tn) (K : zb_Km) (k : Int) : Int × zb_Tn := if 0 ≤ k ∧ k < K.2.2.1 then (match T with
  | none => (-2, none)
  | some t => @ite _ (zb_wth t K) (Classical.propDecidable _) (1, some (fun i => if t i = -1 then -1 else zb_tn K.1 K.2.1 (K.2.2.2 k) (t i))) (-2, some t)) else (-1, T)
theorem zb_shN_asc {s : zb_Gs} {g : Int} (hO : zb_OG s) (h : v_ref s g = 0) : zb_ON (zb_shN (s.1 g)) ∧ zb_asc (zb_shn (s.1 g)) 12 (zb_sha (s.1 g)) := by
  obtain ⟨⟨g0, g1⟩, -⟩ := v_ref_0 h
  have hG := hO.1 g g0 g1
  exact ⟨zb_shN_ok hG, zb_asc_up (zb_sha_asc hG) hG.2.1⟩
theorem zb_ix_N {n k : Int} {o : Int → Int} {i r : Int} (ho : zb_asc n k o) (n0 : 0 ≤ n) (h : zb_isx n o i r) : r = zb_ix o i n.toNat := by
  have h2 := zb_ix_is o i n.toNat
  rw [show ((n.toNat : Nat) : Int) = n by omega] at h2
  exact zb_isx_eq ho h h2
/-! the class -/
def zb_frW (m m1 : zb_M) : Prop := ∀ b, (b < 126 ∨ (135 < b ∧ b < 192) ∨ 355 < b) → m1 b = m b
theorem s_X11_turnings {d : Nat} {m : zb_M} {s : zb_Gs} {g : Int} (hC : zb_CG m s) (hO : zb_OG s) : zb_T K_X11_turnings (d + 22) [(2, 1), (0, g)] zb_E0 m (fun r m1 => r = v_turnings s g ∧ zb_frW m m1) := by
  apply w_X11_turnings
  unfold PM_X11_turnings
  refine (s_X11_refusal (d := d + 16) hC hO).mono (fun r m2 ⟨hr, h0, hf⟩ => ?_)
  unfold v_turnings
  refine ⟨fun c => ?_, fun c => ⟨by rw [if_neg (by rw [← hr]; exact c)]; exact hr, fun b hb => hf b (by omega)⟩⟩
  have hr0 : v_ref s g = 0 := hr.symm.trans c
  rw [if_pos hr0]
  obtain ⟨hN, hA⟩ := zb_shN_asc hO hr0
  have hn := hN.1.2
  have hn0 := hN.1.1
  have hs := h0 c
  rw [zb_v_1_2, zb_v_1_5]
  refine (s_X9_findMakers hs hN).mono (fun _ m21 ⟨hT, hF, hc, hR⟩ => ?_)
  unfold PL_X11_turnings_29
  rw [zb_v_1_2, zb_v_1_5, zb_v_192_8, hT.2.1]
  intro X hX
  refine zb_lq (fun c v => 0 ≤ v ∧ c = zb_prd (zb_chn (zb_shN (s.1 g))) v.toNat) (zb_shN (s.1 g)).1 (fun c v ⟨v0, hcv⟩ vn nxt => hX c v ⟨fun c1 => ⟨?_, fun b hb => by rw [hR b (by omega) (by omega)]; exact hf b (by omega)⟩, fun c1 => ?_⟩) 1 0 hn0 ⟨by omega, rfl⟩
  · rw [hcv, show v = zb_shn (s.1 g) by have : (zb_shN (s.1 g)).1 = zb_shn (s.1 g) := rfl; omega]
  · rw [hc v v0 (by omega), hcv, ← zb_prd_S _ v0]
    exact ⟨⟨v0, by omega⟩, zb_prd_L (by omega) (fun x _ _ => zb_chn_rng hN x), zb_inI_of (by omega) (by omega), nxt (by omega) _ ⟨by omega, rfl⟩⟩
theorem s_X11_chain {d : Nat} {m : zb_M} {s : zb_Gs} {g k : Int} (hC : zb_CG m s) (hO : zb_OG s) : zb_T K_X11_chain (d + 22) [(2, 1), (0, g), (0, k)] zb_E0 m (fun r m1 => r = v_chain s g k ∧ zb_frW m m1) := by
  apply w_X11_chain
  unfold PM_X11_chain
  refine (s_X11_refusal (d := d + 16) hC hO).mono (fun r m2 ⟨hr, h0, hf⟩ => ?_)
  unfold v_chain
  refine ⟨fun c => ?_, fun c => ⟨by rw [if_neg (by rw [← hr]; exact c)]; exact hr, fun b hb => hf b (by omega)⟩⟩
  have hr0 : v_ref s g = 0 := hr.symm.trans c
  rw [if_pos hr0]
  obtain ⟨hN, hA⟩ := zb_shN_asc hO hr0
  have hn : zb_shn (s.1 g) ≤ 12 := hN.1.2
  have hs := h0 c
  rw [zb_v_1_2, zb_v_1_5, hs.1]
  refine s_X11_isBelow.mono (fun r20 h20 => ?_)
  have h20 : r20 = if 0 ≤ k ∧ k < zb_shn (s.1 g) then 1 else 0 := h20
  rcases zb_if1 h20 with ⟨h1, h2⟩ | ⟨h1, h2⟩
  · refine ⟨fun _ => ⟨by rw [if_neg h2], fun b hb => hf b (by omega)⟩, fun z => absurd h1 z⟩
  · refine ⟨fun z => by omega, fun _ => (s_X9_findMakers hs hN).mono (fun _ m36 ⟨hT, hF, hc, hR⟩ => ⟨⟨h2.1, by omega⟩, ?_, fun b hb => by rw [hR b (by omega) (by omega)]; exact hf b (by omega)⟩)⟩
    rw [if_pos h2, zb_v_192_8]
    exact hc k h2.1 h2.2
theorem s_X11_orbit {d : Nat} {m : zb_M} {s : zb_Gs} {g a : Int} (hC : zb_CG m s) (hO : zb_OG s) : zb_T K_X11_orbit (d + 22) [(2, 1), (0, g), (0, a)] zb_E0 m (fun r m1 => r = v_orbit s g a ∧ zb_frW m m1) := by
  apply w_X11_orbit
  unfold PM_X11_orbit
  refine (s_X11_refusal (d := d + 16) hC hO).mono (fun r m2 ⟨hr, h0, hf⟩ => ?_)
  unfold v_orbit
  refine ⟨fun c => ?_, fun c => ⟨by rw [if_neg (by rw [← hr]; exact c)]; exact hr, fun b hb => hf b (by omega)⟩⟩
  have hr0 : v_ref s g = 0 := hr.symm.trans c
  rw [if_pos hr0]
  obtain ⟨hN, hA⟩ := zb_shN_asc hO hr0
  have hs := h0 c
  rw [zb_v_1_2, zb_v_1_5]
  refine (s_X6_indexOf (d := d + 19) zb_i_126 hs hA).mono (fun r17 h17 => ?_)
  have e17 : r17 = zb_ix (zb_sha (s.1 g)) a (zb_shn (s.1 g)).toNat := zb_ix_N hA hN.1.1 h17
  rw [← e17]
  refine ⟨fun q => ?_, fun q => ⟨by rw [if_neg q], fun b hb => hf b (by omega)⟩⟩
  have q1 : r17 < zb_shn (s.1 g) := (zb_ix_rng (k := 0) h17 q).1
  rw [if_pos q]
  refine (s_X9_findMakers hs hN).mono (fun _ m37 ⟨hT, hF, hc, hR⟩ => (s_X9_countReached (d := d + 20) hT hN q q1).mono (fun r46 h46 => ⟨?_, fun b hb => by rw [hR b (by omega) (by omega)]; exact hf b (by omega)⟩))
  rw [h46]
  unfold zb_orb
  refine zb_ctp_congr (fun y y0 y1 => ?_)
  rw [← zb_mks_iff hN q q1]
  exact (hF.2.2 y r17 y0 y1 q q1).trans ⟨fun h => h.sy, fun h => h.sy⟩
