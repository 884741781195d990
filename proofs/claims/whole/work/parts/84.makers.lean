/-! ===== makers: what they lead to ===== -/
/-- how many; what each does -/
abbrev zb_Mk : Type := Int × (Int → Int → Int)
/-- makers lead from x to y -/
def zb_cn (n : Int) (M : zb_Mk) (x y : Int) : Prop := ∀ R : Int → Int → Prop, (∀ z, R z z) → (∀ a b, R a b → R b a) → (∀ a b c, R a b → R b c → R a c) → (∀ k z, 0 ≤ k → k < M.1 → 0 ≤ z → z < n → R z (M.2 k z)) → R x y
theorem zb_cn.rf {n : Int} {M : zb_Mk} (x : Int) : zb_cn n M x x := fun R r _ _ _ => r x
theorem zb_cn.sy {n : Int} {M : zb_Mk} {x y : Int} (h : zb_cn n M x y) : zb_cn n M y x := fun R r s t g => s _ _ (h R r s t g)
theorem zb_cn.tr {n : Int} {M : zb_Mk} {x y z : Int} (h : zb_cn n M x y) (h' : zb_cn n M y z) : zb_cn n M x z := fun R r s t g => t _ _ _ (h R r s t g) (h' R r s t g)
theorem zb_cn.gn {n : Int} {M : zb_Mk} {k z : Int} (k0 : 0 ≤ k) (k1 : k < M.1) (z0 : 0 ≤ z) (z1 : z < n) : zb_cn n M z (M.2 k z) := fun R _ _ _ g => g k z k0 k1 z0 z1
theorem zb_cn.of {n : Int} {M : zb_Mk} {x y : Int} (h : zb_cn n M x y) (f : Int → Int) (hf : ∀ k z, 0 ≤ k → k < M.1 → 0 ≤ z → z < n → f z = f (M.2 k z)) : f x = f y := h (fun a b => f a = f b) (fun _ => rfl) (fun _ _ e => e.symm) (fun _ _ _ e e' => e.trans e') hf
def zb_msub (n : Int) (M M' : zb_Mk) : Prop := M.1 ≤ M'.1 ∧ ∀ k z, 0 ≤ k → k < M.1 → 0 ≤ z → z < n → M'.2 k z = M.2 k z
theorem zb_msub.rf (n : Int) (M : zb_Mk) : zb_msub n M M := ⟨Int.le_refl _, fun _ _ _ _ _ _ => rfl⟩
theorem zb_msub.tr {n : Int} {M M' M'' : zb_Mk} (a : zb_msub n M M') (b : zb_msub n M' M'') : zb_msub n M M'' := ⟨Int.le_trans a.1 b.1, fun k z k0 k1 z0 z1 => (b.2 k z k0 (by have := a.1; omega) z0 z1).trans (a.2 k z k0 k1 z0 z1)⟩
theorem zb_cn.up {n : Int} {M M' : zb_Mk} {x y : Int} (h : zb_cn n M x y) (s : zb_msub n M M') : zb_cn n M' x y := fun R r sy t g => h R r sy t (fun k z k0 k1 z0 z1 => by
  rw [← s.2 k z k0 k1 z0 z1]
  exact g k z k0 (by have := s.1; omega) z0 z1)
/-- how many numbers below n there are of which P holds -/
noncomputable def zb_ctp (n : Int) (P : Int → Prop) : Int := zb_sum (fun y => @ite Int (P y) (Classical.propDecidable _) 1 0) n.toNat
theorem zb_ctp_congr {n : Int} {P Q : Int → Prop} (h : ∀ y, 0 ≤ y → y < n → (P y ↔ Q y)) : zb_ctp n P = zb_ctp n Q := by
  unfold zb_ctp
  refine zb_sum_congr (fun y y0 y1 => ?_)
  by_cases q : P y
  · rw [if_pos q, if_pos ((h y y0 (by omega)).1 q)]
  · rw [if_neg q, if_neg (fun z => q ((h y y0 (by omega)).2 z))]
theorem zb_ctp_rng {n : Int} (h0 : 0 ≤ n) (P : Int → Prop) : 0 ≤ zb_ctp n P ∧ zb_ctp n P ≤ n := by
  have := zb_sums_rng (f := fun y => @ite Int (P y) (Classical.propDecidable _) 1 0) (c := 1) (fun y => by
    show 0 ≤ @ite Int (P y) (Classical.propDecidable _) 1 0 ∧ @ite Int (P y) (Classical.propDecidable _) 1 0 ≤ 1
    by_cases q : P y
    · rw [if_pos q]; omega
    · rw [if_neg q]; omega) n.toNat
  unfold zb_ctp
  omega
/-- fewer, where P gives Q and some z has Q alone -/
theorem zb_ctp_lt {n : Int} {P Q : Int → Prop} {z : Int} (h : ∀ y, 0 ≤ y → y < n → P y → Q y) (z0 : 0 ≤ z) (z1 : z < n) (h1 : ¬ P z) (h2 : Q z) : zb_ctp n P + 1 ≤ zb_ctp n Q := by
  unfold zb_ctp
  have := zb_sum_le (f := fun y => (@ite Int (P y) (Classical.propDecidable _) 1 0) + (if y = z then 1 else 0)) (g := fun y => @ite Int (Q y) (Classical.propDecidable _) 1 0) (k := n.toNat) (fun y y0 y1 => by
    show (@ite Int (P y) (Classical.propDecidable _) 1 0) + (if y = z then 1 else 0) ≤ @ite Int (Q y) (Classical.propDecidable _) 1 0
    by_cases q : y = z
    · subst q
      rw [if_neg h1, if_pos rfl, if_pos h2]; omega
    · rw [if_neg q]
      by_cases c : P y
      · rw [if_pos c, if_pos (h y y0 (by omega) c)]; omega
      · rw [if_neg c]
        by_cases c2 : Q y
        · rw [if_pos c2]; omega
        · rw [if_neg c2]; omega)
  rw [zb_sum_add, zb_sum_one z 1 z0 (by omega)] at this
  omega
/-! the least turning, where there is one -/
theorem zb_first_diff {f g : Int → Int} : ∀ n : Nat, (∀ x : Int, 0 ≤ x → x < n → f x = g x) ∨ ∃ j : Int, 0 ≤ j ∧ j < n ∧ (∀ i, 0 ≤ i → i < j → f i = g i) ∧ f j ≠ g j := by
  intro n
  induction n with
  | zero => exact Or.inl (fun x x0 x1 => by omega)
  | succ n ih =>
    rcases ih with h | ⟨j, j0, j1, h1, h2⟩
    · by_cases q : f n = g n
      · refine Or.inl (fun x x0 x1 => ?_)
        by_cases c : x = n
        · rw [c]; exact q
        · exact h x x0 (by omega)
      · exact Or.inr ⟨n, by omega, by omega, fun i i0 i1 => h i i0 i1, q⟩
    · exact Or.inr ⟨j, j0, by omega, h1, h2⟩
theorem zb_lst_ex {n : Int} {P : (Int → Int) → Prop} (h0 : 0 ≤ n) (n1 : n ≤ 12) (hP : ∀ f, P f → ∀ x, 0 ≤ x → x < n → 0 ≤ f x ∧ f x < n) (hex : ∃ f, P f) : ∃ f, zb_lst n P f := by
  have key : ∀ (k : Nat) (f : Int → Int), P f → zb_P 16 f n.toNat ≤ k → ∃ f, zb_lst n P f := by
    intro k
    induction k with
    | zero =>
      intro f hf hk
      refine ⟨f, hf, fun g hg => ?_⟩
      rcases zb_first_diff (f := f) (g := g) n.toNat with h | ⟨j, j0, j1, h1, h2⟩
      · exact Or.inl (fun x x0 x1 => h x x0 (by omega))
      · refine Or.inr ⟨j, j0, by omega, h1, ?_⟩
        rcases Int.lt_trichotomy (f j) (g j) with c | c | c
        · exact c
        · exact absurd c h2
        · have a := zb_P_lt (B := 16) j0 (fun i i0 i1 => (h1 i i0 i1).symm) c j1 (fun i i0 i1 => by have := hP g hg i i0 (by omega); omega) (fun i i0 i1 => by have := hP f hf i i0 (by omega); omega)
          have b := (zb_P_rng (B := 16) (f := g) (by omega) (w := n.toNat) (fun i i0 i1 => by have := hP g hg i i0 (by omega); omega)).1
          omega
    | succ k ih =>
      intro f hf hk
      by_cases q : ∃ g, P g ∧ zb_P 16 g n.toNat ≤ k
      · obtain ⟨g, hg, hgk⟩ := q
        exact ih g hg hgk
      · refine ⟨f, hf, fun g hg => ?_⟩
        rcases zb_first_diff (f := f) (g := g) n.toNat with h | ⟨j, j0, j1, h1, h2⟩
        · exact Or.inl (fun x x0 x1 => h x x0 (by omega))
        · refine Or.inr ⟨j, j0, by omega, h1, ?_⟩
          rcases Int.lt_trichotomy (f j) (g j) with c | c | c
          · exact c
          · exact absurd c h2
          · have a := zb_P_lt (B := 16) j0 (fun i i0 i1 => (h1 i i0 i1).symm) c j1 (fun i i0 i1 => by have := hP g hg i i0 (by omega); omega) (fun i i0 i1 => by have := hP f hf i i0 (by omega); omega)
            exact absurd ⟨g, hg, by omega⟩ q
  obtain ⟨f, hf⟩ := hex
  have b := (zb_P_rng (B := 16) (f := f) (by omega) (w := n.toNat) (fun i i0 i1 => by have := hP f hf i i0 (by omega); omega)).1
  exact key (zb_P 16 f n.toNat).toNat f hf (by omega)
theorem zb_led_lst {N : zb_N} (hN : zb_ON N) {k x y : Int} (h : ∃ f, zb_led N k x y f) : ∃ f, zb_lst N.1 (zb_led N k x y) f := zb_lst_ex hN.1.1 hN.1.2 (fun f hf => hf.1.1.1.1) h
noncomputable def zb_lf (N : zb_N) (x y : Int) : Int → Int := @dite _ (∃ f, zb_lst N.1 (zb_led N x x y) f) (Classical.propDecidable _) (fun h => Classical.choose h) (fun _ => fun z => z)
theorem zb_lf_ok {N : zb_N} {x y : Int} (h : ∃ f, zb_lst N.1 (zb_led N x x y) f) : zb_lst N.1 (zb_led N x x y) (zb_lf N x y) := by
  unfold zb_lf
  rw [dif_pos h]
  exact Classical.choose_spec h
/-- the next maker, if there is one -/
noncomputable def zb_mst (N : zb_N) (M : zb_Mk) (x y : Int) : zb_Mk := @ite _ (¬ zb_cn N.1 M x y ∧ ∃ f, zb_led N x x y f) (Classical.propDecidable _) (M.1 + 1, fun k => if k = M.1 then zb_lf N x y else M.2 k) M
theorem zb_mst_y {N : zb_N} {M : zb_Mk} {x y : Int} (h1 : ¬ zb_cn N.1 M x y) (h2 : ∃ f, zb_led N x x y f) : zb_mst N M x y = (M.1 + 1, fun k => if k = M.1 then zb_lf N x y else M.2 k) := by unfold zb_mst; rw [if_pos ⟨h1, h2⟩]
theorem zb_mst_n {N : zb_N} {M : zb_Mk} {x y : Int} (h : zb_cn N.1 M x y ∨ ∀ f, ¬ zb_led N x x y f) : zb_mst N M x y = M := by
  unfold zb_mst
  rw [if_neg (fun z => by
    rcases h with h | h
    · exact z.1 h
    · obtain ⟨f, hf⟩ := z.2
      exact h f hf)]
noncomputable def zb_my (N : zb_N) (M : zb_Mk) (x : Int) : Nat → zb_Mk
  | 0 => M
  | j + 1 => zb_mst N (zb_my N M x j) x (x + 1 + (j : Int))
noncomputable def zb_mkx (N : zb_N) : Nat → zb_Mk
  | 0 => (0, fun _ z => z)
  | t + 1 => zb_my N (zb_mkx N t) (N.1 - 1 - (t : Int)) t
noncomputable def zb_mks (N : zb_N) : zb_Mk := zb_mkx N N.1.toNat
/-- parts that makers lead within -/
noncomputable def zb_cls (n : Int) (M : zb_Mk) : Int := zb_ctp n (fun z => ∀ y, 0 ≤ y → y < z → ¬ zb_cn n M z y)
theorem zb_cls_min {n : Int} {M : zb_Mk} : ∀ (k : Nat) (x : Int), 0 ≤ x → x ≤ k → x < n → ∃ a, 0 ≤ a ∧ a ≤ x ∧ zb_cn n M x a ∧ ∀ y, 0 ≤ y → y < a → ¬ zb_cn n M a y := by
  intro k
  induction k with
  | zero => intro x x0 xk x1; exact ⟨x, x0, Int.le_refl _, zb_cn.rf x, fun y y0 y1 => by omega⟩
  | succ k ih =>
    intro x x0 xk x1
    by_cases q : ∃ y, 0 ≤ y ∧ y < x ∧ zb_cn n M x y
    · obtain ⟨y, y0, y1, h⟩ := q
      obtain ⟨a, a0, a1, a2, a3⟩ := ih y y0 (by omega) (by omega)
      exact ⟨a, a0, by omega, h.tr a2, a3⟩
    · exact ⟨x, x0, Int.le_refl _, zb_cn.rf x, fun y y0 y1 h => q ⟨y, y0, y1, h⟩⟩
theorem zb_cls_lt {n : Int} {M M' : zb_Mk} (s : zb_msub n M M') {x y : Int} (x0 : 0 ≤ x) (x1 : x < n) (y0 : 0 ≤ y) (y1 : y < n) (h1 : ¬ zb_cn n M x y) (h2 : zb_cn n M' x y) : zb_cls n M' + 1 ≤ zb_cls n M := by
  obtain ⟨a, a0, a1, a2, a3⟩ := zb_cls_min (M := M) x.toNat x x0 (by omega) x1
  obtain ⟨b, b0, b1, b2, b3⟩ := zb_cls_min (M := M) y.toNat y y0 (by omega) y1
  have hab : zb_cn n M' a b := ((a2.up s).sy.tr h2).tr (b2.up s)
  rcases Int.lt_trichotomy a b with c | c | c
  · exact zb_ctp_lt (z := b) (fun w w0 w1 h u u0 u1 hc => h u u0 u1 (hc.up s)) b0 (by omega) (fun h => h a a0 c hab.sy) b3
  · subst c; exact absurd (a2.tr b2.sy) h1
  · exact zb_ctp_lt (z := a) (fun w w0 w1 h u u0 u1 hc => h u u0 u1 (hc.up s)) a0 (by omega) (fun h => h b b0 c hab) a3
theorem zb_cls_pos {n : Int} {M : zb_Mk} (h : 0 < n) : 1 ≤ zb_cls n M := by
  have := zb_ctp_lt (n := n) (P := fun _ => False) (Q := fun z => ∀ y, 0 ≤ y → y < z → ¬ zb_cn n M z y) (z := 0) (fun _ _ _ z => z.elim) (Int.le_refl _) h (fun z => z) (fun y y0 y1 => by omega)
  have := (zb_ctp_rng (n := n) (by omega) (fun _ => False)).1
  unfold zb_cls
  omega
/-- makers leave the first k things; there are few -/
def zb_MI (N : zb_N) (k : Int) (M : zb_Mk) : Prop := (∀ j, 0 ≤ j → j < M.1 → zb_fix N k (M.2 j)) ∧ 0 ≤ M.1 ∧ M.1 + zb_cls N.1 M ≤ N.1
theorem zb_fix_le {N : zb_N} {k l : Int} {f : Int → Int} (h : zb_fix N k f) (c : l ≤ k) : zb_fix N l f := ⟨h.1, fun z z0 z1 => h.2 z z0 (by omega)⟩
theorem zb_MI_le {N : zb_N} {k l : Int} {M : zb_Mk} (h : zb_MI N k M) (c : l ≤ k) : zb_MI N l M := ⟨fun j j0 j1 => zb_fix_le (h.1 j j0 j1) c, h.2⟩
theorem zb_mst_sub (N : zb_N) (M : zb_Mk) (x y : Int) : zb_msub N.1 M (zb_mst N M x y) := by
  by_cases q : ¬ zb_cn N.1 M x y ∧ ∃ f, zb_led N x x y f
  · rw [zb_mst_y q.1 q.2]
    refine ⟨by show M.1 ≤ M.1 + 1; omega, fun k z k0 k1 _ _ => ?_⟩
    show (if k = M.1 then zb_lf N x y else M.2 k) z = _
    rw [if_neg (by omega)]
  · have : zb_mst N M x y = M := by unfold zb_mst; rw [if_neg q]
    rw [this]; exact zb_msub.rf _ _
theorem zb_mst_cn {N : zb_N} (hN : zb_ON N) {M : zb_Mk} {x y : Int} (x0 : 0 ≤ x) (x1 : x < N.1) (hM : 0 ≤ M.1) (h : ∃ f, zb_led N x x y f) : zb_cn N.1 (zb_mst N M x y) x y := by
  by_cases q : zb_cn N.1 M x y
  · exact q.up (zb_mst_sub N M x y)
  · rw [zb_mst_y q h]
    have hl := (zb_lf_ok (zb_led_lst hN h)).1
    have := zb_cn.gn (n := N.1) (M := (M.1 + 1, fun k => if k = M.1 then zb_lf N x y else M.2 k)) (k := M.1) (z := x) hM (by show M.1 < M.1 + 1; omega) x0 x1
    have e : (if M.1 = M.1 then zb_lf N x y else M.2 M.1) x = y := by rw [if_pos rfl]; exact hl.2
    have this : zb_cn N.1 _ x ((if M.1 = M.1 then zb_lf N x y else M.2 M.1) x) := this
    rw [e] at this
    exact this
theorem zb_mst_MI {N : zb_N} (hN : zb_ON N) {M : zb_Mk} {x y : Int} (x0 : 0 ≤ x) (x1 : x < N.1) (y0 : 0 ≤ y) (y1 : y < N.1) (h : zb_MI N x M) : zb_MI N x (zb_mst N M x y) := by
  by_cases q : ¬ zb_cn N.1 M x y ∧ ∃ f, zb_led N x x y f
  · have hs := zb_mst_sub N M x y
    have hc := zb_mst_cn hN (y := y) x0 x1 h.2.1 q.2
    have hlt := zb_cls_lt hs x0 x1 y0 y1 q.1 hc
    rw [zb_mst_y q.1 q.2] at hlt ⊢
    have hl := (zb_lf_ok (zb_led_lst hN q.2)).1
    refine ⟨fun j j0 j1 => ?_, by show 0 ≤ M.1 + 1; have := h.2.1; omega, by show M.1 + 1 + _ ≤ N.1; have := h.2.2; omega⟩
    show zb_fix N x (if j = M.1 then zb_lf N x y else M.2 j)
    by_cases c : j = M.1
    · rw [if_pos c]; exact hl.1
    · rw [if_neg c]; exact h.1 j j0 (by have j1 : j < M.1 + 1 := j1; omega)
  · have : zb_mst N M x y = M := by unfold zb_mst; rw [if_neg q]
    rw [this]; exact h
theorem zb_my_sub (N : zb_N) (M : zb_Mk) (x : Int) : ∀ j : Nat, zb_msub N.1 M (zb_my N M x j) := by
  intro j
  induction j with
  | zero => exact zb_msub.rf _ _
  | succ j ih => exact ih.tr (zb_mst_sub N _ x _)
theorem zb_my_MI {N : zb_N} (hN : zb_ON N) {M : zb_Mk} {x : Int} (x0 : 0 ≤ x) (x1 : x < N.1) (h : zb_MI N x M) : ∀ j : Nat, x + 1 + (j : Int) ≤ N.1 → zb_MI N x (zb_my N M x j) := by
  intro j
  induction j with
  | zero => intro _; exact h
  | succ j ih => intro hj; exact zb_mst_MI hN x0 x1 (by omega) (by omega) (ih (by omega))
theorem zb_my_cn {N : zb_N} (hN : zb_ON N) {M : zb_Mk} {x : Int} (x0 : 0 ≤ x) (x1 : x < N.1) (h : zb_MI N x M) : ∀ j : Nat, x + 1 + (j : Int) ≤ N.1 → ∀ y, x ≤ y → y < x + 1 + (j : Int) → (∃ f, zb_led N x x y f) → zb_cn N.1 (zb_my N M x j) x y := by
  intro j
  induction j with
  | zero => intro _ y y0 y1 _; rw [show y = x by omega]; exact zb_cn.rf x
  | succ j ih =>
    intro hj y y0 y1 hy
    by_cases q : y = x + 1 + (j : Int)
    · rw [q] at hy ⊢
      exact zb_mst_cn hN x0 x1 (zb_my_MI hN x0 x1 h j (by omega)).2.1 hy
    · exact (ih (by omega) y y0 (by omega) hy).up (zb_mst_sub N _ x _)
theorem zb_mx_0 (N : zb_N) (hN : zb_ON N) : zb_MI N N.1 (zb_mkx N 0) := by
  refine ⟨fun j j0 j1 => by have j1 : j < 0 := j1; omega, Int.le_refl _, ?_⟩
  have := (zb_ctp_rng hN.1.1 (fun z => ∀ y, 0 ≤ y → y < z → ¬ zb_cn N.1 (zb_mkx N 0) z y)).2
  show 0 + zb_cls N.1 (zb_mkx N 0) ≤ N.1
  unfold zb_cls
  omega
theorem zb_mx_MI {N : zb_N} (hN : zb_ON N) : ∀ t : Nat, (t : Int) ≤ N.1 → zb_MI N (N.1 - t) (zb_mkx N t) := by
  intro t
  induction t with
  | zero => intro _; rw [show N.1 - ((0 : Nat) : Int) = N.1 by omega]; exact zb_mx_0 N hN
  | succ t ih =>
    intro ht
    rw [show N.1 - ((t + 1 : Nat) : Int) = N.1 - 1 - (t : Int) by omega]
    exact zb_my_MI hN (by omega) (by omega) (zb_MI_le (ih (by omega)) (by omega)) t (by omega)
/-- what makers lead to, a turning leads to -/
theorem zb_cn_led {N : zb_N} {k : Int} {M : zb_Mk} (hk : k ≤ N.1) (hM : zb_MI N k M) {x y : Int} (h : zb_cn N.1 M x y) (x0 : 0 ≤ x) (x1 : x < N.1) : ∃ g, zb_fix N k g ∧ g x = y ∧ ∀ z, 0 ≤ z → z < N.1 → zb_cn N.1 M z (g z) := by
  have key := h (fun a b => (0 ≤ a ∧ a < N.1 → (0 ≤ b ∧ b < N.1) ∧ ∃ g, zb_fix N k g ∧ g a = b ∧ ∀ z, 0 ≤ z → z < N.1 → zb_cn N.1 M z (g z)) ∧ (0 ≤ b ∧ b < N.1 → (0 ≤ a ∧ a < N.1) ∧ ∃ g, zb_fix N k g ∧ g b = a ∧ ∀ z, 0 ≤ z → z < N.1 → zb_cn N.1 M z (g z))) (fun z => ⟨fun hz => ⟨hz, fun u => u, ⟨zb_aut_id N, fun _ _ _ => rfl⟩, rfl, fun u _ _ => zb_cn.rf u⟩, fun hz => ⟨hz, fun u => u, ⟨zb_aut_id N, fun _ _ _ => rfl⟩, rfl, fun u _ _ => zb_cn.rf u⟩⟩) (fun a b hab => ⟨hab.2, hab.1⟩) ?_ ?_
  · exact (key.1 ⟨x0, x1⟩).2
  · have tr : ∀ a b c : Int, (0 ≤ a ∧ a < N.1 → (0 ≤ b ∧ b < N.1) ∧ ∃ g, zb_fix N k g ∧ g a = b ∧ ∀ z, 0 ≤ z → z < N.1 → zb_cn N.1 M z (g z)) → (0 ≤ b ∧ b < N.1 → (0 ≤ c ∧ c < N.1) ∧ ∃ g, zb_fix N k g ∧ g b = c ∧ ∀ z, 0 ≤ z → z < N.1 → zb_cn N.1 M z (g z)) → (0 ≤ a ∧ a < N.1 → (0 ≤ c ∧ c < N.1) ∧ ∃ g, zb_fix N k g ∧ g a = c ∧ ∀ z, 0 ≤ z → z < N.1 → zb_cn N.1 M z (g z)) := by
      intro a b c h1 h2 ha
      obtain ⟨hb, g, g1, g2, g3⟩ := h1 ha
      obtain ⟨hc, f, f1, f2, f3⟩ := h2 hb
      refine ⟨hc, fun z => f (g z), ⟨zb_aut_comp f1.1 g1.1, fun z z0 z1 => ?_⟩, by show f (g a) = c; rw [g2]; exact f2, fun z z0 z1 => ?_⟩
      · show f (g z) = z
        rw [g1.2 z z0 z1]; exact f1.2 z z0 z1
      · have := g1.1.1.1 z z0 z1
        exact (g3 z z0 z1).tr (f3 (g z) this.1 this.2)
    exact fun a b c h1 h2 => ⟨tr a b c h1.1 h2.1, tr c b a h2.2 h1.2⟩
  · intro j z j0 j1 z0 z1
    have hf := hM.1 j j0 j1
    have hr := hf.1.1.1 z z0 z1
    refine ⟨fun _ => ⟨hr, M.2 j, hf, rfl, fun u u0 u1 => zb_cn.gn j0 j1 u0 u1⟩, fun _ => ⟨⟨z0, z1⟩, ?_⟩⟩
    obtain ⟨g, g1, g2, g3⟩ := zb_aut_inv hf.1
    refine ⟨g, ⟨g1, fun u u0 u1 => ?_⟩, g3 z z0 z1, fun u u0 u1 => ?_⟩
    · have := g3 u u0 (by omega)
      rw [hf.2 u u0 u1] at this
      exact this
    · have hu := g1.1.1 u u0 u1
      have := zb_cn.gn (n := N.1) (M := M) j0 j1 hu.1 hu.2
      rw [g2 u u0 u1] at this
      exact this.sy
