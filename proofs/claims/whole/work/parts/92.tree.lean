/-! ===== the tree, in plain words ===== -/
/-- what has been found: how many leaves, how many nodes, the least row, the order of the first leaf that has it -/
abbrev zb_Wk : Type := Int × Int × (Int → Int) × (Int → Int)
def zb_rsz (n : Int) : Int := 1 + n + n * n
def zb_rw (N : zb_N) (S : Int → Int) (k : Int) : Int := if k = 0 then N.1 else if k ≤ N.1 then N.2.1 (S (k - 1)) else N.2.2 (S ((k - 1 - N.1) / N.1)) (S ((k - 1 - N.1) % N.1))
def zb_lord (n : Int) (p : zb_Pt) (i : Int) : Int := zb_ix p.1 i n.toNat
noncomputable def zb_lf1 (N : zb_N) (p : zb_Pt) (W : zb_Wk) : zb_Wk := @ite _ (W.1 = 0 ∨ zb_lex (zb_rsz N.1) (zb_rw N (zb_lord N.1 p)) W.2.2.1) (Classical.propDecidable _) (W.1 + 1, W.2.1, zb_rw N (zb_lord N.1 p), zb_lord N.1 p) (W.1 + 1, W.2.1, W.2.2)
def zb_tw (N : zb_N) (x y : Int) : Prop := N.2.1 x = N.2.1 y ∧ N.2.2 x x = N.2.2 y y ∧ N.2.2 x y = N.2.2 y x ∧ ∀ z, 0 ≤ z → z < N.1 → z ≠ x → z ≠ y → N.2.2 x z = N.2.2 y z ∧ N.2.2 z x = N.2.2 z y
def zb_flw (N : zb_N) (p : zb_Pt) (x : Int) : Prop := (∃ t, 0 ≤ t ∧ zb_isT N.1 p t ∧ p.1 x = t) ∧ ∀ y, 0 ≤ y → y < x → p.1 y = p.1 x → ¬ zb_tw N x y
noncomputable def zb_fr (N : zb_N) (p : zb_Pt) (rec : zb_Pt → zb_Wk → zb_Wk) : Nat → Int → zb_Wk → zb_Wk
  | 0, _, W => W
  | c + 1, i, W => zb_fr N p rec c (i + 1) (@ite _ (zb_flw N p i) (Classical.propDecidable _) (rec (zb_chd N p i) W) W)
noncomputable def zb_wk (N : zb_N) : Nat → zb_Pt → zb_Wk → zb_Wk
  | 0 => fun _ W => W
  | f + 1 => fun p W => if p.2 = N.1 then zb_lf1 N p (W.1, W.2.1 + 1, W.2.2) else zb_fr N p (zb_wk N f) N.1.toNat 0 (W.1, W.2.1 + 1, W.2.2)
def zb_W0w : zb_Wk := (0, 0, (fun _ => 0), fun _ => 0)
/-- what the whole tree gives -/
noncomputable def zb_nmW (N : zb_N) : zb_Wk := zb_wk N 13 (zb_beg N) zb_W0w
theorem zb_fr_y {N : zb_N} {p : zb_Pt} {rec : zb_Pt → zb_Wk → zb_Wk} {c : Nat} {i : Int} {W : zb_Wk} (h : zb_flw N p i) : zb_fr N p rec (c + 1) i W = zb_fr N p rec c (i + 1) (rec (zb_chd N p i) W) := by
  show zb_fr N p rec c (i + 1) (@ite _ (zb_flw N p i) (Classical.propDecidable _) (rec (zb_chd N p i) W) W) = _
  rw [if_pos h]
theorem zb_fr_n {N : zb_N} {p : zb_Pt} {rec : zb_Pt → zb_Wk → zb_Wk} {c : Nat} {i : Int} {W : zb_Wk} (h : ¬ zb_flw N p i) : zb_fr N p rec (c + 1) i W = zb_fr N p rec c (i + 1) W := by
  show zb_fr N p rec c (i + 1) (@ite _ (zb_flw N p i) (Classical.propDecidable _) (rec (zb_chd N p i) W) W) = _
  rw [if_neg h]
theorem zb_lf1_1 (N : zb_N) (p : zb_Pt) (W : zb_Wk) : (zb_lf1 N p W).1 = W.1 + 1 ∧ (zb_lf1 N p W).2.1 = W.2.1 := by
  unfold zb_lf1
  by_cases q : W.1 = 0 ∨ zb_lex (zb_rsz N.1) (zb_rw N (zb_lord N.1 p)) W.2.2.1
  · rw [if_pos q]; exact ⟨rfl, rfl⟩
  · rw [if_neg q]; exact ⟨rfl, rfl⟩
theorem zb_fr_mono {N : zb_N} {p : zb_Pt} {rec : zb_Pt → zb_Wk → zb_Wk} (h : ∀ q W, W.1 ≤ (rec q W).1) : ∀ (c : Nat) (i : Int) (W : zb_Wk), W.1 ≤ (zb_fr N p rec c i W).1 := by
  intro c
  induction c with
  | zero => intro i W; exact Int.le_refl _
  | succ c ih =>
    intro i W
    by_cases q : zb_flw N p i
    · rw [zb_fr_y q]; exact Int.le_trans (h _ W) (ih (i + 1) _)
    · rw [zb_fr_n q]; exact ih (i + 1) W
theorem zb_wk_mono (N : zb_N) : ∀ (f : Nat) (p : zb_Pt) (W : zb_Wk), W.1 ≤ (zb_wk N f p W).1 := by
  intro f
  induction f with
  | zero => intro p W; exact Int.le_refl _
  | succ f ih =>
    intro p W
    show W.1 ≤ (if p.2 = N.1 then zb_lf1 N p (W.1, W.2.1 + 1, W.2.2) else zb_fr N p (zb_wk N f) N.1.toNat 0 (W.1, W.2.1 + 1, W.2.2)).1
    by_cases q : p.2 = N.1
    · rw [if_pos q, (zb_lf1_1 N p _).1]; show W.1 ≤ W.1 + 1; omega
    · rw [if_neg q]; exact zb_fr_mono ih N.1.toNat 0 (W.1, W.2.1 + 1, W.2.2)
theorem zb_isT_uniq {n : Int} {p : zb_Pt} {t u : Int} (a : zb_isT n p t) (b : zb_isT n p u) : t = u := by
  rcases a with ⟨a1, a2⟩ | ⟨a1, a2, a3, a4⟩
  · rcases b with ⟨b1, b2⟩ | ⟨b1, b2, b3, b4⟩
    · omega
    · have := a2 u b1 b2; omega
  · rcases b with ⟨b1, b2⟩ | ⟨b1, b2, b3, b4⟩
    · have := b2 t a1 a2; omega
    · rcases Int.lt_trichotomy t u with c | c | c
      · have := b4 t a1 c; omega
      · exact c
      · have := a4 u b1 c; omega
theorem zb_isT_ex {n : Int} {p : zb_Pt} (n0 : 0 ≤ n) (hp : zb_gp n p) (h : p.2 ≠ n) : ∃ t, 0 ≤ t ∧ zb_isT n p t := by
  have key : ∀ k : Nat, (k : Int) ≤ p.2 → (∃ t, 0 ≤ t ∧ zb_isT n p t) ∨ ∀ i : Int, 0 ≤ i → i < k → zb_sz n p.1 i ≤ 1 := by
    intro k
    induction k with
    | zero => intro _; exact Or.inr (fun i i0 i1 => by omega)
    | succ k ih =>
      intro hk
      rcases ih (by omega) with h | h
      · exact Or.inl h
      · by_cases q : zb_sz n p.1 k ≤ 1
        · refine Or.inr (fun i i0 i1 => ?_)
          by_cases c : i = k
          · rw [c]; exact q
          · exact h i i0 (by omega)
        · exact Or.inl ⟨k, by omega, Or.inr ⟨by omega, by omega, by omega, h⟩⟩
  have hk0 := hp.2.2.1
  rcases key p.2.toNat (by omega) with h1 | h1
  · exact h1
  · have cbk : ∀ k : Nat, (k : Int) ≤ p.2 → zb_cb n p.1 k ≤ k := by
      intro k
      induction k with
      | zero => intro _; rw [show ((0 : Nat) : Int) = 0 by rfl, zb_cb_0 (fun x x0 x1 => (hp.1 x x0 x1).1)]; exact Int.le_refl _
      | succ k ih =>
        intro hk
        rw [show ((k + 1 : Nat) : Int) = (k : Int) + 1 by omega, zb_cb_S]
        have a := ih (by omega)
        have b := h1 k (by omega) (by omega)
        omega
    have e := cbk p.2.toNat (by omega)
    rw [show ((p.2.toNat : Nat) : Int) = p.2 by omega, zb_cb_n n0 (fun x x0 x1 => (hp.1 x x0 x1).2)] at e
    have := zb_gd_le hp n0
    omega
theorem zb_flw_ex {N : zb_N} {p : zb_Pt} (n0 : 0 ≤ N.1) (hp : zb_gp N.1 p) (h : p.2 ≠ N.1) : ∃ x, 0 ≤ x ∧ x < N.1 ∧ zb_flw N p x := by
  obtain ⟨t, t0, ht⟩ := zb_isT_ex n0 hp h
  have t1 : t < p.2 := by
    rcases ht with ⟨h1, -⟩ | ⟨-, h2, -⟩
    · omega
    · exact h2
  obtain ⟨x, x0, x1, hx⟩ := hp.2.1 t t0 t1
  have key : ∀ (k : Nat) (x : Int), 0 ≤ x → x ≤ k → x < N.1 → p.1 x = t → ∃ x, 0 ≤ x ∧ x < N.1 ∧ zb_flw N p x := by
    intro k
    induction k with
    | zero => intro x x0 xk x1 hx; exact ⟨x, x0, x1, ⟨t, t0, ht, hx⟩, fun y y0 y1 => by omega⟩
    | succ k ih =>
      intro x x0 xk x1 hx
      by_cases q : ∃ y, 0 ≤ y ∧ y < x ∧ p.1 y = t
      · obtain ⟨y, y0, y1, hy⟩ := q
        exact ih y y0 (by omega) (by omega) hy
      · exact ⟨x, x0, x1, ⟨t, t0, ht, hx⟩, fun y y0 y1 e => absurd ⟨y, y0, y1, e.trans hx⟩ q⟩
  exact key x.toNat x x0 (by omega) x1 hx
theorem zb_flw_na {N : zb_N} {p : zb_Pt} {x : Int} (x0 : 0 ≤ x) (x1 : x < N.1) (h : zb_flw N p x) : ¬ zb_aln N.1 p x := by
  obtain ⟨⟨t, t0, ht, hx⟩, -⟩ := h
  intro ha
  have := (zb_sz_aln x0 x1).2 ha
  rcases ht with ⟨h1, -⟩ | ⟨-, -, h3, -⟩
  · omega
  · rw [hx] at this; omega
/-- few nodes for each leaf, and one leaf at least -/
theorem zb_wk_nb (N : zb_N) (hN : zb_ON N) : ∀ (f : Nat) (p : zb_Pt) (W : zb_Wk) (d : Int), zb_gp N.1 p → N.1 - p.2 < f → 0 ≤ d → d + (N.1 - p.2) ≤ 12 → W.2.1 ≤ 13 * W.1 + d → (zb_wk N f p W).2.1 ≤ 13 * (zb_wk N f p W).1 ∧ W.1 + 1 ≤ (zb_wk N f p W).1 := by
  intro f
  induction f with
  | zero => intro p W d hp hf; have := zb_gd_le hp hN.1.1; omega
  | succ f ih =>
    intro p W d hp hf d0 hd hW
    have hk := zb_gd_le hp hN.1.1
    show (if p.2 = N.1 then zb_lf1 N p (W.1, W.2.1 + 1, W.2.2) else zb_fr N p (zb_wk N f) N.1.toNat 0 (W.1, W.2.1 + 1, W.2.2)).2.1 ≤ 13 * (if p.2 = N.1 then zb_lf1 N p (W.1, W.2.1 + 1, W.2.2) else zb_fr N p (zb_wk N f) N.1.toNat 0 (W.1, W.2.1 + 1, W.2.2)).1 ∧ W.1 + 1 ≤ (if p.2 = N.1 then zb_lf1 N p (W.1, W.2.1 + 1, W.2.2) else zb_fr N p (zb_wk N f) N.1.toNat 0 (W.1, W.2.1 + 1, W.2.2)).1
    by_cases q : p.2 = N.1
    · rw [if_pos q]
      obtain ⟨a, b⟩ := zb_lf1_1 N p (W.1, W.2.1 + 1, W.2.2)
      rw [a, b]
      show W.2.1 + 1 ≤ 13 * (W.1 + 1) ∧ W.1 + 1 ≤ W.1 + 1
      omega
    · rw [if_neg q]
      have fold : ∀ (c : Nat) (i : Int) (V : zb_Wk), 0 ≤ i → i + c ≤ N.1 → ((V.2.1 ≤ 13 * V.1 ∧ W.1 + 1 ≤ V.1) ∨ (V.2.1 ≤ 13 * V.1 + (d + 1) ∧ W.1 ≤ V.1 ∧ ∃ x, i ≤ x ∧ x < i + c ∧ zb_flw N p x)) → (zb_fr N p (zb_wk N f) c i V).2.1 ≤ 13 * (zb_fr N p (zb_wk N f) c i V).1 ∧ W.1 + 1 ≤ (zb_fr N p (zb_wk N f) c i V).1 := by
        intro c
        induction c with
        | zero =>
          intro i V i0 ic h
          rcases h with h | ⟨-, -, x, x0, x1, -⟩
          · exact h
          · omega
        | succ c ihc =>
          intro i V i0 ic h
          by_cases w : zb_flw N p i
          · rw [zb_fr_y w]
            have hx1 : i < N.1 := by omega
            have hgc := zb_chd_gd hp i0 hx1
            have hkc := zb_chd_k hp i0 hx1 (zb_flw_na i0 hx1 w)
            have a := ih (zb_chd N p i) V (d + 1) hgc (by omega) (by omega) (by omega) (by rcases h with ⟨h1, h2⟩ | ⟨h1, h2, h3⟩ <;> omega)
            refine ihc (i + 1) _ (by omega) (by omega) (Or.inl ⟨a.1, ?_⟩)
            rcases h with ⟨h1, h2⟩ | ⟨h1, h2, h3⟩ <;> omega
          · rw [zb_fr_n w]
            refine ihc (i + 1) V (by omega) (by omega) ?_
            rcases h with h | ⟨h1, h2, x, x0, x1, h3⟩
            · exact Or.inl h
            · refine Or.inr ⟨h1, h2, x, ?_, by omega, h3⟩
              by_cases e : x = i
              · rw [e] at h3; exact absurd h3 w
              · omega
      obtain ⟨x, x0, x1, hx⟩ := zb_flw_ex hN.1.1 hp q
      refine fold N.1.toNat 0 (W.1, W.2.1 + 1, W.2.2) (Int.le_refl _) (by have := hN.1.1; omega) (Or.inr ⟨?_, Int.le_refl _, x, x0, by omega, hx⟩)
      show W.2.1 + 1 ≤ 13 * W.1 + (d + 1)
      omega
/-! rows -/
theorem zb_nn {n : Int} (h0 : 0 ≤ n) (h1 : n ≤ 12) : 0 ≤ n * n ∧ n * n ≤ 144 := ⟨Int.mul_nonneg h0 h0, Int.mul_le_mul h1 h1 h0 (by omega)⟩
theorem zb_dm {n p q : Int} (h0 : 0 < n) (q0 : 0 ≤ q) (q1 : q < n) : (p * n + q) / n = p ∧ (p * n + q) % n = q := (Int.ediv_emod_unique h0).2 ⟨by rw [Int.mul_comm]; omega, q0, q1⟩
theorem zb_pq {n p q : Int} (p0 : 0 ≤ p) (p1 : p < n) (q0 : 0 ≤ q) (q1 : q < n) : 0 ≤ p * n ∧ p * n + q < n * n := by
  have a := Int.mul_le_mul_of_nonneg_right (show p + 1 ≤ n by omega) (show 0 ≤ n by omega)
  rw [Int.add_mul] at a
  exact ⟨Int.mul_nonneg p0 (by omega), by omega⟩
theorem zb_dm_rng {n j : Int} (h0 : 0 < n) (j0 : 0 ≤ j) (j1 : j < n * n) : (0 ≤ j / n ∧ j / n < n) ∧ (0 ≤ j % n ∧ j % n < n) ∧ j / n * n + j % n = j := by
  refine ⟨⟨Int.ediv_nonneg j0 (by omega), Int.ediv_lt_of_lt_mul h0 j1⟩, ⟨Int.emod_nonneg j (by omega), Int.emod_lt_of_pos j h0⟩, ?_⟩
  have := Int.emod_add_mul_ediv j n
  rw [Int.mul_comm] at this
  omega
theorem zb_rw_congr {N : zb_N} {S T : Int → Int} (h0 : 0 ≤ N.1) (h : zb_eqo N.1 S T) {k : Int} (k0 : 0 ≤ k) (k1 : k < zb_rsz N.1) : zb_rw N S k = zb_rw N T k := by
  unfold zb_rsz at k1
  unfold zb_rw
  by_cases q : k = 0
  · rw [if_pos q, if_pos q]
  · rw [if_neg q, if_neg q]
    by_cases q2 : k ≤ N.1
    · rw [if_pos q2, if_pos q2, h (k - 1) (by omega) (by omega)]
    · rw [if_neg q2, if_neg q2]
      have hn : 0 < N.1 := by
        by_cases c : N.1 = 0
        · rw [c] at k1 q2; omega
        · omega
      obtain ⟨a, b, -⟩ := zb_dm_rng hn (show 0 ≤ k - 1 - N.1 by omega) (by omega)
      rw [h _ a.1 a.2, h _ b.1 b.2]
/-- in a leaf, the things by heaps -/
theorem zb_lord_ok {n : Int} {p : zb_Pt} {S : Int → Int} (n0 : 0 ≤ n) (hp : zb_gp n p) (e : p.2 = n) (hS : zb_pm n S) (hs : ∀ x y, 0 ≤ x → x < y → y < n → p.1 (S x) ≤ p.1 (S y)) : zb_eqo n S (zb_lord n p) := by
  intro i i0 i1
  have h1 := zb_full_pos n0 hp e hS hs i0 i1
  have h2 := zb_ix_is p.1 i n.toNat
  rw [show ((n.toNat : Nat) : Int) = n by omega] at h2
  have hSi := hS.1 i i0 i1
  show S i = zb_ix p.1 i n.toNat
  rcases h2 with ⟨-, h3⟩ | ⟨h3, h4, h5⟩
  · exact absurd h1 (h3 (S i) hSi.1 hSi.2)
  · exact (zb_gd_full hp e).2 _ _ hSi.1 hSi.2 h3 h4 (h1.trans h5.symm)
theorem zb_lord_hit {n : Int} {p : zb_Pt} (hp : zb_gp n p) (e : p.2 = n) {x : Int} (x0 : 0 ≤ x) (x1 : x < n) : zb_lord n p (p.1 x) = x := by
  have h2 := zb_ix_is p.1 (p.1 x) n.toNat
  rw [show ((n.toNat : Nat) : Int) = n by omega] at h2
  show zb_ix p.1 (p.1 x) n.toNat = x
  rcases h2 with ⟨-, h3⟩ | ⟨h3, h4, h5⟩
  · exact absurd rfl (h3 x x0 x1)
  · exact (zb_gd_full hp e).2 _ _ h3 h4 x0 x1 h5
theorem zb_lord_rng {n : Int} {p : zb_Pt} (hp : zb_gp n p) (e : p.2 = n) {i : Int} (i0 : 0 ≤ i) (i1 : i < n) : (0 ≤ zb_lord n p i ∧ zb_lord n p i < n) ∧ p.1 (zb_lord n p i) = i := by
  obtain ⟨x, x0, x1, hx⟩ := hp.2.1 i i0 (by omega)
  rw [← hx, zb_lord_hit hp e x0 x1]
  exact ⟨⟨x0, x1⟩, rfl⟩
theorem zb_lex_congr {n : Int} {f g f' g' : Int → Int} (h1 : zb_eqo n f f') (h2 : zb_eqo n g g') (h : zb_lex n f g) : zb_lex n f' g' := by
  obtain ⟨j, j0, j1, h3, h4⟩ := h
  refine ⟨j, j0, j1, fun i i0 i1 => ?_, ?_⟩
  · rw [← h1 i i0 (by omega), ← h2 i i0 (by omega)]; exact h3 i i0 i1
  · rw [← h1 j j0 j1, ← h2 j j0 j1]; exact h4
