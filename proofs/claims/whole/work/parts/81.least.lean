/-! ===== turnings: the least of some; what marking tells of them ===== -/
def zb_eqo (n : Int) (f g : Int → Int) : Prop := ∀ x, 0 ≤ x → x < n → f x = g x
def zb_lex (n : Int) (f g : Int → Int) : Prop := ∃ j, 0 ≤ j ∧ j < n ∧ (∀ i, 0 ≤ i → i < j → f i = g i) ∧ f j < g j
/-- f is the least of those of which P holds -/
def zb_lst (n : Int) (P : (Int → Int) → Prop) (f : Int → Int) : Prop := P f ∧ ∀ g, P g → zb_eqo n f g ∨ zb_lex n f g
theorem zb_lst_uniq {n : Int} {P : (Int → Int) → Prop} {f g : Int → Int} (a : zb_lst n P f) (b : zb_lst n P g) : zb_eqo n f g := by
  rcases a.2 g b.1 with h | ⟨j, j0, j1, h1, h2⟩
  · exact h
  · rcases b.2 f a.1 with h | ⟨i, i0, i1, h3, h4⟩
    · exact fun x x0 x1 => (h x x0 x1).symm
    · rcases Int.lt_trichotomy i j with c | c | c
      · have := h1 i i0 c; omega
      · subst c; omega
      · have := h3 j j0 c; omega
theorem zb_lst_iff {n : Int} {P P' : (Int → Int) → Prop} {f : Int → Int} (h : ∀ g, P g ↔ P' g) (a : zb_lst n P f) : zb_lst n P' f := ⟨(h f).1 a.1, fun g hg => a.2 g ((h g).2 hg)⟩
theorem zb_pm_congr {n : Int} {f g : Int → Int} (h : zb_eqo n f g) (a : zb_pm n f) : zb_pm n g := by
  refine ⟨fun p p0 p1 => ?_, fun p q p0 p1 q0 q1 e => ?_⟩
  · rw [← h p p0 p1]; exact a.1 p p0 p1
  · rw [← h p p0 p1, ← h q q0 q1] at e; exact a.2 p q p0 p1 q0 q1 e
theorem zb_aut_congr {N : zb_N} {f g : Int → Int} (h : zb_eqo N.1 f g) (a : zb_aut N f) : zb_aut N g := by
  refine ⟨zb_pm_congr h a.1, fun x x0 x1 => ?_, fun x y x0 x1 y0 y1 => ?_⟩
  · rw [← h x x0 x1]; exact a.2.1 x x0 x1
  · rw [← h x x0 x1, ← h y y0 y1]; exact a.2.2 x y x0 x1 y0 y1
theorem zb_aut_id (N : zb_N) : zb_aut N (fun x => x) := ⟨⟨fun _ h0 h1 => ⟨h0, h1⟩, fun _ _ _ _ _ _ e => e⟩, fun _ _ _ => rfl, fun _ _ _ _ _ _ => rfl⟩
theorem zb_aut_comp {N : zb_N} {f g : Int → Int} (a : zb_aut N f) (b : zb_aut N g) : zb_aut N (fun x => f (g x)) := by
  refine ⟨⟨fun x x0 x1 => ?_, fun x y x0 x1 y0 y1 e => ?_⟩, fun x x0 x1 => ?_, fun x y x0 x1 y0 y1 => ?_⟩
  · have := b.1.1 x x0 x1; exact a.1.1 _ this.1 this.2
  · have hx := b.1.1 x x0 x1
    have hy := b.1.1 y y0 y1
    exact b.1.2 x y x0 x1 y0 y1 (a.1.2 _ _ hx.1 hx.2 hy.1 hy.2 e)
  · have hx := b.1.1 x x0 x1
    exact (a.2.1 _ hx.1 hx.2).trans (b.2.1 x x0 x1)
  · have hx := b.1.1 x x0 x1
    have hy := b.1.1 y y0 y1
    exact (a.2.2 _ _ hx.1 hx.2 hy.1 hy.2).trans (b.2.2 x y x0 x1 y0 y1)
theorem zb_pm_inv {n : Int} {f : Int → Int} (h : zb_pm n f) : ∃ g, zb_pm n g ∧ (∀ x, 0 ≤ x → x < n → f (g x) = x) ∧ ∀ x, 0 ≤ x → x < n → g (f x) = x := by
  have ex : ∀ x, ∃ y, (0 ≤ x ∧ x < n) → (0 ≤ y ∧ y < n) ∧ f y = x := fun x => by
    by_cases q : 0 ≤ x ∧ x < n
    · obtain ⟨p, p0, p1, e⟩ := zb_pm_sur h q.1 q.2
      exact ⟨p, fun _ => ⟨⟨p0, p1⟩, e⟩⟩
    · exact ⟨0, fun z => absurd z q⟩
  refine ⟨fun x => Classical.choose (ex x), ⟨fun x x0 x1 => (Classical.choose_spec (ex x) ⟨x0, x1⟩).1, fun x y x0 x1 y0 y1 e => ?_⟩, fun x x0 x1 => (Classical.choose_spec (ex x) ⟨x0, x1⟩).2, fun x x0 x1 => ?_⟩
  · have e1 := (Classical.choose_spec (ex x) ⟨x0, x1⟩).2
    have e2 := (Classical.choose_spec (ex y) ⟨y0, y1⟩).2
    have e : Classical.choose (ex x) = Classical.choose (ex y) := e
    rw [e] at e1
    exact e1.symm.trans e2
  · have hf := h.1 x x0 x1
    have e1 := Classical.choose_spec (ex (f x)) hf
    exact h.2 _ x e1.1.1 e1.1.2 x0 x1 e1.2
theorem zb_aut_inv {N : zb_N} {f : Int → Int} (a : zb_aut N f) : ∃ g, zb_aut N g ∧ (∀ x, 0 ≤ x → x < N.1 → f (g x) = x) ∧ ∀ x, 0 ≤ x → x < N.1 → g (f x) = x := by
  obtain ⟨g, g1, g2, g3⟩ := zb_pm_inv a.1
  refine ⟨g, ⟨g1, fun x x0 x1 => ?_, fun x y x0 x1 y0 y1 => ?_⟩, g2, g3⟩
  · have hx := g1.1 x x0 x1
    have := a.2.1 (g x) hx.1 hx.2
    rw [g2 x x0 x1] at this
    exact this.symm
  · have hx := g1.1 x x0 x1
    have hy := g1.1 y y0 y1
    have := a.2.2 (g x) (g y) hx.1 hx.2 hy.1 hy.2
    rw [g2 x x0 x1, g2 y y0 y1] at this
    exact this.symm
/-! where heaps begin -/
theorem zb_cb_le {n : Int} {h g : Int → Int} {i j : Int} (e : ∀ w, 0 ≤ w → w < n → h w < i → g w < j) : zb_cb n h i ≤ zb_cb n g j := by
  unfold zb_cb
  rw [zb_cnt_sum, zb_cnt_sum]
  refine zb_sum_le (fun w w0 w1 => ?_)
  by_cases c : h w < i
  · rw [if_pos (by simpa using c), if_pos (by simpa using e w w0 (by omega) c)]; exact Int.le_refl _
  · rw [if_neg (by simpa using c)]; split <;> omega
theorem zb_cb_lt {n : Int} {h g : Int → Int} {i j z : Int} (e : ∀ w, 0 ≤ w → w < n → h w < i → g w < j) (z0 : 0 ≤ z) (z1 : z < n) (h1 : ¬ h z < i) (h2 : g z < j) : zb_cb n h i < zb_cb n g j := by
  unfold zb_cb
  rw [zb_cnt_sum, zb_cnt_sum]
  have := zb_sum_le (f := fun w => (if decide (h w < i) = true then 1 else 0) + (if w = z then 1 else 0)) (g := fun w => if decide (g w < j) = true then 1 else 0) (k := n.toNat) (fun w w0 w1 => by
    show (if decide (h w < i) = true then (1 : Int) else 0) + (if w = z then 1 else 0) ≤ if decide (g w < j) = true then 1 else 0
    by_cases q : w = z
    · subst q
      rw [if_neg (by simpa using h1), if_pos rfl, if_pos (by simpa using h2)]; omega
    · rw [if_neg q]
      by_cases c : h w < i
      · rw [if_pos (by simpa using c), if_pos (by simpa using e w w0 (by omega) c)]; omega
      · rw [if_neg (by simpa using c)]; split <;> omega)
  rw [zb_sum_add, zb_sum_one z 1 z0 (by omega)] at this
  omega
theorem zb_cb_pm {n : Int} {f p q : Int → Int} (hf : zb_pm n f) (e : ∀ x, 0 ≤ x → x < n → q (f x) = p x) (i : Int) : zb_cb n q i = zb_cb n p i := by
  unfold zb_cb
  rw [← zb_pm_cnt hf (fun x => decide (q x < i)), zb_cnt_sum, zb_cnt_sum]
  exact zb_sum_congr (fun x x0 x1 => by rw [e x x0 (by omega)])
theorem zb_lik_rf (n : Int) (p : zb_Pt) : zb_lik n p p := ⟨rfl, fun _ _ _ => rfl⟩
theorem zb_cb_lik {n : Int} {p q : zb_Pt} (hp : zb_gp n p) (hq : zb_gp n q) (hl : zb_lik n p q) : ∀ k : Nat, (k : Int) ≤ p.2 → zb_cb n p.1 k = zb_cb n q.1 k := by
  intro k
  induction k with
  | zero => intro _; rw [show ((0 : Nat) : Int) = 0 by rfl, zb_cb_0 (fun x x0 x1 => (hp.1 x x0 x1).1), zb_cb_0 (fun x x0 x1 => (hq.1 x x0 x1).1)]
  | succ k ih =>
    intro hk
    rw [show ((k + 1 : Nat) : Int) = (k : Int) + 1 by omega, zb_cb_S, zb_cb_S, ih (by omega), hl.2 k (by omega) (by omega)]
theorem zb_pos {n : Int} {p q : zb_Pt} (hr : zb_ref n p q) {z : Int} (z0 : 0 ≤ z) (z1 : z < n) : zb_cb n p.1 (p.1 z) ≤ zb_cb n q.1 (q.1 z) ∧ zb_cb n q.1 (q.1 z) < zb_cb n p.1 (p.1 z + 1) := by
  refine ⟨zb_cb_le (fun w w0 w1 h => hr w z w0 w1 z0 z1 h), zb_cb_lt (z := z) (fun w w0 w1 h => ?_) z0 z1 (by omega) (by omega)⟩
  by_cases c : p.1 z < p.1 w
  · have := hr z w z0 z1 w0 w1 c; omega
  · omega
theorem zb_crr_up {n : Int} {f : Int → Int} {p q p' q' : zb_Pt} (hp : zb_gp n p) (hq : zb_gp n q) (rp : zb_ref n p p') (rq : zb_ref n q q') (hl : zb_lik n p q) (hf : zb_pm n f) (hc : zb_crr n f p' q') : zb_crr n f p q := by
  refine ⟨hl.1.symm, fun z z0 z1 => ?_⟩
  have hz := hf.1 z z0 z1
  have a := zb_pos rp z0 z1
  have b := zb_pos rq hz.1 hz.2
  rw [hc.2 z z0 z1, zb_cb_pm hf hc.2] at b
  have ri := hp.1 z z0 z1
  have rj := hq.1 (f z) hz.1 hz.2
  have l : ∀ i, 0 ≤ i → i ≤ p.2 → zb_cb n p.1 i = zb_cb n q.1 i := fun i i0 i1 => by
    have := zb_cb_lik hp hq hl i.toNat (by omega)
    rw [show ((i.toNat : Nat) : Int) = i by omega] at this
    exact this
  have l1 := hl.1
  rw [l _ ri.1 (by omega), l _ (by omega) (by omega)] at a
  rcases Int.lt_trichotomy (q.1 (f z)) (p.1 z) with c | c | c
  · have : zb_cb n q.1 (q.1 (f z) + 1) ≤ zb_cb n q.1 (p.1 z) := zb_cb_le (fun w _ _ h => by omega)
    omega
  · exact c
  · have : zb_cb n q.1 (p.1 z + 1) ≤ zb_cb n q.1 (q.1 (f z)) := zb_cb_le (fun w _ _ h => by omega)
    omega
theorem zb_mrk_lt {n : Int} {p : zb_Pt} {x w : Int} (x0 : 0 ≤ x) (x1 : x < n) (w0 : 0 ≤ w) (w1 : w < n) (e : p.1 w = p.1 x) (ne : w ≠ x) : (zb_mrk n p x).1 x < (zb_mrk n p x).1 w := by
  have ha : ¬ zb_aln n p x := fun z => ne (z w w0 w1 e)
  rw [zb_mrk_n ha, zb_mk0_at x0 x1, zb_mk0_at w0 w1, if_neg (c := x ≠ x ∧ _) (fun z => z.1 rfl), if_pos ⟨ne, by omega⟩]
  omega
theorem zb_chd_pos {N : zb_N} {p : zb_Pt} {x : Int} (x0 : 0 ≤ x) (x1 : x < N.1) : zb_cb N.1 (zb_chd N p x).1 ((zb_chd N p x).1 x) = zb_cb N.1 p.1 (p.1 x) := by
  have hr := zb_chd_ref N p x
  have h1 : ∀ w, 0 ≤ w → w < N.1 → (zb_chd N p x).1 w < (zb_chd N p x).1 x → p.1 w < p.1 x := fun w w0 w1 h => by
    rcases Int.lt_trichotomy (p.1 w) (p.1 x) with c | c | c
    · exact c
    · by_cases ne : w = x
      · rw [ne] at h; omega
      · have : (zb_chd N p x).1 x < (zb_chd N p x).1 w := zb_stl_ref 13 (zb_mrk N.1 p x) x w x0 x1 w0 w1 (zb_mrk_lt x0 x1 w0 w1 c ne)
        omega
    · have := hr x w x0 x1 w0 w1 c; omega
  have a := zb_cb_le h1
  have b := zb_cb_le (h := p.1) (g := (zb_chd N p x).1) (i := p.1 x) (j := (zb_chd N p x).1 x) (fun w w0 w1 h => hr w x w0 w1 x0 x1 h)
  omega
/-- the turnings that carry p to q -/
def zb_pcy (N : zb_N) (p q : zb_Pt) (f : Int → Int) : Prop := zb_aut N f ∧ zb_crr N.1 f p q
theorem zb_pc_iff {N : zb_N} {p q : zb_Pt} {x y : Int} (hp : zb_gp N.1 p) (hq : zb_gp N.1 q) (hl : zb_lik N.1 p q) (x0 : 0 ≤ x) (x1 : x < N.1) (y0 : 0 ≤ y) (y1 : y < N.1) (e : q.1 y = p.1 x) (f : Int → Int) : zb_pcy N (zb_chd N p x) (zb_chd N q y) f ↔ zb_pcy N p q f ∧ f x = y := by
  refine ⟨fun ⟨ha, hc⟩ => ?_, fun ⟨⟨ha, hc⟩, hx⟩ => ⟨ha, by rw [← hx]; exact zb_chd_crr ha hc x0 x1⟩⟩
  have hcr := zb_crr_up hp hq (zb_chd_ref N p x) (zb_chd_ref N q y) hl ha.1 hc
  refine ⟨⟨ha, hcr⟩, ?_⟩
  have hfx := ha.1.1 x x0 x1
  have e1 := zb_chd_pos (p := q) y0 y1
  have e2 := zb_chd_pos (p := p) x0 x1
  have e3 := zb_cb_pm ha.1 hcr.2 (p.1 x)
  have e4 := zb_cb_pm ha.1 hc.2 ((zb_chd N p x).1 x)
  have e5 := hc.2 x x0 x1
  rw [e, e3, ← e2, ← e4, ← e5] at e1
  have e6 : (zb_chd N q y).1 (f x) = (zb_chd N q y).1 y := by
    rcases Int.lt_trichotomy ((zb_chd N q y).1 y) ((zb_chd N q y).1 (f x)) with c | c | c
    · have := zb_cb_lt (h := (zb_chd N q y).1) (g := (zb_chd N q y).1) (i := (zb_chd N q y).1 y) (j := (zb_chd N q y).1 (f x)) (z := y) (fun w _ _ h => by omega) y0 y1 (by omega) c
      omega
    · exact c.symm
    · have := zb_cb_lt (h := (zb_chd N q y).1) (g := (zb_chd N q y).1) (i := (zb_chd N q y).1 (f x)) (j := (zb_chd N q y).1 y) (z := f x) (fun w _ _ h => by omega) hfx.1 hfx.2 (by omega) c
      omega
  exact zb_chd_aln y0 y1 (f x) hfx.1 hfx.2 e6
theorem zb_pc_aln {N : zb_N} {p q : zb_Pt} {f g : Int → Int} (hf : zb_pcy N p q f) (hg : zb_pcy N p q g) {z : Int} (z0 : 0 ≤ z) (z1 : z < N.1) (ha : zb_aln N.1 p z) : g z = f z := by
  have hz := hf.1.1.1 z z0 z1
  have hz2 := hg.1.1.1 z z0 z1
  have hq := (zb_aln_crr hf.1.1 hf.2 z0 z1).2 ha
  exact hq (g z) hz2.1 hz2.2 ((hg.2.2 z z0 z1).trans (hf.2.2 z z0 z1).symm)
/-- the least is found at the first y that gives any -/
theorem zb_lst_step {N : zb_N} {p q : zb_Pt} {x y : Int} {f : Int → Int} (hp : zb_gp N.1 p) (hq : zb_gp N.1 q) (hl : zb_lik N.1 p q) (x0 : 0 ≤ x) (x1 : x < N.1) (y0 : 0 ≤ y) (y1 : y < N.1) (e : q.1 y = p.1 x) (ha : ∀ z, 0 ≤ z → z < x → zb_aln N.1 p z) (hno : ∀ w, 0 ≤ w → w < y → ∀ g, zb_pcy N p q g → g x ≠ w) (h : zb_lst N.1 (zb_pcy N (zb_chd N p x) (zb_chd N q y)) f) : zb_lst N.1 (zb_pcy N p q) f := by
  have hf := (zb_pc_iff hp hq hl x0 x1 y0 y1 e f).1 h.1
  refine ⟨hf.1, fun g hg => ?_⟩
  have hgx := hg.1.1.1 x x0 x1
  rcases Int.lt_trichotomy (g x) y with c | c | c
  · exact absurd rfl (hno (g x) hgx.1 c g hg)
  · exact h.2 g ((zb_pc_iff hp hq hl x0 x1 y0 y1 e g).2 ⟨hg, c⟩)
  · refine Or.inr ⟨x, x0, x1, fun i i0 i1 => (zb_pc_aln hf.1 hg i0 (by omega) (ha i i0 i1)).symm, by rw [hf.2]; exact c⟩
/-! the partings in which the first things are marked -/
noncomputable def zb_ahd (N : zb_N) : Nat → zb_Pt
  | 0 => zb_beg N
  | k + 1 => zb_chd N (zb_ahd N k) (k : Int)
theorem zb_ahd_gd (N : zb_N) : ∀ k : Nat, (k : Int) ≤ N.1 → zb_gp N.1 (zb_ahd N k) := by
  intro k
  induction k with
  | zero => intro _; exact zb_beg_gd N
  | succ k ih => intro hk; exact zb_chd_gd (ih (by omega)) (by omega) (by omega)
def zb_fix (N : zb_N) (k : Int) (f : Int → Int) : Prop := zb_aut N f ∧ ∀ z, 0 ≤ z → z < k → f z = z
theorem zb_ahd_iff (N : zb_N) (f : Int → Int) : ∀ k : Nat, (k : Int) ≤ N.1 → (zb_pcy N (zb_ahd N k) (zb_ahd N k) f ↔ zb_fix N k f) := by
  intro k
  induction k with
  | zero => intro _; exact ⟨fun h => ⟨h.1, fun z z0 z1 => by omega⟩, fun h => ⟨h.1, zb_beg_crr h.1⟩⟩
  | succ k ih =>
    intro hk
    have hg := zb_ahd_gd N k (by omega)
    rw [show zb_ahd N (k + 1) = zb_chd N (zb_ahd N k) (k : Int) from rfl, zb_pc_iff hg hg (zb_lik_rf _ _) (by omega) (by omega) (by omega) (by omega) rfl f, ih (by omega)]
    refine ⟨fun ⟨⟨a, b⟩, c⟩ => ⟨a, fun z z0 z1 => ?_⟩, fun ⟨a, b⟩ => ⟨⟨a, fun z z0 z1 => b z z0 (by omega)⟩, b k (by omega) (by omega)⟩⟩
    by_cases q : z = k
    · rw [q]; exact c
    · exact b z z0 (by omega)
/-- the turnings that leave the first k things and take x to y -/
def zb_led (N : zb_N) (k x y : Int) (f : Int → Int) : Prop := zb_fix N k f ∧ f x = y
theorem zb_led_iff {N : zb_N} {k : Nat} (hk : (k : Int) ≤ N.1) {x y : Int} (x0 : 0 ≤ x) (x1 : x < N.1) (y0 : 0 ≤ y) (y1 : y < N.1) (e : (zb_ahd N k).1 y = (zb_ahd N k).1 x) (f : Int → Int) : zb_pcy N (zb_chd N (zb_ahd N k) x) (zb_chd N (zb_ahd N k) y) f ↔ zb_led N k x y f := by
  have hg := zb_ahd_gd N k hk
  rw [zb_pc_iff hg hg (zb_lik_rf _ _) x0 x1 y0 y1 e f, zb_ahd_iff N f k hk]
  exact Iff.rfl
theorem zb_led_ne {N : zb_N} {k : Nat} (hk : (k : Int) ≤ N.1) {x y : Int} (x0 : 0 ≤ x) (x1 : x < N.1) (e : (zb_ahd N k).1 x ≠ (zb_ahd N k).1 y) (f : Int → Int) : ¬ zb_led N k x y f := by
  intro ⟨h, hx⟩
  have := ((zb_ahd_iff N f k hk).2 h).2.2 x x0 x1
  rw [hx] at this
  exact e this.symm
