/-! ===== nets that are the same but for numbers have one name ===== -/
def zb_iso (N M : zb_N) (f : Int → Int) : Prop := M.1 = N.1 ∧ zb_pm N.1 f ∧ (∀ x, 0 ≤ x → x < N.1 → M.2.1 (f x) = N.2.1 x) ∧ ∀ x y, 0 ≤ x → x < N.1 → 0 ≤ y → y < N.1 → M.2.2 (f x) (f y) = N.2.2 x y
theorem zb_sg_iso {N M : zb_N} {f : Int → Int} {p q : zb_Pt} (hf : zb_iso N M f) (hc : zb_crr N.1 f p q) {x : Int} (x0 : 0 ≤ x) (x1 : x < N.1) (j : Int) : zb_sg M q.1 q.2 (f x) j = zb_sg N p.1 p.2 x j := by
  unfold zb_sg
  rw [hf.1, ← zb_pm_sum hf.2.1]
  refine zb_sum_congr (fun y y0 y1 => ?_)
  show zb_sw1 M q.1 q.2 (f x) j (f y) = zb_sw1 N p.1 p.2 x j y
  unfold zb_sw1
  rw [hc.1, hc.2 y y0 (by omega), hf.2.2.2 x y x0 x1 y0 (by omega), hf.2.2.2 y x y0 (by omega) x0 x1]
theorem zb_step_iso {N M : zb_N} {f : Int → Int} {p q : zb_Pt} (hf : zb_iso N M f) (hc : zb_crr N.1 f p q) : zb_crr N.1 f (zb_step N p) (zb_step M q) := by
  unfold zb_step
  rw [hf.1]
  refine zb_rank_crr hf.2.1 hc.2 (fun x x0 x1 => ?_)
  unfold zb_Kv
  rw [hc.1]
  refine zb_P_congr (fun i i0 i1 => ?_)
  have := zb_sg_iso hf hc x0 x1 i
  rw [hc.1] at this
  exact this
theorem zb_stl_iso {N M : zb_N} {f : Int → Int} (hf : zb_iso N M f) : ∀ (u : Nat) {p q : zb_Pt}, zb_crr N.1 f p q → zb_crr N.1 f (zb_stl N u p) (zb_stl M u q) := by
  intro u
  induction u with
  | zero => intro p q h; exact h
  | succ u ih =>
    intro p q h
    have hs := zb_step_iso hf h
    show zb_crr N.1 f (if p.2 < (zb_step N p).2 then zb_stl N u (zb_step N p) else zb_step N p) (if q.2 < (zb_step M q).2 then zb_stl M u (zb_step M q) else zb_step M q)
    rw [hs.1, h.1]
    split
    · exact ih hs
    · exact hs
theorem zb_beg_iso {N M : zb_N} {f : Int → Int} (hf : zb_iso N M f) : zb_crr N.1 f (zb_beg N) (zb_beg M) := by
  refine zb_stl_iso hf 13 ?_
  unfold zb_st0
  rw [hf.1]
  exact zb_rank_crr hf.2.1 (fun _ _ _ => rfl) hf.2.2.1
theorem zb_chd_iso {N M : zb_N} {f : Int → Int} {p q : zb_Pt} (hf : zb_iso N M f) (hc : zb_crr N.1 f p q) {x : Int} (x0 : 0 ≤ x) (x1 : x < N.1) : zb_crr N.1 f (zb_chd N p x) (zb_chd M q (f x)) := by
  refine zb_stl_iso hf 13 ?_
  rw [hf.1]
  exact zb_mrk_crr hf.2.1 hc x0 x1
theorem zb_sz_iso {n : Int} {f : Int → Int} {p q : zb_Pt} (hf : zb_pm n f) (hc : zb_crr n f p q) (i : Int) : zb_sz n q.1 i = zb_sz n p.1 i := by
  unfold zb_sz
  rw [← zb_pm_cnt hf, zb_cnt_sum, zb_cnt_sum]
  refine zb_sum_congr (fun x x0 x1 => ?_)
  show (if (q.1 (f x) == i) = true then (1 : Int) else 0) = _
  rw [hc.2 x x0 (by omega)]
theorem zb_isT_iso {n : Int} {f : Int → Int} {p q : zb_Pt} (hf : zb_pm n f) (hc : zb_crr n f p q) {t : Int} (h : zb_isT n p t) : zb_isT n q t := by
  rcases h with ⟨a, b⟩ | ⟨a, b, c, e⟩
  · exact Or.inl ⟨a, fun i i0 i1 => by rw [zb_sz_iso hf hc]; exact b i i0 (by rw [← hc.1]; exact i1)⟩
  · exact Or.inr ⟨a, by rw [hc.1]; exact b, by rw [zb_sz_iso hf hc]; exact c, fun i i0 i1 => by rw [zb_sz_iso hf hc]; exact e i i0 i1⟩
/-- the rows of all leaves, of twins too -/
def zb_Lf (N : zb_N) : Nat → zb_Pt → (Int → Int) → Prop
  | 0, _, _ => False
  | u + 1, p, r => (p.2 = N.1 ∧ zb_eqo (zb_rsz N.1) (zb_rw N (zb_lord N.1 p)) r) ∨ (p.2 ≠ N.1 ∧ ∃ x, (0 ≤ x ∧ x < N.1) ∧ (∃ t, 0 ≤ t ∧ zb_isT N.1 p t ∧ p.1 x = t) ∧ zb_Lf N u (zb_chd N p x) r)
theorem zb_iso_pq {N M : zb_N} {f : Int → Int} (h : zb_iso N M f) : M.1 = N.1 := h.1
theorem zb_rw_iso {N M : zb_N} {f S T : Int → Int} (hf : zb_iso N M f) (h0 : 0 ≤ N.1) (hS : ∀ i, 0 ≤ i → i < N.1 → 0 ≤ S i ∧ S i < N.1) (hT : ∀ i, 0 ≤ i → i < N.1 → T i = f (S i)) {k : Int} (k0 : 0 ≤ k) (k1 : k < zb_rsz N.1) : zb_rw M T k = zb_rw N S k := by
  unfold zb_rsz at k1
  unfold zb_rw
  rw [hf.1]
  by_cases q : k = 0
  · rw [if_pos q, if_pos q]
  · rw [if_neg q, if_neg q]
    by_cases q2 : k ≤ N.1
    · rw [if_pos q2, if_pos q2, hT (k - 1) (by omega) (by omega)]
      have a := hS (k - 1) (by omega) (by omega)
      exact hf.2.2.1 _ a.1 a.2
    · rw [if_neg q2, if_neg q2]
      have hn : 0 < N.1 := by
        by_cases c : N.1 = 0
        · rw [c] at k1 q2; omega
        · omega
      obtain ⟨a, b, -⟩ := zb_dm_rng hn (show 0 ≤ k - 1 - N.1 by omega) (by omega)
      rw [hT _ a.1 a.2, hT _ b.1 b.2]
      have c := hS _ a.1 a.2
      have d := hS _ b.1 b.2
      exact hf.2.2.2 _ _ c.1 c.2 d.1 d.2
theorem zb_Lf_iso {N M : zb_N} {f : Int → Int} (hf : zb_iso N M f) (h0 : 0 ≤ N.1) {r : Int → Int} : ∀ (u : Nat) {p q : zb_Pt}, zb_gp N.1 p → zb_gp M.1 q → zb_crr N.1 f p q → zb_Lf N u p r → zb_Lf M u q r := by
  intro u
  induction u with
  | zero => intro p q _ _ _ h; exact h
  | succ u ih =>
    intro p q hp hq hc h
    rcases h with ⟨e, h⟩ | ⟨e, x, ⟨x0, x1⟩, ⟨t, t0, ht, ex⟩, h⟩
    · have e2 : q.2 = M.1 := by rw [hc.1, hf.1]; exact e
      refine Or.inl ⟨e2, fun k k0 k1 => ?_⟩
      rw [hf.1] at k1
      rw [← h k k0 k1]
      refine zb_rw_iso hf h0 (fun i i0 i1 => (zb_lord_rng hp e i0 i1).1) (fun i i0 i1 => ?_) k0 k1
      obtain ⟨⟨a, b⟩, c⟩ := zb_lord_rng hp e i0 i1
      have r := hf.2.1.1 _ a b
      have w := zb_lord_hit hq e2 r.1 (by rw [hf.1]; exact r.2)
      rw [hc.2 _ a b, c] at w
      exact w
    · have r := hf.2.1.1 x x0 x1
      refine Or.inr ⟨by rw [hc.1, hf.1]; exact e, f x, ⟨r.1, by rw [hf.1]; exact r.2⟩, ⟨t, t0, by rw [hf.1]; exact zb_isT_iso hf.2.1 hc ht, by rw [hc.2 x x0 x1]; exact ex⟩, ?_⟩
      exact ih (zb_chd_gd hp x0 x1) (zb_chd_gd hq r.1 (by rw [hf.1]; exact r.2)) (zb_chd_iso hf hc x0 x1) h
/-! rows by size -/
def zb_le (n : Int) (f g : Int → Int) : Prop := zb_eqo n f g ∨ zb_lex n f g
theorem zb_le_tri (n : Int) (n0 : 0 ≤ n) (f g : Int → Int) : zb_eqo n f g ∨ zb_lex n f g ∨ zb_lex n g f := by
  have h := zb_fdi_ok f g n.toNat
  rw [show ((n.toNat : Nat) : Int) = n by omega] at h
  rcases h with ⟨-, h⟩ | ⟨a, b, c, e⟩
  · exact Or.inl h
  · by_cases q : f (zb_fdi f g n.toNat) < g (zb_fdi f g n.toNat)
    · exact Or.inr (Or.inl ⟨_, a, b, c, q⟩)
    · exact Or.inr (Or.inr ⟨_, a, b, fun i i0 i1 => (c i i0 i1).symm, by omega⟩)
theorem zb_lex_tr {n : Int} {f g h : Int → Int} (a : zb_lex n f g) (b : zb_lex n g h) : zb_lex n f h := by
  obtain ⟨i, i0, i1, i2, i3⟩ := a
  obtain ⟨j, j0, j1, j2, j3⟩ := b
  rcases Int.lt_trichotomy i j with c | c | c
  · exact ⟨i, i0, i1, fun k k0 k1 => (i2 k k0 k1).trans (j2 k k0 (by omega)), by rw [← j2 i i0 c]; exact i3⟩
  · subst c; exact ⟨i, i0, i1, fun k k0 k1 => (i2 k k0 k1).trans (j2 k k0 k1), Int.lt_trans i3 j3⟩
  · exact ⟨j, j0, j1, fun k k0 k1 => (i2 k k0 (by omega)).trans (j2 k k0 k1), by rw [i2 j j0 c]; exact j3⟩
theorem zb_lex_ir {n : Int} {f g : Int → Int} (a : zb_lex n f g) (b : zb_le n g f) : False := by
  obtain ⟨i, i0, i1, i2, i3⟩ := a
  rcases b with b | ⟨j, j0, j1, j2, j3⟩
  · have := b i i0 i1; omega
  · rcases Int.lt_trichotomy i j with c | c | c
    · have := j2 i i0 c; omega
    · subst c; omega
    · have := i2 j j0 c; omega
theorem zb_eqo.sy {n : Int} {f g : Int → Int} (a : zb_eqo n f g) : zb_eqo n g f := fun x x0 x1 => (a x x0 x1).symm
theorem zb_eqo.tr {n : Int} {f g h : Int → Int} (a : zb_eqo n f g) (b : zb_eqo n g h) : zb_eqo n f h := fun x x0 x1 => (a x x0 x1).trans (b x x0 x1)
theorem zb_eqo.rf (n : Int) (f : Int → Int) : zb_eqo n f f := fun _ _ _ => rfl
theorem zb_le.tr {n : Int} {f g h : Int → Int} (a : zb_le n f g) (b : zb_le n g h) : zb_le n f h := by
  rcases a with a | a
  · rcases b with b | b
    · exact Or.inl (a.tr b)
    · exact Or.inr (zb_lex_congr a.sy (zb_eqo.rf _ _) b)
  · rcases b with b | b
    · exact Or.inr (zb_lex_congr (zb_eqo.rf _ _) b a)
    · exact Or.inr (zb_lex_tr a b)
theorem zb_le_an {n : Int} {f g : Int → Int} (a : zb_le n f g) (b : zb_le n g f) : zb_eqo n f g := by
  rcases a with a | a
  · exact a
  · exact (zb_lex_ir a b).elim
theorem zb_le_of_not {n : Int} (n0 : 0 ≤ n) {f g : Int → Int} (h : ¬ zb_lex n f g) : zb_le n g f := by
  rcases zb_le_tri n n0 f g with a | a | a
  · exact Or.inl a.sy
  · exact absurd a h
  · exact Or.inr a
/-! twins -/
def zb_swp (x y : Int) (i : Int) : Int := if i = x then y else if i = y then x else i
theorem zb_swp_tw {N : zb_N} {x y : Int} (x0 : 0 ≤ x) (x1 : x < N.1) (y0 : 0 ≤ y) (y1 : y < N.1) (h : zb_tw N x y) : zb_iso N N (zb_swp x y) := by
  obtain ⟨a, b, c, e⟩ := h
  have rg : ∀ i, 0 ≤ i → i < N.1 → 0 ≤ zb_swp x y i ∧ zb_swp x y i < N.1 := by
    intro i i0 i1
    unfold zb_swp
    repeat' split
    all_goals omega
  refine ⟨rfl, ⟨rg, fun i j i0 i1 j0 j1 w => ?_⟩, fun i i0 i1 => ?_, fun i j i0 i1 j0 j1 => ?_⟩
  · unfold zb_swp at w
    repeat' split at w
    all_goals omega
  · unfold zb_swp
    by_cases q : i = x
    · rw [if_pos q, q]; exact a.symm
    · rw [if_neg q]
      by_cases q2 : i = y
      · rw [if_pos q2, q2]; exact a
      · rw [if_neg q2]
  · unfold zb_swp
    by_cases q : i = x
    · rw [if_pos q]
      by_cases r : j = x
      · rw [if_pos r, q, r]; exact b.symm
      · rw [if_neg r]
        by_cases r2 : j = y
        · rw [if_pos r2, q, r2]; exact c.symm
        · rw [if_neg r2, q]; exact (e j j0 j1 r r2).1.symm
    · rw [if_neg q]
      by_cases q2 : i = y
      · rw [if_pos q2]
        by_cases r : j = x
        · rw [if_pos r, q2, r]; exact c
        · rw [if_neg r]
          by_cases r2 : j = y
          · rw [if_pos r2, q2, r2]; exact b
          · rw [if_neg r2, q2]; exact (e j j0 j1 r r2).1
      · rw [if_neg q2]
        by_cases r : j = x
        · rw [if_pos r, r]; exact (e i i0 i1 q q2).2.symm
        · rw [if_neg r]
          by_cases r2 : j = y
          · rw [if_pos r2, r2]; exact (e i i0 i1 q q2).2
          · rw [if_neg r2]
theorem zb_swp_crr {n x y : Int} {p : zb_Pt} (e : p.1 x = p.1 y) : zb_crr n (zb_swp x y) p p := by
  refine ⟨rfl, fun i _ _ => ?_⟩
  unfold zb_swp
  by_cases q : i = x
  · rw [if_pos q, q]; exact e.symm
  · rw [if_neg q]
    by_cases q2 : i = y
    · rw [if_pos q2, q2]; exact e
    · rw [if_neg q2]
/-- of what is not followed, an earlier one that is followed has the rows -/
theorem zb_flw_of {N : zb_N} {p : zb_Pt} {u : Nat} (hp : zb_gp N.1 p) (h0 : 0 ≤ N.1) {r : Int → Int} : ∀ (k : Nat) (x : Int), 0 ≤ x → x ≤ k → x < N.1 → (∃ t, 0 ≤ t ∧ zb_isT N.1 p t ∧ p.1 x = t) → zb_Lf N u (zb_chd N p x) r → ∃ y, 0 ≤ y ∧ y < N.1 ∧ zb_flw N p y ∧ zb_Lf N u (zb_chd N p y) r := by
  intro k
  induction k with
  | zero => intro x x0 xk x1 hx hl; exact ⟨x, x0, x1, ⟨hx, fun y y0 y1 => by omega⟩, hl⟩
  | succ k ih =>
    intro x x0 xk x1 hx hl
    by_cases q : ∃ y, (0 ≤ y ∧ y < x) ∧ p.1 y = p.1 x ∧ zb_tw N x y
    · obtain ⟨y, ⟨y0, y1⟩, e, ht⟩ := q
      have hi := zb_swp_tw x0 x1 y0 (by omega) ht
      refine ih y y0 (by omega) (by omega) (by rw [e]; exact hx) ?_
      have hc := zb_chd_iso hi (zb_swp_crr e.symm : zb_crr N.1 (zb_swp x y) p p) x0 x1
      have ex : zb_swp x y x = y := by unfold zb_swp; rw [if_pos rfl]
      rw [ex] at hc
      exact zb_Lf_iso hi h0 u (zb_chd_gd hp x0 x1) (zb_chd_gd hp y0 (by omega)) hc hl
    · exact ⟨x, x0, x1, ⟨hx, fun y y0 y1 e ht => q ⟨y, ⟨y0, y1⟩, e, ht⟩⟩, hl⟩
