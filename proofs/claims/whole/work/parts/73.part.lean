/-! ===== partings: split till they can't be, marked, carried by turnings ===== -/
/-- of each thing its heap; how many heaps -/
abbrev zb_Pt : Type := (Int → Int) × Int
def zb_gp (n : Int) (p : zb_Pt) : Prop := (∀ x, 0 ≤ x → x < n → 0 ≤ p.1 x ∧ p.1 x < p.2) ∧ (∀ i, 0 ≤ i → i < p.2 → ∃ x, 0 ≤ x ∧ x < n ∧ p.1 x = i) ∧ 0 ≤ p.2 ∧ ∀ x, ¬ (0 ≤ x ∧ x < n) → p.1 x = 0
theorem zb_rank_gd (n : Int) (h K : Int → Int) : zb_gp n (zb_rank n h K) := by
  obtain ⟨a, b, c⟩ := zb_rank_ok n h K
  exact ⟨a.1, a.2.1, b, c⟩
noncomputable def zb_st0 (N : zb_N) : zb_Pt := zb_rank N.1 (fun _ => 0) N.2.1
noncomputable def zb_step (N : zb_N) (p : zb_Pt) : zb_Pt := zb_rank N.1 p.1 (zb_Kv N p.1 p.2)
noncomputable def zb_stl (N : zb_N) : Nat → zb_Pt → zb_Pt
  | 0, p => p
  | f + 1, p => if p.2 < (zb_step N p).2 then zb_stl N f (zb_step N p) else zb_step N p
noncomputable def zb_stt (N : zb_N) (p : zb_Pt) : zb_Pt := zb_stl N 13 p
/-- x is alone in its heap -/
def zb_aln (n : Int) (p : zb_Pt) (x : Int) : Prop := ∀ y, 0 ≤ y → y < n → p.1 y = p.1 x → y = x
def zb_mk0 (n : Int) (p : zb_Pt) (x : Int) : zb_Pt := (fun y => if 0 ≤ y ∧ y < n then (if y ≠ x ∧ p.1 x ≤ p.1 y then p.1 y + 1 else p.1 y) else 0, p.2 + 1)
noncomputable def zb_mrk (n : Int) (p : zb_Pt) (x : Int) : zb_Pt := @ite _ (zb_aln n p x) (Classical.propDecidable _) p (zb_mk0 n p x)
noncomputable def zb_beg (N : zb_N) : zb_Pt := zb_stt N (zb_st0 N)
noncomputable def zb_chd (N : zb_N) (p : zb_Pt) (x : Int) : zb_Pt := zb_stt N (zb_mrk N.1 p x)
theorem zb_mrk_a {n : Int} {p : zb_Pt} {x : Int} (h : zb_aln n p x) : zb_mrk n p x = p := by
  unfold zb_mrk; rw [if_pos h]
theorem zb_mrk_n {n : Int} {p : zb_Pt} {x : Int} (h : ¬ zb_aln n p x) : zb_mrk n p x = zb_mk0 n p x := by
  unfold zb_mrk; rw [if_neg h]
/-- q parts further what p parts, in the same order -/
def zb_ref (n : Int) (p q : zb_Pt) : Prop := ∀ x y, 0 ≤ x → x < n → 0 ≤ y → y < n → p.1 x < p.1 y → q.1 x < q.1 y
theorem zb_ref.rf (n : Int) (p : zb_Pt) : zb_ref n p p := fun _ _ _ _ _ _ h => h
theorem zb_ref.tr {n : Int} {p q r : zb_Pt} (a : zb_ref n p q) (b : zb_ref n q r) : zb_ref n p r := fun x y x0 x1 y0 y1 h => b x y x0 x1 y0 y1 (a x y x0 x1 y0 y1 h)
theorem zb_ref_k {n : Int} {p q : zb_Pt} (hp : zb_gp n p) (hq : zb_gp n q) (hr : zb_ref n p q) : p.2 ≤ q.2 := by
  have key : ∀ i : Nat, (i : Int) < p.2 → ∃ x, 0 ≤ x ∧ x < n ∧ p.1 x = i ∧ (i : Int) ≤ q.1 x := by
    intro i
    induction i with
    | zero =>
      intro hi
      obtain ⟨x, x0, x1, e⟩ := hp.2.1 0 (by omega) (by omega)
      exact ⟨x, x0, x1, by omega, by have := (hq.1 x x0 x1).1; omega⟩
    | succ i ih =>
      intro hi
      obtain ⟨y, y0, y1, e1, e2⟩ := ih (by omega)
      obtain ⟨x, x0, x1, e⟩ := hp.2.1 ((i : Int) + 1) (by omega) (by omega)
      have := hr y x y0 y1 x0 x1 (by omega)
      exact ⟨x, x0, x1, by omega, by omega⟩
  by_cases c : p.2 ≤ 0
  · have := hq.2.2.1; omega
  · obtain ⟨x, x0, x1, -, e⟩ := key (p.2 - 1).toNat (by omega)
    have := (hq.1 x x0 x1).2
    omega
theorem zb_ref_aln {n : Int} {p q : zb_Pt} (hr : zb_ref n p q) {x : Int} (x0 : 0 ≤ x) (x1 : x < n) (h : zb_aln n p x) : zb_aln n q x := by
  intro y y0 y1 e
  refine h y y0 y1 ?_
  have a := hr x y x0 x1 y0 y1
  have b := hr y x y0 y1 x0 x1
  rcases Int.lt_trichotomy (p.1 x) (p.1 y) with c | c | c
  · have := a c; omega
  · exact c.symm
  · have := b c; omega
theorem zb_gd_le {n : Int} {p : zb_Pt} (h : zb_gp n p) (n0 : 0 ≤ n) : p.2 ≤ n := by
  have e1 : zb_sum (fun _ => 1) p.2.toNat ≤ zb_sum (fun i => zb_sum (fun x => if i = p.1 x then 1 else 0) n.toNat) p.2.toNat := by
    refine zb_sum_le (fun i i0 i1 => ?_)
    obtain ⟨x, x0, x1, e⟩ := h.2.1 i i0 (by omega)
    have := zb_sum_le (f := fun y => if y = x then 1 else 0) (g := fun y => if i = p.1 y then 1 else 0) (k := n.toNat) (fun y y0 y1 => by
      by_cases q : y = x
      · rw [if_pos q, q, if_pos e.symm]; exact Int.le_refl _
      · rw [if_neg q]; split <;> omega)
    rw [zb_sum_one x 1 x0 (by omega)] at this
    exact this
  rw [zb_sum_comm, show zb_sum (fun x => zb_sum (fun i => if i = p.1 x then 1 else 0) p.2.toNat) n.toNat = zb_sum (fun _ => 1) n.toNat from zb_sum_congr (fun x x0 x1 => by
    have := h.1 x x0 (by omega)
    exact zb_sum_one (p.1 x) 1 this.1 (by omega)), zb_sum_const, zb_sum_const] at e1
  have := h.2.2.1
  omega
theorem zb_gd_full {n : Int} {p : zb_Pt} (h : zb_gp n p) (e : p.2 = n) : zb_pm n p.1 := zb_sur_pm (fun x x0 x1 => by have := h.1 x x0 x1; omega) (fun i i0 i1 => h.2.1 i i0 (by omega))
theorem zb_gd_aln {n : Int} {p : zb_Pt} (h : zb_gp n p) (e : p.2 = n) {x : Int} (x0 : 0 ≤ x) (x1 : x < n) : zb_aln n p x := fun y y0 y1 he => (zb_gd_full h e).2 y x y0 y1 x0 x1 he
theorem zb_step_gd (N : zb_N) (p : zb_Pt) : zb_gp N.1 (zb_step N p) := zb_rank_gd _ _ _
theorem zb_step_ref (N : zb_N) (p : zb_Pt) : zb_ref N.1 p (zb_step N p) := fun x y x0 x1 y0 y1 h => ((zb_rank_ok N.1 p.1 (zb_Kv N p.1 p.2)).1.2.2 x y x0 x1 y0 y1).2 (Or.inl h)
theorem zb_step_full {N : zb_N} {p : zb_Pt} (h : zb_gp N.1 p) (e : p.2 = N.1) : zb_step N p = p := by
  refine zb_rank_same ⟨h.1, h.2.1, fun x y x0 x1 y0 y1 => ⟨fun z => Or.inl z, fun z => ?_⟩⟩ h.2.2.1 h.2.2.2
  rcases z with z | ⟨z1, z2⟩
  · exact z
  · have := zb_gd_aln h e y0 y1 x x0 x1 z1
    subst this
    omega
theorem zb_stl_full {N : zb_N} {p : zb_Pt} (h : zb_gp N.1 p) (e : p.2 = N.1) (f : Nat) : zb_stl N f p = p := by
  cases f with
  | zero => rfl
  | succ f =>
    show (if p.2 < (zb_step N p).2 then _ else zb_step N p) = p
    rw [zb_step_full h e, if_neg (by omega)]
theorem zb_stl_gd {N : zb_N} : ∀ (f : Nat) {p : zb_Pt}, zb_gp N.1 p → zb_gp N.1 (zb_stl N f p) := by
  intro f
  induction f with
  | zero => intro p h; exact h
  | succ f ih =>
    intro p h
    show zb_gp N.1 (if p.2 < (zb_step N p).2 then zb_stl N f (zb_step N p) else zb_step N p)
    split
    · exact ih (zb_step_gd N p)
    · exact zb_step_gd N p
theorem zb_stl_ref {N : zb_N} : ∀ (f : Nat) (p : zb_Pt), zb_ref N.1 p (zb_stl N f p) := by
  intro f
  induction f with
  | zero => intro p; exact zb_ref.rf _ _
  | succ f ih =>
    intro p
    show zb_ref N.1 p (if p.2 < (zb_step N p).2 then zb_stl N f (zb_step N p) else zb_step N p)
    split
    · exact (zb_step_ref N p).tr (ih _)
    · exact zb_step_ref N p
theorem zb_mk0_ref (n : Int) (p : zb_Pt) (x : Int) : zb_ref n p (zb_mk0 n p x) := by
  intro a b a0 a1 b0 b1 h
  show (if 0 ≤ a ∧ a < n then (if a ≠ x ∧ p.1 x ≤ p.1 a then p.1 a + 1 else p.1 a) else 0) < (if 0 ≤ b ∧ b < n then (if b ≠ x ∧ p.1 x ≤ p.1 b then p.1 b + 1 else p.1 b) else 0)
  rw [if_pos (c := 0 ≤ a ∧ a < n) ⟨a0, a1⟩, if_pos (c := 0 ≤ b ∧ b < n) ⟨b0, b1⟩]
  by_cases c : b = x
  · subst c
    rw [if_neg (show ¬ (a ≠ b ∧ p.1 b ≤ p.1 a) by omega)]
    split <;> omega
  · by_cases c2 : a = x
    · subst c2
      rw [if_neg (c := a ≠ a ∧ p.1 a ≤ p.1 a) (fun z => z.1 rfl), if_pos ⟨c, by omega⟩]
      omega
    · split <;> split <;> omega
theorem zb_mrk_ref (n : Int) (p : zb_Pt) (x : Int) : zb_ref n p (zb_mrk n p x) := by
  by_cases h : zb_aln n p x
  · rw [zb_mrk_a h]; exact zb_ref.rf _ _
  · rw [zb_mrk_n h]; exact zb_mk0_ref n p x
theorem zb_mk0_at {n : Int} {p : zb_Pt} {x y : Int} (y0 : 0 ≤ y) (y1 : y < n) : (zb_mk0 n p x).1 y = if y ≠ x ∧ p.1 x ≤ p.1 y then p.1 y + 1 else p.1 y := by
  show (if 0 ≤ y ∧ y < n then _ else _) = _
  rw [if_pos ⟨y0, y1⟩]
theorem zb_not_aln {n : Int} {p : zb_Pt} {x : Int} (h : ¬ zb_aln n p x) : ∃ y, 0 ≤ y ∧ y < n ∧ p.1 y = p.1 x ∧ y ≠ x := by
  refine Classical.byContradiction (fun hn => h (fun y y0 y1 e => ?_))
  exact Classical.byContradiction (fun h2 => hn ⟨y, y0, y1, e, h2⟩)
theorem zb_mrk_gd {n : Int} {p : zb_Pt} {x : Int} (hp : zb_gp n p) (x0 : 0 ≤ x) (x1 : x < n) : zb_gp n (zb_mrk n p x) := by
  by_cases h : zb_aln n p x
  · rw [zb_mrk_a h]; exact hp
  rw [zb_mrk_n h]
  obtain ⟨w, w0, w1, we, wn⟩ := zb_not_aln h
  have hk := hp.2.2.1
  refine ⟨fun y y0 y1 => ?_, fun i i0 i1 => ?_, by show 0 ≤ p.2 + 1; omega, fun y hy => if_neg hy⟩
  · rw [zb_mk0_at y0 y1]
    have := hp.1 y y0 y1
    show _ ∧ _ < p.2 + 1
    split <;> omega
  · have i1 : i < p.2 + 1 := i1
    by_cases c : i < p.1 x
    · obtain ⟨y, y0, y1, e⟩ := hp.2.1 i i0 (by have := hp.1 x x0 x1; omega)
      exact ⟨y, y0, y1, by rw [zb_mk0_at y0 y1, if_neg (by omega)]; exact e⟩
    · by_cases c2 : i = p.1 x
      · exact ⟨x, x0, x1, by rw [zb_mk0_at x0 x1, if_neg (fun z => z.1 rfl)]; exact c2.symm⟩
      · by_cases c3 : i = p.1 x + 1
        · exact ⟨w, w0, w1, by rw [zb_mk0_at w0 w1, if_pos ⟨wn, by omega⟩]; omega⟩
        · obtain ⟨y, y0, y1, e⟩ := hp.2.1 (i - 1) (by have := hp.1 x x0 x1; omega) (by omega)
          have ny : y ≠ x := fun z => by subst z; omega
          exact ⟨y, y0, y1, by rw [zb_mk0_at y0 y1, if_pos ⟨ny, by omega⟩]; omega⟩
theorem zb_mrk_aln {n : Int} {p : zb_Pt} {x : Int} (x0 : 0 ≤ x) (x1 : x < n) : zb_aln n (zb_mrk n p x) x := by
  by_cases h : zb_aln n p x
  · rw [zb_mrk_a h]; exact h
  rw [zb_mrk_n h]
  intro y y0 y1 e
  rw [zb_mk0_at y0 y1, zb_mk0_at x0 x1, if_neg (c := x ≠ x ∧ _) (fun z => z.1 rfl)] at e
  refine Classical.byContradiction (fun ny => ?_)
  by_cases c : p.1 x ≤ p.1 y
  · rw [if_pos ⟨ny, c⟩] at e; omega
  · rw [if_neg (fun z => c z.2)] at e; omega
theorem zb_beg_gd (N : zb_N) : zb_gp N.1 (zb_beg N) := zb_stl_gd 13 (zb_rank_gd _ _ _)
theorem zb_chd_gd {N : zb_N} {p : zb_Pt} {x : Int} (hp : zb_gp N.1 p) (x0 : 0 ≤ x) (x1 : x < N.1) : zb_gp N.1 (zb_chd N p x) := zb_stl_gd 13 (zb_mrk_gd hp x0 x1)
theorem zb_chd_ref (N : zb_N) (p : zb_Pt) (x : Int) : zb_ref N.1 p (zb_chd N p x) := (zb_mrk_ref N.1 p x).tr (zb_stl_ref 13 _)
theorem zb_chd_aln {N : zb_N} {p : zb_Pt} {x : Int} (x0 : 0 ≤ x) (x1 : x < N.1) : zb_aln N.1 (zb_chd N p x) x := zb_ref_aln (zb_stl_ref 13 _) x0 x1 (zb_mrk_aln x0 x1)
theorem zb_chd_k {N : zb_N} {p : zb_Pt} {x : Int} (hp : zb_gp N.1 p) (x0 : 0 ≤ x) (x1 : x < N.1) (h : ¬ zb_aln N.1 p x) : p.2 + 1 ≤ (zb_chd N p x).2 := by
  have a := zb_ref_k (zb_mrk_gd hp x0 x1) (zb_chd_gd hp x0 x1) (zb_stl_ref 13 _)
  rw [zb_mrk_n h] at a
  exact a
/-! ===== turnings carry partings ===== -/
/-- a turning: things of a key to those of it, lines to lines -/
def zb_aut (N : zb_N) (f : Int → Int) : Prop := zb_pm N.1 f ∧ (∀ x, 0 ≤ x → x < N.1 → N.2.1 (f x) = N.2.1 x) ∧ ∀ x y, 0 ≤ x → x < N.1 → 0 ≤ y → y < N.1 → N.2.2 (f x) (f y) = N.2.2 x y
/-- f carries the parting p to q -/
def zb_crr (n : Int) (f : Int → Int) (p q : zb_Pt) : Prop := q.2 = p.2 ∧ ∀ x, 0 ≤ x → x < n → q.1 (f x) = p.1 x
theorem zb_sg_crr {N : zb_N} {f : Int → Int} {p q : zb_Pt} (hf : zb_aut N f) (hc : zb_crr N.1 f p q) {x : Int} (x0 : 0 ≤ x) (x1 : x < N.1) (j : Int) : zb_sg N q.1 q.2 (f x) j = zb_sg N p.1 p.2 x j := by
  unfold zb_sg
  rw [← zb_pm_sum hf.1]
  refine zb_sum_congr (fun y y0 y1 => ?_)
  show zb_sw1 N q.1 q.2 (f x) j (f y) = zb_sw1 N p.1 p.2 x j y
  unfold zb_sw1
  rw [hc.1, hc.2 y y0 (by omega), hf.2.2 x y x0 x1 y0 (by omega), hf.2.2 y x y0 (by omega) x0 x1]
theorem zb_rank_crr {n : Int} {f h K g L : Int → Int} (hf : zb_pm n f) (eh : ∀ x, 0 ≤ x → x < n → g (f x) = h x) (eK : ∀ x, 0 ≤ x → x < n → L (f x) = K x) : zb_crr n f (zb_rank n h K) (zb_rank n g L) := by
  obtain ⟨⟨a1, a2, a3⟩, b, c⟩ := zb_rank_ok n g L
  have hk : zb_rk n h K (fun x => (zb_rank n g L).1 (f x)) (zb_rank n g L).2 := by
    refine ⟨fun x x0 x1 => a1 _ (hf.1 x x0 x1).1 (hf.1 x x0 x1).2, fun i i0 i1 => ?_, fun x y x0 x1 y0 y1 => ?_⟩
    · obtain ⟨z, z0, z1, e⟩ := a2 i i0 i1
      obtain ⟨x, x0, x1, rfl⟩ := zb_pm_sur hf z0 z1
      exact ⟨x, x0, x1, e⟩
    · show (zb_rank n g L).1 (f x) < (zb_rank n g L).1 (f y) ↔ _
      rw [a3 _ _ (hf.1 x x0 x1).1 (hf.1 x x0 x1).2 (hf.1 y y0 y1).1 (hf.1 y y0 y1).2]
      unfold zb_lt
      rw [eh x x0 x1, eh y y0 y1, eK x x0 x1, eK y y0 y1]
  obtain ⟨e1, e2⟩ := zb_rank_eq hk b
  exact ⟨e1, e2⟩
theorem zb_step_crr {N : zb_N} {f : Int → Int} {p q : zb_Pt} (hf : zb_aut N f) (hc : zb_crr N.1 f p q) : zb_crr N.1 f (zb_step N p) (zb_step N q) := by
  refine zb_rank_crr hf.1 hc.2 (fun x x0 x1 => ?_)
  unfold zb_Kv
  rw [hc.1]
  refine zb_P_congr (fun i i0 i1 => ?_)
  have := zb_sg_crr hf hc x0 x1 i
  rw [hc.1] at this
  exact this
theorem zb_stl_crr {N : zb_N} {f : Int → Int} (hf : zb_aut N f) : ∀ (u : Nat) {p q : zb_Pt}, zb_crr N.1 f p q → zb_crr N.1 f (zb_stl N u p) (zb_stl N u q) := by
  intro u
  induction u with
  | zero => intro p q h; exact h
  | succ u ih =>
    intro p q h
    have hs := zb_step_crr hf h
    show zb_crr N.1 f (if p.2 < (zb_step N p).2 then zb_stl N u (zb_step N p) else zb_step N p) (if q.2 < (zb_step N q).2 then zb_stl N u (zb_step N q) else zb_step N q)
    rw [hs.1, h.1]
    split
    · exact ih hs
    · exact hs
theorem zb_aln_crr {n : Int} {f : Int → Int} {p q : zb_Pt} (hf : zb_pm n f) (hc : zb_crr n f p q) {x : Int} (x0 : 0 ≤ x) (x1 : x < n) : zb_aln n q (f x) ↔ zb_aln n p x := by
  refine ⟨fun h y y0 y1 e => ?_, fun h z z0 z1 e => ?_⟩
  · refine hf.2 y x y0 y1 x0 x1 (h (f y) (hf.1 y y0 y1).1 (hf.1 y y0 y1).2 ?_)
    rw [hc.2 y y0 y1, hc.2 x x0 x1]; exact e
  · obtain ⟨y, y0, y1, rfl⟩ := zb_pm_sur hf z0 z1
    rw [hc.2 y y0 y1, hc.2 x x0 x1] at e
    rw [h y y0 y1 e]
theorem zb_mrk_crr {n : Int} {f : Int → Int} {p q : zb_Pt} (hf : zb_pm n f) (hc : zb_crr n f p q) {x : Int} (x0 : 0 ≤ x) (x1 : x < n) : zb_crr n f (zb_mrk n p x) (zb_mrk n q (f x)) := by
  have ha := zb_aln_crr hf hc x0 x1
  by_cases h : zb_aln n p x
  · rw [zb_mrk_a h, zb_mrk_a (ha.2 h)]; exact hc
  · rw [zb_mrk_n h, zb_mrk_n (fun z => h (ha.1 z))]
    refine ⟨by show q.2 + 1 = p.2 + 1; rw [hc.1], fun y y0 y1 => ?_⟩
    have r := hf.1 y y0 y1
    rw [zb_mk0_at r.1 r.2, zb_mk0_at y0 y1, hc.2 y y0 y1, hc.2 x x0 x1]
    by_cases c : y = x
    · subst c
      rw [if_neg (fun z => z.1 rfl), if_neg (fun z => z.1 rfl)]
    · have c2 : f y ≠ f x := fun z => c (hf.2 y x y0 y1 x0 x1 z)
      by_cases c3 : p.1 x ≤ p.1 y
      · rw [if_pos ⟨c2, c3⟩, if_pos ⟨c, c3⟩]
      · rw [if_neg (fun z => c3 z.2), if_neg (fun z => c3 z.2)]
theorem zb_beg_crr {N : zb_N} {f : Int → Int} (hf : zb_aut N f) : zb_crr N.1 f (zb_beg N) (zb_beg N) := zb_stl_crr hf 13 (zb_rank_crr hf.1 (fun _ _ _ => rfl) hf.2.1)
theorem zb_chd_crr {N : zb_N} {f : Int → Int} {p q : zb_Pt} (hf : zb_aut N f) (hc : zb_crr N.1 f p q) {x : Int} (x0 : 0 ≤ x) (x1 : x < N.1) : zb_crr N.1 f (zb_chd N p x) (zb_chd N q (f x)) := zb_stl_crr hf 13 (zb_mrk_crr hf.1 hc x0 x1)
/-! ===== how many things a heap has, and lie ahead of it ===== -/
def zb_sz (n : Int) (h : Int → Int) (i : Int) : Int := zb_cnt (fun x => h x == i) n.toNat
def zb_cb (n : Int) (h : Int → Int) (i : Int) : Int := zb_cnt (fun x => decide (h x < i)) n.toNat
theorem zb_cb_S (n : Int) (h : Int → Int) (i : Int) : zb_cb n h (i + 1) = zb_cb n h i + zb_sz n h i := by
  unfold zb_cb zb_sz
  rw [zb_cnt_sum, zb_cnt_sum, zb_cnt_sum, ← zb_sum_add]
  refine zb_sum_congr (fun x _ _ => ?_)
  by_cases c : h x < i
  · rw [if_pos (by simpa using (by omega : h x < i + 1)), if_pos (by simpa using c), if_neg (by simp; omega)]; rfl
  · by_cases c2 : h x = i
    · rw [if_pos (by simpa using (by omega : h x < i + 1)), if_neg (by simpa using (by omega : i ≤ h x)), if_pos (by simpa using c2)]; rfl
    · rw [if_neg (by simpa using (by omega : i + 1 ≤ h x)), if_neg (by simpa using (by omega : i ≤ h x)), if_neg (by simpa using c2)]; rfl
theorem zb_cb_0 {n : Int} {h : Int → Int} (h0 : ∀ x, 0 ≤ x → x < n → 0 ≤ h x) : zb_cb n h 0 = 0 := by
  unfold zb_cb
  rw [zb_cnt_sum]
  exact zb_sum_none (fun x x0 x1 => if_neg (by have := h0 x x0 (by omega); simpa using this))
theorem zb_cb_n {n : Int} {h : Int → Int} {k : Int} (n0 : 0 ≤ n) (h0 : ∀ x, 0 ≤ x → x < n → h x < k) : zb_cb n h k = n := by
  unfold zb_cb
  rw [zb_cnt_sum, zb_sum_congr (g := fun _ => 1) (fun x x0 x1 => if_pos (by have := h0 x x0 (by omega); simpa using this)), zb_sum_const]
  omega
theorem zb_sz_aln {n : Int} {p : zb_Pt} {x : Int} (x0 : 0 ≤ x) (x1 : x < n) : zb_sz n p.1 (p.1 x) = 1 ↔ zb_aln n p x := by
  unfold zb_sz
  rw [zb_cnt_sum]
  refine ⟨fun h y y0 y1 e => ?_, fun h => ?_⟩
  · refine Classical.byContradiction (fun ny => ?_)
    have := zb_sum_le (f := fun z => (if z = x then 1 else 0) + (if z = y then 1 else 0)) (g := fun z => if (p.1 z == p.1 x) = true then 1 else 0) (k := n.toNat) (fun z z0 z1 => by
      show (if z = x then (1 : Int) else 0) + (if z = y then 1 else 0) ≤ if (p.1 z == p.1 x) = true then 1 else 0
      by_cases w : z = x
      · rw [if_pos w, if_neg (by omega), w, if_pos (by simp)]; omega
      · rw [if_neg w]
        by_cases w2 : z = y
        · rw [if_pos w2, w2, if_pos (by simpa using e)]; omega
        · rw [if_neg w2]; split <;> omega)
    rw [zb_sum_add, zb_sum_one x 1 x0 (by omega), zb_sum_one y 1 y0 (by omega)] at this
    omega
  · rw [zb_sum_congr (g := fun z => if z = x then 1 else 0) (fun z z0 z1 => by
      by_cases w : z = x
      · rw [if_pos w, w, if_pos (by simp)]
      · rw [if_neg w, if_neg (fun c => w (h z z0 (by omega) (by simpa using c)))]), zb_sum_one x 1 x0 (by omega)]
theorem zb_sz_pos {n : Int} {h : Int → Int} {x : Int} (x0 : 0 ≤ x) (x1 : x < n) : 1 ≤ zb_sz n h (h x) := by
  unfold zb_sz
  rw [zb_cnt_sum]
  have := zb_sum_le (f := fun z => if z = x then 1 else 0) (g := fun z => if (h z == h x) = true then 1 else 0) (k := n.toNat) (fun z z0 z1 => by
    by_cases w : z = x
    · rw [if_pos w, w, if_pos (by simp)]; exact Int.le_refl _
    · rw [if_neg w]; split <;> omega)
  rw [zb_sum_one x 1 x0 (by omega)] at this
  exact this
theorem zb_cnt_pre {P : Int → Bool} : ∀ {k : Nat}, (∀ p q : Int, 0 ≤ p → p < q → q < k → P q = true → P p = true) → ∀ p : Int, 0 ≤ p → p < k → (P p = true ↔ p < zb_cnt P k) := by
  intro k
  induction k with
  | zero => intro _ p p0 p1; omega
  | succ k ih =>
    intro h p p0 p1
    have a := ih (fun p q p0 pq qk hq => h p q p0 pq (by omega) hq)
    have r := zb_cnt_rng P k
    show P p = true ↔ p < zb_cnt P k + (if P k then 1 else 0)
    by_cases c : P k = true
    · have full : zb_cnt P k = k := by
        rw [zb_cnt_sum, zb_sum_congr (g := fun _ => 1) (fun x x0 x1 => if_pos (h x k x0 x1 (by omega) c)), zb_sum_const]; omega
      rw [if_pos c, full]
      refine ⟨fun _ => by omega, fun _ => ?_⟩
      by_cases q : p = k
      · rw [q]; exact c
      · exact h p k p0 (by omega) (by omega) c
    · rw [if_neg c]
      by_cases q : p = k
      · subst q
        exact ⟨fun z => absurd z c, fun z => by omega⟩
      · have := a p p0 (by omega)
        rw [this]
        omega
/-- things in the order of their heaps: where a heap begins -/
theorem zb_pos_lt {n : Int} {h o : Int → Int} (ho : zb_pm n o) (hs : ∀ p q, 0 ≤ p → p < q → q < n → h (o p) ≤ h (o q)) (i : Int) {p : Int} (p0 : 0 ≤ p) (p1 : p < n) : h (o p) < i ↔ p < zb_cb n h i := by
  have e : zb_cb n h i = zb_cnt (fun p => decide (h (o p) < i)) n.toNat := by
    unfold zb_cb
    exact (zb_pm_cnt ho (fun x => decide (h x < i))).symm
  rw [e, ← zb_cnt_pre (P := fun p => decide (h (o p) < i)) (k := n.toNat) (fun a b a0 ab bn hb => by
    have := hs a b a0 ab (by omega)
    have hb : decide (h (o b) < i) = true := hb
    show decide (h (o a) < i) = true
    simp at hb ⊢
    omega) p p0 (by omega)]
  show _ ↔ decide (h (o p) < i) = true
  simp
