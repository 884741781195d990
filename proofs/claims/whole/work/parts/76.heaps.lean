/-! ===== the class's partings ===== -/
/-- a parting of the class holds n things, parted so -/
def zb_CP (m : zb_M) (a n : Int) (p : zb_Pt) : Prop := m a 0 = n ∧ m a 1 = p.2 ∧ (∀ x, 0 ≤ x → x < n → m (a + 1) x = p.1 x) ∧ (∀ i, 0 ≤ i → i < p.2 → m (a + 2) i = zb_sz n p.1 i) ∧ zb_pm n (m (a + 3)) ∧ ∀ x y, 0 ≤ x → x < y → y < n → p.1 (m (a + 3) x) ≤ p.1 (m (a + 3) y)
theorem zb_CP_same {m m1 : zb_M} {a n : Int} {p : zb_Pt} (h : zb_CP m a n p) (he : ∀ b, a ≤ b → b ≤ a + 3 → m1 b = m b) : zb_CP m1 a n p := by
  unfold zb_CP
  rw [he a (by omega) (by omega), he (a + 1) (by omega) (by omega), he (a + 2) (by omega) (by omega), he (a + 3) (by omega) (by omega)]
  exact h
/-- another parting with the same heaps -/
theorem zb_CP_to {m : zb_M} {a n : Int} {p q : zb_Pt} (h : zb_CP m a n p) (n0 : 0 ≤ n) (e2 : p.2 = q.2) (e1 : ∀ x, 0 ≤ x → x < n → p.1 x = q.1 x) : zb_CP m a n q := by
  obtain ⟨h1, h2, h3, h4, h5, h6⟩ := h
  refine ⟨h1, h2.trans e2, fun x x0 x1 => (h3 x x0 x1).trans (e1 x x0 x1), fun i i0 i1 => ?_, h5, fun x y x0 xy y1 => ?_⟩
  · rw [h4 i i0 (by omega)]
    unfold zb_sz
    rw [zb_cnt_sum, zb_cnt_sum]
    exact zb_sum_congr (fun x x0 x1 => by rw [e1 x x0 (by omega)])
  · have a := h5.1 x x0 (by omega)
    have b := h5.1 y (by omega) y1
    rw [← e1 _ a.1 a.2, ← e1 _ b.1 b.2]
    exact h6 x y x0 xy y1
/-- all in one heap -/
def zb_one (n : Int) : zb_Pt := (fun _ => 0, if n ≤ 0 then 0 else 1)
theorem zb_one_gp {n : Int} : zb_gp n (zb_one n) := by
  unfold zb_one
  by_cases q : n ≤ 0
  · rw [if_pos q]
    exact ⟨fun x x0 x1 => by omega, fun i i0 i1 => by have i1 : i < 0 := i1; omega, Int.le_refl _, fun x _ => rfl⟩
  · rw [if_neg q]
    exact ⟨fun x x0 x1 => ⟨Int.le_refl _, by show (0 : Int) < 1; omega⟩, fun i i0 i1 => ⟨0, by omega, by omega, by have i1 : i < 1 := i1; show (0 : Int) = i; omega⟩, by show (0 : Int) ≤ 1; omega, fun x _ => rfl⟩
theorem s_X5_gather {d : Nat} {m : zb_M} {a n : Int} (ha : zb_is zb_E0.1 a 5) (n0 : 0 ≤ n) (n1 : n ≤ 12) : zb_T K_X5_gather (d + 1) [(2, a), (0, n)] zb_E0 m (fun _ m1 => zb_CP m1 a n (zb_one n) ∧ ∀ b, (b < a ∨ a + 3 < b) → m1 b = m b) := by
  apply w_X5_gather
  obtain ⟨v2, v3, v4⟩ := zb_part ha
  unfold PM_X5_gather
  intro m2 e2
  have go : ∀ s : Int, s = (if n ≤ 0 then 0 else 1) → PJ_X5_gather_15 d zb_E0 a n m2 (fun _ m1 => zb_CP m1 a n (zb_one n) ∧ ∀ b, (b < a ∨ a + 3 < b) → m1 b = m b) s := by
    intro s hs
    unfold PJ_X5_gather_15 PL_X5_gather_27
    rw [v2, v3, v4]
    intro m15 e15 m24 e24 X hX
    refine zb_lp1 (fun v mm => 0 ≤ v ∧ (∀ x, 0 ≤ x → x < v → mm (a + 1) x = 0 ∧ mm (a + 3) x = x) ∧ ∀ b, b ≠ a + 1 → b ≠ a + 3 → mm b = m24 b) n (fun v mm ⟨v0, h1, h2⟩ vn nxt => hX v mm ⟨fun c => ⟨⟨?_, ?_, fun x x0 x1 => (h1 x x0 (by omega)).1, fun i i0 i1 => ?_, ⟨fun x x0 x1 => ?_, fun x y x0 x1 y0 y1 e => ?_⟩, fun x y x0 xy y1 => Int.le_refl _⟩, fun b hb => ?_⟩, fun c => ⟨⟨v0, by omega⟩, fun m38 e38 m45 e45 => ⟨zb_inI_of (by omega) (by omega), nxt (by omega) m45 ⟨by omega, fun x x0 x1 => ?_, fun b b1 b2 => by rw [zb_u3 e45 b2, zb_u3 e38 b1]; exact h2 b b1 b2⟩⟩⟩⟩) 0 m24 n0 ⟨by omega, fun x x0 x1 => by omega, fun b _ _ => rfl⟩
    · rw [h2 a (by omega) (by omega), zb_u3 e24 (by omega), zb_u2 e15 (by omega)]; exact zb_u1 e2
    · rw [h2 a (by omega) (by omega), zb_u3 e24 (by omega), zb_u1 e15]; exact hs
    · have i1 : i < (if n ≤ 0 then 0 else 1) := i1
      have hi : i = 0 := by split at i1 <;> omega
      subst hi
      rw [h2 (a + 2) (by omega) (by omega), zb_u1 e24]
      show n = zb_sz n (fun _ => 0) 0
      unfold zb_sz
      have e : zb_sum (fun x : Int => if ((fun _ : Int => (0 : Int)) x == 0) = true then (1 : Int) else 0) n.toNat = zb_sum (fun _ => 1) n.toNat := zb_sum_congr (fun x _ _ => rfl)
      rw [zb_cnt_sum, e, zb_sum_const]
      omega
    · rw [(h1 x x0 (by omega)).2]; omega
    · rw [(h1 x x0 (by omega)).2, (h1 y y0 (by omega)).2] at e; exact e
    · rw [h2 b (by omega) (by omega), zb_u3 e24 (by omega), zb_u3 e15 (by omega), zb_u3 e2 (by omega)]
    · by_cases q : x = v
      · subst q
        exact ⟨by rw [zb_u3 e45 (by omega)]; exact zb_u1 e38, zb_u1 e45⟩
      · rw [zb_u3 e45 (by omega), zb_u2 e38 (by omega), zb_u2 e45 (by omega), zb_u3 e38 (by omega)]
        exact h1 x x0 (by omega)
  exact ⟨fun c => go 0 (by rw [if_pos c]), fun c => go 1 (by rw [if_neg c])⟩
theorem s_X5_become {d : Nat} {m : zb_M} {a o n : Int} {p : zb_Pt} (ha : zb_is zb_E0.1 a 5) (ho : zb_is zb_E0.1 o 5) (hap : a + 3 < o ∨ o + 3 < a) (h : zb_CP m o n p) (n1 : n ≤ 12) (k1 : p.2 ≤ 12) : zb_T K_X5_become (d + 1) [(2, a), (2, o)] zb_E0 m (fun _ m1 => zb_CP m1 a n p ∧ ∀ b, (b < a ∨ a + 3 < b) → m1 b = m b) := by
  apply w_X5_become
  obtain ⟨v2, v3, v4⟩ := zb_part ha
  obtain ⟨o2, o3, o4⟩ := zb_part ho
  obtain ⟨h1, h2, h3, h4, h5, h6⟩ := h
  unfold PM_X5_become
  rw [v2, v3, v4, o2, o3, o4]
  intro m5 e5 m13 e13
  refine ⟨by unfold zb_cpo; omega, fun m28 e28 m43 e43 m58 e58 => ?_⟩
  have f1 : ∀ j, 0 ≤ j → j < 12 → m58 (a + 1) j = m (o + 1) j := fun j j0 j1 => by
    rw [zb_c3 e58 (by omega), zb_c3 e43 (by omega), zb_c1 e28 (by omega) (by omega), zb_u3 e13 (by omega), zb_u3 e5 (by omega)]
    congr 1; omega
  have f2 : ∀ j, 0 ≤ j → j < 12 → m58 (a + 2) j = m (o + 2) j := fun j j0 j1 => by
    rw [zb_c3 e58 (by omega), zb_c1 e43 (by omega) (by omega), zb_c3 e28 (by omega), zb_u3 e13 (by omega), zb_u3 e5 (by omega)]
    congr 1; omega
  have f3 : ∀ j, 0 ≤ j → j < 12 → m58 (a + 3) j = m (o + 3) j := fun j j0 j1 => by
    rw [zb_c1 e58 (by omega) (by omega), zb_c3 e43 (by omega), zb_c3 e28 (by omega), zb_u3 e13 (by omega), zb_u3 e5 (by omega)]
    congr 1; omega
  refine ⟨⟨?_, ?_, fun x x0 x1 => ?_, fun i i0 i1 => ?_, ⟨fun x x0 x1 => ?_, fun x y x0 x1 y0 y1 e => ?_⟩, fun x y x0 xy y1 => ?_⟩, fun b hb => ?_⟩
  · rw [zb_c3 e58 (by omega), zb_c3 e43 (by omega), zb_c3 e28 (by omega), zb_u2 e13 (by omega), zb_u1 e5]; exact h1
  · rw [zb_c3 e58 (by omega), zb_c3 e43 (by omega), zb_c3 e28 (by omega), zb_u1 e13, zb_u3 e5 (by omega)]; exact h2
  · rw [f1 x x0 (by omega)]; exact h3 x x0 x1
  · rw [f2 i i0 (by omega)]; exact h4 i i0 i1
  · rw [f3 x x0 (by omega)]; exact h5.1 x x0 x1
  · rw [f3 x x0 (by omega), f3 y y0 (by omega)] at e; exact h5.2 x y x0 x1 y0 y1 e
  · rw [f3 x x0 (by omega), f3 y (by omega) (by omega)]; exact h6 x y x0 xy y1
  · rw [zb_c3 e58 (by omega), zb_c3 e43 (by omega), zb_c3 e28 (by omega), zb_u3 e13 (by omega), zb_u3 e5 (by omega)]
theorem s_X5_isAlone {d : Nat} {m : zb_M} {a n x : Int} {p : zb_Pt} (ha : zb_is zb_E0.1 a 5) (h : zb_CP m a n p) (hg : zb_gp n p) (n1 : n ≤ 12) (x0 : 0 ≤ x) (x1 : x < n) : zb_Tp K_X5_isAlone (d + 1) [(2, a), (0, x)] zb_E0 m (fun r => (r = 1 ∧ zb_aln n p x) ∨ (r = 0 ∧ ¬ zb_aln n p x)) := by
  apply w_X5_isAlone
  obtain ⟨v2, v3, v4⟩ := zb_part ha
  obtain ⟨h1, h2, h3, h4, h5, h6⟩ := h
  have hx := hg.1 x x0 x1
  have hk := zb_gd_le hg (by omega)
  unfold PM_X5_isAlone
  rw [v2, v3, h3 x x0 x1, h4 _ hx.1 hx.2]
  exact ⟨⟨x0, by omega⟩, ⟨hx.1, by omega⟩, fun c => Or.inl ⟨rfl, (zb_sz_aln x0 x1).1 c⟩, fun c => Or.inr ⟨rfl, fun z => c ((zb_sz_aln x0 x1).2 z)⟩⟩
theorem s_X5_isAllAlone {d : Nat} {m : zb_M} {a n : Int} {p : zb_Pt} (h : zb_CP m a n p) : zb_Tp K_X5_isAllAlone (d + 1) [(2, a)] zb_E0 m (fun r => (r = 1 ∧ p.2 = n) ∨ (r = 0 ∧ p.2 ≠ n)) := by
  apply w_X5_isAllAlone
  unfold PM_X5_isAllAlone
  rw [h.1, h.2.1]
  exact ⟨fun c => Or.inl ⟨rfl, c⟩, fun c => Or.inr ⟨rfl, c⟩⟩
/-- t is the first heap of more than one thing; -1: there is none -/
def zb_isT (n : Int) (p : zb_Pt) (t : Int) : Prop := (t = -1 ∧ ∀ i, 0 ≤ i → i < p.2 → zb_sz n p.1 i ≤ 1) ∨ (0 ≤ t ∧ t < p.2 ∧ 1 < zb_sz n p.1 t ∧ ∀ i, 0 ≤ i → i < t → zb_sz n p.1 i ≤ 1)
theorem s_X5_firstBigHeap {d : Nat} {m : zb_M} {a n : Int} {p : zb_Pt} (ha : zb_is zb_E0.1 a 5) (h : zb_CP m a n p) (hg : zb_gp n p) (n0 : 0 ≤ n) (n1 : n ≤ 12) : zb_Tp K_X5_firstBigHeap (d + 1) [(2, a)] zb_E0 m (fun r => zb_isT n p r) := by
  apply w_X5_firstBigHeap
  obtain ⟨v2, v3, v4⟩ := zb_part ha
  obtain ⟨h1, h2, h3, h4, h5, h6⟩ := h
  have hk := zb_gd_le hg n0
  unfold PM_X5_firstBigHeap PL_X5_firstBigHeap_2
  rw [v3, h2]
  intro X hX
  refine zb_lp0 (fun v => 0 ≤ v ∧ ∀ i, 0 ≤ i → i < v → zb_sz n p.1 i ≤ 1) p.2 (fun v ⟨v0, hv⟩ vn nxt => hX v ⟨fun c => Or.inl ⟨rfl, fun i i0 i1 => hv i i0 (by omega)⟩, fun c => ⟨⟨v0, by omega⟩, fun c2 => ⟨zb_inI_of (by omega) (by omega), nxt (by omega) ⟨by omega, fun i i0 i1 => ?_⟩⟩, fun c2 => Or.inr ⟨v0, by omega, ?_, hv⟩⟩⟩) 0 hg.2.2.1 ⟨by omega, fun i i0 i1 => by omega⟩
  · rw [h4 v v0 (by omega)] at c2
    by_cases q : i = v
    · rw [q]; exact c2
    · exact hv i i0 (by omega)
  · rw [h4 v v0 (by omega)] at c2
    omega
theorem s_X5_firstNotAlone {d : Nat} {m : zb_M} {a n : Int} {p : zb_Pt} (ha : zb_is zb_E0.1 a 5) (h : zb_CP m a n p) (hg : zb_gp n p) (n0 : 0 ≤ n) (n1 : n ≤ 12) : zb_Tp K_X5_firstNotAlone (d + 2) [(2, a)] zb_E0 m (fun r => (r = -1 ∧ ∀ x, 0 ≤ x → x < n → zb_aln n p x) ∨ (0 ≤ r ∧ r < n ∧ ¬ zb_aln n p r ∧ ∀ x, 0 ≤ x → x < r → zb_aln n p x)) := by
  apply w_X5_firstNotAlone
  unfold PM_X5_firstNotAlone PL_X5_firstNotAlone_2
  rw [h.1]
  intro X hX
  refine zb_lp0 (fun v => 0 ≤ v ∧ ∀ x, 0 ≤ x → x < v → zb_aln n p x) n (fun v ⟨v0, hv⟩ vn nxt => hX v ⟨fun c => Or.inl ⟨rfl, fun i i0 i1 => hv i i0 (by omega)⟩, fun c => (s_X5_isAlone ha h hg n1 v0 (by omega)).mono (fun r hr => ?_)⟩) 0 n0 ⟨by omega, fun i i0 i1 => by omega⟩
  rcases hr with ⟨r1, r2⟩ | ⟨r1, r2⟩
  · refine ⟨fun z => by omega, fun _ => ⟨zb_inI_of (by omega) (by omega), nxt (by omega) ⟨by omega, fun i i0 i1 => ?_⟩⟩⟩
    by_cases q : i = v
    · rw [q]; exact r2
    · exact hv i i0 (by omega)
  · exact ⟨fun _ => Or.inr ⟨v0, by omega, r2, hv⟩, fun z => absurd r1 z⟩
/-- heaps of the same sizes -/
def zb_lik (n : Int) (p q : zb_Pt) : Prop := p.2 = q.2 ∧ ∀ i, 0 ≤ i → i < p.2 → zb_sz n p.1 i = zb_sz n q.1 i
theorem s_X5_hasHeapsLike {d : Nat} {m : zb_M} {a o n : Int} {p q : zb_Pt} (ha : zb_is zb_E0.1 a 5) (ho : zb_is zb_E0.1 o 5) (h : zb_CP m a n p) (h' : zb_CP m o n q) (hg : zb_gp n p) (n0 : 0 ≤ n) (n1 : n ≤ 12) : zb_Tp K_X5_hasHeapsLike (d + 1) [(2, a), (2, o)] zb_E0 m (fun r => (r = 1 ∧ zb_lik n p q) ∨ (r = 0 ∧ ¬ zb_lik n p q)) := by
  apply w_X5_hasHeapsLike
  obtain ⟨v2, v3, v4⟩ := zb_part ha
  obtain ⟨o2, o3, o4⟩ := zb_part ho
  have hk := zb_gd_le hg n0
  unfold PM_X5_hasHeapsLike
  rw [h.2.1, h'.2.1]
  refine ⟨fun c => ?_, fun c => Or.inr ⟨rfl, fun z => c z.1⟩⟩
  unfold PL_X5_hasHeapsLike_15
  rw [v3, o3, h.2.1]
  intro X hX
  refine zb_lp0 (fun v => 0 ≤ v ∧ ∀ i, 0 ≤ i → i < v → zb_sz n p.1 i = zb_sz n q.1 i) p.2 (fun v ⟨v0, hv⟩ vn nxt => hX v ⟨fun c2 => Or.inl ⟨rfl, c, fun i i0 i1 => hv i i0 (by omega)⟩, fun c2 => ⟨⟨v0, by omega⟩, ?_⟩⟩) 0 hg.2.2.1 ⟨by omega, fun i i0 i1 => by omega⟩
  rw [h.2.2.2.1 v v0 (by omega), h'.2.2.2.1 v v0 (by omega)]
  refine ⟨fun c3 => ⟨zb_inI_of (by omega) (by omega), nxt (by omega) ⟨by omega, fun i i0 i1 => ?_⟩⟩, fun c3 => Or.inr ⟨rfl, fun z => c3 (z.2 v v0 (by omega))⟩⟩
  by_cases q : i = v
  · rw [q]; exact c3
  · exact hv i i0 (by omega)
/-! ===== to set one thing apart ===== -/
theorem s_X5_moveAhead {d : Nat} {m : zb_M} {a n x P : Int} (ha : zb_is zb_E0.1 a 5) (hn : m a 0 = n) (n1 : n ≤ 12) (hp : zb_pm n (m (a + 3))) (P0 : 0 ≤ P) (P1 : P < n) (hP : m (a + 3) P = x) (hA : ∀ i j, 0 ≤ i → i < j → j < n → i ≠ P → j ≠ P → m (a + 1) (m (a + 3) i) ≤ m (a + 1) (m (a + 3) j)) (hB : ∀ j, P < j → j < n → m (a + 1) x ≤ m (a + 1) (m (a + 3) j)) : zb_T K_X5_moveAhead (d + 1) [(2, a), (0, x)] zb_E0 m (fun _ m1 => zb_pm n (m1 (a + 3)) ∧ (∀ i j, 0 ≤ i → i < j → j < n → m (a + 1) (m1 (a + 3) i) ≤ m (a + 1) (m1 (a + 3) j)) ∧ ∀ b, b ≠ a + 3 → m1 b = m b) := by
  apply w_X5_moveAhead
  obtain ⟨v2, v3, v4⟩ := zb_part ha
  have hx : 0 ≤ x ∧ x < n := by rw [← hP]; exact hp.1 P P0 P1
  unfold PM_X5_moveAhead PL_X5_moveAhead_4
  rw [v4, hn]
  intro X hX
  refine zb_lq (fun c v => 0 ≤ v ∧ ((v ≤ P ∧ c = 0) ∨ (P < v ∧ c = P))) n (fun c v ⟨v0, hv⟩ vn nxt => hX c v ⟨fun c1 => ?_, fun c1 => ⟨⟨v0, by omega⟩, fun c2 => ⟨zb_inI_of (by omega) (by omega), nxt (by omega) v ⟨by omega, ?_⟩⟩, fun c2 => ⟨zb_inI_of (by omega) (by omega), nxt (by omega) c ⟨by omega, ?_⟩⟩⟩⟩) 0 0 (by omega) ⟨by omega, Or.inl ⟨P0, rfl⟩⟩
  · have hc : c = P := by omega
    subst hc
    clear nxt hX X
    unfold PJ_X5_moveAhead_30 PL_X5_moveAhead_30
    rw [v4, v2]
    intro Y hY
    have go : ∀ (f : Nat) (v : Int) (mm : zb_M), 0 ≤ v → v ≤ c → v ≤ f → (∀ j, c < j → mm (a + 3) j = m (a + 3) j) → (∀ j, v < j → j ≤ c → mm (a + 3) j = m (a + 3) (j - 1)) → (∀ j, j ≤ v → mm (a + 3) j = m (a + 3) j) → (∀ b, b ≠ a + 3 → mm b = m b) → (∀ j, v ≤ j → j < c → m (a + 1) x < m (a + 1) (m (a + 3) j)) → Y v mm := by
      intro f
      induction f with
      | zero =>
        intro v mm v0 vc vf q1 q2 q3 q4 q5
        have hv0 : v = 0 := by omega
        subst hv0
        refine hY 0 mm ⟨fun _ => ?_, fun z => absurd (Int.le_refl 0) z⟩
        unfold PJ_X5_moveAhead_76
        rw [v4]
        refine ⟨⟨by omega, by omega⟩, fun m82 e82 => ?_⟩
        have er : ∀ j, m82 (a + 3) j = zb_rot (m (a + 3)) 0 c j := fun j => by
          unfold zb_rot
          by_cases w : j = 0
          · rw [w, if_pos rfl, zb_u1 e82, hP]
          · rw [if_neg w, zb_u2 e82 (by omega)]
            by_cases w2 : 0 < j ∧ j ≤ c
            · rw [if_pos w2]; exact q2 j w2.1 w2.2
            · rw [if_neg w2]
              by_cases w3 : c < j
              · exact q1 j w3
              · exact q3 j (by omega)
        have ef : m82 (a + 3) = zb_rot (m (a + 3)) 0 c := funext er
        refine ⟨by rw [ef]; exact zb_rot_pm hp (by omega) P0 P1, fun i j i0 ij jn => ?_, fun b hb => by rw [zb_u3 e82 hb]; exact q4 b hb⟩
        rw [ef]
        unfold zb_rot
        by_cases w : i = 0
        · rw [if_pos w, if_neg (by omega), hP]
          by_cases w2 : 0 < j ∧ j ≤ c
          · rw [if_pos w2]; exact Int.le_of_lt (q5 (j - 1) (by omega) (by omega))
          · rw [if_neg w2]; exact hB j (by omega) jn
        · rw [if_neg w, if_neg (show ¬ j = 0 by omega)]
          by_cases w1 : 0 < i ∧ i ≤ c
          · rw [if_pos w1]
            by_cases w2 : 0 < j ∧ j ≤ c
            · rw [if_pos w2]; exact hA _ _ (by omega) (by omega) (by omega) (by omega) (by omega)
            · rw [if_neg w2]; exact hA _ _ (by omega) (by omega) jn (by omega) (by omega)
          · rw [if_neg w1, if_neg (by omega)]; exact hA _ _ i0 ij jn (by omega) (by omega)
      | succ f ih =>
        intro v mm v0 vc vf q1 q2 q3 q4 q5
        have fin : (0 < v → m (a + 1) (m (a + 3) (v - 1)) ≤ m (a + 1) x) → PJ_X5_moveAhead_76 d zb_E0 a x (fun _ m1 => zb_pm n (m1 (a + 3)) ∧ (∀ i j, 0 ≤ i → i < j → j < n → m (a + 1) (m1 (a + 3) i) ≤ m (a + 1) (m1 (a + 3) j)) ∧ ∀ b, b ≠ a + 3 → m1 b = m b) v mm := by
          intro hD
          unfold PJ_X5_moveAhead_76
          rw [v4]
          refine ⟨⟨by omega, by omega⟩, fun m82 e82 => ?_⟩
          have er : ∀ j, m82 (a + 3) j = zb_rot (m (a + 3)) v c j := fun j => by
            unfold zb_rot
            by_cases w : j = v
            · rw [w, if_pos rfl, zb_u1 e82, hP]
            · rw [if_neg w, zb_u2 e82 (by omega)]
              by_cases w2 : v < j ∧ j ≤ c
              · rw [if_pos w2]; exact q2 j w2.1 w2.2
              · rw [if_neg w2]
                by_cases w3 : c < j
                · exact q1 j w3
                · exact q3 j (by omega)
          have ef : m82 (a + 3) = zb_rot (m (a + 3)) v c := funext er
          refine ⟨by rw [ef]; exact zb_rot_pm hp v0 vc P1, fun i j i0 ij jn => ?_, fun b hb => by rw [zb_u3 e82 hb]; exact q4 b hb⟩
          rw [ef]
          unfold zb_rot
          by_cases w : i = v
          · rw [if_pos w, if_neg (by omega), hP]
            by_cases w2 : v < j ∧ j ≤ c
            · rw [if_pos w2]; exact Int.le_of_lt (q5 (j - 1) (by omega) (by omega))
            · rw [if_neg w2]; exact hB j (by omega) jn
          · rw [if_neg w]
            by_cases w5 : j = v
            · rw [if_pos w5, if_neg (by omega), hP]
              have h1 := hD (by omega)
              by_cases w6 : i = v - 1
              · rw [w6]; exact h1
              · exact Int.le_trans (hA i (v - 1) i0 (by omega) (by omega) (by omega) (by omega)) h1
            rw [if_neg w5]
            by_cases w1 : v < i ∧ i ≤ c
            · rw [if_pos w1]
              by_cases w2 : v < j ∧ j ≤ c
              · rw [if_pos w2]; exact hA _ _ (by omega) (by omega) (by omega) (by omega) (by omega)
              · rw [if_neg w2]; exact hA _ _ (by omega) (by omega) jn (by omega) (by omega)
            · rw [if_neg w1]
              by_cases w2 : v < j ∧ j ≤ c
              · rw [if_pos w2]; exact hA _ _ (by omega) (by omega) (by omega) (by omega) (by omega)
              · rw [if_neg w2]; exact hA _ _ i0 ij jn (by omega) (by omega)
        refine hY v mm ⟨fun z => fin (fun z2 => by omega), fun z => ⟨zb_inI_of (by omega) (by omega), ⟨by omega, by omega⟩, ?_⟩⟩
        have hm := hp.1 (v - 1) (by omega) (by omega)
        rw [q3 (v - 1) (by omega), q4 (a + 1) (by omega)]
        refine ⟨⟨hm.1, by omega⟩, ⟨hx.1, by omega⟩, fun c2 => fin (fun _ => c2), fun c2 => ⟨⟨v0, by omega⟩, fun m69 e69 => ⟨zb_inI_of (by omega) (by omega), ?_⟩⟩⟩
        refine ih (v + -1) m69 (by omega) (by omega) (by omega) (fun j hj => ?_) (fun j j0 j1 => ?_) (fun j hj => ?_) (fun b hb => ?_) (fun j j0 j1 => ?_)
        · rw [zb_u2 e69 (by omega)]; exact q1 j hj
        · by_cases w : j = v
          · rw [w, zb_u1 e69]
          · rw [zb_u2 e69 (by omega)]; exact q2 j (by omega) j1
        · rw [zb_u2 e69 (by omega)]; exact q3 j (by omega)
        · rw [zb_u3 e69 hb]; exact q4 b hb
        · by_cases w : j = v - 1
          · rw [w]; omega
          · exact q5 j (by omega) j1
    exact go c.toNat c m P0 (Int.le_refl _) (by omega) (fun j _ => rfl) (fun j j0 j1 => by omega) (fun j _ => rfl) (fun b _ => rfl) (fun j j0 j1 => by omega)
  · have := hp.2 v P v0 (by omega) P0 P1 (c2.trans hP.symm)
    omega
  · have : v ≠ P := fun z => c2 (by rw [z]; exact hP)
    omega
theorem zb_sz_mk0 {n : Int} {p : zb_Pt} {x : Int} (x0 : 0 ≤ x) (x1 : x < n) (i : Int) : zb_sz n (zb_mk0 n p x).1 i = if i < p.1 x then zb_sz n p.1 i else if i = p.1 x then 1 else if i = p.1 x + 1 then zb_sz n p.1 (p.1 x) - 1 else zb_sz n p.1 (i - 1) := by
  unfold zb_sz
  rw [zb_cnt_sum, zb_cnt_sum, zb_cnt_sum, zb_cnt_sum]
  have e : zb_sum (fun y => if ((zb_mk0 n p x).1 y == i) = true then 1 else 0) n.toNat = zb_sum (fun y => if (if y ≠ x ∧ p.1 x ≤ p.1 y then p.1 y + 1 else p.1 y) = i then 1 else 0) n.toNat := zb_sum_congr (fun y y0 y1 => by
    rw [zb_mk0_at y0 (by omega)]
    by_cases q : (if y ≠ x ∧ p.1 x ≤ p.1 y then p.1 y + 1 else p.1 y) = i
    · rw [if_pos q, if_pos (by simpa using q)]
    · rw [if_neg q, if_neg (by simpa using q)])
  have b : ∀ j y : Int, (if (p.1 y == j) = true then (1 : Int) else 0) = if p.1 y = j then 1 else 0 := fun j y => by
    by_cases q : p.1 y = j
    · rw [if_pos q, if_pos (by simpa using q)]
    · rw [if_neg q, if_neg (by simpa using q)]
  rw [e]
  simp only [b]
  by_cases q1 : i < p.1 x
  · rw [if_pos q1]
    refine zb_sum_congr (fun y y0 y1 => ?_)
    by_cases w : y ≠ x ∧ p.1 x ≤ p.1 y
    · rw [if_pos w, if_neg (by omega), if_neg (by omega)]
    · rw [if_neg w]
  · rw [if_neg q1]
    by_cases q2 : i = p.1 x
    · rw [if_pos q2]
      rw [zb_sum_congr (g := fun y => if y = x then 1 else 0) (fun y y0 y1 => by
        by_cases w : y = x
        · subst w
          rw [if_neg (c := y ≠ y ∧ _) (fun z => z.1 rfl), if_pos q2.symm, if_pos rfl]
        · rw [if_neg w]
          by_cases w2 : p.1 x ≤ p.1 y
          · rw [if_pos (c := y ≠ x ∧ p.1 x ≤ p.1 y) ⟨w, w2⟩, if_neg (by omega)]
          · rw [if_neg (c := y ≠ x ∧ p.1 x ≤ p.1 y) (fun z => w2 z.2), if_neg (by omega)])]
      exact zb_sum_one x 1 x0 (by omega)
    · rw [if_neg q2]
      by_cases q3 : i = p.1 x + 1
      · rw [if_pos q3]
        have h1 := zb_sum_one x 1 (k := n.toNat) x0 (by omega)
        have h2 : zb_sum (fun y => if p.1 y = p.1 x then 1 else 0) n.toNat - 1 = zb_sum (fun y => (if p.1 y = p.1 x then 1 else 0) - (if y = x then 1 else 0)) n.toNat := by rw [zb_sum_sub, h1]
        rw [h2]
        refine zb_sum_congr (fun y y0 y1 => ?_)
        by_cases w : y = x
        · subst w
          rw [if_neg (c := y ≠ y ∧ _) (fun z => z.1 rfl), if_neg (by omega), if_pos rfl, if_pos rfl]; rfl
        · rw [if_neg w]
          by_cases w2 : p.1 x ≤ p.1 y
          · rw [if_pos (c := y ≠ x ∧ p.1 x ≤ p.1 y) ⟨w, w2⟩]
            by_cases w3 : p.1 y = p.1 x
            · rw [if_pos w3, if_pos (by omega)]; rfl
            · rw [if_neg w3, if_neg (by omega)]; rfl
          · rw [if_neg (c := y ≠ x ∧ p.1 x ≤ p.1 y) (fun z => w2 z.2), if_neg (by omega), if_neg (by omega)]; rfl
      · rw [if_neg q3]
        refine zb_sum_congr (fun y y0 y1 => ?_)
        by_cases w : y = x
        · subst w
          rw [if_neg (c := y ≠ y ∧ _) (fun z => z.1 rfl), if_neg (by omega), if_neg (by omega)]
        · by_cases w2 : p.1 x ≤ p.1 y
          · rw [if_pos (c := y ≠ x ∧ p.1 x ≤ p.1 y) ⟨w, w2⟩]
            by_cases w3 : p.1 y = i - 1
            · rw [if_pos w3, if_pos (by omega)]
            · rw [if_neg w3, if_neg (by omega)]
          · rw [if_neg (c := y ≠ x ∧ p.1 x ≤ p.1 y) (fun z => w2 z.2), if_neg (by omega), if_neg (by omega)]
theorem s_X5_setApart {d : Nat} {m : zb_M} {a n x : Int} {p : zb_Pt} (ha : zb_is zb_E0.1 a 5) (h : zb_CP m a n p) (hg : zb_gp n p) (n1 : n ≤ 12) (x0 : 0 ≤ x) (x1 : x < n) : zb_T K_X5_setApart (d + 2) [(2, a), (0, x)] zb_E0 m (fun _ m1 => zb_CP m1 a n (zb_mrk n p x) ∧ ∀ b, (b < a ∨ a + 3 < b) → m1 b = m b) := by
  apply w_X5_setApart
  obtain ⟨v2, v3, v4⟩ := zb_part ha
  have hx := hg.1 x x0 x1
  have hk := zb_gd_le hg (by omega)
  unfold PM_X5_setApart
  refine (s_X5_isAlone ha h hg n1 x0 x1).mono (fun r hr => ?_)
  rcases hr with ⟨r1, r2⟩ | ⟨r1, r2⟩
  · refine ⟨fun z => by omega, fun _ => ⟨?_, fun b _ => rfl⟩⟩
    rw [zb_mrk_a r2]; exact h
  refine ⟨fun _ => ⟨⟨x0, by omega⟩, ?_⟩, fun z => absurd r1 z⟩
  have hg2 := zb_mrk_gd hg x0 x1
  have hk2 := zb_gd_le hg2 (by omega)
  rw [zb_mrk_n r2] at hg2 hk2 ⊢
  have hk2 : p.2 + 1 ≤ n := hk2
  obtain ⟨h1, h2, h3, h4, h5, h6⟩ := h
  unfold PL_X5_setApart_21
  rw [v2, v3, h2, h3 x x0 x1]
  intro X hX
  have go : ∀ (f : Nat) (v : Int) (mm : zb_M), p.1 x + 1 ≤ v → v ≤ p.2 → v - (p.1 x + 1) ≤ f → (∀ i, v < i → i ≤ p.2 → mm (a + 2) i = m (a + 2) (i - 1)) → (∀ i, i ≤ v → mm (a + 2) i = m (a + 2) i) → (∀ b, b ≠ a + 2 → mm b = m b) → X v mm := by
    intro f
    induction f with
    | zero =>
      intro v mm g1 g2 g3 q1 q2 q3
      refine hX v mm ⟨zb_inI_of (by omega) (by omega), fun _ => ?_, fun z => by omega⟩
      have hv : v = p.1 x + 1 := by omega
      subst hv
      unfold PJ_X5_setApart_48
      rw [v2, v3, h3 x x0 x1, q2 (p.1 x) (by omega), h4 _ hx.1 hx.2]
      have hs1 : 1 ≤ zb_sz n p.1 (p.1 x) := zb_sz_pos x0 x1
      have hs2 : zb_sz n p.1 (p.1 x) ≤ 12 := by
        have := (zb_cnt_rng (fun y => p.1 y == p.1 x) n.toNat).2
        unfold zb_sz
        omega
      refine ⟨zb_inI_of (by omega) (by omega), ⟨hx.1, by omega⟩, zb_inI_of (by omega) (by omega), ⟨by omega, by omega⟩, fun m63 e63 m70 e70 => ?_⟩
      have k70 : m70 a 1 = p.2 := by rw [zb_u3 e70 (by omega), zb_u3 e63 (by omega), q3 a (by omega)]; exact h2
      rw [k70]
      refine ⟨zb_inI_of (by omega) (by omega), fun m78 e78 => ?_⟩
      have sz78 : ∀ i, 0 ≤ i → i < p.2 + 1 → m78 (a + 2) i = zb_sz n (zb_mk0 n p x).1 i := fun i i0 i1 => by
        rw [zb_sz_mk0 x0 x1 i, zb_u3 e78 (by omega)]
        by_cases w1 : i < p.1 x
        · rw [if_pos w1, zb_u2 e70 (by omega), zb_u2 e63 (by omega), q2 i (by omega)]; exact h4 i i0 (by omega)
        · rw [if_neg w1]
          by_cases w2 : i = p.1 x
          · rw [if_pos w2, w2, zb_u1 e70]
          · rw [if_neg w2, zb_u2 e70 (by omega)]
            by_cases w3 : i = p.1 x + 1
            · rw [if_pos w3, w3, zb_u1 e63]
            · rw [if_neg w3, zb_u2 e63 (by omega), q1 i (by omega) (by omega)]; exact h4 (i - 1) (by omega) (by omega)
      have f78 : ∀ b, b ≠ a → b ≠ a + 2 → m78 b = m b := fun b b1 b2 => by rw [zb_u3 e78 b1, zb_u3 e70 b2, zb_u3 e63 b2]; exact q3 b b2
      have z78 : m78 a 0 = n := by rw [zb_u2 e78 (by omega), zb_u3 e70 (by omega), zb_u3 e63 (by omega), q3 a (by omega)]; exact h1
      have o78 : m78 a 1 = p.2 + 1 := zb_u1 e78
      unfold PL_X5_setApart_83
      rw [v2, h3 x x0 x1]
      intro Y hY
      refine zb_lp1 (fun v mn => 0 ≤ v ∧ (∀ y, 0 ≤ y → y < n → mn (a + 1) y = if y < v then (zb_mk0 n p x).1 y else p.1 y) ∧ ∀ b, b ≠ a + 1 → mn b = m78 b) n (fun v mn ⟨v0, t1, t2⟩ vn nxt => hY v mn ⟨fun c => ?_, fun c => ?_⟩) 0 m78 (by omega) ⟨by omega, fun y y0 y1 => by rw [if_neg (by omega), f78 _ (by omega) (by omega)]; exact h3 y y0 y1, fun b _ => rfl⟩
      · rw [t2 a (by omega), z78] at c
        have hv : v = n := by omega
        subst hv
        clear nxt hY Y
        unfold PJ_X5_setApart_122
        have e1 : ∀ y, 0 ≤ y → y < v → mn (a + 1) y = (zb_mk0 v p x).1 y := fun y y0 y1 => by rw [t1 y y0 y1, if_pos y1]
        have e3 : mn (a + 3) = m (a + 3) := by rw [t2 _ (by omega)]; exact f78 _ (by omega) (by omega)
        obtain ⟨P, P0, P1, hP⟩ := zb_pm_sur h5 x0 x1
        have ne : ∀ i, 0 ≤ i → i < v → i ≠ P → m (a + 3) i ≠ x := fun i i0 i1 hi z => hi (h5.2 i P i0 i1 P0 P1 (z.trans hP.symm))
        refine (s_X5_moveAhead (P := P) (n := v) ha (by rw [t2 a (by omega)]; exact z78) n1 (by rw [e3]; exact h5) P0 P1 (by rw [e3]; exact hP) (fun i j i0 ij jn iP jP => ?_) (fun j Pj jn => ?_)).mono (fun _ m1 ⟨u1, u2, u3⟩ => ⟨⟨?_, ?_, fun y y0 y1 => ?_, fun i i0 i1 => ?_, u1, fun i j i0 ij jn => ?_⟩, fun b hb => ?_⟩)
        · have ri := h5.1 i i0 (by omega)
          have rj := h5.1 j (by omega) jn
          have mono := h6 i j i0 ij jn
          have n1 := ne i i0 (by omega) iP
          have n2 := ne j (by omega) jn jP
          rw [e3, e1 _ ri.1 ri.2, e1 _ rj.1 rj.2, zb_mk0_at ri.1 ri.2, zb_mk0_at rj.1 rj.2]
          by_cases w : p.1 x ≤ p.1 (m (a + 3) i)
          · rw [if_pos ⟨n1, w⟩, if_pos ⟨n2, by omega⟩]; omega
          · rw [if_neg (fun z => w z.2)]
            split <;> omega
        · have rj := h5.1 j (by omega) jn
          have mono := h6 P j P0 Pj jn
          have n2 := ne j (by omega) jn (by omega)
          rw [hP] at mono
          rw [e3, e1 _ x0 x1, e1 _ rj.1 rj.2, zb_mk0_at x0 x1, zb_mk0_at rj.1 rj.2, if_neg (c := x ≠ x ∧ _) (fun z => z.1 rfl), if_pos ⟨n2, mono⟩]
          omega
        · rw [u3 a (by omega), t2 a (by omega)]; exact z78
        · rw [u3 a (by omega), t2 a (by omega)]; exact o78
        · rw [u3 _ (by omega)]; exact e1 y y0 y1
        · rw [u3 _ (by omega), t2 _ (by omega)]; exact sz78 i i0 i1
        · have ri := u1.1 i i0 (by omega)
          have rj := u1.1 j (by omega) jn
          rw [← e1 _ ri.1 ri.2, ← e1 _ rj.1 rj.2]
          exact u2 i j i0 ij jn
        · rw [u3 b (by omega), t2 b (by omega)]; exact f78 b (by omega) (by omega)
      · rw [t2 a (by omega), z78] at c
        have ev : mn (a + 1) v = p.1 v := by rw [t1 v v0 (by omega), if_neg (by omega)]
        have hv := hg.1 v v0 (by omega)
        have up : ∀ mo : zb_M, mo (a + 1) v = (zb_mk0 n p x).1 v → (∀ j, j ≠ v → mo (a + 1) j = mn (a + 1) j) → (∀ b, b ≠ a + 1 → mo b = mn b) → Y (v + 1) mo := fun mo w1 w2 w3 => nxt (by omega) mo ⟨by omega, fun y y0 y1 => by
          by_cases q : y = v
          · rw [q, if_pos (by omega)]; exact w1
          · rw [w2 y q, t1 y y0 y1]
            by_cases q2 : y < v
            · rw [if_pos q2, if_pos (by omega)]
            · rw [if_neg q2, if_neg (by omega)], fun b hb => by rw [w3 b hb]; exact t2 b hb⟩
        have e0 := zb_mk0_at (p := p) (x := x) v0 (show v < n by omega)
        rw [ev]
        refine ⟨fun q => ⟨zb_inI_of (by omega) (by omega), up mn ?_ (fun _ _ => rfl) (fun _ _ => rfl)⟩, fun q => ⟨⟨v0, by omega⟩, fun q2 => ⟨zb_inI_of (by omega) (by omega), up mn ?_ (fun _ _ => rfl) (fun _ _ => rfl)⟩, fun q2 => ⟨zb_inI_of (by omega) (by omega), fun m115 e115 => ⟨zb_inI_of (by omega) (by omega), up m115 ?_ (fun j hj => zb_u2 e115 (Or.inr hj)) (fun b hb => zb_u3 e115 hb)⟩⟩⟩⟩
        · rw [ev, e0, if_neg (fun z => z.1 q)]
        · rw [ev, e0, if_neg (by omega)]
        · rw [zb_u1 e115, e0, if_pos ⟨q, by omega⟩]
    | succ f ih =>
      intro v mm g1 g2 g3 q1 q2 q3
      by_cases c : v ≤ p.1 x + 1
      · have hv : v = p.1 x + 1 := by omega
        exact ih v mm g1 g2 (by omega) q1 q2 q3
      refine hX v mm ⟨zb_inI_of (by omega) (by omega), fun z => absurd z c, fun _ => ⟨zb_inI_of (by omega) (by omega), ⟨by omega, by omega⟩, ⟨by omega, by omega⟩, fun m41 e41 => ⟨zb_inI_of (by omega) (by omega), ?_⟩⟩⟩
      refine ih (v + -1) m41 (by omega) (by omega) (by omega) (fun i i0 i1 => ?_) (fun i hi => ?_) (fun b hb => ?_)
      · by_cases w : i = v
        · rw [w, zb_u1 e41]; exact q2 (v - 1) (by omega)
        · rw [zb_u2 e41 (by omega)]; exact q1 i (by omega) i1
      · rw [zb_u2 e41 (by omega)]; exact q2 i (by omega)
      · rw [zb_u3 e41 hb]; exact q3 b hb
  exact go p.2.toNat p.2 m (by omega) (Int.le_refl _) (by omega) (fun i i0 i1 => by omega) (fun i _ => rfl) (fun b _ => rfl)
