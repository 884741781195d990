/-! ===== what every graph keeps to, kept by the calls ===== -/
theorem v_colour_ok {s : zb_Gs} {g i c : Int} (h : zb_OG s) : zb_OG (v_colour s g i c).2 := by
  unfold v_colour
  by_cases q : zb_thg s g i ∧ 0 ≤ c ∧ c < 10
  · rw [if_pos q]
    obtain ⟨⟨⟨g0, g1⟩, i0, i1⟩, c0, c1⟩ := q
    have hg := h.1 g g0 g1
    refine zb_put_ok (zb_psh_ok h g0 g1) ⟨hg.1, hg.2.1, fun x x0 x1 => ?_⟩
    obtain ⟨p1, p2, p3, p4, p5⟩ := hg.2.2 x x0 x1
    refine ⟨p1, ?_, p3, p4, p5⟩
    show 0 ≤ (if x = i then c else _) ∧ (if x = i then c else _) ≤ 9
    by_cases q : x = i
    · rw [if_pos q]; omega
    · rw [if_neg q]; exact p2
  · rw [if_neg q]; exact h
theorem v_word_ok {s : zb_Gs} {g i c : Int} (h : zb_OG s) : zb_OG (v_word s g i c).2 := by
  unfold v_word
  by_cases q : zb_thg s g i ∧ 0 ≤ c ∧ c < 100
  · rw [if_pos q]
    obtain ⟨⟨⟨g0, g1⟩, i0, i1⟩, c0, c1⟩ := q
    by_cases q2 : zb_nk ((s.1 g).2.1 i) = true
    · rw [if_pos q2]
      have hg := h.1 g g0 g1
      refine zb_put_ok (zb_psh_ok h g0 g1) ⟨hg.1, hg.2.1, fun x x0 x1 => ?_⟩
      obtain ⟨p1, p2, p3, p4, p5⟩ := hg.2.2 x x0 x1
      refine ⟨p1, p2, ?_, p4, p5⟩
      show 0 ≤ (if x = i then c else _) ∧ (if x = i then c else _) ≤ 99
      by_cases q : x = i
      · rw [if_pos q]; omega
      · rw [if_neg q]; exact p3
    · rw [if_neg q2]; exact h
  · rw [if_neg q]; exact h
theorem zb_rowG_ok {g : zb_Gv} {i n : Int} (hg : zb_Og g) (h0 : -1 ≤ n) (h1 : n ≤ 12) : zb_Og (zb_rowG g i n) := by
  refine ⟨hg.1, hg.2.1, fun x x0 x1 => ?_⟩
  obtain ⟨p1, p2, p3, p4, p5⟩ := hg.2.2 x x0 x1
  refine ⟨p1, p2, p3, ?_, fun j j0 j1 => ?_⟩
  · show -1 ≤ (if x = i then n else _) ∧ (if x = i then n else _) ≤ 12
    by_cases q : x = i
    · rw [if_pos q]; omega
    · rw [if_neg q]; exact p4
  · show (0 ≤ (if x = i then 0 else _) ∧ (if x = i then 0 else _) ≤ 9) ∧ ((if x = i then n else g.2.2.2.2.1 x) ≤ j → (if x = i then 0 else _) = 0)
    by_cases q : x = i
    · rw [if_pos q, if_pos q]; omega
    · rw [if_neg q, if_neg q]; exact p5 j j0 j1
theorem v_row_ok {s : zb_Gs} {g i n : Int} (h : zb_OG s) : zb_OG (v_row s g i n).2 := by
  unfold v_row
  by_cases q : zb_thg s g i ∧ n ≤ 12
  · rw [if_pos q]
    obtain ⟨⟨⟨g0, g1⟩, i0, i1⟩, c1⟩ := q
    by_cases q2 : 0 ≤ n
    · rw [if_pos q2]
      exact zb_put_ok (zb_psh_ok h g0 g1) (zb_rowG_ok (h.1 g g0 g1) (by omega) c1)
    · rw [if_neg q2]; exact h
  · rw [if_neg q]; exact h
theorem v_unrow_ok {s : zb_Gs} {g i : Int} (h : zb_OG s) : zb_OG (v_unrow s g i).2 := by
  unfold v_unrow
  by_cases q : zb_thg s g i
  · rw [if_pos q]
    obtain ⟨⟨g0, g1⟩, i0, i1⟩ := q
    by_cases q2 : (s.1 g).2.2.2.2.1 i = -1
    · rw [if_pos q2]; exact h
    · rw [if_neg q2]
      exact zb_put_ok (zb_psh_ok h g0 g1) (zb_rowG_ok (h.1 g g0 g1) (by omega) (by omega))
  · rw [if_neg q]; exact h
theorem v_place_ok {s : zb_Gs} {g i j v : Int} (h : zb_OG s) : zb_OG (v_place s g i j v).2 := by
  unfold v_place
  by_cases q : zb_thg s g i ∧ 0 ≤ v ∧ v < 10
  · rw [if_pos q]
    obtain ⟨⟨⟨g0, g1⟩, i0, i1⟩, c0, c1⟩ := q
    by_cases q2 : (s.1 g).2.2.2.2.1 i = -1
    · rw [if_pos q2]; exact h
    rw [if_neg q2]
    by_cases q3 : 0 ≤ j ∧ j < (s.1 g).2.2.2.2.1 i
    · rw [if_pos q3]
      have hg := h.1 g g0 g1
      refine zb_put_ok (zb_psh_ok h g0 g1) ⟨hg.1, hg.2.1, fun x x0 x1 => ?_⟩
      obtain ⟨p1, p2, p3, p4, p5⟩ := hg.2.2 x x0 x1
      refine ⟨p1, p2, p3, p4, fun y y0 y1 => ?_⟩
      show (0 ≤ (if x = i ∧ y = j then v else _) ∧ (if x = i ∧ y = j then v else _) ≤ 9) ∧ ((s.1 g).2.2.2.2.1 x ≤ y → (if x = i ∧ y = j then v else _) = 0)
      by_cases q : x = i ∧ y = j
      · rw [if_pos q]
        obtain ⟨rfl, rfl⟩ := q
        omega
      · rw [if_neg q]; exact p5 y y0 y1
    · rw [if_neg q3]; exact h
  · rw [if_neg q]; exact h
theorem v_copy_ok {s : zb_Gs} {g i frm o k to n : Int} (h : zb_OG s) : zb_OG (v_copy s g i frm o k to n).2 := by
  unfold v_copy
  by_cases q : zb_thg s g i ∧ zb_thg s o k
  · rw [if_pos q]
    obtain ⟨⟨⟨g0, g1⟩, i0, i1⟩, ⟨o0, o1⟩, k0, k1⟩ := q
    by_cases q2 : (s.1 g).2.2.2.2.1 i = -1 ∨ (s.1 o).2.2.2.2.1 k = -1
    · rw [if_pos q2]; exact h
    rw [if_neg q2]
    by_cases q3 : 0 ≤ n ∧ 0 ≤ frm ∧ 0 ≤ to ∧ frm + n ≤ (s.1 g).2.2.2.2.1 i ∧ to + n ≤ (s.1 o).2.2.2.2.1 k
    · rw [if_pos q3]
      have hg := h.1 g g0 g1
      have hh := h.1 o o0 o1
      refine zb_put_ok (zb_psh_ok h o0 o1) ⟨hh.1, hh.2.1, fun x x0 x1 => ?_⟩
      obtain ⟨p1, p2, p3, p4, p5⟩ := hh.2.2 x x0 x1
      obtain ⟨-, -, -, r4, r5⟩ := hg.2.2 i i0 i1
      refine ⟨p1, p2, p3, p4, fun y y0 y1 => ?_⟩
      show (0 ≤ (if x = k ∧ to ≤ y ∧ y < to + n then _ else _) ∧ (if x = k ∧ to ≤ y ∧ y < to + n then _ else _) ≤ 9) ∧ ((s.1 o).2.2.2.2.1 x ≤ y → (if x = k ∧ to ≤ y ∧ y < to + n then _ else _) = 0)
      by_cases q : x = k ∧ to ≤ y ∧ y < to + n
      · rw [if_pos q]
        obtain ⟨rfl, q5, q6⟩ := q
        refine ⟨(r5 (frm + (y - to)) (by omega) (by omega)).1, fun z => by omega⟩
      · rw [if_neg q]; exact p5 y y0 y1
    · rw [if_neg q3]; exact h
  · rw [if_neg q]; exact h
theorem v_thing_ok {s : zb_Gs} {g k c w : Int} (h : zb_OG s) : zb_OG (v_thing s g k c w).2 := by
  unfold v_thing
  by_cases q : (0 ≤ g ∧ g < 8) ∧ (0 ≤ k ∧ k < 5) ∧ (0 ≤ c ∧ c < 10) ∧ (zb_nk k = true → 0 ≤ w ∧ w < 100)
  · rw [if_pos q]
    obtain ⟨⟨g0, g1⟩, hk, hc, hw⟩ := q
    by_cases q2 : (s.1 g).1 < 12
    · rw [if_pos q2]
      have hg := h.1 g g0 g1
      refine zb_put_ok (zb_psh_ok h g0 g1) ⟨by show 0 ≤ (s.1 g).1 + 1; have := hg.1; omega, by show (s.1 g).1 + 1 ≤ 12; omega, fun x x0 x1 => ?_⟩
      have x1 : x < (s.1 g).1 + 1 := x1
      show (0 ≤ (if x = (s.1 g).1 then k else _) ∧ (if x = (s.1 g).1 then k else _) ≤ 4) ∧ (0 ≤ (if x = (s.1 g).1 then c else _) ∧ (if x = (s.1 g).1 then c else _) ≤ 9) ∧ (0 ≤ (if x = (s.1 g).1 then (if zb_nk k = true then w else 0) else _) ∧ (if x = (s.1 g).1 then (if zb_nk k = true then w else 0) else _) ≤ 99) ∧ (-1 ≤ (if x = (s.1 g).1 then -1 else _) ∧ (if x = (s.1 g).1 then -1 else _) ≤ 12) ∧ ∀ y, 0 ≤ y → y < 12 → (0 ≤ (if x = (s.1 g).1 then 0 else _) ∧ (if x = (s.1 g).1 then 0 else _) ≤ 9) ∧ ((if x = (s.1 g).1 then -1 else (s.1 g).2.2.2.2.1 x) ≤ y → (if x = (s.1 g).1 then 0 else _) = 0)
      by_cases q : x = (s.1 g).1
      · rw [if_pos q, if_pos q, if_pos q, if_pos q]
        refine ⟨by omega, by omega, ?_, by omega, fun y y0 y1 => by rw [if_pos q]; omega⟩
        by_cases q3 : zb_nk k = true
        · rw [if_pos q3]; have := hw q3; omega
        · rw [if_neg q3]; omega
      · obtain ⟨p1, p2, p3, p4, p5⟩ := hg.2.2 x x0 (by omega)
        rw [if_neg q, if_neg q, if_neg q, if_neg q]
        exact ⟨p1, p2, p3, p4, fun y y0 y1 => by rw [if_neg q]; exact p5 y y0 y1⟩
    · rw [if_neg q2]; exact h
  · rw [if_neg q]; exact h
theorem v_swap_ok {s : zb_Gs} {g i j : Int} (h : zb_OG s) : zb_OG (v_swap s g i j).2 := by
  unfold v_swap
  by_cases q : zb_thg s g i ∧ zb_thg s g j
  · rw [if_pos q]
    obtain ⟨⟨⟨g0, g1⟩, i0, i1⟩, -, j0, j1⟩ := q
    exact zb_put_ok (zb_psh_ok h g0 g1) (zb_swG_ok (zb_lenG_ok (h.1 g g0 g1)) ⟨i0, i1⟩ ⟨j0, j1⟩ (fun x _ _ => by
      show (if _ then (-1 : Int) else 12) = -1 ∨ (if _ then (-1 : Int) else 12) = 12
      split
      · exact Or.inl rfl
      · exact Or.inr rfl))
  · rw [if_neg q]; exact h
theorem v_twin_ok {s : zb_Gs} {f t : Int} (h : zb_OG s) : zb_OG (v_twin s f t).2 := by
  unfold v_twin
  by_cases q : (0 ≤ f ∧ f < 8) ∧ 0 ≤ t ∧ t < 8
  · rw [if_pos q]
    exact zb_put_ok (zb_psh_ok h q.2.1 q.2.2) (h.1 f q.1.1 q.1.2)
  · rw [if_neg q]; exact h
theorem v_drop_ok {s : zb_Gs} {g : Int} (h : zb_OG s) : zb_OG (v_drop s g).2 := by
  unfold v_drop
  by_cases q : 0 ≤ g ∧ g < 8
  · rw [if_pos q]
    exact zb_put_ok (zb_psh_ok h q.1 q.2) ⟨Int.le_refl _, by show (0 : Int) ≤ 12; omega, fun x x0 x1 => by have x1 : x < 0 := x1; omega⟩
  · rw [if_neg q]; exact h
theorem v_undo_ok {s : zb_Gs} (h : zb_OG s) : zb_OG (v_undo s).2 := by
  unfold v_undo
  by_cases q : s.2.1 = 0
  · rw [if_pos q]; exact h
  · rw [if_neg q]
    have hk := h.2.1
    refine ⟨fun x x0 x1 => ?_, ⟨by show 0 ≤ s.2.1 - 1; omega, by show s.2.1 - 1 ≤ 20; omega⟩, fun k k0 k1 => h.2.2 (k + 1) (by omega) (by have k1 : k < s.2.1 - 1 := k1; omega)⟩
    show zb_Og (if x = (s.2.2 0).1 then (s.2.2 0).2 else s.1 x)
    by_cases q2 : x = (s.2.2 0).1
    · rw [if_pos q2]; exact (h.2.2 0 (Int.le_refl _) (by omega)).2
    · rw [if_neg q2]; exact h.1 x x0 x1
