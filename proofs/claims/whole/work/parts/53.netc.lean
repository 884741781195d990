/-! ===== more of the class's nets ===== -/
def zb_lenG (g : zb_Gv) : zb_Gv := (g.1, g.2.1, g.2.2.1, g.2.2.2.1, (fun i => if g.2.2.2.2.1 i = -1 then -1 else 12), g.2.2.2.2.2)
theorem s_X4_lengthenRows {d : Nat} {m : zb_M} {a : Int} {g : zb_Gv} (ha : zb_is zb_E0.1 a 4) (hg : zb_Cg m a g) (hO : zb_Og g) : zb_T K_X4_lengthenRows (d + 2) [(2, a)] zb_E0 m (fun _ m1 => zb_Cg m1 a (zb_lenG g) ∧ ∀ b, b ≠ a + 4 → m1 b = m b) := by
  apply w_X4_lengthenRows
  obtain ⟨v1, v2, v3, v4, v5⟩ := zb_net ha
  have hn := hO.2.1
  unfold PM_X4_lengthenRows PL_X4_lengthenRows_2
  rw [v4]
  intro X hX
  have key : ∀ (f : Nat) (v : Int) (mm : zb_M), 0 ≤ v → v ≤ g.1 → g.1 - v ≤ f → (∀ i, 0 ≤ i → i < v → mm (a + 4) i = if m (a + 4) i = -1 then -1 else 12) → (∀ i, v ≤ i → mm (a + 4) i = m (a + 4) i) → (∀ b, b ≠ a + 4 → mm b = m b) → X v mm := by
    intro f
    induction f with
    | zero =>
      intro v mm g0 g1 g2 g3 g4 g5
      have e0 : mm a 0 = g.1 := by rw [g5 a (by omega)]; exact hg.1
      refine hX v mm ⟨fun c => ⟨⟨e0, fun i i0 i1 => ?_⟩, g5⟩, fun c => absurd (show mm a 0 ≤ v by omega) c⟩
      obtain ⟨q1, q2, q3, q4, q5⟩ := hg.2 i i0 i1
      refine ⟨by rw [g5 _ (by omega)]; exact q1, by rw [g5 _ (by omega)]; exact q2, by rw [g5 _ (by omega)]; exact q3, ?_, fun j j0 j1 => by rw [g5 _ (by omega)]; exact q5 j j0 j1⟩
      rw [g3 i i0 (by have i1 : i < g.1 := i1; omega), q4]
      rfl
    | succ f ih =>
      intro v mm g0 g1 g2 g3 g4 g5
      have e0 : mm a 0 = g.1 := by rw [g5 a (by omega)]; exact hg.1
      refine hX v mm ⟨fun c => ⟨⟨e0, fun i i0 i1 => ?_⟩, g5⟩, fun c => ?_⟩
      · obtain ⟨q1, q2, q3, q4, q5⟩ := hg.2 i i0 i1
        refine ⟨by rw [g5 _ (by omega)]; exact q1, by rw [g5 _ (by omega)]; exact q2, by rw [g5 _ (by omega)]; exact q3, ?_, fun j j0 j1 => by rw [g5 _ (by omega)]; exact q5 j j0 j1⟩
        rw [g3 i i0 (by have i1 : i < g.1 := i1; omega), q4]
        rfl
      · refine (s_X4_hasRow ha g0 (by omega)).mono (fun r h => ⟨fun c2 => ⟨zb_inI_of (by omega) (by omega), ?_⟩, fun c2 => ⟨⟨g0, by omega⟩, fun m25 e25 => ⟨zb_inI_of (by omega) (by omega), ?_⟩⟩⟩)
        · have e1 : mm (a + 4) v = -1 := by
            by_cases q : mm (a + 4) v = -1
            · exact q
            · rw [if_neg q] at h; omega
          refine ih (v + 1) mm (by omega) (by omega) (by omega) (fun i i0 i1 => ?_) (fun i hi => g4 i (by omega)) g5
          by_cases q : i = v
          · subst q
            rw [e1, if_pos (by rw [← g4 i (Int.le_refl i)]; exact e1)]
          · exact g3 i i0 (by omega)
        · have e1 : ¬ mm (a + 4) v = -1 := by
            intro q
            rw [if_pos q] at h
            exact c2 h
          refine ih (v + 1) m25 (by omega) (by omega) (by omega) (fun i i0 i1 => ?_) (fun i hi => ?_) (fun b hb => ?_)
          · by_cases q : i = v
            · subst q
              rw [zb_u1 e25, if_neg (by rw [← g4 i (Int.le_refl i)]; exact e1)]
            · rw [zb_u2 e25 (Or.inr q)]
              exact g3 i i0 (by omega)
          · rw [zb_u2 e25 (Or.inr (by omega))]
            exact g4 i (by omega)
          · rw [zb_u3 e25 hb]
            exact g5 b hb
  exact key g.1.toNat 0 m (by omega) hO.1 (by omega) (fun i i0 i1 => by omega) (fun i _ => rfl) (fun b _ => rfl)
/-- two numbers exchanged -/
def zb_sw (i j x : Int) : Int := if x = i then j else if x = j then i else x
theorem zb_sw_rng {i j x n : Int} (hi : 0 ≤ i ∧ i < n) (hj : 0 ≤ j ∧ j < n) (hx : 0 ≤ x ∧ x < n) : 0 ≤ zb_sw i j x ∧ zb_sw i j x < n := by
  unfold zb_sw
  split
  · exact hj
  · split
    · exact hi
    · exact hx
def zb_swG (g : zb_Gv) (i j : Int) : zb_Gv := (g.1, (fun x => g.2.1 (zb_sw i j x)), (fun x => g.2.2.1 (zb_sw i j x)), (fun x => g.2.2.2.1 (zb_sw i j x)), (fun x => g.2.2.2.2.1 (zb_sw i j x)), fun x y => g.2.2.2.2.2 (zb_sw i j x) (zb_sw i j y))
theorem zb_xc {m m1 : zb_M} {a i j : Int} (h1 : m1 a i = m a j) (h2 : m1 a j = m a i) (h3 : ∀ k, k ≠ i → k ≠ j → m1 a k = m a k) (x : Int) : m1 a x = m a (zb_sw i j x) := by
  unfold zb_sw
  split
  · rename_i q; rw [q]; exact h1
  · split
    · rename_i q; rw [q]; exact h2
    · rename_i q1 q2; exact h3 x q1 q2
theorem s_X4_exchange {d : Nat} {m : zb_M} {a i j : Int} {g : zb_Gv} (ha : zb_is zb_E0.1 a 4) (hg : zb_Cg m a g) (hO : zb_Og g) (hi : 0 ≤ i ∧ i < g.1) (hj : 0 ≤ j ∧ j < g.1) : zb_T K_X4_exchange (d + 2) [(2, a), (0, i), (0, j)] zb_E0 m (fun _ m1 => zb_Cg m1 a (zb_swG g i j) ∧ ∀ b, (b < a + 1 ∨ a + 5 < b) → m1 b = m b) := by
  apply w_X4_exchange
  obtain ⟨v1, v2, v3, v4, v5⟩ := zb_net ha
  have hn := hO.2.1
  have l1 := zb_W0.l 1 ha rfl (by decide)
  have l2 := zb_W0.l 2 ha rfl (by decide)
  have l3 := zb_W0.l 3 ha rfl (by decide)
  have l4 := zb_W0.l 4 ha rfl (by decide)
  have l5 := zb_W0.l 5 ha rfl (by decide)
  have l1 : zb_len zb_E0.1 (a + 1) = 12 := by rw [← v1]; exact l1
  have l2 : zb_len zb_E0.1 (a + 2) = 12 := by rw [← v2]; exact l2
  have l3 : zb_len zb_E0.1 (a + 3) = 12 := by rw [← v3]; exact l3
  have l4 : zb_len zb_E0.1 (a + 4) = 12 := by rw [← v4]; exact l4
  have l5 : zb_len zb_E0.1 (a + 5) = 144 := by rw [← v5]; exact l5
  unfold PM_X4_exchange
  rw [v1, v2, v3, v4]
  refine (s_X4_exchangeIn l1 hi.1 (by omega) hj.1 (by omega)).mono (fun _ ma ⟨a1, a2, a3, a4⟩ => ?_)
  refine (s_X4_exchangeIn l2 hi.1 (by omega) hj.1 (by omega)).mono (fun _ mb ⟨b1, b2, b3, b4⟩ => ?_)
  refine (s_X4_exchangeIn l3 hi.1 (by omega) hj.1 (by omega)).mono (fun _ mc ⟨c1, c2, c3, c4⟩ => ?_)
  refine (s_X4_exchangeIn l4 hi.1 (by omega) hj.1 (by omega)).mono (fun _ me ⟨e1, e2, e3, e4⟩ => ?_)
  have r1 : ∀ x, me (a + 1) x = m (a + 1) (zb_sw i j x) := fun x => by
    rw [e4 _ (by omega), c4 _ (by omega), b4 _ (by omega)]; exact zb_xc a1 a2 a3 x
  have r2 : ∀ x, me (a + 2) x = m (a + 2) (zb_sw i j x) := fun x => by
    rw [e4 _ (by omega), c4 _ (by omega), zb_xc b1 b2 b3 x, a4 _ (by omega)]
  have r3 : ∀ x, me (a + 3) x = m (a + 3) (zb_sw i j x) := fun x => by
    rw [e4 _ (by omega), zb_xc c1 c2 c3 x, b4 _ (by omega), a4 _ (by omega)]
  have r4 : ∀ x, me (a + 4) x = m (a + 4) (zb_sw i j x) := fun x => by
    rw [zb_xc e1 e2 e3 x, c4 _ (by omega), b4 _ (by omega), a4 _ (by omega)]
  have r5 : ∀ b, (b < a + 1 ∨ a + 4 < b) → me b = m b := fun b hb => by
    rw [e4 _ (by omega), c4 _ (by omega), b4 _ (by omega), a4 _ (by omega)]
  clear a1 a2 a3 a4 b1 b2 b3 b4 c1 c2 c3 c4 e1 e2 e3 e4
  unfold PL_X4_exchange_38
  intro X hX
  have hcol : ∀ m2 : zb_M, (∀ x y, 0 ≤ x → x < 12 → 0 ≤ y → y < 12 → m2 (a + 5) (x * 12 + y) = m (a + 5) (zb_sw i j x * 12 + y)) → (∀ b, b ≠ a + 5 → m2 b = me b) → PJ_X4_exchange_69 (d + 1) zb_E0 a i j (fun _ m1 => zb_Cg m1 a (zb_swG g i j) ∧ ∀ b, (b < a + 1 ∨ a + 5 < b) → m1 b = m b) m2 := by
    intro m2 h5 hr
    unfold PJ_X4_exchange_69 PL_X4_exchange_71
    rw [v5]
    intro Y hY
    have fin : ∀ mm : zb_M, (∀ x y, 0 ≤ x → x < g.1 → 0 ≤ y → y < 12 → mm (a + 5) (x * 12 + y) = m (a + 5) (zb_sw i j x * 12 + zb_sw i j y)) → (∀ b, b ≠ a + 5 → mm b = me b) → zb_Cg mm a (zb_swG g i j) ∧ ∀ b, (b < a + 1 ∨ a + 5 < b) → mm b = m b := by
      intro mm k5 kr
      refine ⟨⟨?_, fun x x0 x1 => ?_⟩, fun b hb => ?_⟩
      · rw [kr a (by omega), r5 a (by omega)]; exact hg.1
      · have x1 : x < g.1 := x1
        have hx := zb_sw_rng hi hj ⟨x0, x1⟩
        obtain ⟨q1, q2, q3, q4, q5⟩ := hg.2 _ hx.1 hx.2
        refine ⟨by rw [kr _ (by omega), r1]; exact q1, by rw [kr _ (by omega), r2]; exact q2, by rw [kr _ (by omega), r3]; exact q3, by rw [kr _ (by omega), r4]; exact q4, fun y y0 y1 => ?_⟩
        have hy := zb_sw_rng (n := 12) ⟨hi.1, by omega⟩ ⟨hj.1, by omega⟩ ⟨y0, y1⟩
        rw [k5 x y x0 x1 y0 y1]
        exact q5 _ hy.1 hy.2
      · rw [kr b (by omega), r5 b (by omega)]
    have key : ∀ (f : Nat) (v : Int) (mm : zb_M), 0 ≤ v → v ≤ g.1 → g.1 - v ≤ f → (∀ x y, 0 ≤ x → x < 12 → 0 ≤ y → y < 12 → mm (a + 5) (x * 12 + y) = if x < v then m (a + 5) (zb_sw i j x * 12 + zb_sw i j y) else m (a + 5) (zb_sw i j x * 12 + y)) → (∀ b, b ≠ a + 5 → mm b = me b) → Y v mm := by
      intro f
      induction f with
      | zero =>
        intro v mm g0 g1 g2 k5 kr
        have e0 : mm a 0 = g.1 := by rw [kr a (by omega), r5 a (by omega)]; exact hg.1
        refine hY v mm ⟨fun c => fin mm (fun x y x0 x1 y0 y1 => by rw [k5 x y x0 (by omega) y0 y1, if_pos (by omega)]) kr, fun c => absurd (show mm a 0 ≤ v by omega) c⟩
      | succ f ih =>
        intro v mm g0 g1 g2 k5 kr
        have e0 : mm a 0 = g.1 := by rw [kr a (by omega), r5 a (by omega)]; exact hg.1
        refine hY v mm ⟨fun c => fin mm (fun x y x0 x1 y0 y1 => by rw [k5 x y x0 (by omega) y0 y1, if_pos (by omega)]) kr, fun c => ⟨zb_inI_of (by omega) (by omega), zb_inI_of (by omega) (by omega), zb_inI_of (by omega) (by omega), ?_⟩⟩
        refine (s_X4_exchangeIn l5 (by omega) (by omega) (by omega) (by omega)).mono (fun _ mf ⟨f1, f2, f3, f4⟩ => ⟨zb_inI_of (by omega) (by omega), ?_⟩)
        refine ih (v + 1) mf (by omega) (by omega) (by omega) (fun x y x0 x1 y0 y1 => ?_) (fun b hb => by rw [f4 b hb]; exact kr b hb)
        by_cases qx : x = v
        · subst qx
          rw [if_pos (by omega)]
          by_cases qi : y = i
          · subst qi
            rw [f1, k5 x j x0 x1 hj.1 (by omega), if_neg (by omega)]
            congr 1
            unfold zb_sw
            rw [if_pos (rfl : y = y)]
          · by_cases qj : y = j
            · subst qj
              rw [f2, k5 x i x0 x1 hi.1 (by omega), if_neg (by omega)]
              congr 1
              rw [show zb_sw i y y = i by unfold zb_sw; rw [if_neg qi, if_pos rfl]]
            · rw [f3 _ (by omega) (by omega), k5 x y x0 x1 y0 y1, if_neg (by omega)]
              congr 1
              rw [show zb_sw i j y = y by unfold zb_sw; rw [if_neg qi, if_neg qj]]
        · rw [f3 _ (by omega) (by omega), k5 x y x0 x1 y0 y1]
          by_cases q : x < v
          · rw [if_pos q, if_pos (by omega)]
          · rw [if_neg q, if_neg (by omega)]
    exact key g.1.toNat 0 m2 (by omega) hO.1 (by omega) (fun x y x0 x1 y0 y1 => by rw [if_neg (by omega)]; exact h5 x y x0 x1 y0 y1) hr
  have key : ∀ (f : Nat) (v : Int) (mm : zb_M), 0 ≤ v → v ≤ 12 → 12 - v ≤ f → (∀ x y, 0 ≤ x → x < 12 → 0 ≤ y → y < 12 → mm (a + 5) (x * 12 + y) = if y < v then m (a + 5) (zb_sw i j x * 12 + y) else m (a + 5) (x * 12 + y)) → (∀ b, b ≠ a + 5 → mm b = me b) → X v mm := by
    intro f
    induction f with
    | zero =>
      intro v mm g0 g1 g2 k5 kr
      exact hX v mm ⟨fun c => hcol mm (fun x y x0 x1 y0 y1 => by rw [k5 x y x0 x1 y0 y1, if_pos (by omega)]) kr, fun c => absurd (show (12 : Int) ≤ v by omega) c⟩
    | succ f ih =>
      intro v mm g0 g1 g2 k5 kr
      refine hX v mm ⟨fun c => hcol mm (fun x y x0 x1 y0 y1 => by rw [k5 x y x0 x1 y0 y1, if_pos (by omega)]) kr, fun c => ⟨zb_inI_of (by omega) (by omega), zb_inI_of (by omega) (by omega), zb_inI_of (by omega) (by omega), zb_inI_of (by omega) (by omega), ?_⟩⟩
      rw [v5]
      refine (s_X4_exchangeIn l5 (by omega) (by omega) (by omega) (by omega)).mono (fun _ mf ⟨f1, f2, f3, f4⟩ => ⟨zb_inI_of (by omega) (by omega), ?_⟩)
      refine ih (v + 1) mf (by omega) (by omega) (by omega) (fun x y x0 x1 y0 y1 => ?_) (fun b hb => by rw [f4 b hb]; exact kr b hb)
      by_cases qy : y = v
      · subst qy
        rw [if_pos (by omega)]
        by_cases qi : x = i
        · subst qi
          rw [f1, k5 j y hj.1 (by omega) y0 y1, if_neg (by omega)]
          congr 1
          unfold zb_sw
          rw [if_pos (rfl : x = x)]
        · by_cases qj : x = j
          · subst qj
            rw [f2, k5 i y hi.1 (by omega) y0 y1, if_neg (by omega)]
            congr 1
            rw [show zb_sw i x x = i by unfold zb_sw; rw [if_neg qi, if_pos rfl]]
          · rw [f3 _ (by omega) (by omega), k5 x y x0 x1 y0 y1, if_neg (by omega)]
            congr 1
            rw [show zb_sw i j x = x by unfold zb_sw; rw [if_neg qi, if_neg qj]]
      · rw [f3 _ (by omega) (by omega), k5 x y x0 x1 y0 y1]
        by_cases q : y < v
        · rw [if_pos q, if_pos (by omega)]
        · rw [if_neg q, if_neg (by omega)]
  exact key 12 0 me (by omega) (by omega) (by omega) (fun x y x0 x1 y0 y1 => by rw [if_neg (by omega), r5 _ (by omega)]) (fun b _ => rfl)
