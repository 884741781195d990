/-! ===== the class's nets: what its methods do, in plain words ===== -/
/-- a graph: how many things; of each its kind, colour, word, places; the lines -/
abbrev zb_Gv : Type := Int × (Int → Int) × (Int → Int) × (Int → Int) × (Int → Int) × (Int → Int → Int)
/-- a net of the class holds a graph -/
def zb_Cg (m : zb_M) (a : Int) (g : zb_Gv) : Prop := m a 0 = g.1 ∧ ∀ i, 0 ≤ i → i < g.1 → m (a + 1) i = g.2.1 i ∧ m (a + 2) i = g.2.2.1 i ∧ m (a + 3) i = g.2.2.2.1 i ∧ m (a + 4) i = g.2.2.2.2.1 i ∧ ∀ j, 0 ≤ j → j < 12 → m (a + 5) (i * 12 + j) = g.2.2.2.2.2 i j
/-- what every graph keeps to -/
def zb_Og (g : zb_Gv) : Prop := 0 ≤ g.1 ∧ g.1 ≤ 12 ∧ ∀ i, 0 ≤ i → i < g.1 → (0 ≤ g.2.1 i ∧ g.2.1 i ≤ 4) ∧ (0 ≤ g.2.2.1 i ∧ g.2.2.1 i ≤ 9) ∧ (0 ≤ g.2.2.2.1 i ∧ g.2.2.2.1 i ≤ 99) ∧ (-1 ≤ g.2.2.2.2.1 i ∧ g.2.2.2.2.1 i ≤ 12) ∧ ∀ j, 0 ≤ j → j < 12 → (0 ≤ g.2.2.2.2.2 i j ∧ g.2.2.2.2.2 i j ≤ 9) ∧ (g.2.2.2.2.1 i ≤ j → g.2.2.2.2.2 i j = 0)
theorem zb_ne_kind {a b : Int} {k l : Nat} (ha : zb_is zb_E0.1 a k) (hb : zb_is zb_E0.1 b l) (h : k ≠ l) : a ≠ b := by
  intro e
  subst e
  exact h (ha.2.2.symm.trans hb.2.2)
theorem zb_net_arr {a : Int} (h : zb_is zb_E0.1 a 4) : zb_is zb_E0.1 (a + 1) 13 ∧ zb_is zb_E0.1 (a + 2) 13 ∧ zb_is zb_E0.1 (a + 3) 13 ∧ zb_is zb_E0.1 (a + 4) 13 ∧ zb_is zb_E0.1 (a + 5) 13 := by
  obtain ⟨h1, h2, h3, h4, h5⟩ := zb_net h
  have g1 := zb_W0.f 1 h rfl
  have g2 := zb_W0.f 2 h rfl
  have g3 := zb_W0.f 3 h rfl
  have g4 := zb_W0.f 4 h rfl
  have g5 := zb_W0.f 5 h rfl
  exact ⟨h1 ▸ g1, h2 ▸ g2, h3 ▸ g3, h4 ▸ g4, h5 ▸ g5⟩
theorem zb_net_apart {a o : Int} (ha : zb_is zb_E0.1 a 4) (ho : zb_is zb_E0.1 o 4) : a = o ∨ a + 6 ≤ o ∨ o + 6 ≤ a := by
  obtain ⟨a1, a2, a3, a4, a5⟩ := zb_net_arr ha
  obtain ⟨o1, o2, o3, o4, o5⟩ := zb_net_arr ho
  have := zb_ne_kind ho a1 (by decide)
  have := zb_ne_kind ho a2 (by decide)
  have := zb_ne_kind ho a3 (by decide)
  have := zb_ne_kind ho a4 (by decide)
  have := zb_ne_kind ho a5 (by decide)
  have := zb_ne_kind ha o1 (by decide)
  have := zb_ne_kind ha o2 (by decide)
  have := zb_ne_kind ha o3 (by decide)
  have := zb_ne_kind ha o4 (by decide)
  have := zb_ne_kind ha o5 (by decide)
  omega
theorem s_X4_become {d : Nat} {a o : Int} {m : zb_M} {g : zb_Gv} (ha : zb_is zb_E0.1 a 4) (ho : zb_is zb_E0.1 o 4) (hg : zb_Cg m o g) (hO : zb_Og g) : zb_T K_X4_become (d + 1) [(2, a), (2, o)] zb_E0 m (fun _ m1 => zb_Cg m1 a g ∧ ∀ b, (b < a ∨ a + 5 < b) → m1 b = m b) := by
  apply w_X4_become
  obtain ⟨h1, h2, h3, h4, h5⟩ := zb_net ha
  obtain ⟨o1, o2, o3, o4, o5⟩ := zb_net ho
  have hap := zb_net_apart ha ho
  have hn : 0 ≤ g.1 := hO.1
  have hn2 : g.1 ≤ 12 := hO.2.1
  unfold PM_X4_become
  simp only [h1, h2, h3, h4, h5, o1, o2, o3, o4, o5]
  intro m5 e5
  refine ⟨by unfold zb_cpo; omega, ?_⟩
  intro m20 e20 m35 e35 m50 e50 m65 e65
  refine ⟨by unfold zb_cpo; omega, ?_⟩
  intro m81 e81
  have key : ∀ b j, m81 b j = if b = a + 5 ∧ 0 ≤ j ∧ j < 144 then m (o + 5) j else if b = a + 4 ∧ 0 ≤ j ∧ j < 12 then m (o + 4) j else if b = a + 3 ∧ 0 ≤ j ∧ j < 12 then m (o + 3) j else if b = a + 2 ∧ 0 ≤ j ∧ j < 12 then m (o + 2) j else if b = a + 1 ∧ 0 ≤ j ∧ j < 12 then m (o + 1) j else if b = a ∧ j = 0 then m o 0 else m b j := by
    intro b j
    subst e5 e20 e35 e50 e65 e81
    simp only [zb_cp, zb_up, Int.zero_add, Int.sub_zero]
    rcases hap with rfl | hap
    · repeat' split
      all_goals first | rfl | omega | (congr 1 <;> omega) | simp_all
    · repeat' split
      all_goals first | rfl | omega | (congr 1 <;> omega) | simp_all
  refine ⟨⟨?_, fun i hi0 hi => ?_⟩, fun b hb => ?_⟩
  · rw [key]
    rw [if_neg (by omega), if_neg (by omega), if_neg (by omega), if_neg (by omega), if_neg (by omega), if_pos (by omega)]
    exact hg.1
  · obtain ⟨q1, q2, q3, q4, q5⟩ := hg.2 i hi0 hi
    refine ⟨?_, ?_, ?_, ?_, fun j hj0 hj => ?_⟩
    · rw [key, if_neg (by omega), if_neg (by omega), if_neg (by omega), if_neg (by omega), if_pos (by omega)]
      exact q1
    · rw [key, if_neg (by omega), if_neg (by omega), if_neg (by omega), if_pos (by omega)]
      exact q2
    · rw [key, if_neg (by omega), if_neg (by omega), if_pos (by omega)]
      exact q3
    · rw [key, if_neg (by omega), if_pos (by omega)]
      exact q4
    · rw [key, if_pos (by omega)]
      exact q5 j hj0 hj
  · funext j
    rw [key, if_neg (by omega), if_neg (by omega), if_neg (by omega), if_neg (by omega), if_neg (by omega), if_neg (by omega)]
