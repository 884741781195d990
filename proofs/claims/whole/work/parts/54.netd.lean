/-! ===== counting things; whether a graph is right; a thing more ===== -/
def zb_cnt (p : Int → Bool) : Nat → Int
  | 0 => 0
  | k + 1 => zb_cnt p k + if p (k : Int) then 1 else 0
theorem zb_cnt_rng (p : Int → Bool) (k : Nat) : 0 ≤ zb_cnt p k ∧ zb_cnt p k ≤ k := by
  induction k with
  | zero => exact ⟨Int.le_refl _, Int.le_refl _⟩
  | succ k ih =>
    show 0 ≤ zb_cnt p k + (if p (k : Int) then 1 else 0) ∧ zb_cnt p k + (if p (k : Int) then 1 else 0) ≤ ((k + 1 : Nat) : Int)
    split <;> omega
theorem zb_cnt_S (p : Int → Bool) {v : Int} (h : 0 ≤ v) : zb_cnt p (v + 1).toNat = zb_cnt p v.toNat + if p v then 1 else 0 := by
  have e : (v + 1).toNat = v.toNat + 1 := by omega
  have e2 : ((v.toNat : Nat) : Int) = v := by omega
  rw [e]
  show zb_cnt p v.toNat + (if p ((v.toNat : Nat) : Int) then 1 else 0) = _
  rw [e2]
theorem s_X4_countShown {d : Nat} {m : zb_M} {a : Int} {g : zb_Gv} (ha : zb_is zb_E0.1 a 4) (hg : zb_Cg m a g) (hO : zb_Og g) : zb_Tp K_X4_countShown (d + 1) [(2, a)] zb_E0 m (fun r => r = zb_cnt (fun i => !(g.2.1 i == 4)) g.1.toNat) := by
  apply w_X4_countShown
  obtain ⟨v1, v2, v3, v4, v5⟩ := zb_net ha
  have hn := hO.2.1
  have h0 := hg.1
  unfold PM_X4_countShown PL_X4_countShown_4
  rw [v1, h0]
  intro X hX
  have key : ∀ (f : Nat) (c v : Int), 0 ≤ v → v ≤ g.1 → g.1 - v ≤ f → c = zb_cnt (fun i => !(g.2.1 i == 4)) v.toNat → X c v := by
    intro f
    induction f with
    | zero =>
      intro c v g0 g1 g2 hc
      have hv : v = g.1 := by omega
      subst hv
      exact hX c g.1 ⟨fun _ => hc, fun z => absurd (Int.le_refl _) z⟩
    | succ f ih =>
      intro c v g0 g1 g2 hc
      refine hX c v ⟨fun z => ?_, fun z => ⟨⟨g0, by omega⟩, fun k => ⟨zb_inI_of (by omega) (by omega), ?_⟩, fun k => ⟨?_, zb_inI_of (by omega) (by omega), ?_⟩⟩⟩
      · have hv : v = g.1 := by omega
        rw [← hv]
        exact hc
      · obtain ⟨q1, -⟩ := hg.2 v g0 (by omega)
        rw [q1] at k
        refine ih c (v + 1) (by omega) (by omega) (by omega) ?_
        rw [zb_cnt_S _ g0, hc]
        simp [k]
      · have := zb_cnt_rng (fun i => !(g.2.1 i == 4)) v.toNat
        exact zb_inI_of (by omega) (by omega)
      · obtain ⟨q1, -⟩ := hg.2 v g0 (by omega)
        rw [q1] at k
        refine ih (c + 1) (v + 1) (by omega) (by omega) (by omega) ?_
        rw [zb_cnt_S _ g0, hc]
        simp [k]
  exact key g.1.toNat 0 0 (by omega) hO.1 (by omega) rfl
/-- how many other named things have the word of thing i -/
def zb_nsk (g : zb_Gv) (i : Int) : Int := zb_cnt (fun j => !(j == i) && zb_nk (g.2.1 j) && (g.2.2.2.1 j == g.2.2.2.1 i)) g.1.toNat
theorem s_X4_countNamesakes {d : Nat} {m : zb_M} {a i : Int} {g : zb_Gv} (ha : zb_is zb_E0.1 a 4) (hg : zb_Cg m a g) (hO : zb_Og g) (h0 : 0 ≤ i) (h1 : i < g.1) : zb_Tp K_X4_countNamesakes (d + 3) [(2, a), (0, i)] zb_E0 m (fun r => r = zb_nsk g i) := by
  apply w_X4_countNamesakes
  obtain ⟨v1, v2, v3, v4, v5⟩ := zb_net ha
  have hn := hO.2.1
  have e0 := hg.1
  unfold PM_X4_countNamesakes PL_X4_countNamesakes_4
  rw [v3, e0]
  intro X hX
  obtain ⟨-, -, w3, -⟩ := hg.2 i h0 h1
  have key : ∀ (f : Nat) (c v : Int), 0 ≤ v → v ≤ g.1 → g.1 - v ≤ f → c = zb_cnt (fun j => !(j == i) && zb_nk (g.2.1 j) && (g.2.2.2.1 j == g.2.2.2.1 i)) v.toNat → X c v := by
    intro f
    induction f with
    | zero =>
      intro c v g0 g1 g2 hc
      have hv : v = g.1 := by omega
      subst hv
      exact hX c g.1 ⟨fun _ => hc, fun z => absurd (Int.le_refl _) z⟩
    | succ f ih =>
      intro c v g0 g1 g2 hc
      have hr := zb_cnt_rng (fun j => !(j == i) && zb_nk (g.2.1 j) && (g.2.2.2.1 j == g.2.2.2.1 i)) v.toNat
      refine hX c v ⟨fun z => ?_, fun z => ?_⟩
      · have hv : v = g.1 := by omega
        unfold zb_nsk
        rw [← hv]
        exact hc
      obtain ⟨q1, -, q3, -⟩ := hg.2 v g0 (by omega)
      refine ⟨fun k => ⟨zb_inI_of (by omega) (by omega), ?_⟩, fun k => ?_⟩
      · refine ih c (v + 1) (by omega) (by omega) (by omega) ?_
        rw [zb_cnt_S _ g0, hc]
        simp [k]
      · refine (s_X4_isNamed ha g0 (by omega)).mono (fun r h => ?_)
        rw [q1] at h
        refine ⟨fun k2 => ⟨zb_inI_of (by omega) (by omega), ?_⟩, fun k2 => ⟨⟨g0, by omega⟩, ⟨h0, by omega⟩, fun k3 => ⟨zb_inI_of (by omega) (by omega), zb_inI_of (by omega) (by omega), ?_⟩, fun k3 => ⟨zb_inI_of (by omega) (by omega), ?_⟩⟩⟩
        · have hk : zb_nk (g.2.1 v) = false := by
            rcases Bool.eq_false_or_eq_true (zb_nk (g.2.1 v)) with z2 | z2
            · rw [z2] at h; simp at h; omega
            · exact z2
          refine ih c (v + 1) (by omega) (by omega) (by omega) ?_
          rw [zb_cnt_S _ g0, hc]
          simp [hk]
        · have hk : zb_nk (g.2.1 v) = true := by
            rcases Bool.eq_false_or_eq_true (zb_nk (g.2.1 v)) with z2 | z2
            · exact z2
            · rw [z2] at h; simp at h; omega
          rw [q3, w3] at k3
          refine ih (c + 1) (v + 1) (by omega) (by omega) (by omega) ?_
          rw [zb_cnt_S _ g0, hc]
          simp [hk, k, k3]
        · rw [q3, w3] at k3
          refine ih c (v + 1) (by omega) (by omega) (by omega) ?_
          rw [zb_cnt_S _ g0, hc]
          simp [k3]
  exact key g.1.toNat 0 0 (by omega) hO.1 (by omega) rfl
/-- a graph is right -/
def zb_rt (g : zb_Gv) : Prop := ∀ i, 0 ≤ i → i < g.1 → (g.2.1 i = 2 → zb_nsk g i = 0) ∧ (g.2.1 i = 3 → zb_nsk g i = 1)
theorem s_X4_isRight {d : Nat} {m : zb_M} {a : Int} {g : zb_Gv} (ha : zb_is zb_E0.1 a 4) (hg : zb_Cg m a g) (hO : zb_Og g) : zb_Tp K_X4_isRight (d + 4) [(2, a)] zb_E0 m (fun r => (r = 1 ∧ zb_rt g) ∨ (r = 0 ∧ ¬ zb_rt g)) := by
  apply w_X4_isRight
  obtain ⟨v1, v2, v3, v4, v5⟩ := zb_net ha
  have hn := hO.2.1
  have e0 := hg.1
  unfold PM_X4_isRight PL_X4_isRight_2
  rw [v1, e0]
  intro X hX
  have key : ∀ (f : Nat) (v : Int), 0 ≤ v → v ≤ g.1 → g.1 - v ≤ f → (∀ i, 0 ≤ i → i < v → (g.2.1 i = 2 → zb_nsk g i = 0) ∧ (g.2.1 i = 3 → zb_nsk g i = 1)) → X v := by
    intro f
    induction f with
    | zero =>
      intro v g0 g1 g2 hv
      exact hX v ⟨fun _ => Or.inl ⟨rfl, fun i i0 i1 => hv i i0 (by omega)⟩, fun z => absurd (show g.1 ≤ v by omega) z⟩
    | succ f ih =>
      intro v g0 g1 g2 hv
      refine hX v ⟨fun z => Or.inl ⟨rfl, fun i i0 i1 => hv i i0 (by omega)⟩, fun z => ⟨⟨g0, by omega⟩, ?_⟩⟩
      obtain ⟨q1, -⟩ := hg.2 v g0 (by omega)
      have nxt : ((g.2.1 v = 2 → zb_nsk g v = 0) ∧ (g.2.1 v = 3 → zb_nsk g v = 1)) → zb_inI (v + 1) ∧ X (v + 1) := fun h => ⟨zb_inI_of (by omega) (by omega), ih (v + 1) (by omega) (by omega) (by omega) (fun i i0 i1 => by
        by_cases q : i = v
        · subst q; exact h
        · exact hv i i0 (by omega))⟩
      have j30 : (g.2.1 v = 2 → zb_nsk g v = 0) → PJ_X4_isRight_30 (d + 3) zb_E0 a m v X (fun r => (r = 1 ∧ zb_rt g) ∨ (r = 0 ∧ ¬ zb_rt g)) := by
        intro h2
        unfold PJ_X4_isRight_30
        rw [v1, q1]
        refine ⟨fun k => (s_X4_countNamesakes ha hg hO g0 (by omega)).mono (fun r h => ⟨fun k2 => nxt ⟨h2, fun _ => by rw [← h]; exact k2⟩, fun k2 => Or.inr ⟨rfl, fun hr => k2 ?_⟩⟩), fun k => nxt ⟨h2, fun k2 => absurd k2 k⟩⟩
        rw [h]
        exact (hr v g0 (by omega)).2 k
      rw [q1]
      refine ⟨fun k => (s_X4_countNamesakes ha hg hO g0 (by omega)).mono (fun r h => ⟨fun k2 => j30 (fun _ => by rw [← h]; exact k2), fun k2 => Or.inr ⟨rfl, fun hr => k2 ?_⟩⟩), fun k => j30 (fun k2 => absurd k2 k)⟩
      rw [h]
      exact (hr v g0 (by omega)).1 k
  exact key g.1.toNat 0 (by omega) hO.1 (by omega) (fun i i0 i1 => by omega)
/-- a row of numbers with one written -/
def zb_wr (f : Int → Int) (i v : Int) : Int → Int := fun x => if x = i then v else f x
def zb_addG (g : zb_Gv) (k c w : Int) : zb_Gv := (g.1 + 1, zb_wr g.2.1 g.1 k, zb_wr g.2.2.1 g.1 c, zb_wr g.2.2.2.1 g.1 (if zb_nk k then w else 0), zb_wr g.2.2.2.2.1 g.1 (-1), fun x y => if x = g.1 then 0 else g.2.2.2.2.2 x y)
theorem s_X4_add {d : Nat} {m : zb_M} {a k c w : Int} {g : zb_Gv} (ha : zb_is zb_E0.1 a 4) (hg : zb_Cg m a g) (hO : zb_Og g) (hlt : g.1 < 12) : zb_T K_X4_add (d + 2) [(2, a), (0, k), (0, c), (0, w)] zb_E0 m (fun r m1 => r = g.1 ∧ zb_Cg m1 a (zb_addG g k c w) ∧ ∀ b, (b < a ∨ a + 5 < b) → m1 b = m b) := by
  apply w_X4_add
  obtain ⟨v1, v2, v3, v4, v5⟩ := zb_net ha
  have hn := hO.1
  have e0 := hg.1
  have j40 : ∀ (m21 m13 : zb_M) (x : Int), m13 = zb_up m (a + 1) g.1 k → m21 = zb_up m13 (a + 2) g.1 c → x = (if zb_nk k then w else 0) → PJ_X4_add_40 (d + 1) zb_E0 a m m21 (fun r m1 => r = g.1 ∧ zb_Cg m1 a (zb_addG g k c w) ∧ ∀ b, (b < a ∨ a + 5 < b) → m1 b = m b) x := by
    intro m21 m13 x e13 e21 hx
    unfold PJ_X4_add_40
    rw [v3, e0]
    intro m40 e40
    refine (s_X4_clearRow ha hn hlt).mono (fun _ m45 ⟨c1, c2, c3, c4, c5⟩ => ⟨zb_inI_of (by omega) (by omega), fun m53 e53 => ⟨rfl, ⟨zb_u1 e53, fun i i0 i1 => ?_⟩, fun b hb => ?_⟩⟩)
    · have i1 : i < g.1 + 1 := i1
      have r1 : ∀ j, m53 (a + 1) j = if j = g.1 then k else m (a + 1) j := fun j => by
        rw [zb_u3 e53 (by omega), c5 _ (by omega) (by omega), zb_u3 e40 (by omega), zb_u3 e21 (by omega), e13]
        simp [zb_up]
      have r2 : ∀ j, m53 (a + 2) j = if j = g.1 then c else m (a + 2) j := fun j => by
        rw [zb_u3 e53 (by omega), c5 _ (by omega) (by omega), zb_u3 e40 (by omega), e21]
        unfold zb_up
        by_cases q : j = g.1
        · rw [if_pos ⟨rfl, q⟩, if_pos q]
        · rw [if_neg (fun z => q z.2), if_neg q, zb_u3 e13 (by omega)]
      have r3 : ∀ j, m53 (a + 3) j = if j = g.1 then x else m (a + 3) j := fun j => by
        rw [zb_u3 e53 (by omega), c5 _ (by omega) (by omega), e40]
        unfold zb_up
        by_cases q : j = g.1
        · rw [if_pos ⟨rfl, q⟩, if_pos q]
        · rw [if_neg (fun z => q z.2), if_neg q, zb_u3 e21 (by omega), zb_u3 e13 (by omega)]
      have r4 : ∀ j, m53 (a + 4) j = if j = g.1 then -1 else m (a + 4) j := fun j => by
        rw [zb_u3 e53 (by omega)]
        by_cases q : j = g.1
        · rw [if_pos q, q]; exact c1
        · rw [if_neg q, c3 j q, zb_u3 e40 (by omega), zb_u3 e21 (by omega), zb_u3 e13 (by omega)]
      show m53 (a + 1) i = zb_wr g.2.1 g.1 k i ∧ m53 (a + 2) i = zb_wr g.2.2.1 g.1 c i ∧ m53 (a + 3) i = zb_wr g.2.2.2.1 g.1 (if zb_nk k then w else 0) i ∧ m53 (a + 4) i = zb_wr g.2.2.2.2.1 g.1 (-1) i ∧ ∀ j, 0 ≤ j → j < 12 → m53 (a + 5) (i * 12 + j) = if i = g.1 then 0 else g.2.2.2.2.2 i j
      unfold zb_wr
      rw [r1, r2, r3, r4, ← hx]
      by_cases q : i = g.1
      · rw [if_pos q, if_pos q, if_pos q, if_pos q, if_pos q, if_pos q, if_pos q, if_pos q]
        refine ⟨rfl, rfl, rfl, rfl, fun j j0 j1 => ?_⟩
        rw [if_pos q, zb_u3 e53 (by omega), q]
        exact c2 j j0 j1
      · obtain ⟨q1, q2, q3, q4, q5⟩ := hg.2 i i0 (by omega)
        rw [if_neg q, if_neg q, if_neg q, if_neg q, if_neg q, if_neg q, if_neg q, if_neg q]
        refine ⟨q1, q2, q3, q4, fun j j0 j1 => ?_⟩
        rw [if_neg q, zb_u3 e53 (by omega), c4 _ (by omega), zb_u3 e40 (by omega), zb_u3 e21 (by omega), zb_u3 e13 (by omega)]
        exact q5 j j0 j1
    · rw [zb_u3 e53 (by omega), c5 b (by omega) (by omega), zb_u3 e40 (by omega), zb_u3 e21 (by omega), zb_u3 e13 (by omega)]
  unfold PM_X4_add
  rw [v1, v2, e0]
  refine ⟨⟨hn, hlt⟩, fun m13 e13 m21 e21 => s_X11_isNamedKind.mono (fun r h => ⟨fun q => j40 m21 m13 0 e13 e21 ?_, fun q => j40 m21 m13 w e13 e21 ?_⟩)⟩
  · rcases Bool.eq_false_or_eq_true (zb_nk k) with z | z
    · rw [z] at h; simp at h; omega
    · rw [z]; rfl
  · rcases Bool.eq_false_or_eq_true (zb_nk k) with z | z
    · rw [z]; rfl
    · rw [z] at h; simp at h; omega
