/-! ===== tools: what a write changes ===== -/
theorem zb_u1 {m1 m : zb_M} {a k v : Int} (e : m1 = zb_up m a k v) : m1 a k = v := by rw [e, zb_up_same]
theorem zb_u2 {m1 m : zb_M} {a k v b j : Int} (e : m1 = zb_up m a k v) (h : b ≠ a ∨ j ≠ k) : m1 b j = m b j := by rw [e, zb_up_ne m h]
theorem zb_u3 {m1 m : zb_M} {a k v b : Int} (e : m1 = zb_up m a k v) (h : b ≠ a) : m1 b = m b := by rw [e, zb_up_row m h]
theorem zb_c1 {m1 m : zb_M} {a0 sp a dp len j : Int} (e : m1 = zb_cp m a0 sp a dp len) (h1 : dp ≤ j) (h2 : j < dp + len) : m1 a j = m a0 (sp + (j - dp)) := by
  rw [e]
  unfold zb_cp
  rw [if_pos ⟨rfl, h1, h2⟩]
theorem zb_c2 {m1 m : zb_M} {a0 sp a dp len b j : Int} (e : m1 = zb_cp m a0 sp a dp len) (h : b ≠ a ∨ j < dp ∨ dp + len ≤ j) : m1 b j = m b j := by
  rw [e]
  unfold zb_cp
  rw [if_neg (by omega)]
theorem zb_c3 {m1 m : zb_M} {a0 sp a dp len b : Int} (e : m1 = zb_cp m a0 sp a dp len) (h : b ≠ a) : m1 b = m b := by
  funext j
  exact zb_c2 e (Or.inl h)
theorem zb_inI_of {x : Int} (h1 : -2147483648 ≤ x) (h2 : x ≤ 2147483647) : zb_inI x := ⟨h1, h2⟩
/-! ===== small methods ===== -/
theorem s_X11_isBelow {d : Nat} {E : zb_E} {m : zb_M} {x y : Int} : zb_Tp K_X11_isBelow (d + 1) [(0, x), (0, y)] E m (fun r => r = if 0 ≤ x ∧ x < y then 1 else 0) := by
  apply w_X11_isBelow
  refine ⟨fun c => ?_, fun c => ⟨fun c2 => ?_, fun c2 => ?_⟩⟩
  · rw [if_neg (by omega)]
  · rw [if_neg (by omega)]
  · rw [if_pos (by omega)]
def zb_nk (k : Int) : Bool := k == 1 || k == 2 || k == 3
theorem s_X11_isNamedKind {d : Nat} {E : zb_E} {m : zb_M} {x : Int} : zb_Tp K_X11_isNamedKind (d + 1) [(0, x)] E m (fun r => r = if zb_nk x then 1 else 0) := by
  apply w_X11_isNamedKind
  refine ⟨fun c => ?_, fun c => ⟨fun c2 => ?_, fun c2 => ⟨fun c3 => ?_, fun c3 => ?_⟩⟩⟩
  · subst c; rfl
  · subst c2; rfl
  · subst c3; rfl
  · simp [zb_nk, c, c2, c3]
theorem s_X11_isGraph {d : Nat} {E : zb_E} {m : zb_M} {x : Int} : zb_Tp K_X11_isGraph (d + 2) [(0, x)] E m (fun r => r = if 0 ≤ x ∧ x < 8 then 1 else 0) := by
  apply w_X11_isGraph
  refine s_X11_isBelow.mono (fun r h => ⟨?_, h⟩)
  rw [h]
  split
  · exact Or.inr rfl
  · exact Or.inl rfl
theorem s_X4_hasRow {d : Nat} {m : zb_M} {a i : Int} (ha : zb_is zb_E0.1 a 4) (h0 : 0 ≤ i) (h1 : i < 12) : zb_Tp K_X4_hasRow (d + 1) [(2, a), (0, i)] zb_E0 m (fun r => r = if m (a + 4) i = -1 then 0 else 1) := by
  apply w_X4_hasRow
  obtain ⟨v1, v2, v3, v4, v5⟩ := zb_net ha
  unfold PM_X4_hasRow
  rw [v4]
  refine ⟨⟨h0, h1⟩, fun c => ?_, fun c => ?_⟩
  · rw [if_pos c]
  · rw [if_neg c]
theorem s_X4_isNamed {d : Nat} {m : zb_M} {a i : Int} (ha : zb_is zb_E0.1 a 4) (h0 : 0 ≤ i) (h1 : i < 12) : zb_Tp K_X4_isNamed (d + 2) [(2, a), (0, i)] zb_E0 m (fun r => r = if zb_nk (m (a + 1) i) then 1 else 0) := by
  apply w_X4_isNamed
  obtain ⟨v1, v2, v3, v4, v5⟩ := zb_net ha
  unfold PM_X4_isNamed
  rw [v1]
  refine ⟨⟨h0, h1⟩, s_X11_isNamedKind.mono (fun r h => ⟨?_, h⟩)⟩
  rw [h]
  split
  · exact Or.inr rfl
  · exact Or.inl rfl
theorem s_X4_lineFrom {d : Nat} {m : zb_M} {a i j : Int} (ha : zb_is zb_E0.1 a 4) (h0 : 0 ≤ i) (h1 : i < 12) (j0 : 0 ≤ j) (j1 : j < 12) : zb_Tp K_X4_lineFrom (d + 1) [(2, a), (0, i), (0, j)] zb_E0 m (fun r => r = m (a + 5) (i * 12 + j)) := by
  apply w_X4_lineFrom
  obtain ⟨v1, v2, v3, v4, v5⟩ := zb_net ha
  unfold PM_X4_lineFrom
  rw [v5]
  exact ⟨zb_inI_of (by omega) (by omega), zb_inI_of (by omega) (by omega), ⟨by omega, by omega⟩, rfl⟩
/-- the key of a thing -/
def zb_key (g : zb_Gv) (i : Int) : Int := g.2.2.1 i + (if zb_nk (g.2.1 i) then 10 * (g.2.2.2.1 i + 1) else 0) + (if g.2.1 i = 2 then 2000 else 0) + (if g.2.1 i = 3 then 4000 else 0)
theorem s_X4_keyOf {d : Nat} {m : zb_M} {a i : Int} {g : zb_Gv} (ha : zb_is zb_E0.1 a 4) (hg : zb_Cg m a g) (hO : zb_Og g) (h0 : 0 ≤ i) (h1 : i < g.1) : zb_Tp K_X4_keyOf (d + 3) [(2, a), (0, i)] zb_E0 m (fun r => r = zb_key g i) := by
  apply w_X4_keyOf
  obtain ⟨v1, v2, v3, v4, v5⟩ := zb_net ha
  obtain ⟨q1, q2, q3, q4, q5⟩ := hg.2 i h0 h1
  obtain ⟨o1, o2, o3, o4, o5⟩ := hO.2.2 i h0 h1
  have hn := hO.2.1
  have fin : ∀ x : Int, 0 ≤ x → x ≤ 2000 → PJ_X4_keyOf_29 (d + 2) zb_E0 a i m (fun r => r = x + (if g.2.1 i = 2 then 2000 else 0) + (if g.2.1 i = 3 then 4000 else 0)) x := by
    intro x x0 x1
    unfold PJ_X4_keyOf_29 PJ_X4_keyOf_45
    rw [v1, q1]
    refine ⟨fun c => ⟨zb_inI_of (by omega) (by omega), fun c2 => ⟨zb_inI_of (by omega) (by omega), ?_⟩, fun c2 => ?_⟩, fun c => ⟨fun c2 => ⟨zb_inI_of (by omega) (by omega), ?_⟩, fun c2 => ?_⟩⟩
    · rw [if_pos c, if_pos c2]
    · rw [if_pos c, if_neg c2]; omega
    · rw [if_neg c, if_pos c2]; omega
    · rw [if_neg c, if_neg c2]; omega
  unfold PM_X4_keyOf
  rw [v3, v2, q2, q3]
  refine ⟨⟨h0, by omega⟩, (s_X4_isNamed ha h0 (by omega)).mono (fun r h => ?_)⟩
  rw [q1] at h
  refine ⟨fun c => ?_, fun c => ⟨zb_inI_of (by omega) (by omega), zb_inI_of (by omega) (by omega), zb_inI_of (by omega) (by omega), ?_⟩⟩
  · have hk : ¬ zb_nk (g.2.1 i) = true := by
      intro z
      rw [if_pos z] at h
      omega
    have := fin (g.2.2.1 i) (by omega) (by omega)
    unfold zb_key
    rw [if_neg hk]
    simpa using this
  · have hk : zb_nk (g.2.1 i) = true := by
      rcases Bool.eq_false_or_eq_true (zb_nk (g.2.1 i)) with z | z
      · exact z
      · rw [z] at h
        exact absurd h c
    have := fin (g.2.2.1 i + 10 * (g.2.2.2.1 i + 1)) (by omega) (by omega)
    unfold zb_key
    rw [if_pos hk]
    exact this
theorem s_X4_clearRow {d : Nat} {m : zb_M} {a i n : Int} (ha : zb_is zb_E0.1 a 4) (h0 : 0 ≤ i) (h1 : i < 12) : zb_T K_X4_clearRow (d + 1) [(2, a), (0, i), (0, n)] zb_E0 m (fun _ m1 => m1 (a + 4) i = n ∧ (∀ j, 0 ≤ j → j < 12 → m1 (a + 5) (i * 12 + j) = 0) ∧ (∀ j, j ≠ i → m1 (a + 4) j = m (a + 4) j) ∧ (∀ j, (j < i * 12 ∨ i * 12 + 12 ≤ j) → m1 (a + 5) j = m (a + 5) j) ∧ ∀ b, b ≠ a + 4 → b ≠ a + 5 → m1 b = m b) := by
  apply w_X4_clearRow
  obtain ⟨v1, v2, v3, v4, v5⟩ := zb_net ha
  unfold PM_X4_clearRow
  rw [v4]
  refine ⟨⟨h0, h1⟩, fun m6 e6 => ?_⟩
  unfold PL_X4_clearRow_9
  rw [v5]
  intro X hX
  have key : ∀ (f : Nat) (v : Int) (mm : zb_M), 0 ≤ v → v ≤ 12 → 12 - v ≤ f → mm (a + 4) = m6 (a + 4) → (∀ j, 0 ≤ j → j < v → mm (a + 5) (i * 12 + j) = 0) → (∀ j, (j < i * 12 ∨ i * 12 + 12 ≤ j) → mm (a + 5) j = m6 (a + 5) j) → (∀ b, b ≠ a + 5 → mm b = m6 b) → X v mm := by
    intro f
    induction f with
    | zero =>
      intro v mm g0 g1 g2 g3 g4 g5 g6
      refine hX v mm ⟨fun c => ⟨?_, fun j j0 j1 => g4 j j0 (by omega), fun j hj => ?_, fun j hj => ?_, fun b b1 b2 => ?_⟩, fun c => absurd (show (12 : Int) ≤ v by omega) c⟩
      · rw [g3]; exact zb_u1 e6
      · rw [g3]; exact zb_u2 e6 (Or.inr hj)
      · rw [g5 j hj]; exact zb_u2 e6 (Or.inl (by omega))
      · rw [g6 b b2]; exact zb_u3 e6 b1
    | succ f ih =>
      intro v mm g0 g1 g2 g3 g4 g5 g6
      refine hX v mm ⟨fun c => ⟨?_, fun j j0 j1 => g4 j j0 (by omega), fun j hj => ?_, fun j hj => ?_, fun b b1 b2 => ?_⟩, fun c => ⟨zb_inI_of (by omega) (by omega), zb_inI_of (by omega) (by omega), ⟨by omega, by omega⟩, fun m26 e26 => ⟨zb_inI_of (by omega) (by omega), ?_⟩⟩⟩
      · rw [g3]; exact zb_u1 e6
      · rw [g3]; exact zb_u2 e6 (Or.inr hj)
      · rw [g5 j hj]; exact zb_u2 e6 (Or.inl (by omega))
      · rw [g6 b b2]; exact zb_u3 e6 b1
      · refine ih (v + 1) m26 (by omega) (by omega) (by omega) ?_ (fun j j0 j1 => ?_) (fun j hj => ?_) (fun b hb => ?_)
        · rw [zb_u3 e26 (by omega)]; exact g3
        · by_cases q : j = v
          · subst q; exact zb_u1 e26
          · rw [zb_u2 e26 (Or.inr (by omega))]; exact g4 j j0 (by omega)
        · rw [zb_u2 e26 (Or.inr (by omega))]; exact g5 j hj
        · rw [zb_u3 e26 hb]; exact g6 b hb
  exact key 12 0 m6 (by omega) (by omega) (by omega) rfl (fun j j0 j1 => by omega) (fun j _ => rfl) (fun b _ => rfl)
theorem s_X4_exchangeIn {d : Nat} {m : zb_M} {a i j ln : Int} (hl : zb_len zb_E0.1 a = ln) (h0 : 0 ≤ i) (h1 : i < ln) (j0 : 0 ≤ j) (j1 : j < ln) : zb_T K_X4_exchangeIn (d + 1) [(2, a), (0, i), (0, j)] zb_E0 m (fun _ m1 => m1 a i = m a j ∧ m1 a j = m a i ∧ (∀ k, k ≠ i → k ≠ j → m1 a k = m a k) ∧ ∀ b, b ≠ a → m1 b = m b) := by
  apply w_X4_exchangeIn
  unfold PM_X4_exchangeIn
  rw [hl]
  refine ⟨⟨h0, h1⟩, ⟨j0, j1⟩, fun m9 e9 m13 e13 => ⟨?_, zb_u1 e13, fun k k1 k2 => ?_, fun b hb => ?_⟩⟩
  · by_cases q : i = j
    · subst q; exact zb_u1 e13
    · rw [zb_u2 e13 (Or.inr q)]; exact zb_u1 e9
  · rw [zb_u2 e13 (Or.inr k2)]; exact zb_u2 e9 (Or.inr k1)
  · rw [zb_u3 e13 hb]; exact zb_u3 e9 hb
