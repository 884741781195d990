/-! ===== loops over one number ===== -/
theorem zb_lp1 {X : Int → zb_M → Prop} (I : Int → zb_M → Prop) (n : Int) (hs : ∀ v m, I v m → v ≤ n → (v < n → ∀ m', I (v + 1) m' → X (v + 1) m') → X v m) : ∀ v m, v ≤ n → I v m → X v m := by
  have key : ∀ (f : Nat) (v : Int) (m : zb_M), n - v ≤ f → v ≤ n → I v m → X v m := by
    intro f
    induction f with
    | zero => intro v m h1 h2 h3; exact hs v m h3 h2 (fun c => by omega)
    | succ f ih => intro v m h1 h2 h3; exact hs v m h3 h2 (fun c m' h' => ih (v + 1) m' (by omega) (by omega) h')
  intro v m h1 h2
  exact key (n - v).toNat v m (by omega) h1 h2
theorem zb_lp0 {X : Int → Prop} (I : Int → Prop) (n : Int) (hs : ∀ v, I v → v ≤ n → (v < n → I (v + 1) → X (v + 1)) → X v) : ∀ v, v ≤ n → I v → X v := by
  have key : ∀ (f : Nat) (v : Int), n - v ≤ f → v ≤ n → I v → X v := by
    intro f
    induction f with
    | zero => intro v h1 h2 h3; exact hs v h3 h2 (fun c => by omega)
    | succ f ih => intro v h1 h2 h3; exact hs v h3 h2 (fun c h' => ih (v + 1) (by omega) (by omega) h')
  intro v h1 h2
  exact key (n - v).toNat v (by omega) h1 h2
/-! ===== the reference's graphs ===== -/
/-- a graph as the reference holds it: at 501 the graphs, at 508 those that can be undone -/
def zb_Rg (m : zb_M) (b t : Int) (g : zb_Gv) : Prop := m b t = g.1 ∧ ∀ i, 0 ≤ i → i < g.1 → m (b + 1) (12 * t + i) = g.2.1 i ∧ m (b + 2) (12 * t + i) = g.2.2.1 i ∧ m (b + 3) (12 * t + i) = g.2.2.2.1 i ∧ m (b + 4) (12 * t + i) = g.2.2.2.2.1 i ∧ ∀ j, 0 ≤ j → j < g.2.2.2.2.1 i → m (b + 5) (144 * t + 12 * i + j) = g.2.2.2.2.2 i j
theorem zb_Rg_mv {m m1 : zb_M} {b t b' t' : Int} {v : zb_Gv} (h : zb_Rg m b t v) (hO : zb_Og v) (e0 : m1 b' t' = m b t) (e1 : ∀ i, 0 ≤ i → i < 12 → m1 (b' + 1) (12 * t' + i) = m (b + 1) (12 * t + i)) (e2 : ∀ i, 0 ≤ i → i < 12 → m1 (b' + 2) (12 * t' + i) = m (b + 2) (12 * t + i)) (e3 : ∀ i, 0 ≤ i → i < 12 → m1 (b' + 3) (12 * t' + i) = m (b + 3) (12 * t + i)) (e4 : ∀ i, 0 ≤ i → i < 12 → m1 (b' + 4) (12 * t' + i) = m (b + 4) (12 * t + i)) (e5 : ∀ k, 0 ≤ k → k < 144 → m1 (b' + 5) (144 * t' + k) = m (b + 5) (144 * t + k)) : zb_Rg m1 b' t' v := by
  refine ⟨e0.trans h.1, fun i i0 i1 => ?_⟩
  obtain ⟨q1, q2, q3, q4, q5⟩ := h.2 i i0 i1
  have hn := hO.2.1
  have hl := (hO.2.2 i i0 i1).2.2.2.1
  refine ⟨by rw [e1 i i0 (by omega)]; exact q1, by rw [e2 i i0 (by omega)]; exact q2, by rw [e3 i i0 (by omega)]; exact q3, by rw [e4 i i0 (by omega)]; exact q4, fun j j0 j1 => ?_⟩
  have e := e5 (12 * i + j) (by omega) (by omega)
  rw [← Int.add_assoc, ← Int.add_assoc] at e
  rw [e]
  exact q5 j j0 j1
def zb_RG (m : zb_M) (s : zb_Gs) : Prop := (∀ g, 0 ≤ g → g < 8 → zb_Rg m 501 g (s.1 g)) ∧ m 500 13 = s.2.1 ∧ ∀ k, 0 ≤ k → k < s.2.1 → m 507 (s.2.1 - 1 - k) = (s.2.2 k).1 ∧ zb_Rg m 508 (s.2.1 - 1 - k) (s.2.2 k).2
/-- nothing but the graphs and what can be undone has changed (the reference's cells) -/
def zb_frR (m m1 : zb_M) : Prop := (∀ b, (b < 500 ∨ 514 < b) → m1 b = m b) ∧ ∀ j, j ≠ 13 → m1 500 j = m 500 j
theorem zb_frR.rf (m : zb_M) : zb_frR m m := ⟨fun _ _ => rfl, fun _ _ => rfl⟩
theorem zb_Rg_same {m m1 : zb_M} {b t : Int} {v : zb_Gv} (h : zb_Rg m b t v) (he : ∀ c, b ≤ c → c ≤ b + 5 → m1 c = m c) : zb_Rg m1 b t v := by
  refine ⟨by rw [he _ (by omega) (by omega)]; exact h.1, fun i i0 i1 => ?_⟩
  rw [he _ (by omega) (by omega), he _ (by omega) (by omega), he _ (by omega) (by omega), he _ (by omega) (by omega), he _ (by omega) (by omega)]
  exact h.2 i i0 i1
theorem s_X12_in {d : Nat} {E : zb_E} {m : zb_M} {x lo hi : Int} : zb_Tp K_X12_in (d + 1) [(0, x), (0, lo), (0, hi)] E m (fun r => r = if lo ≤ x ∧ x ≤ hi then 1 else 0) := by
  apply w_X12_in
  refine ⟨fun c => ?_, fun c => ⟨fun c2 => ?_, fun c2 => ?_⟩⟩
  · rw [if_neg (by omega)]
  · rw [if_neg (by omega)]
  · rw [if_pos (by omega)]
theorem zb_if01 {c : Prop} [Decidable c] {r : Int} (h : r = if c then 1 else 0) : r = 0 ∨ r = 1 := by
  rw [h]; split
  · exact Or.inr rfl
  · exact Or.inl rfl
theorem s_X12_isGraph {d : Nat} {m : zb_M} {x : Int} : zb_Tp K_X12_isGraph (d + 2) [(2, 500), (0, x)] zb_E0 m (fun r => r = if 0 ≤ x ∧ x < 8 then 1 else 0) := by
  apply w_X12_isGraph
  refine s_X12_in.mono (fun r h => ⟨zb_if01 h, ?_⟩)
  rw [h]
  by_cases c : 0 ≤ x ∧ x < 8
  · rw [if_pos c, if_pos (by omega)]
  · rw [if_neg c, if_neg (by omega)]
theorem s_X12_isThing {d : Nat} {m : zb_M} {s : zb_Gs} {g i : Int} (hC : zb_RG m s) (hO : zb_OG s) : zb_Tp K_X12_isThing (d + 3) [(2, 500), (0, g), (0, i)] zb_E0 m (fun r => r = if zb_thg s g i then 1 else 0) := by
  apply w_X12_isThing
  unfold PM_X12_isThing
  refine s_X12_isGraph.mono (fun r h => ?_)
  rcases zb_if1 h with ⟨h1, h2⟩ | ⟨h1, h2⟩
  · refine ⟨fun _ => ?_, fun z => absurd h1 z⟩
    rw [if_neg (fun z => h2 z.1)]
  have hn := (hO.1 g h2.1 h2.2)
  have h3 := hn.1
  have h4 := hn.2.1
  rw [zb_v_500_0, (hC.1 g h2.1 h2.2).1]
  refine ⟨fun z => by omega, fun _ => ⟨h2, zb_inI_of (by omega) (by omega), s_X12_in.mono (fun r h => ?_)⟩⟩
  rcases zb_if1 h with ⟨h5, h6⟩ | ⟨h5, h6⟩
  · refine ⟨fun _ => ?_, fun z => absurd h5 z⟩
    rw [if_neg (fun z => h6 ⟨z.2.1, by have := z.2.2; omega⟩)]
  · refine ⟨fun z => by omega, fun _ => ?_⟩
    rw [if_pos ⟨h2, by omega⟩]
theorem s_X12_isNamed {d : Nat} {E : zb_E} {m : zb_M} {x : Int} : zb_Tp K_X12_isNamed (d + 2) [(0, x)] E m (fun r => r = if zb_nk x then 1 else 0) := by
  apply w_X12_isNamed
  refine s_X12_in.mono (fun r h => ⟨zb_if01 h, ?_⟩)
  rw [h]
  by_cases c : 1 ≤ x ∧ x ≤ 3
  · rw [if_pos c, if_pos]
    have : x = 1 ∨ x = 2 ∨ x = 3 := by omega
    rcases this with q | q | q <;> subst q <;> rfl
  · rw [if_neg c, if_neg]
    intro z
    unfold zb_nk at z
    simp at z
    omega
theorem s_X12_lineOf {d : Nat} {m : zb_M} {s : zb_Gs} {g i j : Int} (hC : zb_RG m s) (hO : zb_OG s) (g0 : 0 ≤ g) (g1 : g < 8) (i0 : 0 ≤ i) (i1 : i < (s.1 g).1) (j0 : 0 ≤ j) (j1 : j < 12) : zb_Tp K_X12_lineOf (d + 1) [(2, 500), (0, g), (0, i), (0, j)] zb_E0 m (fun r => r = (s.1 g).2.2.2.2.2 i j) := by
  apply w_X12_lineOf
  unfold PM_X12_lineOf
  have hg := hO.1 g g0 g1
  have hn := hg.2.1
  obtain ⟨q1, q2, q3, q4, q5⟩ := (hC.1 g g0 g1).2 i i0 i1
  obtain ⟨o1, o2, o3, o4, o5⟩ := hg.2.2 i i0 i1
  have q4 : m 505 (12 * g + i) = (s.1 g).2.2.2.2.1 i := q4
  rw [zb_v_500_4, zb_v_500_5, q4]
  refine ⟨zb_inI_of (by omega) (by omega), zb_inI_of (by omega) (by omega), ⟨by omega, by omega⟩, fun c => ?_, fun c => ⟨zb_inI_of (by omega) (by omega), zb_inI_of (by omega) (by omega), zb_inI_of (by omega) (by omega), zb_inI_of (by omega) (by omega), ⟨by omega, by omega⟩, ?_⟩⟩
  · exact ((o5 j j0 j1).2 c).symm
  · exact q5 j j0 (by omega)
/-- what note(g) leaves: slot t is written -/
theorem zb_note_j {d : Nat} {m : zb_M} {g t : Int} (g0 : 0 ≤ g) (g1 : g < 8) (ht : m 500 13 = t) (t0 : 0 ≤ t) (t1 : t < 20) (Q : Int → zb_M → Prop) (hQ : ∀ m1 : zb_M, (∀ b j, m1 b j = if b = 500 ∧ j = 13 then t + 1 else if b = 507 ∧ j = t then g else if b = 508 ∧ j = t then m 501 g else if (509 ≤ b ∧ b ≤ 512) ∧ 12 * t ≤ j ∧ j < 12 * t + 12 then m (b - 7) (12 * g + (j - 12 * t)) else if b = 513 ∧ 144 * t ≤ j ∧ j < 144 * t + 144 then m 506 (144 * g + (j - 144 * t)) else m b j) → Q 0 m1) : PJ_X12_note_170 d zb_E0 500 g Q m := by
  unfold PJ_X12_note_170 PJ_X12_note_309 PJ_X12_note_351
  simp only [zb_v_500_0, zb_v_500_1, zb_v_500_2, zb_v_500_3, zb_v_500_4, zb_v_500_5, zb_v_500_6, zb_v_500_7, zb_v_500_8, zb_v_500_9, zb_v_500_10, zb_v_500_11, zb_v_500_12, ht]
  refine ⟨⟨t0, t1⟩, fun ma ea => ?_⟩
  have ha : ma 500 13 = t := by rw [zb_u3 ea (by omega)]; exact ht
  simp only [ha]
  refine ⟨⟨g0, g1⟩, ⟨t0, t1⟩, fun mb eb => ?_⟩
  have hb : ∀ b j, mb b j = if b = 507 ∧ j = t then g else if b = 508 ∧ j = t then m 501 g else m b j := by
    intro b j
    rw [eb, ea]
    simp only [zb_up]
    by_cases q : b = 507
    · subst q; rw [if_neg (by omega)]; split
      · rfl
      · rw [if_neg (by omega)]
    · rw [if_neg (c := b = 507 ∧ j = t) (by omega), if_neg (c := b = 507 ∧ j = t) (by omega)]; rfl
  unfold PL_X12_note_197
  simp only [zb_v_500_0, zb_v_500_1, zb_v_500_2, zb_v_500_3, zb_v_500_4, zb_v_500_5, zb_v_500_6, zb_v_500_7, zb_v_500_8, zb_v_500_9, zb_v_500_10, zb_v_500_11, zb_v_500_12]
  intro X hX
  refine zb_lp1 (fun v mm => 0 ≤ v ∧ ∀ b j, mm b j = if (509 ≤ b ∧ b ≤ 512) ∧ 12 * t ≤ j ∧ j < 12 * t + v then m (b - 7) (12 * g + (j - 12 * t)) else mb b j) 12 (fun v mm ⟨v0, hv⟩ vn nxt => hX v mm ⟨fun c => ?_, fun c => ?_⟩) 0 mb (by omega) ⟨by omega, fun b j => by rw [if_neg (by omega)]⟩
  · unfold PL_X12_note_311
    simp only [zb_v_500_0, zb_v_500_1, zb_v_500_2, zb_v_500_3, zb_v_500_4, zb_v_500_5, zb_v_500_6, zb_v_500_7, zb_v_500_8, zb_v_500_9, zb_v_500_10, zb_v_500_11, zb_v_500_12]
    intro Y hY
    have hv12 : v = 12 := by omega
    subst hv12
    refine zb_lp1 (fun v mn => 0 ≤ v ∧ ∀ b j, mn b j = if b = 513 ∧ 144 * t ≤ j ∧ j < 144 * t + v then m 506 (144 * g + (j - 144 * t)) else mm b j) 144 (fun w mn ⟨w0, hw⟩ wn nxt => hY w mn ⟨fun c => ?_, fun c => ?_⟩) 0 mm (by omega) ⟨by omega, fun b j => by rw [if_neg (by omega)]⟩
    · have hw12 : w = 144 := by omega
      subst hw12
      have e13 : mn 500 13 = t := by rw [hw, if_neg (by omega), hv, if_neg (by omega), hb, if_neg (by omega), if_neg (by omega)]; exact ht
      rw [e13]
      refine ⟨zb_inI_of (by omega) (by omega), fun m1 e1 => hQ m1 (fun b j => ?_)⟩
      rw [e1]
      unfold zb_up
      by_cases q1 : b = 500 ∧ j = 13
      · rw [if_pos q1, if_pos q1]
      rw [if_neg q1, if_neg q1, hw]
      by_cases q2 : b = 513 ∧ 144 * t ≤ j ∧ j < 144 * t + 144
      · rw [if_pos q2, if_neg (by omega), if_neg (by omega), if_neg (by omega), if_pos q2]
      rw [if_neg q2, if_neg q2, hv]
      by_cases q3 : (509 ≤ b ∧ b ≤ 512) ∧ 12 * t ≤ j ∧ j < 12 * t + 12
      · rw [if_pos q3, if_neg (by omega), if_neg (by omega), if_pos q3]
      rw [if_neg q3, if_neg q3, hb]
    · have e13 : mn 500 13 = t := by rw [hw, if_neg (by omega), hv, if_neg (by omega), hb, if_neg (by omega), if_neg (by omega)]; exact ht
      rw [e13]
      refine ⟨zb_inI_of (by omega) (by omega), zb_inI_of (by omega) (by omega), zb_inI_of (by omega) (by omega), zb_inI_of (by omega) (by omega), ⟨by omega, by omega⟩, ⟨by omega, by omega⟩, fun m1 e1 => ⟨zb_inI_of (by omega) (by omega), nxt (by omega) m1 ⟨by omega, fun b j => ?_⟩⟩⟩
      rw [e1]
      unfold zb_up
      by_cases q : b = 513 ∧ j = 144 * t + w
      · rw [if_pos q, if_pos (by omega), hw, if_neg (by omega), hv, if_neg (by omega), hb, if_neg (by omega), if_neg (by omega)]
        congr 1
        omega
      · rw [if_neg q, hw]
        by_cases q2 : b = 513 ∧ 144 * t ≤ j ∧ j < 144 * t + w
        · rw [if_pos q2, if_pos (by omega)]
        · rw [if_neg q2, if_neg (by omega)]
  · have e13 : mm 500 13 = t := by rw [hv, if_neg (by omega), hb, if_neg (by omega), if_neg (by omega)]; exact ht
    have rd : ∀ b j, 502 ≤ b → b ≤ 505 → mm b j = m b j := fun b j b0 b1 => by rw [hv, if_neg (by omega), hb, if_neg (by omega), if_neg (by omega)]
    rw [e13]
    refine ⟨zb_inI_of (by omega) (by omega), zb_inI_of (by omega) (by omega), zb_inI_of (by omega) (by omega), zb_inI_of (by omega) (by omega), ⟨by omega, by omega⟩, ⟨by omega, by omega⟩, fun m1 e1 => ?_⟩
    have f1 : m1 500 13 = t := by rw [zb_u3 e1 (by omega)]; exact e13
    rw [f1]
    refine ⟨zb_inI_of (by omega) (by omega), zb_inI_of (by omega) (by omega), ⟨by omega, by omega⟩, fun m2 e2 => ?_⟩
    have f2 : m2 500 13 = t := by rw [zb_u3 e2 (by omega)]; exact f1
    rw [f2]
    refine ⟨zb_inI_of (by omega) (by omega), zb_inI_of (by omega) (by omega), ⟨by omega, by omega⟩, fun m3 e3 => ?_⟩
    have f3 : m3 500 13 = t := by rw [zb_u3 e3 (by omega)]; exact f2
    rw [f3]
    refine ⟨zb_inI_of (by omega) (by omega), zb_inI_of (by omega) (by omega), ⟨by omega, by omega⟩, fun m4 e4 => ⟨zb_inI_of (by omega) (by omega), nxt (by omega) m4 ⟨by omega, fun b j => ?_⟩⟩⟩
    rw [zb_u3 e1 (by omega)] at e2
    rw [zb_u3 e2 (by omega), zb_u3 e1 (by omega)] at e3
    rw [zb_u3 e3 (by omega), zb_u3 e2 (by omega), zb_u3 e1 (by omega)] at e4
    rw [rd _ _ (by omega) (by omega)] at e1 e2 e3 e4
    by_cases q : (509 ≤ b ∧ b ≤ 512) ∧ j = 12 * t + v
    · obtain ⟨⟨b0, b1⟩, qj⟩ := q
      rw [if_pos (by omega)]
      have ej : 12 * g + (j - 12 * t) = 12 * g + v := by omega
      rw [ej]
      have hbc : b = 509 ∨ b = 510 ∨ b = 511 ∨ b = 512 := by omega
      rcases hbc with q | q | q | q <;> subst q <;> subst qj
      · rw [zb_u3 e4 (by omega), zb_u3 e3 (by omega), zb_u3 e2 (by omega), zb_u1 e1]; rfl
      · rw [zb_u3 e4 (by omega), zb_u3 e3 (by omega), zb_u1 e2]; rfl
      · rw [zb_u3 e4 (by omega), zb_u1 e3]; rfl
      · rw [zb_u1 e4]; rfl
    · rw [zb_u2 e4 (by omega), zb_u2 e3 (by omega), zb_u2 e2 (by omega), zb_u2 e1 (by omega), hv]
      by_cases q2 : (509 ≤ b ∧ b ≤ 512) ∧ 12 * t ≤ j ∧ j < 12 * t + v
      · rw [if_pos q2, if_pos (by omega)]
      · rw [if_neg q2, if_neg (by omega)]
