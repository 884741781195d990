/-! ===== the shown things of a graph, as class and reference lay them out ===== -/
/-- the shown ones of the first k things: how many, and which -/
def zb_sat (g : zb_Gv) : Nat → Int × (Int → Int)
  | 0 => (0, fun _ => 0)
  | k + 1 => if g.2.1 (k : Int) = 4 then zb_sat g k else ((zb_sat g k).1 + 1, zb_wr (zb_sat g k).2 (zb_sat g k).1 (k : Int))
theorem zb_sat_S (g : zb_Gv) {v : Int} (h : 0 ≤ v) : zb_sat g (v + 1).toNat = if g.2.1 v = 4 then zb_sat g v.toNat else ((zb_sat g v.toNat).1 + 1, zb_wr (zb_sat g v.toNat).2 (zb_sat g v.toNat).1 v) := by
  have e : (v + 1).toNat = v.toNat + 1 := by omega
  have e2 : ((v.toNat : Nat) : Int) = v := by omega
  rw [e]
  show (if g.2.1 ((v.toNat : Nat) : Int) = 4 then zb_sat g v.toNat else ((zb_sat g v.toNat).1 + 1, zb_wr (zb_sat g v.toNat).2 (zb_sat g v.toNat).1 ((v.toNat : Nat) : Int))) = _
  rw [e2]
def zb_asc (n k : Int) (o : Int → Int) : Prop := (∀ x, 0 ≤ x → x < n → 0 ≤ o x ∧ o x < k) ∧ ∀ x y, 0 ≤ x → x < y → y < n → o x < o y
theorem zb_asc_inj {n k : Int} {o : Int → Int} (h : zb_asc n k o) : ∀ x y, 0 ≤ x → x < n → 0 ≤ y → y < n → o x = o y → x = y := by
  intro x y x0 x1 y0 y1 e
  rcases Int.lt_trichotomy x y with c | c | c
  · have := h.2 x y x0 c y1; omega
  · exact c
  · have := h.2 y x y0 c x1; omega
theorem zb_sat_ok (g : zb_Gv) : ∀ k : Nat, (0 ≤ (zb_sat g k).1 ∧ (zb_sat g k).1 ≤ k) ∧ zb_asc (zb_sat g k).1 k (zb_sat g k).2 ∧ (∀ x, 0 ≤ x → x < (zb_sat g k).1 → g.2.1 ((zb_sat g k).2 x) ≠ 4) ∧ ∀ i : Int, 0 ≤ i → i < k → g.2.1 i ≠ 4 → ∃ x, 0 ≤ x ∧ x < (zb_sat g k).1 ∧ (zb_sat g k).2 x = i := by
  intro k
  induction k with
  | zero => exact ⟨⟨Int.le_refl _, Int.le_refl _⟩, ⟨fun x x0 x1 => by have x1 : x < 0 := x1; omega, fun x y x0 xy y1 => by have y1 : y < 0 := y1; omega⟩, fun x x0 x1 => by have x1 : x < 0 := x1; omega, fun i i0 i1 => by omega⟩
  | succ k ih =>
    obtain ⟨⟨a1, a2⟩, ⟨a3, a4⟩, a5, a6⟩ := ih
    by_cases q : g.2.1 (k : Int) = 4
    · have e : zb_sat g (k + 1) = zb_sat g k := if_pos q
      rw [e]
      refine ⟨⟨a1, by omega⟩, ⟨fun x x0 x1 => by have := a3 x x0 x1; omega, a4⟩, a5, fun i i0 i1 hi => ?_⟩
      by_cases c : i = k
      · rw [c] at hi; exact absurd q hi
      · exact a6 i i0 (by omega) hi
    · have e : zb_sat g (k + 1) = ((zb_sat g k).1 + 1, zb_wr (zb_sat g k).2 (zb_sat g k).1 (k : Int)) := if_neg q
      rw [e]
      refine ⟨⟨by show 0 ≤ (zb_sat g k).1 + 1; omega, by show (zb_sat g k).1 + 1 ≤ _; omega⟩, ⟨fun x x0 x1 => ?_, fun x y x0 xy y1 => ?_⟩, fun x x0 x1 => ?_, fun i i0 i1 hi => ?_⟩
      · have x1 : x < (zb_sat g k).1 + 1 := x1
        show 0 ≤ (if x = (zb_sat g k).1 then (k : Int) else (zb_sat g k).2 x) ∧ (if x = (zb_sat g k).1 then (k : Int) else (zb_sat g k).2 x) < _
        by_cases c : x = (zb_sat g k).1
        · rw [if_pos c]; omega
        · rw [if_neg c]; have := a3 x x0 (by omega); omega
      · have y1 : y < (zb_sat g k).1 + 1 := y1
        show (if x = (zb_sat g k).1 then (k : Int) else (zb_sat g k).2 x) < (if y = (zb_sat g k).1 then (k : Int) else (zb_sat g k).2 y)
        rw [if_neg (by omega)]
        by_cases c : y = (zb_sat g k).1
        · rw [if_pos c]; exact (a3 x x0 (by omega)).2
        · rw [if_neg c]; exact a4 x y x0 xy (by omega)
      · have x1 : x < (zb_sat g k).1 + 1 := x1
        show g.2.1 (if x = (zb_sat g k).1 then (k : Int) else (zb_sat g k).2 x) ≠ 4
        by_cases c : x = (zb_sat g k).1
        · rw [if_pos c]; exact q
        · rw [if_neg c]; exact a5 x x0 (by omega)
      · by_cases c : i = k
        · exact ⟨(zb_sat g k).1, a1, by show _ < (zb_sat g k).1 + 1; omega, by show (if (zb_sat g k).1 = (zb_sat g k).1 then (k : Int) else _) = i; rw [if_pos rfl, c]⟩
        · obtain ⟨x, x0, x1, hx⟩ := a6 i i0 (by omega) hi
          exact ⟨x, x0, by show x < (zb_sat g k).1 + 1; omega, by show (if x = (zb_sat g k).1 then (k : Int) else (zb_sat g k).2 x) = i; rw [if_neg (by omega)]; exact hx⟩
theorem zb_sat_cnt (g : zb_Gv) (k : Nat) : (zb_sat g k).1 = zb_cnt (fun i => !(g.2.1 i == 4)) k := by
  induction k with
  | zero => rfl
  | succ k ih =>
    show (if g.2.1 (k : Int) = 4 then zb_sat g k else ((zb_sat g k).1 + 1, zb_wr (zb_sat g k).2 (zb_sat g k).1 (k : Int))).1 = zb_cnt _ k + (if (!(g.2.1 (k : Int) == 4)) = true then 1 else 0)
    by_cases q : g.2.1 (k : Int) = 4
    · rw [if_pos q, if_neg (by simp [q]), ih]; omega
    · rw [if_neg q, if_pos (by simp [q])]
      show (zb_sat g k).1 + 1 = _
      rw [ih]
/-- how many things of a graph are shown; which; the net that they make -/
def zb_shn (g : zb_Gv) : Int := (zb_sat g g.1.toNat).1
def zb_sha (g : zb_Gv) : Int → Int := (zb_sat g g.1.toNat).2
def zb_shN (g : zb_Gv) : zb_N := (zb_shn g, (fun x => zb_key g (zb_sha g x)), fun x y => g.2.2.2.2.2 (zb_sha g x) (zb_sha g y))
theorem zb_sha_asc {g : zb_Gv} (hO : zb_Og g) : zb_asc (zb_shn g) g.1 (zb_sha g) := by
  have := (zb_sat_ok g g.1.toNat).2.1
  rw [show ((g.1.toNat : Nat) : Int) = g.1 by have := hO.1; omega] at this
  exact this
theorem zb_shn_rng {g : zb_Gv} (hO : zb_Og g) : 0 ≤ zb_shn g ∧ zb_shn g ≤ g.1 := by
  have := (zb_sat_ok g g.1.toNat).1
  rw [show ((g.1.toNat : Nat) : Int) = g.1 by have := hO.1; omega] at this
  exact this
theorem zb_key_rng {g : zb_Gv} (hO : zb_Og g) {i : Int} (i0 : 0 ≤ i) (i1 : i < g.1) : 0 ≤ zb_key g i ∧ zb_key g i ≤ 10000 := by
  obtain ⟨o1, o2, o3, o4, o5⟩ := hO.2.2 i i0 i1
  unfold zb_key
  split <;> split <;> split <;> omega
theorem zb_shN_ok {g : zb_Gv} (hO : zb_Og g) : zb_ON (zb_shN g) := by
  have hr := zb_shn_rng hO
  have ha := zb_sha_asc hO
  have hn := hO.2.1
  refine ⟨⟨hr.1, by show zb_shn g ≤ 12; omega⟩, fun x x0 x1 => ?_, fun x y x0 x1 y0 y1 => ?_⟩
  · have hx := ha.1 x x0 x1
    exact zb_key_rng hO hx.1 hx.2
  · have hx := ha.1 x x0 x1
    have hy := ha.1 y y0 y1
    exact ((hO.2.2 _ hx.1 hx.2).2.2.2.2 _ hy.1 (by omega)).1
/-- r is the number of thing i among the shown ones; -1: it is none of them -/
def zb_isx (n : Int) (o : Int → Int) (i r : Int) : Prop := (r = -1 ∧ ∀ x, 0 ≤ x → x < n → o x ≠ i) ∨ (0 ≤ r ∧ r < n ∧ o r = i)
def zb_ix (o : Int → Int) (i : Int) : Nat → Int
  | 0 => -1
  | k + 1 => if o (k : Int) = i then (k : Int) else zb_ix o i k
theorem zb_ix_is (o : Int → Int) (i : Int) : ∀ k : Nat, zb_isx k o i (zb_ix o i k) := by
  intro k
  induction k with
  | zero => exact Or.inl ⟨rfl, fun x x0 x1 => by omega⟩
  | succ k ih =>
    show zb_isx _ o i (if o (k : Int) = i then (k : Int) else zb_ix o i k)
    by_cases q : o (k : Int) = i
    · rw [if_pos q]; exact Or.inr ⟨by omega, by omega, q⟩
    · rw [if_neg q]
      rcases ih with ⟨h1, h2⟩ | ⟨h1, h2, h3⟩
      · refine Or.inl ⟨h1, fun x x0 x1 => ?_⟩
        by_cases c : x = k
        · rw [c]; exact q
        · exact h2 x x0 (by omega)
      · exact Or.inr ⟨h1, by omega, h3⟩
theorem zb_isx_eq {n k : Int} {o : Int → Int} {i r r2 : Int} (ho : zb_asc n k o) (h : zb_isx n o i r) (h2 : zb_isx n o i r2) : r = r2 := by
  rcases h with ⟨a1, a2⟩ | ⟨a1, a2, a3⟩
  · rcases h2 with ⟨b1, b2⟩ | ⟨b1, b2, b3⟩
    · omega
    · exact absurd b3 (a2 r2 b1 b2)
  · rcases h2 with ⟨b1, b2⟩ | ⟨b1, b2, b3⟩
    · exact absurd a3 (b2 r a1 a2)
    · exact zb_asc_inj ho r r2 a1 a2 b1 b2 (by omega)
/-- the class's snapshot holds a net, whose things have these numbers -/
def zb_CS (m : zb_M) (a : Int) (N : zb_N) (o : Int → Int) : Prop := m a 0 = N.1 ∧ (∀ x, 0 ≤ x → x < N.1 → m (a + 1) x = o x ∧ m (a + 3) x = N.2.1 x) ∧ (∀ x y, 0 ≤ x → x < N.1 → 0 ≤ y → y < N.1 → m (a + 4) (x * 12 + y) = N.2.2 x y ∧ m (a + 5) (x * 12 + y) = zb_W (N.2.2 x y)) ∧ ∀ i, 0 ≤ i → i < 12 → zb_isx N.1 o i (m (a + 2) i)
theorem zb_CS_same {m m1 : zb_M} {a : Int} {N : zb_N} {o : Int → Int} (h : zb_CS m a N o) (he : ∀ b, a ≤ b → b ≤ a + 5 → m1 b = m b) : zb_CS m1 a N o := by
  refine ⟨by rw [he a (by omega) (by omega)]; exact h.1, fun x x0 x1 => ?_, fun x y x0 x1 y0 y1 => ?_, fun i i0 i1 => ?_⟩
  · rw [he _ (by omega) (by omega), he _ (by omega) (by omega)]; exact h.2.1 x x0 x1
  · rw [he _ (by omega) (by omega), he _ (by omega) (by omega)]; exact h.2.2.1 x y x0 x1 y0 y1
  · rw [he _ (by omega) (by omega)]; exact h.2.2.2 i i0 i1
theorem s_X6_addThing {d : Nat} {m : zb_M} {a i k n : Int} (ha : zb_is zb_E0.1 a 6) (hn : m a 0 = n) (n0 : 0 ≤ n) (n1 : n < 12) (i0 : 0 ≤ i) (i1 : i < 12) : zb_T K_X6_addThing (d + 1) [(2, a), (0, i), (0, k)] zb_E0 m (fun _ m1 => ∀ b j, m1 b j = if b = a ∧ j = 0 then n + 1 else if b = a + 3 ∧ j = n then k else if b = a + 2 ∧ j = i then n else if b = a + 1 ∧ j = n then i else m b j) := by
  apply w_X6_addThing
  obtain ⟨v1, v2, v3, v4, v5⟩ := zb_shw ha
  unfold PM_X6_addThing
  rw [v1, v2, v3, hn]
  refine ⟨⟨n0, n1⟩, fun m9 e9 => ?_⟩
  have q9 : m9 a 0 = n := by rw [zb_u2 e9 (by omega)]; exact hn
  rw [q9]
  refine ⟨⟨i0, i1⟩, fun m19 e19 => ?_⟩
  have q19 : m19 a 0 = n := by rw [zb_u2 e19 (by omega)]; exact q9
  rw [q19]
  refine ⟨⟨n0, n1⟩, fun m29 e29 => ?_⟩
  have q29 : m29 a 0 = n := by rw [zb_u2 e29 (by omega)]; exact q19
  rw [q29]
  refine ⟨zb_inI_of (by omega) (by omega), fun m37 e37 b j => ?_⟩
  rw [e37, e29, e19, e9]
  rfl
theorem s_X6_setLine {d : Nat} {m : zb_M} {a x y v : Int} (ha : zb_is zb_E0.1 a 6) (x0 : 0 ≤ x) (x1 : x < 12) (y0 : 0 ≤ y) (y1 : y < 12) (v0 : 0 ≤ v) (v1 : v ≤ 9) : zb_T K_X6_setLine (d + 1) [(2, a), (0, x), (0, y), (0, v)] zb_E0 m (fun _ m1 => ∀ b j, m1 b j = if b = a + 5 ∧ j = x * 12 + y then zb_W v else if b = a + 4 ∧ j = x * 12 + y then v else m b j) := by
  apply w_X6_setLine
  obtain ⟨w1, w2, w3, w4, w5⟩ := zb_shw ha
  unfold PM_X6_setLine
  rw [w4, w5]
  refine ⟨zb_inI_of (by omega) (by omega), zb_inI_of (by omega) (by omega), ⟨by omega, by omega⟩, fun m11 e11 => ⟨fun c m38 e38 b j => ?_, fun c => ⟨zb_inI_of (by omega) (by omega), zb_inI_of (by omega) (by omega), fun m38 e38 b j => ?_⟩⟩⟩
  · rw [e38, e11, c, zb_W_0]
    rfl
  · rw [e38, e11, zb_W_shl (by omega) v1]
    rfl
theorem s_X6_lineFrom {d : Nat} {m : zb_M} {a x y : Int} {N : zb_N} {o : Int → Int} (ha : zb_is zb_E0.1 a 6) (hs : zb_CS m a N o) (hN : zb_ON N) (x0 : 0 ≤ x) (x1 : x < N.1) (y0 : 0 ≤ y) (y1 : y < N.1) : zb_Tp K_X6_lineFrom (d + 1) [(2, a), (0, x), (0, y)] zb_E0 m (fun r => r = N.2.2 x y) := by
  apply w_X6_lineFrom
  obtain ⟨w1, w2, w3, w4, w5⟩ := zb_shw ha
  have hn := hN.1.2
  unfold PM_X6_lineFrom
  rw [w4]
  exact ⟨zb_inI_of (by omega) (by omega), zb_inI_of (by omega) (by omega), ⟨by omega, by omega⟩, (hs.2.2.1 x y x0 x1 y0 y1).1⟩
theorem s_X6_indexOf {d : Nat} {m : zb_M} {a i : Int} {N : zb_N} {o : Int → Int} (ha : zb_is zb_E0.1 a 6) (hs : zb_CS m a N o) (ho : zb_asc N.1 12 o) : zb_Tp K_X6_indexOf (d + 2) [(2, a), (0, i)] zb_E0 m (fun r => zb_isx N.1 o i r) := by
  apply w_X6_indexOf
  obtain ⟨w1, w2, w3, w4, w5⟩ := zb_shw ha
  unfold PM_X6_indexOf
  rw [w2]
  refine s_X11_isBelow.mono (fun r h => ?_)
  rcases zb_if1 h with ⟨h1, h2⟩ | ⟨h1, h2⟩
  · exact ⟨fun _ => Or.inl ⟨rfl, fun x x0 x1 e => h2 (by have := ho.1 x x0 x1; omega)⟩, fun z => absurd h1 z⟩
  · exact ⟨fun z => by omega, fun _ => ⟨h2, hs.2.2.2 i h2.1 h2.2⟩⟩
theorem s_X6_take {d : Nat} {m : zb_M} {a b : Int} {g : zb_Gv} (ha : zb_is zb_E0.1 a 6) (hb : zb_is zb_E0.1 b 4) (hap : a + 5 < b ∨ b + 5 < a) (hg : zb_Cg m b g) (hO : zb_Og g) : zb_T K_X6_take (d + 4) [(2, a), (2, b)] zb_E0 m (fun _ m1 => zb_CS m1 a (zb_shN g) (zb_sha g) ∧ ∀ c, (c < a ∨ a + 5 < c) → m1 c = m c) := by
  apply w_X6_take
  obtain ⟨w1, w2, w3, w4, w5⟩ := zb_shw ha
  obtain ⟨v1, v2, v3, v4, v5⟩ := zb_net hb
  have hn := hO.2.1
  unfold PM_X6_take
  intro m2 e2
  unfold PL_X6_take_7
  rw [w2]
  intro X hX
  refine zb_lp1 (fun v mm => 0 ≤ v ∧ mm a 0 = 0 ∧ (∀ i, 0 ≤ i → i < v → mm (a + 2) i = -1) ∧ ∀ c, (c < a ∨ a + 5 < c) → mm c = m c) 12 (fun v mm ⟨v0, h1, h2, h3⟩ vn nxt => hX v mm ⟨fun c => ?_, fun c => ⟨⟨v0, by omega⟩, fun m19 e19 => ⟨zb_inI_of (by omega) (by omega), nxt (by omega) m19 ⟨by omega, by rw [zb_u2 e19 (by omega)]; exact h1, fun i i0 i1 => ?_, fun c hc => by rw [zb_u3 e19 (by omega)]; exact h3 c hc⟩⟩⟩⟩) 0 m2 (by omega) ⟨by omega, zb_u1 e2, fun i i0 i1 => by omega, fun c hc => by rw [zb_u3 e2 (by omega)]⟩
  · have hv : v = 12 := by omega
    subst hv
    clear nxt hX X
    unfold PJ_X6_take_26 PL_X6_take_28
    rw [v1]
    intro Y hY
    refine zb_lp1 (fun v mq => 0 ≤ v ∧ (mq a 0 = (zb_sat g v.toNat).1 ∧ (∀ x, 0 ≤ x → x < (zb_sat g v.toNat).1 → mq (a + 1) x = (zb_sat g v.toNat).2 x ∧ mq (a + 3) x = zb_key g ((zb_sat g v.toNat).2 x)) ∧ ∀ i, 0 ≤ i → i < 12 → zb_isx (zb_sat g v.toNat).1 (zb_sat g v.toNat).2 i (mq (a + 2) i)) ∧ ∀ c, (c < a ∨ a + 5 < c) → mq c = m c) g.1 (fun v mq ⟨u0, ⟨k1, k2, k3⟩, k4⟩ un nx2 => hY v mq ⟨fun c => ?_, fun c => ⟨⟨u0, ?_⟩, ?_⟩⟩) 0 mm hO.1 ⟨by omega, ⟨h1, fun x x0 x1 => by have x1 : x < 0 := x1; omega, fun i i0 i1 => Or.inl ⟨h2 i i0 i1, fun x x0 x1 => by have x1 : x < 0 := x1; omega⟩⟩, h3⟩
    · have e0 : mq b 0 = g.1 := by rw [k4 b (by omega)]; exact hg.1
      rw [e0] at c
      have hv : v = g.1 := by omega
      subst hv
      clear nx2 hY Y
      unfold PJ_X6_take_62 PL_X6_take_64
      intro Z hZ
      have hr := zb_shn_rng hO
      have hsa := zb_sha_asc hO
      have k1 : mq a 0 = zb_shn g := k1
      have k2 : ∀ x, 0 ≤ x → x < zb_shn g → mq (a + 1) x = zb_sha g x ∧ mq (a + 3) x = zb_key g (zb_sha g x) := k2
      have k3 : ∀ i, 0 ≤ i → i < 12 → zb_isx (zb_shn g) (zb_sha g) i (mq (a + 2) i) := k3
      refine zb_lp1 (fun x mr => 0 ≤ x ∧ (∀ c j, c ≠ a + 4 → c ≠ a + 5 → mr c j = mq c j) ∧ ∀ z y, 0 ≤ z → z < x → 0 ≤ y → y < zb_shn g → mr (a + 4) (z * 12 + y) = g.2.2.2.2.2 (zb_sha g z) (zb_sha g y) ∧ mr (a + 5) (z * 12 + y) = zb_W (g.2.2.2.2.2 (zb_sha g z) (zb_sha g y))) (zb_shn g) (fun x mr ⟨x0, r1, r2⟩ xn nx3 => hZ x mr ⟨fun c => ⟨⟨?_, fun z z0 z1 => ?_, fun z y z0 z1 y0 y1 => ?_, fun i i0 i1 => ?_⟩, fun c2 hc => ?_⟩, fun c => ?_⟩) 0 mq hr.1 ⟨by omega, fun c j _ _ => rfl, fun z y z0 z1 => by omega⟩
      · rw [r1 a 0 (by omega) (by omega)]; exact k1
      · rw [r1 _ _ (by omega) (by omega), r1 _ _ (by omega) (by omega)]; exact k2 z z0 z1
      · rw [r1 a 0 (by omega) (by omega), k1] at c
        have z1 : z < zb_shn g := z1
        have y1 : y < zb_shn g := y1
        exact r2 z y z0 (by omega) y0 y1
      · rw [r1 _ _ (by omega) (by omega)]; exact k3 i i0 i1
      · funext j
        rw [r1 _ _ (by omega) (by omega), k4 c2 hc]
      · rw [r1 a 0 (by omega) (by omega), k1] at c
        unfold PL_X6_take_74
        rw [w1]
        intro U hU
        refine zb_lp1 (fun y ms => 0 ≤ y ∧ (∀ c j, c ≠ a + 4 → c ≠ a + 5 → ms c j = mq c j) ∧ (∀ z y, 0 ≤ z → z < x → 0 ≤ y → y < zb_shn g → ms (a + 4) (z * 12 + y) = g.2.2.2.2.2 (zb_sha g z) (zb_sha g y) ∧ ms (a + 5) (z * 12 + y) = zb_W (g.2.2.2.2.2 (zb_sha g z) (zb_sha g y))) ∧ ∀ u, 0 ≤ u → u < y → ms (a + 4) (x * 12 + u) = g.2.2.2.2.2 (zb_sha g x) (zb_sha g u) ∧ ms (a + 5) (x * 12 + u) = zb_W (g.2.2.2.2.2 (zb_sha g x) (zb_sha g u))) (zb_shn g) (fun y ms ⟨y0, s1, s2, s3⟩ yn nx4 => hU y ms ⟨fun c2 => ?_, fun c2 => ?_⟩) 0 mr hr.1 ⟨by omega, r1, r2, fun u u0 u1 => by omega⟩
        · rw [s1 a 0 (by omega) (by omega), k1] at c2
          refine ⟨zb_inI_of (by omega) (by omega), nx3 (by omega) ms ⟨by omega, s1, fun z u z0 z1 u0 u1 => ?_⟩⟩
          by_cases q : z = x
          · subst q; exact s3 u u0 (by omega)
          · exact s2 z u z0 (by omega) u0 u1
        · rw [s1 a 0 (by omega) (by omega), k1] at c2
          have hx := hsa.1 x x0 (by omega)
          have hy := hsa.1 y y0 (by omega)
          rw [s1 (a + 1) _ (by omega) (by omega), s1 (a + 1) _ (by omega) (by omega), (k2 x x0 (by omega)).1, (k2 y y0 (by omega)).1]
          refine ⟨⟨x0, by omega⟩, ⟨y0, by omega⟩, (s_X4_lineFrom hb hx.1 (by omega) hy.1 (by omega)).mono (fun r98 h98 => ?_)⟩
          have e98 : r98 = g.2.2.2.2.2 (zb_sha g x) (zb_sha g y) := by
            rw [h98, s1 _ _ (by omega) (by omega), k4 _ (by omega)]
            exact (hg.2 _ hx.1 hx.2).2.2.2.2 _ hy.1 (by omega)
          have hl := ((hO.2.2 _ hx.1 hx.2).2.2.2.2 _ hy.1 (by omega)).1
          rw [e98]
          refine (s_X6_setLine ha x0 (by omega) y0 (by omega) hl.1 hl.2).mono (fun _ m101 h101 => ⟨zb_inI_of (by omega) (by omega), nx4 (by omega) m101 ⟨by omega, fun c j c1 c2 => ?_, fun z u z0 z1 u0 u1 => ?_, fun u u0 u1 => ?_⟩⟩)
          · rw [h101, if_neg (by omega), if_neg (by omega)]; exact s1 c j c1 c2
          · rw [h101, h101, if_neg (by omega), if_neg (by omega), if_neg (by omega), if_neg (by omega)]; exact s2 z u z0 z1 u0 u1
          · by_cases q : u = y
            · subst q
              rw [h101, h101, if_neg (by omega), if_pos ⟨rfl, rfl⟩, if_pos ⟨rfl, rfl⟩]
              exact ⟨rfl, rfl⟩
            · rw [h101, h101, if_neg (by omega), if_neg (by omega), if_neg (by omega), if_neg (by omega)]; exact s3 u u0 (by omega)
    · have e0 : mq b 0 = g.1 := by rw [k4 b (by omega)]; exact hg.1
      rw [e0] at c
      omega
    · have e0 : mq b 0 = g.1 := by rw [k4 b (by omega)]; exact hg.1
      rw [e0] at c
      have hs := (zb_sat_ok g v.toNat).1
      have e1 : mq (b + 1) v = g.2.1 v := by rw [k4 _ (by omega)]; exact (hg.2 v u0 (by omega)).1
      rw [e1]
      have eS := zb_sat_S g u0
      refine ⟨fun q => ⟨zb_inI_of (by omega) (by omega), nx2 (by omega) mq ⟨by omega, ?_, k4⟩⟩, fun q => ?_⟩
      · rw [if_pos q] at eS
        rw [eS]
        exact ⟨k1, k2, k3⟩
      · rw [if_neg q] at eS
        have hgq : zb_Cg mq b g := zb_Cg_same hg (fun c c0 c1 => k4 c (by omega))
        refine (s_X4_keyOf hb hgq hO u0 (by omega)).mono (fun r50 h50 => ?_)
        refine (s_X6_addThing ha k1 hs.1 (by omega) u0 (by omega)).mono (fun _ m53 h53 => ⟨zb_inI_of (by omega) (by omega), nx2 (by omega) m53 ⟨by omega, ?_, fun c hc => ?_⟩⟩)
        · rw [eS]
          refine ⟨?_, fun x x0 x1 => ?_, fun i i0 i1 => ?_⟩
          · rw [h53, if_pos ⟨rfl, rfl⟩]
          · have x1 : x < (zb_sat g v.toNat).1 + 1 := x1
            show m53 (a + 1) x = (if x = (zb_sat g v.toNat).1 then v else (zb_sat g v.toNat).2 x) ∧ m53 (a + 3) x = zb_key g (if x = (zb_sat g v.toNat).1 then v else (zb_sat g v.toNat).2 x)
            by_cases q2 : x = (zb_sat g v.toNat).1
            · rw [if_pos q2, h53, h53, if_neg (by omega), if_neg (by omega), if_neg (by omega), if_pos ⟨rfl, q2⟩, if_neg (by omega), if_pos ⟨rfl, q2⟩]
              exact ⟨rfl, h50⟩
            · rw [if_neg q2, h53, h53, if_neg (by omega), if_neg (by omega), if_neg (by omega), if_neg (by omega), if_neg (by omega), if_neg (by omega), if_neg (by omega), if_neg (by omega)]
              exact k2 x x0 (by omega)
          · show zb_isx ((zb_sat g v.toNat).1 + 1) (fun x => if x = (zb_sat g v.toNat).1 then v else (zb_sat g v.toNat).2 x) i (m53 (a + 2) i)
            by_cases q2 : i = v
            · rw [h53, if_neg (by omega), if_neg (by omega), if_pos ⟨rfl, q2⟩]
              exact Or.inr ⟨hs.1, by omega, by show (if _ then v else _) = i; rw [if_pos rfl, q2]⟩
            · rw [h53, if_neg (by omega), if_neg (by omega), if_neg (by omega), if_neg (by omega)]
              rcases k3 i i0 i1 with ⟨t1, t2⟩ | ⟨t1, t2, t3⟩
              · refine Or.inl ⟨t1, fun x x0 x1 => ?_⟩
                show (if x = (zb_sat g v.toNat).1 then v else (zb_sat g v.toNat).2 x) ≠ i
                by_cases q3 : x = (zb_sat g v.toNat).1
                · rw [if_pos q3]; omega
                · rw [if_neg q3]; exact t2 x x0 (by omega)
              · exact Or.inr ⟨t1, by omega, by show (if _ then v else _) = i; rw [if_neg (by omega)]; exact t3⟩
        · funext j
          rw [h53, if_neg (by omega), if_neg (by omega), if_neg (by omega), if_neg (by omega), k4 c hc]
  · by_cases q : i = v
    · subst q; exact zb_u1 e19
    · rw [zb_u2 e19 (by omega)]; exact h2 i i0 (by omega)
