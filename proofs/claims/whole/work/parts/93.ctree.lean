/-! ===== the class's tree ===== -/
theorem s_X6_areTwins {d : Nat} {m : zb_M} {a x y : Int} {N : zb_N} {o : Int → Int} (ha : zb_is zb_E0.1 a 6) (hs : zb_CS m a N o) (hN : zb_ON N) (x0 : 0 ≤ x) (x1 : x < N.1) (y0 : 0 ≤ y) (y1 : y < N.1) : zb_Tp K_X6_areTwins (d + 2) [(2, a), (0, x), (0, y)] zb_E0 m (fun r => (r = 1 ∧ zb_tw N x y) ∨ (r = 0 ∧ ¬ zb_tw N x y)) := by
  apply w_X6_areTwins
  obtain ⟨w1, w2, w3, w4, w5⟩ := zb_shw ha
  have hn := hN.1.2
  unfold PM_X6_areTwins
  rw [w3, (hs.2.1 x x0 x1).2, (hs.2.1 y y0 y1).2]
  refine ⟨⟨x0, by omega⟩, ⟨y0, by omega⟩, fun c => ?_, fun c => Or.inr ⟨rfl, fun z => c z.1⟩⟩
  refine (s_X6_lineFrom ha hs hN x0 x1 x0 x1).mono (fun r18 e18 => (s_X6_lineFrom ha hs hN y0 y1 y0 y1).mono (fun r24 e24 => ?_))
  rw [e18, e24]
  refine ⟨fun c2 => (s_X6_lineFrom ha hs hN x0 x1 y0 y1).mono (fun r33 e33 => (s_X6_lineFrom ha hs hN y0 y1 x0 x1).mono (fun r39 e39 => ?_)), fun c2 => Or.inr ⟨rfl, fun z => c2 z.2.1⟩⟩
  rw [e33, e39]
  refine ⟨fun c3 => ?_, fun c3 => Or.inr ⟨rfl, fun z => c3 z.2.2.1⟩⟩
  unfold PL_X6_areTwins_49
  rw [hs.1]
  intro X hX
  refine zb_lp0 (fun v => 0 ≤ v ∧ ∀ z, 0 ≤ z → z < v → z ≠ x → z ≠ y → N.2.2 x z = N.2.2 y z ∧ N.2.2 z x = N.2.2 z y) N.1 (fun v ⟨v0, hv⟩ vn nxt => hX v ⟨fun c4 => Or.inl ⟨rfl, c, c2, c3, fun z z0 z1 q1 q2 => hv z z0 (by omega) q1 q2⟩, fun c4 => ?_⟩) 0 hN.1.1 ⟨by omega, fun z z0 z1 => by omega⟩
  have v1 : v < N.1 := by omega
  have go : (v ≠ x → v ≠ y → N.2.2 x v = N.2.2 y v ∧ N.2.2 v x = N.2.2 v y) → zb_inI (v + 1) ∧ X (v + 1) := fun h => ⟨zb_inI_of (by omega) (by omega), nxt v1 ⟨by omega, fun z z0 z1 q1 q2 => by
    by_cases q : z = v
    · rw [q] at q1 q2 ⊢; exact h q1 q2
    · exact hv z z0 (by omega) q1 q2⟩⟩
  refine ⟨fun q => go (fun z => absurd q z), fun q => ⟨fun q2 => go (fun _ z => absurd q2 z), fun q2 => ?_⟩⟩
  refine (s_X6_lineFrom ha hs hN x0 x1 v0 v1).mono (fun r73 e73 => (s_X6_lineFrom ha hs hN y0 y1 v0 v1).mono (fun r79 e79 => ?_))
  rw [e73, e79]
  refine ⟨fun c5 => (s_X6_lineFrom ha hs hN v0 v1 x0 x1).mono (fun r88 e88 => (s_X6_lineFrom ha hs hN v0 v1 y0 y1).mono (fun r94 e94 => ?_)), fun c5 => Or.inr ⟨rfl, fun z => c5 (z.2.2.2 v v0 v1 q q2).1⟩⟩
  rw [e88, e94]
  exact ⟨fun c6 => go (fun _ _ => ⟨c5, c6⟩), fun c6 => Or.inr ⟨rfl, fun z => c6 (z.2.2.2 v v0 v1 q q2).2⟩⟩
/-- where things are: the snapshot, the name that is written -/
def zb_Gc (m : zb_M) (c b : Int) (N : zb_N) (o : Int → Int) : Prop := m 136 4 = c ∧ m 136 5 = b ∧ zb_CS m c N o
/-- cells apart -/
def zb_Ga (c b : Int) : Prop := zb_is zb_E0.1 c 6 ∧ zb_is zb_E0.1 b 3 ∧ (c + 5 < 132 ∨ 191 < c) ∧ (b + 2 < 132 ∨ 191 < b) ∧ (b + 2 < c ∨ c + 5 < b)
theorem zb_Gc_same {m m1 : zb_M} {c b : Int} {N : zb_N} {o : Int → Int} (h : zb_Gc m c b N o) (h4 : m1 136 = m 136) (he : ∀ x, c ≤ x → x ≤ c + 5 → m1 x = m x) : zb_Gc m1 c b N o := ⟨by rw [h4]; exact h.1, by rw [h4]; exact h.2.1, zb_CS_same h.2.2 he⟩
def zb_twT (m : zb_M) (N : zb_N) : Prop := ∀ x y, 0 ≤ x → x < N.1 → 0 ≤ y → y < x → (m 190 (x * 12 + y) = 0 ↔ ¬ zb_tw N x y)
theorem s_X8_findTwins {d : Nat} {m : zb_M} {c b : Int} {N : zb_N} {o : Int → Int} (hA : zb_Ga c b) (h : zb_Gc m c b N o) (hN : zb_ON N) : zb_T K_X8_findTwins (d + 3) [(2, 136)] zb_E0 m (fun _ m1 => zb_twT m1 N ∧ ∀ x, x ≠ 190 → m1 x = m x) := by
  apply w_X8_findTwins
  obtain ⟨ic, ib, a1, a2, a3⟩ := hA
  have hn := hN.1.2
  unfold PM_X8_findTwins PL_X8_findTwins_2
  intro X hX
  refine zb_lp1 (fun v mm => 0 ≤ v ∧ (∀ x y, 0 ≤ x → x < v → 0 ≤ y → y < x → (mm 190 (x * 12 + y) = 0 ↔ ¬ zb_tw N x y)) ∧ ∀ x, x ≠ 190 → mm x = m x) N.1 (fun v mm ⟨v0, t1, t2⟩ vn nxt => hX v mm ?_) 0 m hN.1.1 ⟨by omega, fun x y x0 x1 => by omega, fun x _ => rfl⟩
  have e4 : mm 136 4 = c := by rw [t2 136 (by omega)]; exact h.1
  have e0 : mm c 0 = N.1 := by rw [t2 c (by omega)]; exact h.2.2.1
  rw [e4, e0]
  refine ⟨ic, fun q => ⟨fun x y x0 x1 y0 y1 => t1 x y x0 (by omega) y0 y1, t2⟩, fun q => ?_⟩
  unfold PL_X8_findTwins_15
  rw [zb_v_136_2]
  intro Y hY
  refine zb_lp1 (fun u mn => 0 ≤ u ∧ (∀ x y, 0 ≤ x → x < v → 0 ≤ y → y < x → (mn 190 (x * 12 + y) = 0 ↔ ¬ zb_tw N x y)) ∧ (∀ y, 0 ≤ y → y < u → (mn 190 (v * 12 + y) = 0 ↔ ¬ zb_tw N v y)) ∧ ∀ x, x ≠ 190 → mn x = m x) v (fun u mn ⟨u0, s1, s2, s3⟩ un nx2 => hY u mn ⟨fun q2 => ?_, fun q2 => ⟨zb_inI_of (by omega) (by omega), zb_inI_of (by omega) (by omega), ?_⟩⟩) 0 mm v0 ⟨by omega, t1, fun y y0 y1 => by omega, t2⟩
  · unfold PJ_X8_findTwins_46
    refine ⟨zb_inI_of (by omega) (by omega), nxt (by omega) mn ⟨by omega, fun x y x0 x1 y0 y1 => ?_, s3⟩⟩
    by_cases w : x = v
    · rw [w] at y1 ⊢; exact s2 y y0 (by omega)
    · exact s1 x y x0 (by omega) y0 y1
  · have hs : zb_CS mn c N o := zb_CS_same h.2.2 (fun x _ _ => s3 x (by omega))
    rw [s3 136 (by omega), h.1]
    refine ⟨ic, (s_X6_areTwins ic hs hN v0 (by omega) u0 (by omega)).mono (fun r36 hr => ⟨⟨by omega, by omega⟩, by omega, fun m39 e39 => ⟨zb_inI_of (by omega) (by omega), nx2 (by omega) m39 ⟨by omega, fun x y x0 x1 y0 y1 => ?_, fun y y0 y1 => ?_, fun x hx => by rw [zb_u3 e39 hx]; exact s3 x hx⟩⟩⟩)⟩
    · rw [zb_u2 e39 (by omega)]; exact s1 x y x0 x1 y0 y1
    · by_cases w : y = u
      · rw [w, zb_u1 e39]
        rcases hr with ⟨r1, r2⟩ | ⟨r1, r2⟩
        · exact ⟨fun z => by omega, fun z => absurd r2 z⟩
        · exact ⟨fun _ => r2, fun _ => r1⟩
      · rw [zb_u2 e39 (by omega)]; exact s2 y y0 (by omega)
theorem s_X8_hasLesserTwin {d : Nat} {m : zb_M} {a x : Int} {N : zb_N} {p : zb_Pt} (ha : zb_is zb_E0.1 a 5) (hN : zb_ON N) (h : zb_CP m a N.1 p) (ht : zb_twT m N) (x0 : 0 ≤ x) (x1 : x < N.1) : zb_Tp K_X8_hasLesserTwin (d + 1) [(2, 136), (2, a), (0, x)] zb_E0 m (fun r => (r = 0 ∧ ∀ y, 0 ≤ y → y < x → p.1 y = p.1 x → ¬ zb_tw N x y) ∨ (r = 1 ∧ ¬ ∀ y, 0 ≤ y → y < x → p.1 y = p.1 x → ¬ zb_tw N x y)) := by
  apply w_X8_hasLesserTwin
  have hn := hN.1.2
  unfold PM_X8_hasLesserTwin PL_X8_hasLesserTwin_2
  rw [(zb_part ha).1, zb_v_136_2, h.2.2.1 x x0 x1]
  intro X hX
  refine zb_lp0 (fun v => 0 ≤ v ∧ ∀ y, 0 ≤ y → y < v → p.1 y = p.1 x → ¬ zb_tw N x y) x (fun v ⟨v0, hv⟩ vn nxt => hX v ⟨fun c => Or.inl ⟨rfl, fun y y0 y1 => hv y y0 (by omega)⟩, fun c => ⟨⟨v0, by omega⟩, ⟨x0, by omega⟩, ?_⟩⟩) 0 x0 ⟨by omega, fun y y0 y1 => by omega⟩
  rw [h.2.2.1 v v0 (by omega)]
  have go : (p.1 v = p.1 x → ¬ zb_tw N x v) → zb_inI (v + 1) ∧ X (v + 1) := fun g => ⟨zb_inI_of (by omega) (by omega), nxt (by omega) ⟨by omega, fun y y0 y1 => by
    by_cases q : y = v
    · rw [q]; exact g
    · exact hv y y0 (by omega)⟩⟩
  refine ⟨fun c2 => ⟨zb_inI_of (by omega) (by omega), zb_inI_of (by omega) (by omega), ⟨by omega, by omega⟩, fun c3 => go (fun _ => (ht x v x0 x1 v0 (by omega)).1 c3), fun c3 => Or.inr ⟨rfl, fun z => c3 ((ht x v x0 x1 v0 (by omega)).2 (z v v0 (by omega) c2))⟩⟩, fun c2 => go (fun z => absurd z c2)⟩
/-- a leaf's row written out -/
theorem zb_row_at {N : zb_N} {S R : Int → Int} (h0 : 0 ≤ N.1) (r0 : R 0 = N.1) (r1 : ∀ p, 0 ≤ p → p < N.1 → R (1 + p) = N.2.1 (S p)) (r2 : ∀ p q, 0 ≤ p → p < N.1 → 0 ≤ q → q < N.1 → R (1 + N.1 + p * N.1 + q) = N.2.2 (S p) (S q)) : zb_eqo (zb_rsz N.1) R (zb_rw N S) := by
  intro k k0 k1
  unfold zb_rsz at k1
  unfold zb_rw
  by_cases q : k = 0
  · rw [if_pos q, q]; exact r0
  · rw [if_neg q]
    by_cases q2 : k ≤ N.1
    · rw [if_pos q2]
      have := r1 (k - 1) (by omega) (by omega)
      rw [show 1 + (k - 1) = k by omega] at this
      exact this
    · rw [if_neg q2]
      have hn : 0 < N.1 := by
        by_cases c : N.1 = 0
        · rw [c] at k1 q2; omega
        · omega
      obtain ⟨a, b, e⟩ := zb_dm_rng hn (show 0 ≤ k - 1 - N.1 by omega) (by omega)
      have := r2 _ _ a.1 a.2 b.1 b.2
      rw [show 1 + N.1 + (k - 1 - N.1) / N.1 * N.1 + (k - 1 - N.1) % N.1 = k by omega] at this
      exact this
theorem s_X8_writeRow {d : Nat} {m : zb_M} {c b a : Int} {N : zb_N} {o : Int → Int} {p : zb_Pt} (hA : zb_Ga c b) (ha : zb_is zb_E0.1 a 5) (ha2 : a + 3 < 191 ∨ 191 < a) (h : zb_Gc m c b N o) (hN : zb_ON N) (hp : zb_CP m a N.1 p) : zb_T K_X8_writeRow (d + 2) [(2, 136), (2, a)] zb_E0 m (fun _ m1 => zb_eqo (zb_rsz N.1) (m1 191) (zb_rw N (m (a + 3))) ∧ ∀ x, x ≠ 191 → m1 x = m x) := by
  apply w_X8_writeRow
  obtain ⟨ic, ib, a1, a2, a3⟩ := hA
  have h0 := hN.1.1
  have hn := hN.1.2
  have hnn := zb_nn h0 hn
  have hS := hp.2.2.2.2.1
  have hm0 := hp.1
  unfold PM_X8_writeRow
  rw [zb_v_136_3, hm0]
  intro m11 e11
  unfold PL_X8_writeRow_14
  rw [zb_v_136_3, hm0, (zb_part ha).2.2, ]
  intro X hX
  refine zb_lp1 (fun v mm => 0 ≤ v ∧ mm 191 0 = N.1 ∧ (∀ u, 0 ≤ u → u < v → mm 191 (1 + u) = N.2.1 (m (a + 3) u)) ∧ (∀ u q, 0 ≤ u → u < v → 0 ≤ q → q < N.1 → mm 191 (1 + N.1 + u * N.1 + q) = N.2.2 (m (a + 3) u) (m (a + 3) q)) ∧ ∀ x, x ≠ 191 → mm x = m x) N.1 (fun v mm ⟨v0, t0, t1, t2, t3⟩ vn nxt => hX v mm ⟨fun q => ⟨zb_row_at h0 t0 (fun u u0 u1 => t1 u u0 (by omega)) (fun u w u0 u1 w0 w1 => t2 u w u0 (by omega) w0 w1), t3⟩, fun q => ?_⟩) 0 m11 h0 ⟨by omega, zb_u1 e11, fun u u0 u1 => by omega, fun u w u0 u1 => by omega, fun x hx => zb_u3 e11 hx⟩
  have v1 : v < N.1 := by omega
  have hSv := hS.1 v v0 v1
  have e4 : mm 136 4 = c := by rw [t3 136 (by omega)]; exact h.1
  have ek : mm (c + 3) (m (a + 3) v) = N.2.1 (m (a + 3) v) := by rw [t3 _ (by omega)]; exact (h.2.2.2.1 _ hSv.1 hSv.2).2
  rw [e4, (zb_shw ic).2.2.1, t3 (a + 3) (by omega), ek]
  refine ⟨⟨v0, by omega⟩, zb_inI_of (by omega) (by omega), ic, ⟨hSv.1, by omega⟩, ⟨by omega, by omega⟩, fun m44 e44 => ?_⟩
  unfold PL_X8_writeRow_48
  rw [zb_v_136_3, hm0, (zb_part ha).2.2, t3 (a + 3) (by omega)]
  intro Y hY
  refine zb_lp1 (fun w mn => 0 ≤ w ∧ mn 191 0 = N.1 ∧ (∀ u, 0 ≤ u → u < v + 1 → mn 191 (1 + u) = N.2.1 (m (a + 3) u)) ∧ (∀ u q, 0 ≤ u → u < v → 0 ≤ q → q < N.1 → mn 191 (1 + N.1 + u * N.1 + q) = N.2.2 (m (a + 3) u) (m (a + 3) q)) ∧ (∀ q, 0 ≤ q → q < w → mn 191 (1 + N.1 + v * N.1 + q) = N.2.2 (m (a + 3) v) (m (a + 3) q)) ∧ ∀ x, x ≠ 191 → mn x = m x) N.1 (fun w mn ⟨w0, s0, s1, s2, s3, s4⟩ wn nx2 => hY w mn ⟨fun q2 => ?_, fun q2 => ?_⟩) 0 m44 h0 ⟨by omega, ?_, fun u u0 u1 => ?_, fun u w u0 u1 w0 w1 => ?_, fun q q0 q1 => by omega, fun x hx => by rw [zb_u3 e44 hx]; exact t3 x hx⟩
  · rw [zb_u2 e44 (by omega)]; exact t0
  · by_cases w : u = v
    · rw [w, zb_u1 e44]
    · rw [zb_u2 e44 (by omega)]; exact t1 u u0 (by omega)
  · have := (zb_pq u0 (show u < N.1 by omega) w0 w1).1
    rw [zb_u2 e44 (by omega)]; exact t2 u w u0 u1 w0 w1
  · unfold PJ_X8_writeRow_91
    refine ⟨zb_inI_of (by omega) (by omega), nxt v1 mn ⟨by omega, s0, s1, fun u w u0 u1 w0 w1 => ?_, s4⟩⟩
    by_cases e : u = v
    · rw [e]; exact s3 w w0 (by omega)
    · exact s2 u w u0 (by omega) w0 w1
  · have w1 : w < N.1 := by omega
    have hpq := zb_pq v0 v1 w0 w1
    have hSw := hS.1 w w0 w1
    have hs : zb_CS mn c N o := zb_CS_same h.2.2 (fun x _ _ => s4 x (by omega))
    rw [s4 136 (by omega), h.1, s4 (a + 3) (by omega)]
    refine ⟨zb_inI_of (by omega) (by omega), zb_inI_of (by omega) (by omega), zb_inI_of (by omega) (by omega), zb_inI_of (by omega) (by omega), ic, ⟨w0, by omega⟩, (s_X6_lineFrom ic hs hN hSv.1 hSv.2 hSw.1 hSw.2).mono (fun r81 e81 => ⟨⟨by omega, by omega⟩, fun m84 e84 => ⟨zb_inI_of (by omega) (by omega), nx2 w1 m84 ⟨by omega, ?_, fun u u0 u1 => ?_, fun u q u0 u1 q0 q1 => ?_, fun q q0 q1 => ?_, fun x hx => by rw [zb_u3 e84 hx]; exact s4 x hx⟩⟩⟩)⟩
    · rw [zb_u2 e84 (by omega)]; exact s0
    · rw [zb_u2 e84 (by omega)]; exact s1 u u0 u1
    · have ne : 1 + N.1 + u * N.1 + q ≠ 1 + N.1 + v * N.1 + w := fun z => by
        have d1 := (zb_dm (p := u) (show 0 < N.1 by omega) q0 q1).1
        have d2 := (zb_dm (p := v) (show 0 < N.1 by omega) w0 w1).1
        rw [show u * N.1 + q = v * N.1 + w by omega, d2] at d1
        omega
      rw [zb_u2 e84 (Or.inr ne)]; exact s2 u q u0 u1 q0 q1
    · by_cases e : q = w
      · rw [e, zb_u1 e84]; exact e81
      · rw [zb_u2 e84 (by omega)]; exact s3 q q0 (by omega)
theorem s_X8_isRowLess {d : Nat} {m : zb_M} {b n : Int} (ib : zb_is zb_E0.1 b 3) (h5 : m 136 5 = b) (h0 : 0 ≤ n) (hn : n ≤ 12) (hl : m b 2 = zb_rsz n) : zb_Tp K_X8_isRowLess (d + 1) [(2, 136)] zb_E0 m (fun r => (r = 1 ∧ zb_lex (zb_rsz n) (m 191) (m (b + 1))) ∨ (r = 0 ∧ ¬ zb_lex (zb_rsz n) (m 191) (m (b + 1)))) := by
  apply w_X8_isRowLess
  have hnn := zb_nn h0 hn
  have hrz : 1 ≤ zb_rsz n ∧ zb_rsz n ≤ 157 := by unfold zb_rsz; omega
  unfold PM_X8_isRowLess PL_X8_isRowLess_2
  rw [h5, hl, (zb_nam ib).1, zb_v_136_3]
  intro X hX
  refine zb_lp0 (fun v => 0 ≤ v ∧ ∀ k, 0 ≤ k → k < v → m 191 k = m (b + 1) k) (zb_rsz n) (fun v ⟨v0, hv⟩ vn nxt => hX v ⟨ib, fun c => Or.inr ⟨rfl, fun ⟨j, j0, j1, _, j3⟩ => by have := hv j j0 (by omega); omega⟩, fun c => ⟨⟨v0, by omega⟩, fun c2 => ⟨zb_inI_of (by omega) (by omega), nxt (by omega) ⟨by omega, fun k k0 k1 => ?_⟩⟩, fun c2 => ?_⟩⟩) 0 (by omega) ⟨by omega, fun k k0 k1 => by omega⟩
  · by_cases q : k = v
    · rw [q]; exact c2
    · exact hv k k0 (by omega)
  · unfold PJ_X8_isRowLess_31
    rw [h5, (zb_nam ib).1, zb_v_136_3]
    refine ⟨⟨v0, by omega⟩, ib, fun c3 => Or.inr ⟨rfl, fun ⟨j, j0, j1, j2, j3⟩ => ?_⟩, fun c3 => Or.inl ⟨rfl, v, v0, by omega, hv, by omega⟩⟩
    rcases Int.lt_trichotomy j v with q | q | q
    · have := hv j j0 q; omega
    · rw [q] at j3; omega
    · exact absurd (j2 v v0 q) c2
/-- the name that is written holds what has been found -/
def zb_Rp (m : zb_M) (b : Int) (N : zb_N) (o : Int → Int) (W : zb_Wk) : Prop := m b 1 = N.1 ∧ m b 2 = zb_rsz N.1 ∧ m b 3 = W.1 ∧ m b 4 = W.2.1 ∧ (W.1 ≠ 0 → zb_eqo (zb_rsz N.1) (m (b + 1)) W.2.2.1 ∧ ∀ i, 0 ≤ i → i < N.1 → m (b + 2) i = o (W.2.2.2 i))
theorem zb_Rp_same {m m1 : zb_M} {b : Int} {N : zb_N} {o : Int → Int} {W : zb_Wk} (h : zb_Rp m b N o W) (he : ∀ x, b ≤ x → x ≤ b + 2 → m1 x = m x) : zb_Rp m1 b N o W := by
  unfold zb_Rp
  rw [he b (by omega) (by omega), he (b + 1) (by omega) (by omega), he (b + 2) (by omega) (by omega)]
  exact h
theorem s_X8_addLeaf {d : Nat} {m : zb_M} {c b a : Int} {N : zb_N} {o : Int → Int} {p : zb_Pt} {W : zb_Wk} (hA : zb_Ga c b) (ha : zb_is zb_E0.1 a 5) (ha2 : 136 < a ∧ a + 3 < 191) (h : zb_Gc m c b N o) (hN : zb_ON N) (hp : zb_CP m a N.1 p) (hg : zb_gp N.1 p) (ep : p.2 = N.1) (hR : zb_Rp m b N o W) (hW : 0 ≤ W.1 ∧ W.1 ≤ 3000) : zb_T K_X8_addLeaf (d + 3) [(2, 136), (2, a)] zb_E0 m (fun _ m1 => zb_Rp m1 b N o (zb_lf1 N p W) ∧ m1 b 0 = m b 0 ∧ ∀ x, x ≠ 191 → (x < b ∨ b + 2 < x) → m1 x = m x) := by
  apply w_X8_addLeaf
  have hA' := hA
  obtain ⟨ic, ib, a1, a2, a3⟩ := hA'
  have h0 := hN.1.1
  have hn := hN.1.2
  have hnn := zb_nn h0 hn
  obtain ⟨q1, q2, q3, q4, q5⟩ := hR
  have hlo := zb_lord_ok h0 hg ep hp.2.2.2.2.1 hp.2.2.2.2.2
  unfold PM_X8_addLeaf
  rw [h.2.1, q3]
  refine ⟨ib, zb_inI_of (by omega) (by omega), fun m10 e10 => ?_⟩
  have f10 : ∀ x, x ≠ b → m10 x = m x := fun x hx => zb_u3 e10 hx
  have hG10 : zb_Gc m10 c b N o := zb_Gc_same h (f10 136 (by omega)) (fun x x0 x1 => f10 x (by omega))
  refine (s_X8_writeRow hA ha (by omega) hG10 hN (zb_CP_same hp (fun x _ _ => f10 x (by omega)))).mono (fun _ m15 ⟨w1, w2⟩ => ?_)
  rw [f10 (a + 3) (by omega)] at w1
  have e3 : m15 b 3 = W.1 + 1 := by rw [w2 b (by omega)]; exact zb_u1 e10
  have e2 : m15 b 2 = zb_rsz N.1 := by rw [w2 b (by omega), zb_u2 e10 (by omega)]; exact q2
  have e1 : m15 b 1 = N.1 := by rw [w2 b (by omega), zb_u2 e10 (by omega)]; exact q1
  have e4 : m15 b 4 = W.2.1 := by rw [w2 b (by omega), zb_u2 e10 (by omega)]; exact q4
  have e0 : m15 b 0 = m b 0 := by rw [w2 b (by omega), zb_u2 e10 (by omega)]
  have eb : m15 136 5 = b := by rw [w2 136 (by omega), f10 136 (by omega)]; exact h.2.1
  have ec : m15 136 4 = c := by rw [w2 136 (by omega), f10 136 (by omega)]; exact h.1
  have f15 : ∀ x, x ≠ 191 → x ≠ b → m15 x = m x := fun x x1 x2 => by rw [w2 x x1, f10 x x2]
  have wl : zb_eqo (zb_rsz N.1) (m15 191) (zb_rw N (zb_lord N.1 p)) := fun k k0 k1 => (w1 k k0 k1).trans (zb_rw_congr h0 hlo k0 k1)
  rw [eb, e3]
  have less : (W.1 = 0 ∨ zb_lex (zb_rsz N.1) (zb_rw N (zb_lord N.1 p)) W.2.2.1) → PJ_X8_addLeaf_37 (d + 2) zb_E0 136 a m15 (fun _ m1 => zb_Rp m1 b N o (zb_lf1 N p W) ∧ m1 b 0 = m b 0 ∧ ∀ x, x ≠ 191 → (x < b ∨ b + 2 < x) → m1 x = m x) := by
    intro hl
    have eW : zb_lf1 N p W = (W.1 + 1, W.2.1, zb_rw N (zb_lord N.1 p), zb_lord N.1 p) := by unfold zb_lf1; rw [if_pos hl]
    unfold PJ_X8_addLeaf_37
    rw [zb_v_136_3, eb, (zb_nam ib).1, e2]
    refine ⟨by unfold zb_cpo zb_rsz; omega, fun m57 e57 => ?_⟩
    unfold PL_X8_addLeaf_62
    rw [(zb_part ha).2.2]
    intro X hX
    refine zb_lp1 (fun v mm => 0 ≤ v ∧ (∀ i, 0 ≤ i → i < v → mm (b + 2) i = o (m (a + 3) i)) ∧ ∀ x, x ≠ b + 2 → mm x = m57 x) N.1 (fun v mm ⟨v0, t1, t2⟩ vn nxt => hX v mm ⟨fun q => ?_, fun q => ?_⟩) 0 m57 h0 ⟨by omega, fun i i0 i1 => by omega, fun x _ => rfl⟩
    · rw [t2 a (by omega), zb_c3 e57 (by omega), f15 a (by omega) (by omega), hp.1] at q
      rw [eW]
      refine ⟨⟨?_, ?_, ?_, ?_, fun _ => ⟨fun k k0 k1 => ?_, fun i i0 i1 => ?_⟩⟩, ?_, fun x x1 x2 => ?_⟩
      · rw [t2 b (by omega), zb_c3 e57 (by omega)]; exact e1
      · rw [t2 b (by omega), zb_c3 e57 (by omega)]; exact e2
      · rw [t2 b (by omega), zb_c3 e57 (by omega)]; exact e3
      · rw [t2 b (by omega), zb_c3 e57 (by omega)]; exact e4
      · rw [t2 (b + 1) (by omega), zb_c1 e57 (by omega) (by omega), show 0 + (k - 0) = k by omega]
        exact wl k k0 k1
      · rw [t1 i i0 (by omega)]
        show o (m (a + 3) i) = o (zb_lord N.1 p i)
        rw [hlo i i0 i1]
      · rw [t2 b (by omega), zb_c3 e57 (by omega)]; exact e0
      · rw [t2 x (by omega), zb_c3 e57 (by omega)]; exact f15 x x1 (by omega)
    · rw [t2 a (by omega), zb_c3 e57 (by omega), f15 a (by omega) (by omega), hp.1] at q
      have v1 : v < N.1 := by omega
      have hSv := hp.2.2.2.2.1.1 v v0 v1
      have eS : mm (a + 3) v = m (a + 3) v := by rw [t2 (a + 3) (by omega), zb_c3 e57 (by omega), f15 (a + 3) (by omega) (by omega)]
      have eo : mm (c + 1) (m (a + 3) v) = o (m (a + 3) v) := by rw [t2 (c + 1) (by omega), zb_c3 e57 (by omega), f15 (c + 1) (by omega) (by omega)]; exact (h.2.2.2.1 _ hSv.1 hSv.2).1
      have e5 : mm 136 5 = b := by rw [t2 136 (by omega), zb_c3 e57 (by omega)]; exact eb
      have e6 : mm 136 4 = c := by rw [t2 136 (by omega), zb_c3 e57 (by omega)]; exact ec
      rw [e5, e6, (zb_nam ib).2, (zb_shw ic).1, eS, eo]
      refine ⟨ib, ic, ⟨v0, by omega⟩, ⟨hSv.1, by omega⟩, fun m92 e92 => ⟨zb_inI_of (by omega) (by omega), nxt v1 m92 ⟨by omega, fun i i0 i1 => ?_, fun x hx => by rw [zb_u3 e92 hx]; exact t2 x hx⟩⟩⟩
      by_cases w : i = v
      · rw [w, zb_u1 e92]
      · rw [zb_u2 e92 (by omega)]; exact t1 i i0 (by omega)
  refine ⟨ib, fun q => less (Or.inl (by omega)), fun q => ?_⟩
  have hW0 : W.1 ≠ 0 := by omega
  obtain ⟨k1, k2⟩ := q5 hW0
  refine (s_X8_isRowLess (n := N.1) ib eb h0 hn e2).mono (fun r30 hr => ?_)
  rw [f15 (b + 1) (by omega) (by omega)] at hr
  rcases hr with ⟨r1, r2⟩ | ⟨r1, r2⟩
  · exact ⟨fun z => by omega, fun _ => less (Or.inr (zb_lex_congr wl k1 r2))⟩
  · refine ⟨fun _ => ?_, fun z => absurd r1 z⟩
    have eW : zb_lf1 N p W = (W.1 + 1, W.2.1, W.2.2) := by
      unfold zb_lf1
      rw [if_neg (fun z => by
        rcases z with z | z
        · exact hW0 z
        · exact r2 (zb_lex_congr (fun k k0 k1 => (wl k k0 k1).symm) (fun k k0 k3 => (k1 k k0 k3).symm) z))]
    rw [eW]
    refine ⟨⟨e1, e2, e3, e4, fun _ => ⟨fun k k0 k3 => ?_, fun i i0 i1 => ?_⟩⟩, e0, fun x x1 x2 => f15 x x1 (by omega)⟩
    · rw [f15 (b + 1) (by omega) (by omega)]; exact k1 k k0 k3
    · rw [f15 (b + 2) (by omega) (by omega)]; exact k2 i i0 i1
