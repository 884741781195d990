/-! ===== the class looks, settles, begins ===== -/
theorem zb_inL_of {x : Int} (h1 : -9223372036854775808 ≤ x) (h2 : x ≤ 9223372036854775807) : zb_inL x := ⟨h1, h2⟩
theorem s_X7_look {d : Nat} {m : zb_M} {a c : Int} {N : zb_N} {o : Int → Int} {p : zb_Pt} (ha : zb_is zb_E0.1 a 5) (hc : zb_is zb_E0.1 c 6) (hap : a + 3 < 132 ∨ 135 < a) (hcp : c + 5 < 132 ∨ 135 < c) (h : zb_CP m a N.1 p) (hg : zb_gp N.1 p) (hs : zb_CS m c N o) (hN : zb_ON N) : zb_T K_X7_look (d + 2) [(2, 132), (2, a), (2, c)] zb_E0 m (fun _ m1 => m1 132 1 = 2 * p.2 ∧ (∀ x, 0 ≤ x → x < N.1 → ¬ zb_aln N.1 p x → ∀ k, 0 ≤ k → k < 2 * p.2 → m1 133 (x * 24 + k) = zb_sg N p.1 p.2 x k) ∧ ∀ b, b ≠ 132 → b ≠ 133 → m1 b = m b) := by
  apply w_X7_look
  obtain ⟨v2, v3, v4⟩ := zb_part ha
  obtain ⟨w1, w2, w3, w4, w5⟩ := zb_shw hc
  have hk := zb_gd_le hg hN.1.1
  have hn := hN.1.2
  have k0 := hg.2.2.1
  have hm1 := h.2.1
  unfold PM_X7_look
  rw [hm1]
  refine ⟨zb_inI_of (by omega) (by omega), fun m15 e15 => ?_⟩
  unfold PL_X7_look_21
  intro X hX
  refine zb_lp1 (fun v mm => 0 ≤ v ∧ mm 132 1 = 2 * p.2 ∧ (∀ x, 0 ≤ x → x < v → ¬ zb_aln N.1 p x → ∀ k, 0 ≤ k → k < 2 * p.2 → mm 133 (x * 24 + k) = zb_sg N p.1 p.2 x k) ∧ ∀ b, b ≠ 132 → b ≠ 133 → mm b = m b) N.1 (fun v mm ⟨v0, t1, t2, t3⟩ vn nxt => hX v mm ⟨fun c1 => ⟨t1, fun x x0 x1 => ?_, t3⟩, fun c1 => ?_⟩) 0 m15 hN.1.1 ⟨by omega, zb_u1 e15, fun x x0 x1 => by omega, fun b b1 _ => zb_u3 e15 b1⟩
  · rw [t3 a (by omega) (by omega), h.1] at c1
    exact t2 x x0 (by omega)
  rw [t3 a (by omega) (by omega), h.1] at c1
  have hmm : zb_CP mm a N.1 p := zb_CP_same h (fun b _ _ => t3 b (by omega) (by omega))
  refine (s_X5_isAlone ha hmm hg hn v0 (by omega)).mono (fun r hr => ?_)
  rcases hr with ⟨r1, r2⟩ | ⟨r1, r2⟩
  · refine ⟨fun z => by omega, fun _ => ⟨zb_inI_of (by omega) (by omega), nxt (by omega) mm ⟨by omega, t1, fun x x0 x1 hx => ?_, t3⟩⟩⟩
    by_cases q : x = v
    · rw [q] at hx; exact absurd r2 hx
    · exact t2 x x0 (by omega) hx
  refine ⟨fun _ => ⟨zb_inI_of (by omega) (by omega), ?_⟩, fun z => absurd r1 z⟩
  unfold PL_X7_look_52
  rw [zb_v_132_0]
  intro Y hY
  refine zb_lp1 (fun k mn => 0 ≤ k ∧ (∀ j, 0 ≤ j → j < k → mn 133 (v * 24 + j) = 0) ∧ (∀ j, (j < v * 24 ∨ v * 24 + 24 ≤ j) → mn 133 j = mm 133 j) ∧ ∀ b, b ≠ 133 → mn b = mm b) (2 * p.2) (fun k mn ⟨k0, u1, u2, u3⟩ kn nx2 => hY k mn ⟨fun c2 => ?_, fun c2 => ?_⟩) 0 mm (by omega) ⟨by omega, fun j j0 j1 => by omega, fun j _ => rfl, fun b _ => rfl⟩
  · rw [u3 132 (by omega), t1] at c2
    have hk2 : k = 2 * p.2 := by omega
    subst hk2
    unfold PJ_X7_look_78 PL_X7_look_81
    rw [zb_v_132_0, v2, w5, hm1]
    intro Z hZ
    refine zb_lp1 (fun y mo => 0 ≤ y ∧ (∀ j, 0 ≤ j → j < 2 * p.2 → mo 133 (v * 24 + j) = zb_sum (zb_sw1 N p.1 p.2 v j) y.toNat) ∧ (∀ j, (j < v * 24 ∨ v * 24 + 24 ≤ j) → mo 133 j = mm 133 j) ∧ ∀ b, b ≠ 133 → mo b = mm b) N.1 (fun y mo ⟨y0, x1, x2, x3⟩ yn nx3 => hZ y mo ⟨fun c3 => ?_, fun c3 => ?_⟩) 0 mn hN.1.1 ⟨by omega, fun j j0 j1 => by rw [u1 j j0 j1]; rfl, u2, u3⟩
    · rw [x3 a (by omega), t3 a (by omega) (by omega), h.1] at c3
      have hy : y = N.1 := by omega
      subst hy
      unfold PJ_X7_look_156
      refine ⟨zb_inI_of (by omega) (by omega), nxt (by omega) mo ⟨by omega, by rw [x3 132 (by omega)]; exact t1, fun x x0 xv hx j j0 j1 => ?_, fun b b1 b2 => by rw [x3 b b2]; exact t3 b b1 b2⟩⟩
      by_cases q : x = v
      · rw [q]; exact x1 j j0 j1
      · rw [x2 (x * 24 + j) (by omega)]; exact t2 x x0 (by omega) hx j j0 j1
    · rw [x3 a (by omega), t3 a (by omega) (by omega), h.1] at c3
      have hy1 : y < N.1 := by omega
      have eh : mo (a + 1) y = p.1 y := by rw [x3 _ (by omega), t3 _ (by omega) (by omega)]; exact h.2.2.1 y y0 hy1
      have hh := hg.1 y y0 hy1
      have ew1 : mo (c + 5) (v * 12 + y) = zb_W (N.2.2 v y) := by rw [x3 _ (by omega), t3 _ (by omega) (by omega)]; exact (hs.2.2.1 v y v0 (by omega) y0 hy1).2
      have ew2 : mo (c + 5) (y * 12 + v) = zb_W (N.2.2 y v) := by rw [x3 _ (by omega), t3 _ (by omega) (by omega)]; exact (hs.2.2.1 y v y0 hy1 v0 (by omega)).2
      have sr : ∀ j, 0 ≤ zb_sum (zb_sw1 N p.1 p.2 v j) y.toNat ∧ zb_sum (zb_sw1 N p.1 p.2 v j) y.toNat ≤ 4294967296 * 12 := fun j => by
        have := zb_sums_rng (zb_sw1_rng N p.1 p.2 v j) y.toNat
        omega
      have s1 := sr (p.1 y)
      have s2 := sr (p.2 + p.1 y)
      have r1 := zb_W_rng (N.2.2 v y)
      have r2 := zb_W_rng (N.2.2 y v)
      rw [eh, x1 (p.1 y) hh.1 (by omega), ew1]
      refine ⟨⟨y0, by omega⟩, zb_inI_of (by omega) (by omega), ⟨by omega, by omega⟩, zb_inI_of (by omega) (by omega), zb_inI_of (by omega) (by omega), ⟨by omega, by omega⟩, zb_inL_of (by omega) (by omega), fun m118 e118 => ?_⟩
      have eh2 : m118 (a + 1) y = p.1 y := by rw [zb_u3 e118 (by omega)]; exact eh
      have ew3 : m118 (c + 5) (y * 12 + v) = zb_W (N.2.2 y v) := by rw [zb_u3 e118 (by omega)]; exact ew2
      have es2 : m118 133 (v * 24 + p.2 + p.1 y) = zb_sum (zb_sw1 N p.1 p.2 v (p.2 + p.1 y)) y.toNat := by
        rw [zb_u2 e118 (by omega), Int.add_assoc]
        exact x1 (p.2 + p.1 y) (by omega) (by omega)
      rw [eh2, ew3, es2]
      refine ⟨zb_inI_of (by omega) (by omega), zb_inI_of (by omega) (by omega), ⟨by omega, by omega⟩, zb_inI_of (by omega) (by omega), zb_inI_of (by omega) (by omega), ⟨by omega, by omega⟩, zb_inL_of (by omega) (by omega), fun m149 e149 => ⟨zb_inI_of (by omega) (by omega), nx3 (by omega) m149 ⟨by omega, fun j j0 j1 => ?_, fun j hj => by rw [zb_u2 e149 (by omega), zb_u2 e118 (by omega)]; exact x2 j hj, fun b hb => by rw [zb_u3 e149 hb, zb_u3 e118 hb]; exact x3 b hb⟩⟩⟩
      rw [zb_sum_S _ y0]
      by_cases q1 : j < p.2
      · have e1 : zb_sw1 N p.1 p.2 v j y = if p.1 y = j then zb_W (N.2.2 v y) else 0 := if_pos q1
        rw [e1, zb_u2 e149 (by omega)]
        by_cases q2 : p.1 y = j
        · rw [if_pos q2, ← q2, zb_u1 e118]
        · rw [if_neg q2, zb_u2 e118 (by omega), x1 j j0 j1]; omega
      · have e1 : zb_sw1 N p.1 p.2 v j y = if p.1 y = j - p.2 then zb_W (N.2.2 y v) else 0 := if_neg q1
        rw [e1]
        by_cases q2 : p.1 y = j - p.2
        · rw [if_pos q2, show v * 24 + j = v * 24 + p.2 + p.1 y by omega, zb_u1 e149, show p.2 + p.1 y = j by omega]
        · rw [if_neg q2, zb_u2 e149 (by omega), zb_u2 e118 (by omega), x1 j j0 j1]; omega
  · rw [u3 132 (by omega), t1] at c2
    refine ⟨zb_inI_of (by omega) (by omega), ⟨by omega, by omega⟩, fun m71 e71 => ⟨zb_inI_of (by omega) (by omega), nx2 (by omega) m71 ⟨by omega, fun j j0 j1 => ?_, fun j hj => by rw [zb_u2 e71 (by omega)]; exact u2 j hj, fun b hb => by rw [zb_u3 e71 hb]; exact u3 b hb⟩⟩⟩
    by_cases q : j = k
    · rw [q, zb_u1 e71]
    · rw [zb_u2 e71 (by omega)]; exact u1 j j0 (by omega)
theorem s_X7_settle {d : Nat} {m : zb_M} {a c : Int} {N : zb_N} {o : Int → Int} {p : zb_Pt} (ha : zb_is zb_E0.1 a 5) (hc : zb_is zb_E0.1 c 6) (hap : a + 3 < 132 ∨ 135 < a) (hcp : c + 5 < 132 ∨ 135 < c) (hac : a + 3 < c ∨ c + 5 < a) (h : zb_CP m a N.1 p) (hg : zb_gp N.1 p) (hs : zb_CS m c N o) (hN : zb_ON N) : zb_T K_X7_settle (d + 3) [(2, 132), (2, a), (2, c)] zb_E0 m (fun _ m1 => zb_CP m1 a N.1 (zb_stt N p) ∧ ∀ b, (b < 132 ∨ 135 < b) → (b < a ∨ a + 3 < b) → m1 b = m b) := by
  apply w_X7_settle
  have hn := hN.1.2
  unfold PM_X7_settle PL_X7_settle_5
  intro X hX
  have key : ∀ (f r : Nat) (more : Int) (q : zb_Pt) (mm : zb_M), r + f = 12 → zb_CP mm a N.1 q → zb_gp N.1 q → (∀ b, (b < 132 ∨ 135 < b) → (b < a ∨ a + 3 < b) → mm b = m b) → ((more = 1 ∧ (r : Int) ≤ q.2 ∧ zb_stl N (13 - r) q = zb_stt N p) ∨ (more = 0 ∧ q = zb_stt N p)) → X more (r : Int) mm := by
    intro f
    induction f with
    | zero =>
      intro r more q mm hr hq hgq hf hm
      have hk := zb_gd_le hgq hN.1.1
      have fin : q = zb_stt N p := by
        rcases hm with ⟨-, m2, m3⟩ | ⟨-, m2⟩
        · rw [← m3, zb_stl_full hgq (by omega)]
        · exact m2
      exact hX more r mm ⟨fun _ => ⟨fin ▸ hq, hf⟩, fun z => absurd (show (12 : Int) ≤ (r : Int) by omega) z⟩
    | succ f ih =>
      intro r more q mm hr hq hgq hf hm
      have hk := zb_gd_le hgq hN.1.1
      rcases hm with ⟨m1, m2, m3⟩ | ⟨m1, m2⟩
      · subst m1
        refine hX 1 r mm ⟨fun z => by omega, fun _ => ⟨fun z => by omega, fun _ => (s_X5_isAllAlone hq).mono (fun r17 hr17 => ?_)⟩⟩
        rcases hr17 with ⟨a1, a2⟩ | ⟨a1, a2⟩
        · have fin : q = zb_stt N p := by rw [← m3, zb_stl_full hgq a2]
          exact ⟨fun z => by omega, fun _ => ⟨fin ▸ hq, hf⟩⟩
        refine ⟨fun _ => ?_, fun z => absurd a1 z⟩
        have hsq : zb_CS mm c N o := zb_CS_same hs (fun b b0 b1 => hf b (by omega) (by omega))
        refine (s_X7_look ha hc hap hcp hq hgq hsq hN).mono (fun _ m32 ⟨l1, l2, l3⟩ => ?_)
        have hq32 : zb_CP m32 a N.1 q := zb_CP_same hq (fun b _ _ => l3 b (by omega) (by omega))
        have hcpr : zb_cpr m32 N.1 q (zb_Kv N q.1 q.2) := zb_cpr_of (R := zb_sg N q.1 q.2) (B := 68719476736) hn l1 (by have := hgq.2.2.1; omega) (by omega) l2 (fun x k _ _ _ _ => zb_sg_rng hN q.1 q.2 x k) (fun x _ _ => rfl)
        refine (s_X7_divide ha hap hq32 hgq hN.1.1 hn hcpr).mono (fun _ m37 ⟨d1, d2⟩ => ?_)
        have d1 : zb_CP m37 a N.1 (zb_step N q) := d1
        have hf37 : ∀ b, (b < 132 ∨ 135 < b) → (b < a ∨ a + 3 < b) → m37 b = m b := fun b b1 b2 => by rw [d2 b (by omega) (by omega) b2, l3 b (by omega) (by omega)]; exact hf b b1 b2
        have eS : zb_stl N (13 - r) q = if q.2 < (zb_step N q).2 then zb_stl N (13 - (r + 1)) (zb_step N q) else zb_step N q := by
          rw [show 13 - r = (13 - (r + 1)) + 1 by omega]
          rfl
        rw [m3] at eS
        rw [d1.2.1, hq.2.1, show (r : Int) + 1 = ((r + 1 : Nat) : Int) by omega]
        refine ⟨fun c2 => ⟨zb_inI_of (by omega) (by omega), ih (r + 1) 0 _ m37 (by omega) d1 (zb_step_gd N q) hf37 (Or.inr ⟨rfl, ?_⟩)⟩, fun c2 => ⟨zb_inI_of (by omega) (by omega), ih (r + 1) 1 _ m37 (by omega) d1 (zb_step_gd N q) hf37 (Or.inl ⟨rfl, by omega, ?_⟩)⟩⟩
        · rw [if_neg (by omega)] at eS; exact eS.symm
        · rw [if_pos (by omega)] at eS; exact eS.symm
      · subst m1
        exact hX 0 r mm ⟨fun _ => ⟨m2 ▸ hq, hf⟩, fun _ => ⟨fun _ => ⟨m2 ▸ hq, hf⟩, fun z => absurd rfl z⟩⟩
  exact key 12 0 1 p m rfl h hg (fun b _ _ => rfl) (Or.inl ⟨rfl, hg.2.2.1, rfl⟩)
theorem s_X7_begin {d : Nat} {m : zb_M} {a c : Int} {N : zb_N} {o : Int → Int} (ha : zb_is zb_E0.1 a 5) (hc : zb_is zb_E0.1 c 6) (hap : a + 3 < 132 ∨ 135 < a) (hcp : c + 5 < 132 ∨ 135 < c) (hac : a + 3 < c ∨ c + 5 < a) (hs : zb_CS m c N o) (hN : zb_ON N) : zb_T K_X7_begin (d + 4) [(2, 132), (2, a), (2, c)] zb_E0 m (fun _ m1 => zb_CP m1 a N.1 (zb_beg N) ∧ ∀ b, (b < 132 ∨ 135 < b) → (b < a ∨ a + 3 < b) → m1 b = m b) := by
  apply w_X7_begin
  have hn := hN.1.2
  have h0 := hN.1.1
  obtain ⟨w1, w2, w3, w4, w5⟩ := zb_shw hc
  unfold PM_X7_begin
  rw [hs.1]
  refine (s_X5_gather ha h0 hn).mono (fun _ m5 ⟨g1, g2⟩ m10 e10 => ?_)
  unfold PL_X7_begin_15
  rw [zb_v_132_0, w3]
  intro X hX
  have hs10 : ∀ b, c ≤ b → b ≤ c + 5 → m10 b = m b := fun b b0 b1 => by rw [zb_u3 e10 (by omega)]; exact g2 b (by omega)
  refine zb_lp1 (fun v mm => 0 ≤ v ∧ (∀ x, 0 ≤ x → x < v → mm 133 (x * 24) = N.2.1 x) ∧ ∀ b, b ≠ 133 → mm b = m10 b) N.1 (fun v mm ⟨v0, t1, t2⟩ vn nxt => hX v mm ⟨fun c1 => ?_, fun c1 => ?_⟩) 0 m10 h0 ⟨by omega, fun x x0 x1 => by omega, fun b _ => rfl⟩
  · rw [t2 c (by omega), hs10 c (by omega) (by omega), hs.1] at c1
    unfold PJ_X7_begin_45
    have hmm : zb_CP mm a N.1 (zb_one N.1) := zb_CP_same g1 (fun b _ _ => by rw [t2 b (by omega), zb_u3 e10 (by omega)])
    have hcpr : zb_cpr mm N.1 (zb_one N.1) N.2.1 := zb_cpr_of (R := fun x _ => N.2.1 x) (B := 68719476736) (w := 1) hn (by rw [t2 132 (by omega)]; exact zb_u1 e10) (by omega) (by omega) (fun x x0 x1 _ k k0 k1 => by
      rw [show x * 24 + k = x * 24 by omega]; exact t1 x x0 (by omega)) (fun x k x0 x1 _ _ => by have := hN.2.1 x x0 x1; show 0 ≤ N.2.1 x ∧ N.2.1 x < 68719476736; omega) (fun x _ _ => by show N.2.1 x = 0 * 68719476736 + N.2.1 x; omega)
    refine (s_X7_divide ha hap hmm zb_one_gp h0 hn hcpr).mono (fun _ m47 ⟨d1, d2⟩ => ?_)
    have d1 : zb_CP m47 a N.1 (zb_st0 N) := d1
    have hs47 : zb_CS m47 c N o := zb_CS_same hs (fun b b0 b1 => by rw [d2 b (by omega) (by omega) (by omega), t2 b (by omega)]; exact hs10 b b0 b1)
    refine (s_X7_settle ha hc hap hcp hac d1 (zb_rank_gd _ _ _) hs47 hN).mono (fun _ m53 ⟨f1, f2⟩ => ⟨f1, fun b b1 b2 => ?_⟩)
    rw [f2 b b1 b2, d2 b (by omega) (by omega) b2, t2 b (by omega), zb_u3 e10 (by omega)]
    exact g2 b b2
  · rw [t2 c (by omega), hs10 c (by omega) (by omega), hs.1] at c1
    have ek : mm (c + 3) v = N.2.1 v := by rw [t2 _ (by omega), hs10 _ (by omega) (by omega)]; exact (hs.2.1 v v0 (by omega)).2
    rw [ek]
    refine ⟨zb_inI_of (by omega) (by omega), ⟨v0, by omega⟩, ⟨by omega, by omega⟩, fun m38 e38 => ⟨zb_inI_of (by omega) (by omega), nxt (by omega) m38 ⟨by omega, fun x x0 x1 => ?_, fun b hb => by rw [zb_u3 e38 hb]; exact t2 b hb⟩⟩⟩
    by_cases q : x = v
    · rw [q, zb_u1 e38]
    · rw [zb_u2 e38 (by omega)]; exact t1 x x0 (by omega)
