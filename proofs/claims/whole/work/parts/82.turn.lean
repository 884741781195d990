/-! ===== the class finds the least turning ===== -/
theorem s_X6_isTurning {d : Nat} {m : zb_M} {a e : Int} {N : zb_N} {o : Int → Int} (ha : zb_is zb_E0.1 a 6) (hs : zb_CS m a N o) (hN : zb_ON N) (hl : zb_len zb_E0.1 e = 12) (hf : zb_pm N.1 (m e)) : zb_Tp K_X6_isTurning (d + 2) [(2, a), (2, e)] zb_E0 m (fun r => (r = 1 ∧ zb_aut N (m e)) ∨ (r = 0 ∧ ¬ zb_aut N (m e))) := by
  apply w_X6_isTurning
  obtain ⟨w1, w2, w3, w4, w5⟩ := zb_shw ha
  have hn := hN.1.2
  unfold PM_X6_isTurning PL_X6_isTurning_2
  rw [w3, hs.1, hl]
  intro X hX
  refine zb_lp0 (fun x => 0 ≤ x ∧ (∀ z, 0 ≤ z → z < x → N.2.1 (m e z) = N.2.1 z) ∧ ∀ z y, 0 ≤ z → z < x → 0 ≤ y → y < N.1 → N.2.2 (m e z) (m e y) = N.2.2 z y) N.1 (fun x ⟨x0, h1, h2⟩ xn nxt => hX x ⟨fun c => Or.inl ⟨rfl, hf, fun z z0 z1 => h1 z z0 (by omega), fun z y z0 z1 y0 y1 => h2 z y z0 (by omega) y0 y1⟩, fun c => ?_⟩) 0 hN.1.1 ⟨by omega, fun z z0 z1 => by omega, fun z y z0 z1 => by omega⟩
  have hx1 : x < N.1 := by omega
  have hex := hf.1 x x0 hx1
  rw [(hs.2.1 x x0 hx1).2, (hs.2.1 _ hex.1 hex.2).2]
  refine ⟨⟨x0, by omega⟩, ⟨x0, by omega⟩, ⟨hex.1, by omega⟩, fun c2 => ?_, fun c2 => Or.inr ⟨rfl, fun z => c2 (z.2.1 x x0 hx1).symm⟩⟩
  unfold PL_X6_isTurning_31
  rw [hs.1, hl]
  intro Y hY
  refine zb_lp0 (fun y => 0 ≤ y ∧ ∀ u, 0 ≤ u → u < y → N.2.2 (m e x) (m e u) = N.2.2 x u) N.1 (fun y ⟨y0, h3⟩ yn nx2 => hY y ⟨fun c3 => ?_, fun c3 => ?_⟩) 0 hN.1.1 ⟨by omega, fun u u0 u1 => by omega⟩
  · unfold PJ_X6_isTurning_66
    refine ⟨zb_inI_of (by omega) (by omega), nxt (by omega) ⟨by omega, fun z z0 z1 => ?_, fun z u z0 z1 u0 u1 => ?_⟩⟩
    · by_cases q : z = x
      · rw [q]; exact c2.symm
      · exact h1 z z0 (by omega)
    · by_cases q : z = x
      · rw [q]; exact h3 u u0 (by omega)
      · exact h2 z u z0 (by omega) u0 u1
  · have hy1 : y < N.1 := by omega
    have hey := hf.1 y y0 hy1
    refine (s_X6_lineFrom ha hs hN x0 hx1 y0 hy1).mono (fun r42 h42 => ⟨⟨y0, by omega⟩, (s_X6_lineFrom ha hs hN hex.1 hex.2 hey.1 hey.2).mono (fun r52 h52 => ?_)⟩)
    rw [h42, h52]
    refine ⟨fun c4 => ⟨zb_inI_of (by omega) (by omega), nx2 (by omega) ⟨by omega, fun u u0 u1 => ?_⟩⟩, fun c4 => Or.inr ⟨rfl, fun z => c4 (z.2.2 x y x0 hx1 y0 hy1).symm⟩⟩
    by_cases q : u = y
    · rw [q]; exact c4.symm
    · exact h3 u u0 (by omega)
theorem zb_cb_full {n : Int} {p : zb_Pt} (hp : zb_gp n p) (ha : ∀ x, 0 ≤ x → x < n → zb_aln n p x) : ∀ k : Nat, (k : Int) ≤ p.2 → zb_cb n p.1 k = k := by
  intro k
  induction k with
  | zero => intro _; rw [show ((0 : Nat) : Int) = 0 by rfl, zb_cb_0 (fun x x0 x1 => (hp.1 x x0 x1).1)]
  | succ k ih =>
    intro hk
    obtain ⟨x, x0, x1, hx⟩ := hp.2.1 k (by omega) (by omega)
    have := (zb_sz_aln x0 x1).2 (ha x x0 x1)
    rw [hx] at this
    rw [show ((k + 1 : Nat) : Int) = (k : Int) + 1 by omega, zb_cb_S, ih (by omega), this]
theorem zb_aln_all {n : Int} {p : zb_Pt} (n0 : 0 ≤ n) (hp : zb_gp n p) (ha : ∀ x, 0 ≤ x → x < n → zb_aln n p x) : p.2 = n := by
  have h1 := zb_cb_full hp ha p.2.toNat (by have := hp.2.2.1; omega)
  rw [show ((p.2.toNat : Nat) : Int) = p.2 by have := hp.2.2.1; omega, zb_cb_n n0 (fun x x0 x1 => (hp.1 x x0 x1).2)] at h1
  exact h1.symm
theorem zb_full_pos {n : Int} {p : zb_Pt} {S : Int → Int} (n0 : 0 ≤ n) (hp : zb_gp n p) (e : p.2 = n) (hS : zb_pm n S) (hs : ∀ x y, 0 ≤ x → x < y → y < n → p.1 (S x) ≤ p.1 (S y)) {i : Int} (i0 : 0 ≤ i) (i1 : i < n) : p.1 (S i) = i := by
  have ha : ∀ x, 0 ≤ x → x < n → zb_aln n p x := fun x x0 x1 => zb_gd_aln hp e x0 x1
  have c : ∀ j, 0 ≤ j → j ≤ n → zb_cb n p.1 j = j := fun j j0 j1 => by
    have := zb_cb_full hp ha j.toNat (by omega)
    rw [show ((j.toNat : Nat) : Int) = j by omega] at this
    exact this
  have h1 := zb_pos_lt hS hs (i + 1) i0 i1
  have h2 := zb_pos_lt hS hs i i0 i1
  rw [c (i + 1) (by omega) (by omega)] at h1
  rw [c i i0 (by omega)] at h2
  omega
theorem zb_crr_lik {n : Int} {f : Int → Int} {p q : zb_Pt} (hf : zb_pm n f) (hc : zb_crr n f p q) : zb_lik n p q := by
  refine ⟨hc.1.symm, fun i i0 i1 => ?_⟩
  unfold zb_sz
  rw [← zb_pm_cnt hf (fun x => q.1 x == i), zb_cnt_sum, zb_cnt_sum]
  exact zb_sum_congr (fun x x0 x1 => by rw [hc.2 x x0 (by omega)])
/-- what the class's finder works on -/
def zb_Tx (m : zb_M) (N : zb_N) (o : Int → Int) : Prop := m 192 9 = 126 ∧ zb_CS m 126 N o
theorem zb_Tx_same {m m1 : zb_M} {N : zb_N} {o : Int → Int} (h : zb_Tx m N o) (h2 : m1 192 9 = m 192 9) (he : ∀ b, 126 ≤ b → b ≤ 131 → m1 b = m b) : zb_Tx m1 N o := ⟨h2.trans h.1, zb_CS_same h.2 he⟩
theorem zb_len_352 : zb_len zb_E0.1 352 = 12 := by decide +kernel
theorem s_X9_readImage {d : Nat} {m : zb_M} {a b : Int} {N : zb_N} {o : Int → Int} {p q : zb_Pt} (ha : zb_is zb_E0.1 a 5) (hb : zb_is zb_E0.1 b 5) (ha2 : a + 3 < 352 ∨ 352 < a) (hb2 : b + 3 < 352 ∨ 352 < b) (hT : zb_Tx m N o) (hN : zb_ON N) (h : zb_CP m a N.1 p) (h' : zb_CP m b N.1 q) (hp : zb_gp N.1 p) (hq : zb_gp N.1 q) (ep : p.2 = N.1) (eq : q.2 = N.1) : zb_T K_X9_readImage (d + 3) [(2, 192), (2, a), (2, b)] zb_E0 m (fun r m1 => ((r = 1 ∧ zb_lst N.1 (zb_pcy N p q) (m1 352)) ∨ (r = 0 ∧ ∀ f, ¬ zb_pcy N p q f)) ∧ ∀ c, c ≠ 352 → m1 c = m c) := by
  apply w_X9_readImage
  obtain ⟨v2, v3, v4⟩ := zb_part ha
  obtain ⟨u2, u3, u4⟩ := zb_part hb
  have h0 := hN.1.1
  have hn := hN.1.2
  have hSp := h.2.2.2.2.1
  have hSq := h'.2.2.2.2.1
  unfold PM_X9_readImage PL_X9_readImage_2
  rw [v4, u4, zb_v_192_4]
  intro X hX
  refine zb_lp1 (fun v mm => 0 ≤ v ∧ (∀ i, 0 ≤ i → i < v → mm 352 (m (a + 3) i) = m (b + 3) i) ∧ ∀ c, c ≠ 352 → mm c = m c) N.1 (fun v mm ⟨v0, t1, t2⟩ vn nxt => hX v mm ⟨fun c1 => ?_, fun c1 => ?_⟩) 0 m h0 ⟨by omega, fun i i0 i1 => by omega, fun c _ => rfl⟩
  · rw [t2 a (by omega), h.1] at c1
    unfold PJ_X9_readImage_33
    rw [zb_v_192_4, t2 192 (by omega), hT.1]
    have hg1 : ∀ i, 0 ≤ i → i < N.1 → mm 352 (m (a + 3) i) = m (b + 3) i := fun i i0 i1 => t1 i i0 (by omega)
    have hcr : ∀ z, 0 ≤ z → z < N.1 → (0 ≤ mm 352 z ∧ mm 352 z < N.1) ∧ q.1 (mm 352 z) = p.1 z := fun z z0 z1 => by
      obtain ⟨i, i0, i1, rfl⟩ := zb_pm_sur hSp z0 z1
      rw [hg1 i i0 i1, zb_full_pos h0 hp ep hSp h.2.2.2.2.2 i0 i1, zb_full_pos h0 hq eq hSq h'.2.2.2.2.2 i0 i1]
      exact ⟨hSq.1 i i0 i1, rfl⟩
    have hpm : zb_pm N.1 (mm 352) := ⟨fun z z0 z1 => (hcr z z0 z1).1, fun y z y0 y1 z0 z1 e => by
      refine (zb_gd_full hp ep).2 y z y0 y1 z0 z1 ?_
      rw [← (hcr y y0 y1).2, ← (hcr z z0 z1).2, e]⟩
    have hcc : zb_crr N.1 (mm 352) p q := ⟨eq.trans ep.symm, fun z z0 z1 => (hcr z z0 z1).2⟩
    have hag : ∀ f, zb_pcy N p q f → zb_eqo N.1 (mm 352) f := fun f hf z z0 z1 => by
      have hz := hf.1.1.1 z z0 z1
      have hz2 := (hcr z z0 z1).1
      exact (zb_gd_full hq eq).2 _ _ hz2.1 hz2.2 hz.1 hz.2 ((hcr z z0 z1).2.trans (hf.2.2 z z0 z1).symm)
    have hs : zb_CS mm 126 N o := zb_CS_same hT.2 (fun c c0 c1 => t2 c (by omega))
    refine ⟨zb_i_126, (s_X6_isTurning zb_i_126 hs hN zb_len_352 hpm).mono (fun r hr => ⟨by omega, ?_, t2⟩)⟩
    rcases hr with ⟨r1, r2⟩ | ⟨r1, r2⟩
    · exact Or.inl ⟨r1, ⟨r2, hcc⟩, fun g hg => Or.inl (hag g hg)⟩
    · refine Or.inr ⟨r1, fun f hf => r2 (zb_aut_congr (fun z z0 z1 => (hag f hf z z0 z1).symm) hf.1)⟩
  · rw [t2 a (by omega), h.1] at c1
    have r1 := hSp.1 v v0 (by omega)
    rw [t2 (a + 3) (by omega), t2 (b + 3) (by omega)]
    refine ⟨⟨v0, by omega⟩, ⟨r1.1, by omega⟩, fun m26 e26 => ⟨zb_inI_of (by omega) (by omega), nxt (by omega) m26 ⟨by omega, fun i i0 i1 => ?_, fun c hc => by rw [zb_u3 e26 hc]; exact t2 c hc⟩⟩⟩
    by_cases w : i = v
    · rw [w, zb_u1 e26]
    · have ne : m (a + 3) i ≠ m (a + 3) v := fun z => w (hSp.2 i v i0 (by omega) v0 (by omega) z)
      rw [zb_u2 e26 (Or.inr ne)]; exact t1 i i0 (by omega)
theorem s_X9_markInto {d : Nat} {m : zb_M} {a b x : Int} {N : zb_N} {o : Int → Int} {p : zb_Pt} (ha : zb_is zb_E0.1 a 5) (hb : zb_is zb_E0.1 b 5) (hab : a + 3 < b ∨ b + 3 < a) (ha2 : 192 < a) (hT : zb_Tx m N o) (hN : zb_ON N) (h : zb_CP m b N.1 p) (hp : zb_gp N.1 p) (x0 : 0 ≤ x) (x1 : x < N.1) : zb_T K_X9_markInto (d + 4) [(2, 192), (2, a), (2, b), (0, x)] zb_E0 m (fun _ m1 => zb_CP m1 a N.1 (zb_chd N p x) ∧ ∀ c, (c < 132 ∨ 135 < c) → (c < a ∨ a + 3 < c) → m1 c = m c) := by
  apply w_X9_markInto
  have h0 := hN.1.1
  have hn := hN.1.2
  have hk := zb_gd_le hp h0
  unfold PM_X9_markInto
  refine (s_X5_become ha hb hab h hn (by omega)).mono (fun _ m2 ⟨b1, b2⟩ => ?_)
  refine (s_X5_setApart ha b1 hp hn x0 x1).mono (fun _ m7 ⟨c1, c2⟩ => ?_)
  have e9 : m7 192 9 = 126 := by rw [c2 192 (by omega), b2 192 (by omega)]; exact hT.1
  rw [zb_v_192_0, e9]
  refine ⟨zb_i_126, (s_X7_settle ha zb_i_126 (by omega) (by omega) (by omega) c1 (zb_mrk_gd hp x0 x1) (zb_CS_same hT.2 (fun c c0 c1 => by rw [c2 c (by omega), b2 c (by omega)])) hN).mono (fun _ m19 ⟨d1, d2⟩ => ⟨d1, fun c q1 q2 => by rw [d2 c q1 q2, c2 c q2, b2 c q2]⟩)⟩
/-- what extend may change -/
def zb_frX (L : Int) (m m1 : zb_M) : Prop := ∀ b, (b < 132 ∨ 135 < b) → b ≠ 352 → ¬ (251 + 4 * L ≤ b ∧ b ≤ 298) → ¬ (304 + 4 * L ≤ b ∧ b ≤ 351) → m1 b = m b
/-- extend does as it should, at this depth and level, where there are so many heaps -/
def zb_Xc (N : zb_N) (o : Int → Int) (D : Nat) (L k : Int) : Prop := ∀ (p q : zb_Pt) (m : zb_M), k ≤ p.2 → zb_Tx m N o → zb_CP m (247 + 4 * L) N.1 p → zb_CP m (300 + 4 * L) N.1 q → zb_gp N.1 p → zb_gp N.1 q → zb_T K_X9_extend D [(2, 192), (0, L)] zb_E0 m (fun r m1 => ((r = 1 ∧ zb_lst N.1 (zb_pcy N p q) (m1 352)) ∨ (r = 0 ∧ ∀ f, ¬ zb_pcy N p q f)) ∧ zb_frX L m m1)
theorem zb_Xc_step {N : zb_N} {o : Int → Int} {d : Nat} {L k : Int} (hN : zb_ON N) (L0 : 0 ≤ L) (L1 : L ≤ 12) (hLk : L + N.1 ≤ 12 + k) (ih : zb_Xc N o (d + 4) (L + 1) (k + 1)) : zb_Xc N o (d + 5) L k := by
  intro p q m hk hT h h' hp hq
  have h0 := hN.1.1
  have hn := hN.1.2
  apply w_X9_extend
  obtain ⟨eH, iH⟩ := zb_here L0 (by omega)
  obtain ⟨eT, iT⟩ := zb_there L0 (by omega)
  unfold PM_X9_extend
  rw [zb_v_192_2, zb_v_192_3, eH, eT]
  refine ⟨⟨L0, by omega⟩, (s_X5_hasHeapsLike iH iT h h' hp h0 hn).mono (fun r16 h16 => ?_)⟩
  rcases h16.symm with ⟨r1, hl⟩ | ⟨r1, hl⟩
  · exact ⟨fun _ => ⟨Or.inr ⟨rfl, fun f hf => hl (zb_crr_lik hf.1.1 hf.2)⟩, fun _ _ _ _ _ => rfl⟩, fun z => absurd r1 z⟩
  refine ⟨fun z => by omega, fun _ => (s_X5_firstNotAlone iH h hp h0 hn).mono (fun x hx => ?_)⟩
  rcases hx with ⟨x1, ha⟩ | ⟨x0, x1, hna, ha⟩
  · refine ⟨fun z => by omega, fun _ => ?_⟩
    have ep := zb_aln_all h0 hp ha
    refine (s_X9_readImage iH iT (by omega) (by omega) hT hN h h' hp hq ep (hl.1.symm.trans ep)).mono (fun r38 m38 ⟨g1, g2⟩ => ⟨by omega, g1, fun b _ b1 _ _ => g2 b b1⟩)
  refine ⟨fun _ => ?_, fun z => absurd x0 z⟩
  have hkc := zb_chd_k hp x0 x1 hna
  have hgc := zb_chd_gd hp x0 x1
  have hkn := zb_gd_le hgc h0
  refine ⟨fun L2 => ⟨zb_inI_of (by omega) (by omega), ⟨by omega, by omega⟩, ?_⟩, fun z => absurd (show L < 12 by omega) z⟩
  obtain ⟨eH2, iH2⟩ := zb_here (show 0 ≤ L + 1 by omega) (show L + 1 < 13 by omega)
  obtain ⟨eT2, iT2⟩ := zb_there (show 0 ≤ L + 1 by omega) (show L + 1 < 13 by omega)
  rw [eH2]
  refine (s_X9_markInto iH2 iH (by omega) (by omega) hT hN h hp x0 x1).mono (fun _ m62 ⟨k1, k2⟩ => ?_)
  unfold PL_X9_extend_68
  rw [zb_v_192_2, zb_v_192_3, eH, eT, eT2, (zb_part iH).1, (zb_part iT).1]
  intro X hX
  refine zb_lp1 (fun y mm => 0 ≤ y ∧ (∀ w, 0 ≤ w → w < y → ∀ f, zb_pcy N p q f → f x ≠ w) ∧ zb_CP mm (247 + 4 * (L + 1)) N.1 (zb_chd N p x) ∧ zb_frX L m mm) N.1 (fun y mm ⟨y0, t1, t2, t3⟩ yn nxt => hX y mm ⟨fun c1 => ?_, fun c1 => ?_⟩) 0 m62 h0 ⟨by omega, fun w w0 w1 => by omega, k1, fun b b1 b2 b3 b4 => k2 b b1 (by omega)⟩
  · rw [t3 (300 + 4 * L) (by omega) (by omega) (by omega) (by omega), h'.1] at c1
    refine ⟨Or.inr ⟨rfl, fun f hf => ?_⟩, t3⟩
    have := hf.1.1.1 x x0 x1
    exact t1 (f x) this.1 (by omega) f hf rfl
  · rw [t3 (300 + 4 * L) (by omega) (by omega) (by omega) (by omega), h'.1] at c1
    have y1 : y < N.1 := by omega
    rw [t3 (300 + 4 * L + 1) (by omega) (by omega) (by omega) (by omega), t3 (247 + 4 * L + 1) (by omega) (by omega) (by omega) (by omega), h'.2.2.1 y y0 y1, h.2.2.1 x x0 x1]
    refine ⟨⟨y0, by omega⟩, ⟨x0, by omega⟩, fun c2 => ?_, fun c2 => ⟨zb_inI_of (by omega) (by omega), nxt (by omega) mm ⟨by omega, fun w w0 w1 f hf e => ?_, t2, t3⟩⟩⟩
    · have hTm : zb_Tx mm N o := zb_Tx_same hT (by rw [t3 192 (by omega) (by omega) (by omega) (by omega)]) (fun b b0 b1 => t3 b (by omega) (by omega) (by omega) (by omega))
      have hqm : zb_CP mm (300 + 4 * L) N.1 q := zb_CP_same h' (fun b b0 b1 => t3 b (by omega) (by omega) (by omega) (by omega))
      refine (s_X9_markInto iT2 iT (by omega) (by omega) hTm hN hqm hq y0 y1).mono (fun _ m109 ⟨j1, j2⟩ => ?_)
      have t2' : zb_CP m109 (247 + 4 * (L + 1)) N.1 (zb_chd N p x) := zb_CP_same t2 (fun b b0 b1 => j2 b (by omega) (by omega))
      have hT9 : zb_Tx m109 N o := zb_Tx_same hTm (by rw [j2 192 (by omega) (by omega)]) (fun b b0 b1 => j2 b (by omega) (by omega))
      refine (ih (zb_chd N p x) (zb_chd N q y) m109 (by omega) hT9 t2' j1 hgc (zb_chd_gd hq y0 y1)).mono (fun r116 m116 ⟨g1, g2⟩ => ?_)
      have fr : zb_frX L m m116 := fun b b1 b2 b3 b4 => by rw [g2 b b1 b2 (by omega) (by omega), j2 b b1 (by omega)]; exact t3 b b1 b2 b3 b4
      rcases g1 with ⟨g3, g4⟩ | ⟨g3, g4⟩
      · exact ⟨fun z => by omega, fun _ => ⟨Or.inl ⟨rfl, zb_lst_step hp hq hl x0 x1 y0 y1 c2 ha t1 g4⟩, fr⟩⟩
      · refine ⟨fun _ => ⟨zb_inI_of (by omega) (by omega), nxt (by omega) m116 ⟨by omega, fun w w0 w1 f hf e => ?_, zb_CP_same t2' (fun b b0 b1 => g2 b (by omega) (by omega) (by omega) (by omega)), fr⟩⟩, fun z => absurd g3 z⟩
        by_cases c3 : w = y
        · subst c3
          exact g4 f ((zb_pc_iff hp hq hl x0 x1 y0 y1 c2 f).2 ⟨hf, e⟩)
        · exact t1 w w0 (by omega) f hf e
    · by_cases c3 : w = y
      · subst c3
        have := hf.2.2 x x0 x1
        rw [e] at this
        exact c2 this
      · exact t1 w w0 (by omega) f hf e
theorem zb_Xc_all {N : zb_N} {o : Int → Int} (hN : zb_ON N) : ∀ (f d : Nat) (L k : Int), 0 ≤ L → L ≤ 13 → L + N.1 ≤ 12 + k → N.1 + 1 - k ≤ f → zb_Xc N o (f + d + 4) L k := by
  intro f
  induction f with
  | zero =>
    intro d L k L0 L1 hLk hf p q m hk hT h h' hp hq
    have := zb_gd_le hp hN.1.1
    omega
  | succ f ih =>
    intro d L k L0 L1 hLk hf
    by_cases c : N.1 < k
    · intro p q m hk hT h h' hp hq
      have := zb_gd_le hp hN.1.1
      omega
    rw [show f + 1 + d + 4 = (f + d) + 5 by omega]
    exact zb_Xc_step hN L0 (by omega) hLk (ih d (L + 1) (k + 1) (by omega) (by omega) (by omega) (by omega))
def zb_frY (m m1 : zb_M) : Prop := ∀ b, (b < 132 ∨ 135 < b) → (b < 247 ∨ 352 < b) → m1 b = m b
theorem s_X9_isLed {d : Nat} {m : zb_M} {x y : Int} {k : Nat} {N : zb_N} {o : Int → Int} (hT : zb_Tx m N o) (hN : zb_ON N) (hk : (k : Int) ≤ N.1) (h : zb_CP m (194 + 4 * k) N.1 (zb_ahd N k)) (x0 : 0 ≤ x) (x1 : x < N.1) (y0 : 0 ≤ y) (y1 : y < N.1) : zb_T K_X9_isLed (d + 20) [(2, 192), (2, 194 + 4 * (k : Int)), (0, x), (0, y)] zb_E0 m (fun r m1 => ((r = 1 ∧ zb_lst N.1 (zb_led N k x y) (m1 352)) ∨ (r = 0 ∧ ∀ f, ¬ zb_led N k x y f)) ∧ zb_frY m m1) := by
  apply w_X9_isLed
  have h0 := hN.1.1
  have hn := hN.1.2
  have hg := zb_ahd_gd N k hk
  obtain ⟨-, iA⟩ := zb_ahead (show 0 ≤ (k : Int) by omega) (show (k : Int) < 13 by omega)
  obtain ⟨eH, iH⟩ := zb_here (show 0 ≤ (0 : Int) by omega) (show (0 : Int) < 13 by omega)
  obtain ⟨eT, iT⟩ := zb_there (show 0 ≤ (0 : Int) by omega) (show (0 : Int) < 13 by omega)
  unfold PM_X9_isLed
  rw [(zb_part iA).1, h.2.2.1 x x0 x1, h.2.2.1 y y0 y1, zb_v_192_2, zb_v_192_3, eH, eT]
  refine ⟨⟨x0, by omega⟩, ⟨y0, by omega⟩, fun c => ?_, fun c => ⟨Or.inr ⟨rfl, fun f hf => zb_led_ne hk x0 x1 c f hf⟩, fun _ _ _ => rfl⟩⟩
  refine (s_X9_markInto (d := d + 15) iH iA (by omega) (by omega) hT hN h hg x0 x1).mono (fun _ m26 ⟨k1, k2⟩ => ?_)
  have hT2 : zb_Tx m26 N o := zb_Tx_same hT (by rw [k2 192 (by omega) (by omega)]) (fun b b0 b1 => k2 b (by omega) (by omega))
  refine (s_X9_markInto (d := d + 15) iT iA (by omega) (by omega) hT2 hN (zb_CP_same h (fun b b0 b1 => k2 b (by omega) (by omega))) hg y0 y1).mono (fun _ m38 ⟨j1, j2⟩ => ?_)
  have hT3 : zb_Tx m38 N o := zb_Tx_same hT2 (by rw [j2 192 (by omega) (by omega)]) (fun b b0 b1 => j2 b (by omega) (by omega))
  have hgx := zb_chd_gd hg x0 x1
  have ex := zb_Xc_all (o := o) hN 13 (d + 2) 0 0 (by omega) (by omega) (by omega) (by omega) (zb_chd N (zb_ahd N k) x) (zb_chd N (zb_ahd N k) y) m38 hgx.2.2.1 hT3 (zb_CP_same k1 (fun b b0 b1 => j2 b (by omega) (by omega))) j1 hgx (zb_chd_gd hg y0 y1)
  rw [show 13 + (d + 2) + 4 = d + 19 by omega] at ex
  refine ex.mono (fun r43 m43 ⟨g1, g2⟩ => ⟨by omega, ?_, fun b b1 b2 => by rw [g2 b b1 (by omega) (by omega) (by omega), j2 b b1 (by omega), k2 b b1 (by omega)]⟩)
  have iff := zb_led_iff hk x0 x1 y0 y1 c.symm
  rcases g1 with ⟨g3, g4⟩ | ⟨g3, g4⟩
  · exact Or.inl ⟨g3, zb_lst_iff iff g4⟩
  · exact Or.inr ⟨g3, fun f hf => g4 f ((iff f).2 hf)⟩
theorem s_X9_findLeast {d : Nat} {m : zb_M} {x y : Int} {N : zb_N} {o : Int → Int} (hs : zb_CS m 126 N o) (hN : zb_ON N) (x0 : 0 ≤ x) (x1 : x < N.1) (y0 : 0 ≤ y) (y1 : y < N.1) : zb_T K_X9_findLeast (d + 21) [(2, 192), (2, 126), (0, x), (0, y)] zb_E0 m (fun r m1 => ((r = 1 ∧ zb_lst N.1 (zb_led N 0 x y) (m1 352)) ∨ (r = 0 ∧ ∀ f, ¬ zb_led N 0 x y f)) ∧ ∀ b, (b < 132 ∨ 135 < b) → (b < 192 ∨ 352 < b) → m1 b = m b) := by
  apply w_X9_findLeast
  obtain ⟨eA, iA⟩ := zb_ahead (show 0 ≤ (0 : Int) by omega) (show (0 : Int) < 13 by omega)
  unfold PM_X9_findLeast
  rw [zb_v_192_0, zb_v_192_1, eA]
  intro m2 e2
  rw [zb_u1 e2]
  refine ⟨zb_i_126, (s_X7_begin (d := d + 16) iA zb_i_126 (by omega) (by omega) (by omega) (zb_CS_same hs (fun b b0 b1 => zb_u3 e2 (by omega))) hN).mono (fun _ m19 ⟨b1, b2⟩ => ?_)⟩
  have hT : zb_Tx m19 N o := ⟨by rw [b2 192 (by omega) (by omega), zb_u1 e2], zb_CS_same hs (fun b b0 b1 => by rw [b2 b (by omega) (by omega), zb_u3 e2 (by omega)])⟩
  exact (s_X9_isLed (k := 0) hT hN hN.1.1 b1 x0 x1 y0 y1).mono (fun r m31 ⟨g1, g2⟩ => ⟨by omega, g1, fun b c1 c2 => by rw [g2 b c1 (by omega), b2 b c1 (by omega), zb_u3 e2 (by omega)]⟩)
theorem s_X9_markAhead {d : Nat} {m : zb_M} {N : zb_N} {o : Int → Int} (hT : zb_Tx m N o) (hN : zb_ON N) : zb_T K_X9_markAhead (d + 5) [(2, 192)] zb_E0 m (fun _ m1 => (∀ k : Nat, (k : Int) ≤ N.1 → zb_CP m1 (194 + 4 * k) N.1 (zb_ahd N k)) ∧ ∀ b, (b < 132 ∨ 135 < b) → (b < 194 ∨ 245 < b) → m1 b = m b) := by
  apply w_X9_markAhead
  have h0 := hN.1.1
  have hn := hN.1.2
  obtain ⟨eA, iA⟩ := zb_ahead (show 0 ≤ (0 : Int) by omega) (show (0 : Int) < 13 by omega)
  unfold PM_X9_markAhead
  rw [zb_v_192_0, zb_v_192_1, eA, hT.1]
  refine ⟨zb_i_126, (s_X7_begin iA zb_i_126 (by omega) (by omega) (by omega) hT.2 hN).mono (fun _ m14 ⟨b1, b2⟩ => ?_)⟩
  unfold PL_X9_markAhead_19
  rw [zb_v_192_1]
  intro X hX
  refine zb_lp1 (fun v mm => 0 ≤ v ∧ (∀ k : Nat, (k : Int) ≤ v → zb_CP mm (194 + 4 * k) N.1 (zb_ahd N k)) ∧ ∀ b, (b < 132 ∨ 135 < b) → (b < 194 ∨ 245 < b) → mm b = m b) N.1 (fun v mm ⟨v0, t1, t2⟩ vn nxt => hX v mm ?_) 0 m14 h0 ⟨by omega, fun k hk => by
    have : k = 0 := by omega
    subst this
    exact b1, fun b c1 c2 => b2 b c1 (by omega)⟩
  have e9 : mm 192 9 = 126 := by rw [t2 192 (by omega) (by omega)]; exact hT.1
  have en : mm 126 0 = N.1 := by rw [t2 126 (by omega) (by omega)]; exact hT.2.1
  rw [e9, en]
  refine ⟨zb_i_126, fun c => ⟨fun k hk => t1 k (by omega), t2⟩, fun c => ⟨zb_inI_of (by omega) (by omega), ⟨by omega, by omega⟩, ⟨v0, by omega⟩, ?_⟩⟩
  obtain ⟨e1, i1⟩ := zb_ahead v0 (show v < 13 by omega)
  obtain ⟨e2, i2⟩ := zb_ahead (show 0 ≤ v + 1 by omega) (show v + 1 < 13 by omega)
  rw [e1, e2]
  have hvN : ((v.toNat : Nat) : Int) = v := by omega
  have hp := t1 v.toNat (by omega)
  have hg := zb_ahd_gd N v.toNat (by omega)
  have hkk := zb_gd_le hg h0
  rw [hvN] at hp
  refine (s_X5_become i2 i1 (by omega) hp hn (by omega)).mono (fun _ m44 ⟨c1, c2⟩ => ?_)
  refine (s_X5_setApart i2 c1 hg hn v0 (by omega)).mono (fun _ m56 ⟨d1, d2⟩ => ?_)
  have e56 : m56 192 9 = 126 := by rw [d2 192 (by omega), c2 192 (by omega)]; exact e9
  rw [zb_v_192_0, e56]
  refine ⟨zb_i_126, (s_X7_settle i2 zb_i_126 (by omega) (by omega) (by omega) d1 (zb_mrk_gd hg v0 (by omega)) (zb_CS_same hT.2 (fun b b0 b1 => by rw [d2 b (by omega), c2 b (by omega), t2 b (by omega) (by omega)])) hN).mono (fun _ m75 ⟨f1, f2⟩ => nxt (by omega) m75 ⟨by omega, fun k hk => ?_, fun b q1 q2 => by rw [f2 b q1 (by omega), d2 b (by omega), c2 b (by omega)]; exact t2 b q1 q2⟩)⟩
  by_cases q : (k : Int) = v + 1
  · have : k = v.toNat + 1 := by omega
    subst this
    rw [show (((v.toNat + 1 : Nat)) : Int) = v + 1 by omega]
    have e : zb_ahd N (v.toNat + 1) = zb_chd N (zb_ahd N v.toNat) v := by
      show zb_chd N (zb_ahd N v.toNat) ((v.toNat : Nat) : Int) = _
      rw [hvN]
    rw [e]
    exact f1
  · exact zb_CP_same (t1 k (by omega)) (fun b b0 b1 => by rw [f2 b (by omega) (by omega), d2 b (by omega), c2 b (by omega)])
