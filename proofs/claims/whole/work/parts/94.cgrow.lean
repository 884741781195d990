/-! ===== the class walks the tree ===== -/
theorem zb_fr_nn {N : zb_N} {p : zb_Pt} {rec : zb_Pt → zb_Wk → zb_Wk} (h : ∀ q W, W.2.1 ≤ (rec q W).2.1) : ∀ (c : Nat) (i : Int) (W : zb_Wk), W.2.1 ≤ (zb_fr N p rec c i W).2.1 := by
  intro c
  induction c with
  | zero => intro i W; exact Int.le_refl _
  | succ c ih =>
    intro i W
    by_cases q : zb_flw N p i
    · rw [zb_fr_y q]; exact Int.le_trans (h _ W) (ih (i + 1) _)
    · rw [zb_fr_n q]; exact ih (i + 1) W
theorem zb_wk_nn (N : zb_N) : ∀ (f : Nat) (p : zb_Pt) (W : zb_Wk), W.2.1 ≤ (zb_wk N f p W).2.1 := by
  intro f
  induction f with
  | zero => intro p W; exact Int.le_refl _
  | succ f ih =>
    intro p W
    show W.2.1 ≤ (if p.2 = N.1 then zb_lf1 N p (W.1, W.2.1 + 1, W.2.2) else zb_fr N p (zb_wk N f) N.1.toNat 0 (W.1, W.2.1 + 1, W.2.2)).2.1
    by_cases q : p.2 = N.1
    · rw [if_pos q, (zb_lf1_1 N p _).2]; show W.2.1 ≤ W.2.1 + 1; omega
    · rw [if_neg q]
      have := zb_fr_nn (N := N) (p := p) ih N.1.toNat 0 (W.1, W.2.1 + 1, W.2.2)
      have this : W.2.1 + 1 ≤ (zb_fr N p (zb_wk N f) N.1.toNat 0 (W.1, W.2.1 + 1, W.2.2)).2.1 := this
      omega
/-- the least row is that of its order, which takes each thing once -/
def zb_rwI (N : zb_N) (W : zb_Wk) : Prop := W.1 ≠ 0 → W.2.2.1 = zb_rw N W.2.2.2 ∧ zb_pm N.1 W.2.2.2
theorem zb_lf1_rw {N : zb_N} {p : zb_Pt} {W : zb_Wk} (hp : zb_gp N.1 p) (e : p.2 = N.1) (h : zb_rwI N W) : zb_rwI N (zb_lf1 N p W) := by
  intro _
  unfold zb_lf1
  by_cases q : W.1 = 0 ∨ zb_lex (zb_rsz N.1) (zb_rw N (zb_lord N.1 p)) W.2.2.1
  · rw [if_pos q]
    refine ⟨rfl, fun i i0 i1 => (zb_lord_rng hp e i0 i1).1, fun i j i0 i1 j0 j1 hij => ?_⟩
    have hij : zb_lord N.1 p i = zb_lord N.1 p j := hij
    rw [← (zb_lord_rng hp e i0 i1).2, ← (zb_lord_rng hp e j0 j1).2, hij]
  · rw [if_neg q]
    exact h (fun z => q (Or.inl z))
theorem zb_wk_rw (N : zb_N) : ∀ (f : Nat) (p : zb_Pt) (W : zb_Wk), zb_gp N.1 p → zb_rwI N W → zb_rwI N (zb_wk N f p W) := by
  intro f
  induction f with
  | zero => intro p W _ h; exact h
  | succ f ih =>
    intro p W hp h
    have h' : zb_rwI N (W.1, W.2.1 + 1, W.2.2) := h
    show zb_rwI N (if p.2 = N.1 then zb_lf1 N p (W.1, W.2.1 + 1, W.2.2) else zb_fr N p (zb_wk N f) N.1.toNat 0 (W.1, W.2.1 + 1, W.2.2))
    by_cases q : p.2 = N.1
    · rw [if_pos q]; exact zb_lf1_rw hp q h'
    · rw [if_neg q]
      have fold : ∀ (c : Nat) (i : Int) (V : zb_Wk), 0 ≤ i → i + c ≤ N.1 → zb_rwI N V → zb_rwI N (zb_fr N p (zb_wk N f) c i V) := by
        intro c
        induction c with
        | zero => intro i V _ _ hV; exact hV
        | succ c ihc =>
          intro i V i0 ic hV
          by_cases w : zb_flw N p i
          · rw [zb_fr_y w]; exact ihc (i + 1) _ (by omega) (by omega) (ih _ V (zb_chd_gd hp i0 (by omega)) hV)
          · rw [zb_fr_n w]; exact ihc (i + 1) V (by omega) (by omega) hV
      by_cases c : 0 ≤ N.1
      · exact fold N.1.toNat 0 _ (Int.le_refl _) (by omega) h'
      · rw [show N.1.toNat = 0 by omega]; exact h'
theorem zb_nmW_ok {N : zb_N} (hN : zb_ON N) : (zb_nmW N).2.2.1 = zb_rw N (zb_nmW N).2.2.2 ∧ zb_pm N.1 (zb_nmW N).2.2.2 ∧ 1 ≤ (zb_nmW N).1 := by
  have hg := zb_beg_gd N
  have hk0 := hg.2.2.1
  have hn := hN.1.2
  have h1 := (zb_wk_nb N hN 13 (zb_beg N) zb_W0w 0 hg (by omega) (by omega) (by omega) (by show (0 : Int) ≤ 13 * 0 + 0; omega)).2
  have h1 : 0 + 1 ≤ (zb_nmW N).1 := h1
  have h2 := zb_wk_rw N 13 (zb_beg N) zb_W0w hg (fun z => absurd rfl z) (show (zb_nmW N).1 ≠ 0 by omega)
  exact ⟨h2.1, h2.2, by omega⟩
def zb_frZ (b L : Int) (m m1 : zb_M) : Prop := ∀ x, (x < 132 ∨ 135 < x) → x ≠ 191 → (x < b ∨ b + 2 < x) → ¬ (142 + 4 * L ≤ x ∧ x ≤ 189) → m1 x = m x
/-- grow does as it should, at this depth and level, where there are so many heaps -/
def zb_Gw (N : zb_N) (o : Int → Int) (c b : Int) (D : Nat) (L k : Int) : Prop := ∀ (f : Nat) (p : zb_Pt) (W : zb_Wk) (m : zb_M), k ≤ p.2 → N.1 - p.2 < f → zb_Gc m c b N o → zb_twT m N → zb_CP m (138 + 4 * L) N.1 p → zb_gp N.1 p → (0 ≤ W.1 ∧ W.1 ≤ 3000) → (0 ≤ W.2.1 ∧ W.2.1 ≤ 13 * W.1 + L) → zb_Rp m b N o W → zb_T K_X8_grow D [(2, 136), (0, L)] zb_E0 m (fun _ m1 => (((zb_wk N f p W).1 ≤ 3000 ∧ zb_Rp m1 b N o (zb_wk N f p W)) ∨ (3000 < (zb_wk N f p W).1 ∧ m1 b 3 = 3001)) ∧ m1 b 0 = m b 0 ∧ zb_frZ b L m m1)
def zb_lpV (N : zb_N) (o : Int → Int) (p : zb_Pt) (f' : Nat) (b L x : Int) (mm : zb_M) (Wf : zb_Wk) : Prop := ((∃ V : zb_Wk, zb_Rp mm b N o V ∧ (0 ≤ V.1 ∧ V.1 ≤ 3000) ∧ (0 ≤ V.2.1 ∧ V.2.1 ≤ 13 * V.1 + (L + 1)) ∧ zb_fr N p (zb_wk N f') (N.1 - x).toNat x V = Wf) ∨ (mm b 3 = 3001 ∧ 3000 < Wf.1))
theorem zb_Gw_step {N : zb_N} {o : Int → Int} {c b : Int} {d : Nat} {L k : Int} (hA : zb_Ga c b) (hN : zb_ON N) (L0 : 0 ≤ L) (L1 : L ≤ 12) (hLk : L + N.1 ≤ 12 + k) (ih : zb_Gw N o c b (d + 4) (L + 1) (k + 1)) : zb_Gw N o c b (d + 5) L k := by
  intro f p W m hk hf h ht hp hg hW hW2 hR
  have hA' := hA
  obtain ⟨ic, ib, a1, a2, a3⟩ := hA'
  have h0 := hN.1.1
  have hn := hN.1.2
  have hkp := zb_gd_le hg h0
  apply w_X8_grow
  obtain ⟨eL, iL⟩ := zb_levels L0 (by omega)
  obtain ⟨f', rfl⟩ : ∃ f', f = f' + 1 := ⟨f - 1, by omega⟩
  have eWk : zb_wk N (f' + 1) p W = if p.2 = N.1 then zb_lf1 N p (W.1, W.2.1 + 1, W.2.2) else zb_fr N p (zb_wk N f') N.1.toNat 0 (W.1, W.2.1 + 1, W.2.2) := rfl
  generalize hWf : zb_wk N (f' + 1) p W = Wf at eWk
  unfold PM_X8_grow
  rw [h.2.1, hR.2.2.2.1, zb_v_136_1, eL]
  refine ⟨⟨L0, by omega⟩, ib, zb_inI_of (by omega) (by omega), fun m17 e17 => ?_⟩
  have f17 : ∀ x, x ≠ b → m17 x = m x := fun x hx => zb_u3 e17 hx
  have hG17 : zb_Gc m17 c b N o := zb_Gc_same h (f17 136 (by omega)) (fun x x0 x1 => f17 x (by omega))
  have hp17 : zb_CP m17 (138 + 4 * L) N.1 p := zb_CP_same hp (fun x _ _ => f17 x (by omega))
  have ht17 : zb_twT m17 N := fun x y x0 x1 y0 y1 => by rw [f17 190 (by omega)]; exact ht x y x0 x1 y0 y1
  have hR17 : zb_Rp m17 b N o (W.1, W.2.1 + 1, W.2.2) := by
    obtain ⟨q1, q2, q3, q4, q5⟩ := hR
    refine ⟨by rw [zb_u2 e17 (by omega)]; exact q1, by rw [zb_u2 e17 (by omega)]; exact q2, by rw [zb_u2 e17 (by omega)]; exact q3, zb_u1 e17, fun z => ?_⟩
    rw [f17 (b + 1) (by omega), f17 (b + 2) (by omega)]
    exact q5 z
  have e017 : m17 b 0 = m b 0 := zb_u2 e17 (by omega)
  refine (s_X5_isAllAlone hp17).mono (fun r21 h21 => ?_)
  rcases h21 with ⟨r1, ep⟩ | ⟨r1, ep⟩
  · refine ⟨fun z => by omega, fun _ => (s_X8_addLeaf (d := d + 1) hA iL (by omega) hG17 hN hp17 hg ep hR17 hW).mono (fun _ m29 ⟨g1, g2, g3⟩ => ?_)⟩
    rw [if_pos ep] at eWk
    rw [← eWk] at g1
    have eW1 : Wf.1 = W.1 + 1 := by rw [eWk, (zb_lf1_1 N p _).1]
    refine ⟨?_, g2.trans e017, fun x x1 x2 x3 x4 => by rw [g3 x x2 x3]; exact f17 x (by omega)⟩
    by_cases q : Wf.1 ≤ 3000
    · exact Or.inl ⟨q, g1⟩
    · exact Or.inr ⟨by omega, by have := g1.2.2.1; omega⟩
  rw [if_neg ep] at eWk
  refine ⟨fun _ => ⟨fun L2 => ?_, fun z => absurd (show L < 12 by omega) z⟩, fun z => absurd r1 z⟩
  refine (s_X5_firstBigHeap iL hp17 hg h0 hn).mono (fun t hT => ⟨zb_inI_of (by omega) (by omega), ⟨by omega, by omega⟩, ?_⟩)
  obtain ⟨eL2, iL2⟩ := zb_levels (show 0 ≤ L + 1 by omega) (show L + 1 < 13 by omega)
  unfold PL_X8_grow_58
  rw [zb_v_136_0, zb_v_136_1, eL, eL2, (zb_part iL).1]
  intro X hX
  refine zb_lp1 (fun x mm => 0 ≤ x ∧ zb_lpV N o p f' b L x mm Wf ∧ mm b 0 = m b 0 ∧ (∀ x, (x < 132 ∨ 135 < x) → x ≠ 191 → (x < b ∨ b + 2 < x) → ¬ (142 + 4 * L ≤ x ∧ x ≤ 189) → mm x = m17 x)) N.1 (fun x mm ⟨x0, hV, t0, t1⟩ xn nxt => hX x mm ?_) 0 m17 h0 ⟨Int.le_refl _, Or.inl ⟨(W.1, W.2.1 + 1, W.2.2), hR17, hW, ⟨by show 0 ≤ W.2.1 + 1; omega, by show W.2.1 + 1 ≤ 13 * W.1 + (L + 1); omega⟩, by rw [Int.sub_zero]; exact eWk.symm⟩, e017, fun x _ _ _ _ => rfl⟩
  have hfr : zb_frZ b L m mm := fun x q1 q2 q3 q4 => by rw [t1 x q1 q2 q3 q4]; exact f17 x (by omega)
  have hp0 : zb_CP mm (138 + 4 * L) N.1 p := zb_CP_same hp17 (fun x x0 x1 => t1 x (by omega) (by omega) (by omega) (by omega))
  have hGm : zb_Gc mm c b N o := zb_Gc_same hG17 (t1 136 (by omega) (by omega) (by omega) (by omega)) (fun x x0 x1 => t1 x (by omega) (by omega) (by omega) (by omega))
  have htm : zb_twT mm N := fun x y x0 x1 y0 y1 => by rw [t1 190 (by omega) (by omega) (by omega) (by omega)]; exact ht17 x y x0 x1 y0 y1
  rw [hp0.1, hGm.2.1]
  unfold zb_lpV at hV
  rcases hV with ⟨V, v1, v2, v3, v4⟩ | ⟨v1, v2⟩
  · have e3 : mm b 3 = V.1 := v1.2.2.1
    rw [e3]
    refine ⟨fun q => ⟨?_, t0, hfr⟩, fun q => ⟨ib, fun q2 => by omega, fun _ => ⟨⟨x0, by omega⟩, ?_⟩⟩⟩
    · rw [show (N.1 - x).toNat = 0 by omega] at v4
      have v4 : V = Wf := v4
      rw [← v4]
      exact Or.inl ⟨v2.2, v1⟩
    have x1 : x < N.1 := by omega
    have ec : (N.1 - x).toNat = (N.1 - (x + 1)).toNat + 1 := by omega
    rw [ec] at v4
    have skip : ¬ zb_flw N p x → zb_inI (x + 1) ∧ X (x + 1) mm := fun nf => ⟨zb_inI_of (by omega) (by omega), nxt x1 mm ⟨by omega, Or.inl ⟨V, v1, v2, v3, by rw [← v4, zb_fr_n nf]⟩, t0, t1⟩⟩
    rw [hp0.2.2.1 x x0 x1]
    refine ⟨fun q1 => ?_, fun q1 => skip (fun z => ?_)⟩
    · refine (s_X8_hasLesserTwin iL hN hp0 htm x0 x1).mono (fun r95 h95 => ?_)
      rcases h95 with ⟨r2, hnt⟩ | ⟨r2, hnt⟩
      · have hflw : zb_flw N p x := ⟨⟨t, by have := (hg.1 x x0 x1).1; omega, hT, q1⟩, hnt⟩
        have hna := zb_flw_na x0 x1 hflw
        have hgc := zb_chd_gd hg x0 x1
        have hkc := zb_chd_k hg x0 x1 hna
        rw [zb_fr_y hflw] at v4
        refine ⟨fun _ => ?_, fun z => absurd r2 z⟩
        refine (s_X5_become iL2 iL (by omega) hp0 hn (by omega)).mono (fun _ m107 ⟨b1, b2⟩ => ?_)
        refine (s_X5_setApart iL2 b1 hg hn x0 x1).mono (fun _ m114 ⟨c1, c2⟩ => ?_)
        have e4 : m114 136 4 = c := by rw [c2 136 (by omega), b2 136 (by omega)]; exact hGm.1
        rw [e4]
        refine ⟨ic, (s_X7_settle iL2 ic (by omega) (by omega) (by omega) c1 (zb_mrk_gd hg x0 x1) (zb_CS_same hGm.2.2 (fun y y0 y1 => by rw [c2 y (by omega), b2 y (by omega)])) hN).mono (fun _ m127 ⟨d1, d2⟩ => ?_)⟩
        have f127 : ∀ y, (y < 132 ∨ 135 < y) → (y < 138 + 4 * (L + 1) ∨ 138 + 4 * (L + 1) + 3 < y) → m127 y = mm y := fun y y1 y2 => by rw [d2 y y1 y2, c2 y y2, b2 y y2]
        refine (ih f' (zb_chd N p x) V m127 (by omega) (by omega) (zb_Gc_same hGm (f127 136 (by omega) (by omega)) (fun y y0 y1 => f127 y (by omega) (by omega))) (fun y z y0 y1 z0 z1 => by rw [f127 190 (by omega) (by omega)]; exact htm y z y0 y1 z0 z1) d1 hgc v2 v3 (zb_Rp_same v1 (fun y y0 y1 => f127 y (by omega) (by omega)))).mono (fun _ m134 ⟨g1, g2, g3⟩ => ⟨zb_inI_of (by omega) (by omega), nxt x1 m134 ⟨by omega, ?_, ?_, fun y y1 y2 y3 y4 => ?_⟩⟩)
        · rcases g1 with ⟨g4, g5⟩ | ⟨g4, g5⟩
          · have nb := zb_wk_nb N hN f' (zb_chd N p x) V (L + 1) hgc (by omega) (by omega) (by omega) v3.2
            have nn := zb_wk_nn N f' (zb_chd N p x) V
            exact Or.inl ⟨_, g5, ⟨by omega, g4⟩, ⟨by omega, by omega⟩, v4⟩
          · refine Or.inr ⟨g5, ?_⟩
            have := zb_fr_mono (N := N) (p := p) (zb_wk_mono N f') (N.1 - (x + 1)).toNat (x + 1) (zb_wk N f' (zb_chd N p x) V)
            rw [v4] at this
            omega
        · rw [g2, f127 b (by omega) (by omega)]; exact t0
        · rw [g3 y y1 y2 y3 (by omega), f127 y y1 (by omega)]; exact t1 y y1 y2 y3 y4
      · exact ⟨fun z => by omega, fun _ => skip (fun z => hnt z.2)⟩
    · obtain ⟨⟨u, -, hu, e⟩, -⟩ := z
      exact q1 (e.trans (zb_isT_uniq hu hT))
  · rw [v1]
    exact ⟨fun _ => ⟨Or.inr ⟨v2, v1⟩, t0, hfr⟩, fun _ => ⟨ib, fun _ => ⟨Or.inr ⟨v2, v1⟩, t0, hfr⟩, fun z => absurd (show (3000 : Int) < 3001 by omega) z⟩⟩
theorem zb_Gw_all {N : zb_N} {o : Int → Int} {c b : Int} (hA : zb_Ga c b) (hN : zb_ON N) : ∀ (f d : Nat) (L k : Int), 0 ≤ L → L ≤ 13 → L + N.1 ≤ 12 + k → N.1 + 1 - k ≤ f → zb_Gw N o c b (f + d + 4) L k := by
  intro f
  induction f with
  | zero =>
    intro d L k L0 L1 hLk hf f2 p W m hk hf2 h ht hp hg
    have := zb_gd_le hg hN.1.1
    omega
  | succ f ih =>
    intro d L k L0 L1 hLk hf
    by_cases q : N.1 < k
    · intro f2 p W m hk hf2 h ht hp hg
      have := zb_gd_le hg hN.1.1
      omega
    rw [show f + 1 + d + 4 = (f + d) + 5 by omega]
    exact zb_Gw_step hA hN L0 (by omega) hLk (ih d (L + 1) (k + 1) (by omega) (by omega) (by omega) (by omega))
/-- a name of the class -/
def zb_Nn (m : zb_M) (b n lv nd : Int) (row ord : Int → Int) : Prop := m b 0 = 1 ∧ m b 1 = n ∧ m b 2 = zb_rsz n ∧ m b 3 = lv ∧ m b 4 = nd ∧ zb_eqo (zb_rsz n) (m (b + 1)) row ∧ zb_eqo n (m (b + 2)) ord
theorem zb_Nn_same {m m1 : zb_M} {b n lv nd : Int} {row ord : Int → Int} (h : zb_Nn m b n lv nd row ord) (he : ∀ x, b ≤ x → x ≤ b + 2 → m1 x = m x) : zb_Nn m1 b n lv nd row ord := by
  unfold zb_Nn
  rw [he b (by omega) (by omega), he (b + 1) (by omega) (by omega), he (b + 2) (by omega) (by omega)]
  exact h
theorem s_X8_findName {d : Nat} {m : zb_M} {c b : Int} {N : zb_N} {o : Int → Int} (hA : zb_Ga c b) (hs : zb_CS m c N o) (hN : zb_ON N) : zb_T K_X8_findName (d + 20) [(2, 136), (2, c), (2, b)] zb_E0 m (fun r m1 => ((r = 1 ∧ (zb_nmW N).1 ≤ 3000 ∧ zb_Nn m1 b N.1 (zb_nmW N).1 (zb_nmW N).2.1 (zb_nmW N).2.2.1 (fun i => o ((zb_nmW N).2.2.2 i))) ∨ (r = 0 ∧ 3000 < (zb_nmW N).1 ∧ m1 b 0 = 0)) ∧ ∀ x, (x < 132 ∨ 191 < x) → (x < b ∨ b + 2 < x) → m1 x = m x) := by
  apply w_X8_findName
  have hA' := hA
  obtain ⟨ic, ib, a1, a2, a3⟩ := hA'
  have h0 := hN.1.1
  have hn := hN.1.2
  have hnn := zb_nn h0 hn
  unfold PM_X8_findName
  intro m2 e2 m7 e7
  have k5 : m7 136 5 = b := zb_u1 e7
  have k4 : m7 136 4 = c := by rw [zb_u2 e7 (by omega)]; exact zb_u1 e2
  have f7 : ∀ x, x ≠ 136 → m7 x = m x := fun x hx => by rw [zb_u3 e7 hx]; exact zb_u3 e2 hx
  rw [k5, k4, f7 c (by omega), hs.1]
  refine ⟨ib, ic, fun m21 e21 => ?_⟩
  have f21 : ∀ x, x ≠ b → m21 x = m7 x := fun x hx => zb_u3 e21 hx
  rw [f21 136 (by omega), k5, k4, f21 c (by omega), f7 c (by omega), hs.1]
  refine ⟨ib, ic, zb_inI_of (by omega) (by omega), zb_inI_of (by omega) (by omega), zb_inI_of (by omega) (by omega), fun m53 e53 => ?_⟩
  have f53 : ∀ x, x ≠ b → m53 x = m7 x := fun x hx => by rw [zb_u3 e53 hx]; exact f21 x hx
  rw [f53 136 (by omega), k5]
  refine ⟨ib, fun m61 e61 => ?_⟩
  have f61 : ∀ x, x ≠ b → m61 x = m7 x := fun x hx => by rw [zb_u3 e61 hx]; exact f53 x hx
  rw [f61 136 (by omega), k5]
  refine ⟨ib, fun m69 e69 => ?_⟩
  have f69 : ∀ x, x ≠ b → m69 x = m7 x := fun x hx => by rw [zb_u3 e69 hx]; exact f61 x hx
  have hG69 : zb_Gc m69 c b N o := ⟨by rw [f69 136 (by omega)]; exact k4, by rw [f69 136 (by omega)]; exact k5, zb_CS_same hs (fun x x0 x1 => by rw [f69 x (by omega)]; exact f7 x (by omega))⟩
  have hR69 : zb_Rp m69 b N o zb_W0w := by
    refine ⟨?_, ?_, ?_, ?_, fun z => absurd rfl z⟩
    · rw [zb_u2 e69 (by omega), zb_u2 e61 (by omega), zb_u2 e53 (by omega), zb_u1 e21]
    · rw [zb_u2 e69 (by omega), zb_u2 e61 (by omega), zb_u1 e53]; rfl
    · rw [zb_u2 e69 (by omega), zb_u1 e61]; rfl
    · rw [zb_u1 e69]; rfl
  refine (s_X8_findTwins (d := d + 16) hA hG69 hN).mono (fun _ m73 ⟨t1, t2⟩ => ?_)
  have hG73 : zb_Gc m73 c b N o := zb_Gc_same hG69 (t2 136 (by omega)) (fun x x0 x1 => t2 x (by omega))
  obtain ⟨eL, iL⟩ := zb_levels (show (0 : Int) ≤ 0 by omega) (show (0 : Int) < 13 by omega)
  rw [hG73.1, zb_v_136_0, zb_v_136_1, eL]
  refine ⟨ic, (s_X7_begin (d := d + 15) iL ic (by omega) (by omega) (by omega) hG73.2.2 hN).mono (fun _ m90 ⟨b1, b2⟩ => ?_)⟩
  have hg := zb_beg_gd N
  have hk0 := hg.2.2.1
  have gw := zb_Gw_all (o := o) hA hN 13 (d + 2) 0 0 (by omega) (by omega) (by omega) (by omega) 13 (zb_beg N) zb_W0w m90 hk0 (by omega) (zb_Gc_same hG73 (b2 136 (by omega) (by omega)) (fun x x0 x1 => b2 x (by omega) (by omega))) (fun x y x0 x1 y0 y1 => by rw [b2 190 (by omega) (by omega)]; exact t1 x y x0 x1 y0 y1) b1 hg ⟨Int.le_refl _, by show (0 : Int) ≤ 3000; omega⟩ ⟨Int.le_refl _, by show (0 : Int) ≤ 13 * 0 + 0; omega⟩ (zb_Rp_same (zb_Rp_same hR69 (fun x _ _ => t2 x (by omega))) (fun x _ _ => b2 x (by omega) (by omega)))
  rw [show 13 + (d + 2) + 4 = d + 19 by omega] at gw
  refine gw.mono (fun _ m95 ⟨g1, g2, g3⟩ => ?_)
  have e5 : m95 136 5 = b := by rw [g3 136 (by omega) (by omega) (by omega) (by omega), b2 136 (by omega) (by omega)]; exact hG73.2.1
  have fall : ∀ x, (x < 132 ∨ 191 < x) → (x < b ∨ b + 2 < x) → m95 x = m x := fun x x1 x2 => by rw [g3 x (by omega) (by omega) x2 (by omega), b2 x (by omega) (by omega), t2 x (by omega), f69 x (by omega)]; exact f7 x (by omega)
  rw [e5]
  refine ⟨ib, ?_⟩
  have g1 : ((zb_nmW N).1 ≤ 3000 ∧ zb_Rp m95 b N o (zb_nmW N)) ∨ (3000 < (zb_nmW N).1 ∧ m95 b 3 = 3001) := g1
  rcases g1 with ⟨q1, q2⟩ | ⟨q1, q2⟩
  · obtain ⟨p1, p2, p3, p4, p5⟩ := q2
    have hpos := (zb_nmW_ok hN).2.2
    obtain ⟨p6, p7⟩ := p5 (by omega)
    rw [p3]
    refine ⟨fun z => by omega, fun _ m120 e120 => ?_⟩
    have k1 : m120 136 5 = b := by rw [zb_u3 e120 (by omega)]; exact e5
    rw [k1, zb_u1 e120]
    refine ⟨ib, Or.inr rfl, Or.inl ⟨rfl, q1, zb_u1 e120, by rw [zb_u2 e120 (by omega)]; exact p1, by rw [zb_u2 e120 (by omega)]; exact p2, by rw [zb_u2 e120 (by omega)]; exact p3, by rw [zb_u2 e120 (by omega)]; exact p4, by rw [zb_u3 e120 (by omega)]; exact p6, fun i i0 i1 => by rw [zb_u3 e120 (by omega)]; exact p7 i i0 i1⟩, fun x x1 x2 => by rw [zb_u3 e120 (by omega)]; exact fall x x1 x2⟩
  · rw [q2]
    refine ⟨fun _ m120 e120 => ?_, fun z => absurd (show (3000 : Int) < 3001 by omega) z⟩
    have k1 : m120 136 5 = b := by rw [zb_u3 e120 (by omega)]; exact e5
    rw [k1, zb_u1 e120]
    exact ⟨ib, Or.inl rfl, Or.inr ⟨rfl, q1, zb_u1 e120⟩, fun x x1 x2 => by rw [zb_u3 e120 (by omega)]; exact fall x x1 x2⟩
