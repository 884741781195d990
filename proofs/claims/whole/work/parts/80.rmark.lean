/-! ===== the reference splits, marks ===== -/
/-- the reference's sights part as the class's -/
theorem zb_rank_rr {N : zb_N} (hN : zb_ON N) {p : zb_Pt} (hg : zb_gp N.1 p) : zb_rank N.1 (fun _ => 0) (fun x => zb_P 16 (zb_rr N p.1 p.2 x) (18 * p.2 + 1).toNat) = zb_step N p := by
  obtain ⟨⟨a1, a2, a3⟩, b, c⟩ := zb_rank_ok N.1 p.1 (zb_Kv N p.1 p.2)
  refine zb_rank_same (p := zb_step N p) ⟨a1, a2, fun x y x0 x1 y0 y1 => ?_⟩ b c
  rw [zb_lt0, zb_rr_lt hN hg.2.2.1 x0 x1 y0 y1]
  exact a3 x y x0 x1 y0 y1
theorem s_X12_splitIn {d : Nat} {m : zb_M} {lv : Int} {N : zb_N} {p : zb_Pt} (l0 : 0 ≤ lv) (l1 : lv < 15) (hN : zb_ON N) (h : zb_RL m N) (hp : zb_RP m lv N.1 p) (hg : zb_gp N.1 p) : zb_T K_X12_splitIn (d + 3) [(2, 500), (0, lv)] zb_E0 m (fun _ m1 => zb_RP m1 lv N.1 (zb_stt N p) ∧ zb_frP lv m m1) := by
  apply w_X12_splitIn
  have h0 := hN.1.1
  have hn := hN.1.2
  unfold PM_X12_splitIn PL_X12_splitIn_2
  intro X hX
  have key : ∀ (f : Nat) (q : zb_Pt) (mm : zb_M), 13 ≤ q.2 + f → zb_RP mm lv N.1 q → zb_gp N.1 q → zb_frP lv m mm → zb_stl N f q = zb_stt N p → X 1 mm := by
    intro f
    induction f with
    | zero =>
      intro q mm hf hq hgq hfr hst
      have := zb_gd_le hgq h0
      omega
    | succ f ih =>
      intro q mm hf hq hgq hfr hst
      have hk := zb_gd_le hgq h0
      have k0 := hgq.2.2.1
      have hst : (if q.2 < (zb_step N q).2 then zb_stl N f (zb_step N q) else zb_step N q) = zb_stt N p := hst
      refine hX 1 mm ⟨fun z => by omega, fun _ => ⟨⟨l0, l1⟩, ?_⟩⟩
      unfold PL_X12_splitIn_16
      intro Y hY
      refine zb_lp1 (fun v mn => 0 ≤ v ∧ (∀ x, 0 ≤ x → x < v → ∀ k, 0 ≤ k → k ≤ 18 * q.2 → mn 520 (220 * x + k) = zb_rr N q.1 q.2 x k) ∧ ∀ b, b ≠ 520 → mn b = mm b) N.1 (fun v mn ⟨v0, t1, t2⟩ vn nxt => hY v mn ⟨fun c1 => ?_, fun c1 => ?_⟩) 0 mm h0 ⟨by omega, fun x x0 x1 => by omega, fun b _ => rfl⟩
      · rw [t2 500 (by omega), hfr.1 500 (by omega), h.1] at c1
        have e9 : mm 519 lv = q.2 := hq.1
        unfold PJ_X12_splitIn_38
        rw [zb_v_500_20, e9]
        refine ⟨zb_inI_of (by omega) (by omega), zb_inI_of (by omega) (by omega), (s_X12_gather (n := N.1) (K := fun x => zb_P 16 (zb_rr N q.1 q.2 x) (18 * q.2 + 1).toNat) (R := zb_rr N q.1 q.2) (B := 16) l0 l1 (by rw [t2 500 (by omega), hfr.1 500 (by omega)]; exact h.1) h0 hn (by omega) (by omega) (fun x x0 x1 k k0 k1 => t1 x x0 (by omega) k k0 (by omega)) (fun x k x0 x1 k0 k1 => ?_) (fun x _ _ => rfl)).mono (fun _ m46 ⟨g1, g2, g3⟩ => ?_)⟩
        · unfold zb_rr
          by_cases w : k = 0
          · rw [if_pos w]; have := hgq.1 x x0 x1; omega
          · rw [if_neg w]; have := zb_ct_rng hN q.1 q.2 x (k - 1); omega
        · rw [zb_rank_rr hN hgq] at g1
          have hf46 : zb_frP lv m m46 := hfr.tr (zb_frP.tr ⟨fun b hb => t2 b (by omega), fun j _ => by rw [t2 518 (by omega)], fun j _ => by rw [t2 519 (by omega)]⟩ g2)
          rw [g1.1]
          refine ⟨fun c2 => hX 0 m46 ⟨fun _ => ⟨?_, hf46⟩, fun z => absurd rfl z⟩, fun c2 => ih (zb_step N q) m46 (by omega) g1 (zb_step_gd N q) hf46 ?_⟩
          · rw [if_neg (by omega)] at hst; rw [← hst]; exact g1
          · rw [if_pos (by omega)] at hst; exact hst
      · rw [t2 500 (by omega), hfr.1 500 (by omega), h.1] at c1
        have hRN : zb_RL mn N := zb_RL_same (zb_RL_frP h hfr) (by rw [t2 500 (by omega)]) (t2 517 (by omega))
        have hRP : zb_RP mn lv N.1 q := ⟨by rw [t2 519 (by omega)]; exact hq.1, fun x x0 x1 => by rw [t2 518 (by omega)]; exact hq.2 x x0 x1⟩
        refine (s_X12_see l0 l1 hN hRN hRP hgq v0 (by omega)).mono (fun _ m29 ⟨s1, s2, s3⟩ => ⟨zb_inI_of (by omega) (by omega), nxt (by omega) m29 ⟨by omega, fun x x0 x1 k k0 k1 => ?_, fun b hb => by rw [s3 b hb]; exact t2 b hb⟩⟩)
        by_cases w : x = v
        · rw [w]; exact s1 k k0 k1
        · rw [s2 (220 * x + k) (by omega)]; exact t1 x x0 (by omega) k k0 k1
  exact key 13 p m (by have := hg.2.2.1; omega) hp hg (zb_frP.rf lv m) rfl
theorem s_X12_isAlone {d : Nat} {m : zb_M} {lv x : Int} {N : zb_N} {p : zb_Pt} (l0 : 0 ≤ lv) (l1 : lv < 15) (hN : zb_ON N) (h : zb_RL m N) (hp : zb_RP m lv N.1 p) (x0 : 0 ≤ x) (x1 : x < N.1) : zb_Tp K_X12_isAlone (d + 1) [(2, 500), (0, lv), (0, x)] zb_E0 m (fun r => (r = 1 ∧ zb_aln N.1 p x) ∨ (r = 0 ∧ ¬ zb_aln N.1 p x)) := by
  apply w_X12_isAlone
  have hn := hN.1.2
  unfold PM_X12_isAlone PL_X12_isAlone_5
  rw [h.1, zb_v_500_19, hp.2 x x0 x1]
  intro X hX
  refine zb_lq (fun c v => 0 ≤ v ∧ ((c = 1 ∧ ∀ y, 0 ≤ y → y < v → p.1 y = p.1 x → y = x) ∨ (c = 0 ∧ ¬ zb_aln N.1 p x))) N.1 (fun c v ⟨v0, hc⟩ vn nxt => hX c v ⟨fun c1 => ⟨?_, ?_⟩, fun c1 => ⟨fun c2 => ⟨zb_inI_of (by omega) (by omega), nxt (by omega) 0 ⟨by omega, ?_⟩⟩, fun c2 => ⟨fun c3 => ⟨zb_inI_of (by omega) (by omega), nxt (by omega) 1 ⟨by omega, ?_⟩⟩, fun c3 => ⟨zb_inI_of (by omega) (by omega), zb_inI_of (by omega) (by omega), ⟨by omega, by omega⟩, zb_inI_of (by omega) (by omega), ⟨by omega, by omega⟩, ?_⟩⟩⟩⟩) 1 0 hN.1.1 ⟨by omega, Or.inl ⟨rfl, fun y y0 y1 => by omega⟩⟩
  · rcases hc with ⟨c2, -⟩ | ⟨c2, -⟩
    · exact Or.inr c2
    · exact Or.inl c2
  · rcases hc with ⟨c2, c3⟩ | ⟨c2, c3⟩
    · exact Or.inl ⟨c2, fun y y0 y1 e => c3 y y0 (by omega) e⟩
    · exact Or.inr ⟨c2, c3⟩
  · rcases hc with ⟨c3, -⟩ | ⟨c3, c4⟩
    · omega
    · exact Or.inr ⟨rfl, c4⟩
  · rcases hc with ⟨c4, c5⟩ | ⟨c4, c5⟩
    · refine Or.inl ⟨rfl, fun y y0 y1 e => ?_⟩
      by_cases q : y = v
      · omega
      · exact c5 y y0 (by omega) e
    · omega
  · rw [hp.2 v v0 (by omega)]
    refine ⟨fun c4 => ⟨zb_inI_of (by omega) (by omega), nxt (by omega) 0 ⟨by omega, Or.inr ⟨rfl, fun z => c3 (z v v0 (by omega) c4)⟩⟩⟩, fun c4 => ⟨zb_inI_of (by omega) (by omega), nxt (by omega) 1 ⟨by omega, ?_⟩⟩⟩
    rcases hc with ⟨c5, c6⟩ | ⟨c5, c6⟩
    · refine Or.inl ⟨rfl, fun y y0 y1 e => ?_⟩
      by_cases q : y = v
      · rw [q] at e; exact absurd e c4
      · exact c6 y y0 (by omega) e
    · omega
theorem s_X12_markIn {d : Nat} {m : zb_M} {lv x : Int} {N : zb_N} {p : zb_Pt} (l0 : 0 ≤ lv) (l1 : lv < 15) (hN : zb_ON N) (h : zb_RL m N) (hp : zb_RP m lv N.1 p) (hg : zb_gp N.1 p) (x0 : 0 ≤ x) (x1 : x < N.1) : zb_T K_X12_markIn (d + 4) [(2, 500), (0, lv), (0, x)] zb_E0 m (fun _ m1 => zb_RP m1 lv N.1 (zb_chd N p x) ∧ zb_frP lv m m1) := by
  apply w_X12_markIn
  have hn := hN.1.2
  have hk := zb_gd_le hg hN.1.1
  have hx := hg.1 x x0 x1
  unfold PM_X12_markIn
  refine (s_X12_isAlone l0 l1 hN h hp x0 x1).mono (fun r hr => ?_)
  have hg2 := zb_mrk_gd hg x0 x1
  rcases hr with ⟨r1, r2⟩ | ⟨r1, r2⟩
  · refine ⟨fun z => by omega, fun _ => ?_⟩
    have : zb_chd N p x = zb_stt N p := by unfold zb_chd; rw [zb_mrk_a r2]
    rw [this]
    exact s_X12_splitIn l0 l1 hN h hp hg
  refine ⟨fun _ => ⟨zb_inI_of (by omega) (by omega), zb_inI_of (by omega) (by omega), ⟨by omega, by omega⟩, ?_⟩, fun z => absurd r1 z⟩
  have echd : zb_chd N p x = zb_stt N (zb_mk0 N.1 p x) := by unfold zb_chd; rw [zb_mrk_n r2]
  rw [zb_mrk_n r2] at hg2
  unfold PL_X12_markIn_24
  rw [zb_v_500_19, hp.2 x x0 x1]
  intro X hX
  refine zb_lp1 (fun v mm => 0 ≤ v ∧ (∀ y, 0 ≤ y → y < N.1 → mm 518 (12 * lv + y) = if y < v then (zb_mk0 N.1 p x).1 y else p.1 y) ∧ (∀ j, (j < 12 * lv ∨ 12 * lv + 12 ≤ j) → mm 518 j = m 518 j) ∧ ∀ b, b ≠ 518 → mm b = m b) N.1 (fun v mm ⟨v0, t1, t2, t3⟩ vn nxt => hX v mm ⟨fun c1 => ?_, fun c1 => ⟨zb_inI_of (by omega) (by omega), ?_⟩⟩) 0 m hN.1.1 ⟨by omega, fun y y0 y1 => by rw [if_neg (by omega)]; exact hp.2 y y0 y1, fun j _ => rfl, fun b _ => rfl⟩
  · rw [t3 500 (by omega), h.1] at c1
    unfold PJ_X12_markIn_81
    rw [zb_v_500_20, t3 519 (by omega), hp.1]
    have k0 := hg.2.2.1
    refine ⟨⟨l0, l1⟩, zb_inI_of (by omega) (by omega), fun m90 e90 => ?_⟩
    have hRN : zb_RL m90 N := zb_RL_same h (by rw [zb_u3 e90 (by omega), t3 500 (by omega)]) (by rw [zb_u3 e90 (by omega), t3 517 (by omega)])
    have hRP : zb_RP m90 lv N.1 (zb_mk0 N.1 p x) := ⟨zb_u1 e90, fun y y0 y1 => by rw [zb_u3 e90 (by omega), t1 y y0 y1, if_pos (by omega)]⟩
    have hf : zb_frP lv m m90 := ⟨fun b hb => by rw [zb_u3 e90 (by omega)]; exact t3 b (by omega), fun j hj => by rw [zb_u3 e90 (by omega)]; exact t2 j hj, fun j hj => by rw [zb_u2 e90 (by omega), t3 519 (by omega)]⟩
    rw [echd]
    exact (s_X12_splitIn l0 l1 hN hRN hRP hg2).mono (fun _ m93 ⟨f1, f2⟩ => ⟨f1, hf.tr f2⟩)
  · rw [t3 500 (by omega), h.1] at c1
    have hv1 : v < N.1 := by omega
    have ev : mm 518 (12 * lv + v) = p.1 v := by rw [t1 v v0 hv1, if_neg (by omega)]
    have hv := hg.1 v v0 hv1
    have e0 := zb_mk0_at (p := p) (x := x) v0 hv1
    rw [ev]
    have up : ∀ (w : Int) (m1 : zb_M), w = (zb_mk0 N.1 p x).1 v → m1 = zb_up mm 518 (12 * lv + v) w → zb_inI (v + 1) ∧ X (v + 1) m1 := fun w m1 hw e1 => ⟨zb_inI_of (by omega) (by omega), nxt (by omega) m1 ⟨by omega, fun y y0 y1 => by
      by_cases q : y = v
      · rw [q, zb_u1 e1, if_pos (by omega)]; exact hw
      · rw [zb_u2 e1 (by omega), t1 y y0 y1]
        by_cases q2 : y < v
        · rw [if_pos q2, if_pos (by omega)]
        · rw [if_neg q2, if_neg (by omega)], fun j hj => by rw [zb_u2 e1 (by omega)]; exact t2 j hj, fun b hb => by rw [zb_u3 e1 hb]; exact t3 b hb⟩⟩
    refine ⟨⟨by omega, by omega⟩, fun q => ⟨zb_inI_of (by omega) (by omega), fun m74 e74 => up _ m74 ?_ e74⟩, fun q => ⟨fun q2 => ⟨zb_inI_of (by omega) (by omega), fun m74 e74 => up _ m74 ?_ e74⟩, fun q2 => ⟨zb_inI_of (by omega) (by omega), fun m74 e74 => up _ m74 ?_ e74⟩⟩⟩
    · rw [e0, if_neg (fun z => z.1 q)]; omega
    · rw [e0, if_neg (by omega)]; omega
    · rw [e0, if_pos ⟨q, by omega⟩]
/-! ===== the parting at hand ===== -/
/-- the parting at hand: the net, which things, the heaps -/
abbrev zb_Hp : Type := Option (zb_N × (Int → Int) × zb_Pt)
def zb_OH : zb_Hp → Prop
  | none => True
  | some q => zb_ON q.1 ∧ zb_asc q.1.1 12 q.2.1 ∧ zb_gp q.1.1 q.2.2
def zb_CH (m : zb_M) : zb_Hp → Prop
  | none => m 1 7 = 0
  | some q => m 1 7 = 1 ∧ zb_CS m 384 q.1 q.2.1 ∧ zb_CP m 390 q.1.1 q.2.2
def zb_RH (m : zb_M) : zb_Hp → Prop
  | none => m 500 23 = 0
  | some q => m 500 23 = 1 ∧ m 500 24 = q.1.1 ∧ (∀ x, 0 ≤ x → x < q.1.1 → m 522 x = q.2.1 x) ∧ (∀ x y, 0 ≤ x → x < q.1.1 → 0 ≤ y → y < q.1.1 → m 523 (12 * x + y) = q.1.2.2 x y) ∧ zb_RP m 13 q.1.1 q.2.2
noncomputable def v_split (s : zb_Gs) (H : zb_Hp) (g : Int) : Int × zb_Hp := if 0 ≤ g ∧ g < 8 then ((zb_beg (zb_shN (s.1 g))).2, some (zb_shN (s.1 g), zb_sha (s.1 g), zb_beg (zb_shN (s.1 g)))) else (-1, H)
noncomputable def v_mark (H : zb_Hp) (i : Int) : Int × zb_Hp := match H with
  | none => (-2, none)
  | some q => if 0 ≤ zb_ix q.2.1 i q.1.1.toNat then ((zb_chd q.1 q.2.2 (zb_ix q.2.1 i q.1.1.toNat)).2, some (q.1, q.2.1, zb_chd q.1 q.2.2 (zb_ix q.2.1 i q.1.1.toNat))) else (-1, some q)
theorem v_mark_some (q : zb_N × (Int → Int) × zb_Pt) (i : Int) : v_mark (some q) i = if 0 ≤ zb_ix q.2.1 i q.1.1.toNat then ((zb_chd q.1 q.2.2 (zb_ix q.2.1 i q.1.1.toNat)).2, some (q.1, q.2.1, zb_chd q.1 q.2.2 (zb_ix q.2.1 i q.1.1.toNat))) else (-1, some q) := rfl
def v_heapOf (H : zb_Hp) (i : Int) : Int := match H with
  | none => -2
  | some q => if 0 ≤ zb_ix q.2.1 i q.1.1.toNat then q.2.2.1 (zb_ix q.2.1 i q.1.1.toNat) else -1
theorem zb_asc_up {n k l : Int} {o : Int → Int} (h : zb_asc n k o) (kl : k ≤ l) : zb_asc n l o := ⟨fun x x0 x1 => by have := h.1 x x0 x1; omega, h.2⟩
theorem zb_ix_of {q : zb_N × (Int → Int) × zb_Pt} (hq : zb_OH (some q)) {i r : Int} (h : zb_isx q.1.1 q.2.1 i r) : r = zb_ix q.2.1 i q.1.1.toNat := by
  have := zb_ix_is q.2.1 i q.1.1.toNat
  rw [show ((q.1.1.toNat : Nat) : Int) = q.1.1 by have := hq.1.1.1; omega] at this
  exact zb_isx_eq hq.2.1 h this
theorem zb_ix_rng {n k : Int} {o : Int → Int} {i r : Int} (h : zb_isx n o i r) (r0 : 0 ≤ r) : r < n ∧ o r = i := by
  rcases h with ⟨h1, -⟩ | ⟨-, h2, h3⟩
  · omega
  · exact ⟨h2, h3⟩
theorem v_split_ok {s : zb_Gs} {H : zb_Hp} {g : Int} (hO : zb_OG s) (hH : zb_OH H) : zb_OH (v_split s H g).2 := by
  unfold v_split
  by_cases q : 0 ≤ g ∧ g < 8
  · rw [if_pos q]
    have hG := hO.1 g q.1 q.2
    exact ⟨zb_shN_ok hG, zb_asc_up (zb_sha_asc hG) hG.2.1, zb_beg_gd _⟩
  · rw [if_neg q]; exact hH
theorem v_mark_ok {H : zb_Hp} {i : Int} (hH : zb_OH H) : zb_OH (v_mark H i).2 := by
  match H, hH with
  | none, _ => trivial
  | some q, hH =>
    rw [v_mark_some]
    by_cases c : 0 ≤ zb_ix q.2.1 i q.1.1.toNat
    · rw [if_pos c]
      have hx := zb_ix_is q.2.1 i q.1.1.toNat
      rw [show ((q.1.1.toNat : Nat) : Int) = q.1.1 by have := hH.1.1.1; omega] at hx
      exact ⟨hH.1, hH.2.1, zb_chd_gd hH.2.2 c (zb_ix_rng (k := 0) hx c).1⟩
    · rw [if_neg c]; exact hH
/-- what split and mark leave: the class -/
def zb_frH (m m1 : zb_M) : Prop := (∀ b, b ≠ 1 → ¬ (132 ≤ b ∧ b ≤ 135) → ¬ (384 ≤ b ∧ b ≤ 393) → m1 b = m b) ∧ ∀ j, j ≠ 7 → m1 1 j = m 1 j
theorem s_X11_split {d : Nat} {m : zb_M} {s : zb_Gs} {H : zb_Hp} {g : Int} (hC : zb_CG m s) (hO : zb_OG s) (hH : zb_CH m H) : zb_T K_X11_split (d + 6) [(2, 1), (0, g)] zb_E0 m (fun r m1 => r = (v_split s H g).1 ∧ zb_CH m1 (v_split s H g).2 ∧ zb_frH m m1) := by
  apply w_X11_split
  unfold PM_X11_split v_split
  refine s_X11_isGraph.mono (fun r h => ?_)
  rcases zb_if1 h with ⟨h1, h2⟩ | ⟨h1, h2⟩
  · refine ⟨fun _ => ?_, fun z => absurd h1 z⟩
    rw [if_neg h2]
    exact ⟨rfl, hH, fun _ _ _ _ => rfl, fun _ _ => rfl⟩
  refine ⟨fun z => by omega, fun _ => ⟨h2, ?_⟩⟩
  rw [if_pos h2]
  obtain ⟨g0, g1⟩ := h2
  have hG := hO.1 g g0 g1
  obtain ⟨en, isn⟩ := zb_nets g0 g1
  rw [zb_v_1_0, en, zb_v_1_3, zb_v_1_8, zb_v_1_9]
  refine (s_X6_take zb_i_384 isn (by omega) (hC.1 g g0 g1) hG).mono (fun _ m19 ⟨t1, t2⟩ => ?_)
  refine (s_X7_begin zb_i_390 zb_i_384 (by omega) (by omega) (by omega) t1 (zb_shN_ok hG)).mono (fun _ m34 ⟨b1, b2⟩ m39 e39 => ?_)
  have c1 : zb_CP m39 390 (zb_shN (s.1 g)).1 (zb_beg (zb_shN (s.1 g))) := zb_CP_same b1 (fun b b0 b1 => zb_u3 e39 (by omega))
  refine ⟨c1.2.1, ⟨zb_u1 e39, zb_CS_same t1 (fun b b0 b1 => by rw [zb_u3 e39 (by omega)]; exact b2 b (by omega) (by omega)), c1⟩, fun b q1 q2 q3 => ?_, fun j hj => ?_⟩
  · rw [zb_u3 e39 q1, b2 b (by omega) (by omega), t2 b (by omega)]
  · rw [zb_u2 e39 (by omega), b2 1 (by omega) (by omega), t2 1 (by omega)]
theorem s_X11_mark {d : Nat} {m : zb_M} {H : zb_Hp} {i : Int} (hH : zb_CH m H) (hO : zb_OH H) : zb_T K_X11_mark (d + 6) [(2, 1), (0, i)] zb_E0 m (fun r m1 => r = (v_mark H i).1 ∧ zb_CH m1 (v_mark H i).2 ∧ zb_frH m m1) := by
  apply w_X11_mark
  unfold PM_X11_mark
  match H, hH, hO with
  | none, hH, _ =>
    exact ⟨fun _ => ⟨rfl, hH, fun _ _ _ _ => rfl, fun _ _ => rfl⟩, fun z => absurd hH z⟩
  | some q, hH, hO =>
    obtain ⟨h1, h2, h3⟩ := hH
    refine ⟨fun z => by omega, fun _ => ?_⟩
    rw [zb_v_1_8, zb_v_1_9, zb_v_1_3]
    refine (s_X6_indexOf zb_i_384 h2 hO.2.1).mono (fun r hr => ?_)
    have er := zb_ix_of hO hr
    simp only [v_mark_some]
    rw [← er]
    refine ⟨fun c => ?_, fun c => ?_⟩
    · rw [if_pos c]
      have hr2 := (zb_ix_rng (k := 0) hr c).1
      refine (s_X5_setApart zb_i_390 h3 hO.2.2 hO.1.1.2 c hr2).mono (fun _ m30 ⟨a1, a2⟩ => ?_)
      refine (s_X7_settle zb_i_390 zb_i_384 (by omega) (by omega) (by omega) a1 (zb_mrk_gd hO.2.2 c hr2) (zb_CS_same h2 (fun b b0 b1 => a2 b (by omega))) hO.1).mono (fun _ m45 ⟨b1, b2⟩ => ?_)
      refine ⟨b1.2.1, ⟨by rw [b2 1 (by omega) (by omega), a2 1 (by omega)]; exact h1, zb_CS_same h2 (fun b b0 b1 => by rw [b2 b (by omega) (by omega)]; exact a2 b (by omega)), b1⟩, fun b q1 q2 q3 => ?_, fun j hj => ?_⟩
      · rw [b2 b (by omega) (by omega), a2 b (by omega)]
      · rw [b2 1 (by omega) (by omega), a2 1 (by omega)]
    · rw [if_neg c]
      exact ⟨rfl, ⟨h1, h2, h3⟩, fun _ _ _ _ => rfl, fun _ _ => rfl⟩
theorem s_X11_heapOf {d : Nat} {m : zb_M} {H : zb_Hp} {i : Int} (hH : zb_CH m H) (hO : zb_OH H) : zb_Tp K_X11_heapOf (d + 3) [(2, 1), (0, i)] zb_E0 m (fun r => r = v_heapOf H i) := by
  apply w_X11_heapOf
  unfold PM_X11_heapOf
  match H, hH, hO with
  | none, hH, _ => exact ⟨fun _ => rfl, fun z => absurd hH z⟩
  | some q, hH, hO =>
    obtain ⟨h1, h2, h3⟩ := hH
    have hn := hO.1.1.2
    refine ⟨fun z => by omega, fun _ => ?_⟩
    rw [zb_v_1_8, zb_v_1_9, (zb_part zb_i_390).1]
    refine (s_X6_indexOf zb_i_384 h2 hO.2.1).mono (fun r hr => ?_)
    have er := zb_ix_of hO hr
    show (0 ≤ r → _ ∧ _ = (if 0 ≤ zb_ix q.2.1 i q.1.1.toNat then q.2.2.1 (zb_ix q.2.1 i q.1.1.toNat) else -1)) ∧ (¬ 0 ≤ r → -1 = (if 0 ≤ zb_ix q.2.1 i q.1.1.toNat then q.2.2.1 (zb_ix q.2.1 i q.1.1.toNat) else -1))
    rw [← er]
    refine ⟨fun c => ?_, fun c => by rw [if_neg c]⟩
    have hr2 := (zb_ix_rng (k := 0) hr c).1
    rw [if_pos c]
    exact ⟨⟨c, by omega⟩, h3.2.2.1 r c hr2⟩
/-- what split and mark leave: the reference -/
def zb_frI (m m1 : zb_M) : Prop := (∀ b, b ≠ 500 → ¬ (515 ≤ b ∧ b ≤ 523) → m1 b = m b) ∧ (∀ j, j ≠ 15 → j ≠ 23 → j ≠ 24 → m1 500 j = m 500 j)
theorem s_X12_split {d : Nat} {m : zb_M} {s : zb_Gs} {H : zb_Hp} {g : Int} (hC : zb_RG m s) (hO : zb_OG s) (hH : zb_RH m H) : zb_T K_X12_split (d + 6) [(2, 500), (0, g)] zb_E0 m (fun r m1 => r = (v_split s H g).1 ∧ zb_RH m1 (v_split s H g).2 ∧ zb_frI m m1) := by
  apply w_X12_split
  unfold PM_X12_split v_split
  refine s_X12_isGraph.mono (fun r h => ?_)
  rcases zb_if1 h with ⟨h1, h2⟩ | ⟨h1, h2⟩
  · refine ⟨fun _ => ?_, fun z => absurd h1 z⟩
    rw [if_neg h2]
    exact ⟨rfl, hH, fun _ _ _ => rfl, fun _ _ _ _ => rfl⟩
  refine ⟨fun z => by omega, fun _ => ?_⟩
  rw [if_pos h2]
  obtain ⟨g0, g1⟩ := h2
  have hG := hO.1 g g0 g1
  have hN := zb_shN_ok hG
  have hn := hN.1.2
  refine (s_X12_layOut hC hO g0 g1).mono (fun _ m12 ⟨⟨l1, l2⟩, l3, l4⟩ => ?_)
  refine (s_X12_start (by omega) (by omega) hN l1).mono (fun _ m18 ⟨p1, p2⟩ => ?_)
  refine (s_X12_splitIn (by omega) (by omega) hN (zb_RL_frP (zb_RN_L l1) p2) p1 (zb_rank_gd _ _ _)).mono (fun _ m24 ⟨q1, q2⟩ m29 e29 m37 e37 => ?_)
  have q1 : zb_RP m24 13 (zb_shN (s.1 g)).1 (zb_beg (zb_shN (s.1 g))) := q1
  have f := p2.tr q2
  have e15 : m29 500 15 = (zb_shN (s.1 g)).1 := by rw [zb_u2 e29 (by omega), f.1 500 (by omega)]; exact l1.1
  rw [e15] at e37
  have e37c : ∀ b, b ≠ 500 → m37 b = m24 b := fun b hb => by rw [zb_u3 e37 hb, zb_u3 e29 hb]
  have e15b : m37 500 15 = (zb_shN (s.1 g)).1 := by rw [zb_u2 e37 (by omega)]; exact e15
  unfold PL_X12_split_42
  rw [zb_v_500_16, zb_v_500_25]
  intro X hX
  refine zb_lp1 (fun v mm => 0 ≤ v ∧ (∀ x, 0 ≤ x → x < v → mm 522 x = zb_sha (s.1 g) x) ∧ ∀ b, b ≠ 522 → mm b = m37 b) (zb_shN (s.1 g)).1 (fun v mm ⟨v0, t1, t2⟩ vn nxt => hX v mm ⟨fun c1 => ?_, fun c1 => ?_⟩) 0 m37 hN.1.1 ⟨by omega, fun x x0 x1 => by omega, fun b _ => rfl⟩
  · rw [t2 500 (by omega), e15b] at c1
    unfold PJ_X12_split_68 PL_X12_split_70
    rw [zb_v_500_18, zb_v_500_26]
    intro Y hY
    refine zb_lp1 (fun k mn => 0 ≤ k ∧ (∀ x, 0 ≤ x → x < k → mn 523 x = m37 517 x) ∧ ∀ b, b ≠ 523 → mn b = mm b) 144 (fun k mn ⟨k0, u1, u2⟩ kn nx2 => hY k mn ⟨fun c2 => ?_, fun c2 => ⟨⟨k0, by omega⟩, fun m88 e88 => ⟨zb_inI_of (by omega) (by omega), nx2 (by omega) m88 ⟨by omega, fun x x0 x1 => ?_, fun b hb => by rw [zb_u3 e88 hb]; exact u2 b hb⟩⟩⟩⟩) 0 mm (by omega) ⟨by omega, fun x x0 x1 => by omega, fun b _ => rfl⟩
    · unfold PJ_X12_split_95
      rw [zb_v_500_20]
      have g9 : mn 519 = m24 519 := by rw [u2 519 (by omega), t2 519 (by omega)]; exact e37c 519 (by omega)
      have g8 : mn 518 = m24 518 := by rw [u2 518 (by omega), t2 518 (by omega)]; exact e37c 518 (by omega)
      have g17 : m37 517 = m12 517 := by rw [e37c 517 (by omega)]; exact f.1 517 (by omega)
      refine ⟨by rw [g9]; exact q1.1, ⟨?_, ?_, fun x x0 x1 => ?_, fun x y x0 x1 y0 y1 => ?_, by rw [g9]; exact q1.1, fun x x0 x1 => by rw [g8]; exact q1.2 x x0 x1⟩, fun b b1 b2 => ?_, fun j j1 j2 j3 => ?_⟩
      · rw [u2 500 (by omega), t2 500 (by omega), zb_u2 e37 (by omega), zb_u1 e29]
      · rw [u2 500 (by omega), t2 500 (by omega), zb_u1 e37]
      · rw [u2 522 (by omega)]; exact t1 x x0 (by have x1 : x < (zb_shN (s.1 g)).1 := x1; omega)
      · have x1 : x < (zb_shN (s.1 g)).1 := x1
        have y1 : y < (zb_shN (s.1 g)).1 := y1
        rw [u1 (12 * x + y) (by omega) (by omega), g17]
        exact l1.2.2 x y x0 x1 y0 y1
      · rw [u2 b (by omega), t2 b (by omega), e37c b b1, f.1 b (by omega), l3 b (by omega)]
      · rw [u2 500 (by omega), t2 500 (by omega), zb_u2 e37 (by omega), zb_u2 e29 (by omega), f.1 500 (by omega), l4 j j1]
    · have e : mn 517 k = m37 517 k := by rw [u2 517 (by omega), t2 517 (by omega)]
      by_cases q : x = k
      · rw [q, zb_u1 e88, e]
      · rw [zb_u2 e88 (by omega)]; exact u1 x x0 (by omega)
  · rw [t2 500 (by omega), e15b] at c1
    refine ⟨⟨v0, by omega⟩, fun m61 e61 => ⟨zb_inI_of (by omega) (by omega), nxt (by omega) m61 ⟨by omega, fun x x0 x1 => ?_, fun b hb => by rw [zb_u3 e61 hb]; exact t2 b hb⟩⟩⟩
    by_cases q : x = v
    · rw [q, zb_u1 e61, t2 515 (by omega), e37c 515 (by omega), f.1 515 (by omega)]
      exact l2 v v0 (by have : (zb_shN (s.1 g)).1 = zb_shn (s.1 g) := rfl; omega)
    · rw [zb_u2 e61 (by omega)]; exact t1 x x0 (by omega)
theorem s_X12_mark {d : Nat} {m : zb_M} {H : zb_Hp} {i : Int} (hH : zb_RH m H) (hO : zb_OH H) : zb_T K_X12_mark (d + 6) [(2, 500), (0, i)] zb_E0 m (fun r m1 => r = (v_mark H i).1 ∧ zb_RH m1 (v_mark H i).2 ∧ zb_frI m m1) := by
  apply w_X12_mark
  unfold PM_X12_mark
  match H, hH, hO with
  | none, hH, _ =>
    exact ⟨fun _ => ⟨rfl, hH, fun _ _ _ => rfl, fun _ _ _ _ => rfl⟩, fun z => absurd hH z⟩
  | some q, hH, hO =>
    obtain ⟨h1, h2, h3, h4, h5⟩ := hH
    have hn := hO.1.1.2
    refine ⟨fun z => by omega, fun _ => ?_⟩
    refine (s_X12_handOf h2 hn hO.1.1.1 h3).mono (fun r hr => ?_)
    have er := zb_ix_of hO hr
    simp only [v_mark_some]
    rw [← er]
    refine ⟨fun c m27 e27 => ?_, fun c => ?_⟩
    · rw [if_pos c]
      have hr2 := (zb_ix_rng (k := 0) hr c).1
      unfold PL_X12_mark_32
      rw [zb_v_500_18, zb_v_500_26]
      intro Y hY
      refine zb_lp1 (fun k mn => 0 ≤ k ∧ (∀ x, 0 ≤ x → x < k → mn 517 x = m 523 x) ∧ ∀ b, b ≠ 517 → mn b = m27 b) 144 (fun k mn ⟨k0, u1, u2⟩ kn nx2 => hY k mn ⟨fun c2 => ?_, fun c2 => ⟨⟨k0, by omega⟩, fun m50 e50 => ⟨zb_inI_of (by omega) (by omega), nx2 (by omega) m50 ⟨by omega, fun x x0 x1 => ?_, fun b hb => by rw [zb_u3 e50 hb]; exact u2 b hb⟩⟩⟩⟩) 0 m27 (by omega) ⟨by omega, fun x x0 x1 => by omega, fun b _ => rfl⟩
      · have hk144 : k = 144 := by omega
        subst hk144
        unfold PJ_X12_mark_57
        rw [zb_v_500_20]
        have hRL : zb_RL mn q.1 := ⟨by rw [u2 500 (by omega), zb_u1 e27]; exact h2, fun x y x0 x1 y0 y1 => by rw [u1 (12 * x + y) (by omega) (by omega)]; exact h4 x y x0 x1 y0 y1⟩
        have hRP : zb_RP mn 13 q.1.1 q.2.2 := ⟨by rw [u2 519 (by omega), zb_u3 e27 (by omega)]; exact h5.1, fun x x0 x1 => by rw [u2 518 (by omega), zb_u3 e27 (by omega)]; exact h5.2 x x0 x1⟩
        refine (s_X12_markIn (by omega) (by omega) hO.1 hRL hRP hO.2.2 c hr2).mono (fun _ m61 ⟨f1, f2⟩ => ?_)
        refine ⟨f1.1, ⟨?_, ?_, fun x x0 x1 => ?_, fun x y x0 x1 y0 y1 => ?_, f1⟩, fun b b1 b2 => ?_, fun j j1 j2 j3 => ?_⟩
        · rw [f2.1 500 (by omega), u2 500 (by omega), zb_u2 e27 (by omega)]; exact h1
        · rw [f2.1 500 (by omega), u2 500 (by omega), zb_u2 e27 (by omega)]; exact h2
        · rw [f2.1 522 (by omega), u2 522 (by omega), zb_u3 e27 (by omega)]; exact h3 x x0 x1
        · rw [f2.1 523 (by omega), u2 523 (by omega), zb_u3 e27 (by omega)]; exact h4 x y x0 x1 y0 y1
        · rw [f2.1 b (by omega), u2 b (by omega), zb_u3 e27 b1]
        · rw [f2.1 500 (by omega), u2 500 (by omega), zb_u2 e27 (by omega)]
      · have e : mn 523 k = m 523 k := by rw [u2 523 (by omega), zb_u3 e27 (by omega)]
        by_cases q : x = k
        · rw [q, zb_u1 e50, e]
        · rw [zb_u2 e50 (by omega)]; exact u1 x x0 (by omega)
    · rw [if_neg c]
      exact ⟨rfl, ⟨h1, h2, h3, h4, h5⟩, fun _ _ _ => rfl, fun _ _ _ _ => rfl⟩
theorem s_X12_heapOf {d : Nat} {m : zb_M} {H : zb_Hp} {i : Int} (hH : zb_RH m H) (hO : zb_OH H) : zb_Tp K_X12_heapOf (d + 3) [(2, 500), (0, i)] zb_E0 m (fun r => r = v_heapOf H i) := by
  apply w_X12_heapOf
  unfold PM_X12_heapOf
  match H, hH, hO with
  | none, hH, _ => exact ⟨fun _ => rfl, fun z => absurd hH z⟩
  | some q, hH, hO =>
    obtain ⟨h1, h2, h3, h4, h5⟩ := hH
    have hn := hO.1.1.2
    refine ⟨fun z => by omega, fun _ => ?_⟩
    rw [zb_v_500_19]
    refine (s_X12_handOf h2 hn hO.1.1.1 h3).mono (fun r hr => ?_)
    have er := zb_ix_of hO hr
    show (0 ≤ r → _ ∧ _ ∧ _ = (if 0 ≤ zb_ix q.2.1 i q.1.1.toNat then q.2.2.1 (zb_ix q.2.1 i q.1.1.toNat) else -1)) ∧ (¬ 0 ≤ r → -1 = (if 0 ≤ zb_ix q.2.1 i q.1.1.toNat then q.2.2.1 (zb_ix q.2.1 i q.1.1.toNat) else -1))
    rw [← er]
    refine ⟨fun c => ?_, fun c => by rw [if_neg c]⟩
    have hr2 := (zb_ix_rng (k := 0) hr c).1
    rw [if_pos c]
    exact ⟨zb_inI_of (by omega) (by omega), ⟨by omega, by omega⟩, h5.2 r c hr2⟩
