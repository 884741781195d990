/-! ===== the reference walks the tree ===== -/
/-- what the walk may change, below a level -/
def zb_frT (L : Int) (m m1 : zb_M) : Prop := (∀ c, c ≠ 500 → (c < 518 ∨ (521 < c ∧ c < 524) ∨ 528 < c) → m1 c = m c) ∧ (∀ j, j ≠ 28 → j ≠ 29 → m1 500 j = m 500 j) ∧ (∀ j, (j < 12 * (L + 1) ∨ 156 ≤ j) → m1 518 j = m 518 j) ∧ (∀ j, (j < L + 1 ∨ 13 ≤ j) → m1 519 j = m 519 j) ∧ ∀ j, j < L → m1 524 j = m 524 j
theorem zb_frT.rf (L : Int) (m : zb_M) : zb_frT L m m := ⟨fun _ _ _ => rfl, fun _ _ _ => rfl, fun _ _ => rfl, fun _ _ => rfl, fun _ _ => rfl⟩
theorem zb_frT.tr {L : Int} {m m1 m2 : zb_M} (a : zb_frT L m m1) (b : zb_frT L m1 m2) : zb_frT L m m2 := ⟨fun c h h' => (b.1 c h h').trans (a.1 c h h'), fun j h h' => (b.2.1 j h h').trans (a.2.1 j h h'), fun j h => (b.2.2.1 j h).trans (a.2.2.1 j h), fun j h => (b.2.2.2.1 j h).trans (a.2.2.2.1 j h), fun j h => (b.2.2.2.2 j h).trans (a.2.2.2.2 j h)⟩
theorem zb_frT.dn {L L' : Int} {m m1 : zb_M} (a : zb_frT L m m1) (h : L' ≤ L) : zb_frT L' m m1 := ⟨a.1, a.2.1, fun j hj => a.2.2.1 j (by omega), fun j hj => a.2.2.2.1 j (by omega), fun j hj => a.2.2.2.2 j (by omega)⟩
theorem zb_RN_frT {L : Int} {m m1 : zb_M} {N : zb_N} (h : zb_RN m N) (f : zb_frT L m m1) : zb_RN m1 N := zb_RN_same h (f.2.1 15 (by omega) (by omega)) (f.1 516 (by omega) (by omega)) (f.1 517 (by omega) (by omega))
theorem zb_fr_skip {N : zb_N} {p : zb_Pt} {rec : zb_Pt → zb_Wk → zb_Wk} {W : zb_Wk} {n : Int} : ∀ (k : Nat) (i : Int), i + k ≤ n → (∀ j, i ≤ j → j < i + k → ¬ zb_flw N p j) → zb_fr N p rec (n - i).toNat i W = zb_fr N p rec (n - (i + k)).toNat (i + k) W := by
  intro k
  induction k with
  | zero => intro i _ _; rw [show i + ((0 : Nat) : Int) = i by omega]
  | succ k ih =>
    intro i hi h
    rw [show (n - i).toNat = (n - (i + 1)).toNat + 1 by omega, zb_fr_n (h i (Int.le_refl _) (by omega)), ih (i + 1) (by omega) (fun j j0 j1 => h j (by omega) (by omega)), show i + 1 + (k : Int) = i + ((k + 1 : Nat) : Int) by omega]
theorem zb_wk_S (N : zb_N) (f : Nat) (p : zb_Pt) (W : zb_Wk) : zb_wk N (f + 1) p W = if p.2 = N.1 then zb_lf1 N p (W.1, W.2.1 + 1, W.2.2) else zb_fr N p (zb_wk N f) N.1.toNat 0 (W.1, W.2.1 + 1, W.2.2) := rfl
theorem s_X12_grow {d : Nat} {m : zb_M} {N : zb_N} {o : Int → Int} (hN : zb_ON N) (h : zb_RN m N) (hat : ∀ x, 0 ≤ x → x < N.1 → m 515 x = o x) : zb_T K_X12_grow (d + 5) [(2, 500)] zb_E0 m (fun r m1 => ((r = 1 ∧ (zb_nmW N).1 ≤ 3000 ∧ zb_RW m1 N o (zb_nmW N)) ∨ (r = 0 ∧ 3000 < (zb_nmW N).1)) ∧ zb_frT (-1) m m1) := by
  apply w_X12_grow
  have h0 := hN.1.1
  have hn := hN.1.2
  unfold PM_X12_grow
  intro m2 e2 m7 e7
  have fr7 : zb_frT (-1) m m7 := ⟨fun c c1 _ => by rw [zb_u3 e7 c1, zb_u3 e2 c1], fun j j1 j2 => by rw [zb_u2 e7 (by omega), zb_u2 e2 (by omega)], fun j _ => by rw [zb_u3 e7 (by omega), zb_u3 e2 (by omega)], fun j _ => by rw [zb_u3 e7 (by omega), zb_u3 e2 (by omega)], fun j _ => by rw [zb_u3 e7 (by omega), zb_u3 e2 (by omega)]⟩
  have frP : ∀ (L : Int) (x y : zb_M), 0 ≤ L → L < 13 → zb_frP L x y → zb_frT (L - 1) x y := fun L x y L0 L1 f => ⟨fun c c1 c2 => f.1 c (by omega), fun j _ _ => by rw [f.1 500 (by omega)], fun j hj => f.2.1 j (by omega), fun j hj => f.2.2 j (by omega), fun j _ => by rw [f.1 524 (by omega)]⟩
  refine (s_X12_start (d := d + 1) (by omega) (by omega) hN (zb_RN_frT h fr7)).mono (fun _ m12 ⟨p1, p2⟩ => ?_)
  have fr12 := fr7.tr (frP 0 _ _ (by omega) (by omega) p2)
  refine (s_X12_splitIn (d := d + 1) (by omega) (by omega) hN (zb_RN_L (zb_RN_frT h fr12)) p1 (zb_rank_gd _ _ _)).mono (fun _ m17 ⟨q1, q2⟩ => ?_)
  have fr17 := fr12.tr (frP 0 _ _ (by omega) (by omega) q2)
  have q1 : zb_RP m17 0 N.1 (zb_beg N) := q1
  have hg := zb_beg_gd N
  have hk := zb_gd_le hg h0
  have hk0 := hg.2.2.1
  have hRN17 := zb_RN_frT h fr17
  have hat' : ∀ m1, zb_frT (-1) m m1 → ∀ x, 0 ≤ x → x < N.1 → m1 515 x = o x := fun m1 f x x0 x1 => by rw [f.1 515 (by omega) (by omega)]; exact hat x x0 x1
  have hR17 : zb_RW m17 N o (0, 1, (fun _ => 0), fun _ => 0) := by
    refine ⟨?_, ?_, fun z => absurd rfl z⟩
    · rw [q2.1 500 (by omega), p2.1 500 (by omega), zb_u2 e7 (by omega)]; exact zb_u1 e2
    · rw [q2.1 500 (by omega), p2.1 500 (by omega)]; exact zb_u1 e7
  have eF : zb_nmW N = if (zb_beg N).2 = N.1 then zb_lf1 N (zb_beg N) (0, 0 + 1, (fun _ => 0), fun _ => 0) else zb_fr N (zb_beg N) (zb_wk N 12) N.1.toNat 0 (0, 0 + 1, (fun _ => 0), fun _ => 0) := zb_wk_S N 12 (zb_beg N) zb_W0w
  rw [zb_v_500_20, q1.1, hRN17.1]
  refine ⟨fun ep => ?_, fun ep m48 e48 => ?_⟩
  · rw [if_pos ep] at eF
    refine (s_X12_leaf (d := d + 2) (by omega) (by omega) hN hRN17 (hat' m17 fr17) q1 hg ep hR17 ⟨Int.le_refl _, by show (0 : Int) ≤ 3000; omega⟩).mono (fun _ m35 ⟨l1, l2, l3⟩ => ⟨Or.inl ⟨rfl, ?_, by rw [eF]; exact l1⟩, fr17.tr ⟨fun c c1 c2 => l2 c c1 (by omega), fun j j1 _ => l3 j j1, fun j _ => by rw [l2 518 (by omega) (by omega)], fun j _ => by rw [l2 519 (by omega) (by omega)], fun j _ => by rw [l2 524 (by omega) (by omega)]⟩⟩)
    rw [eF, (zb_lf1_1 N _ _).1]
    show (0 : Int) + 1 ≤ 3000
    omega
  rw [if_neg ep] at eF
  rw [zb_v_500_27] at e48
  have fr48 : zb_frT (-1) m m48 := fr17.tr ⟨fun c c1 c2 => zb_u3 e48 (by omega), fun j _ _ => by rw [zb_u3 e48 (by omega)], fun j _ => by rw [zb_u3 e48 (by omega)], fun j _ => by rw [zb_u3 e48 (by omega)], fun j hj => zb_u2 e48 (by omega)⟩
  have hpos := (zb_nmW_ok hN).2.2
  unfold PL_X12_grow_49
  intro X hX
  have T : ∀ (f : Nat) (L : Int) (p : zb_Pt) (i : Int) (W : zb_Wk) (mm : zb_M), 0 ≤ L → N.1 - p.2 < (f : Int) + 1 → L + (N.1 - p.2) ≤ 12 → zb_gp N.1 p → p.2 ≠ N.1 → zb_frT (-1) m mm → zb_RP mm L N.1 p → mm 524 L = i → 0 ≤ i → i ≤ N.1 → zb_RW mm N o W → (0 ≤ W.1 ∧ W.1 ≤ 3000) → (0 ≤ W.2.1 ∧ W.2.1 ≤ 13 * W.1 + (L + 1)) → (zb_fr N p (zb_wk N f) (N.1 - i).toNat i W).1 ≤ (zb_nmW N).1 → (∀ m', zb_frT L mm m' → zb_RW m' N o (zb_fr N p (zb_wk N f) (N.1 - i).toNat i W) → (zb_fr N p (zb_wk N f) (N.1 - i).toNat i W).1 ≤ 3000 → X (L - 1) m') → X L mm := by
    intro f
    induction f with
    | zero =>
      intro L p i W mm L0 hf hL hgp hne
      have := zb_gd_le hgp h0
      omega
    | succ f ihf =>
      intro L p i W mm L0 hf hL hgp hne
      have hkp := zb_gd_le hgp h0
      have hkp0 := hgp.2.2.1
      have B : ∀ (e : Nat) (i : Int) (W : zb_Wk) (mm : zb_M), N.1 - i ≤ e → zb_frT (-1) m mm → zb_RP mm L N.1 p → mm 524 L = i → 0 ≤ i → i ≤ N.1 → zb_RW mm N o W → (0 ≤ W.1 ∧ W.1 ≤ 3000) → (0 ≤ W.2.1 ∧ W.2.1 ≤ 13 * W.1 + (L + 1)) → (zb_fr N p (zb_wk N (f + 1)) (N.1 - i).toNat i W).1 ≤ (zb_nmW N).1 → (∀ m', zb_frT L mm m' → zb_RW m' N o (zb_fr N p (zb_wk N (f + 1)) (N.1 - i).toNat i W) → (zb_fr N p (zb_wk N (f + 1)) (N.1 - i).toNat i W).1 ≤ 3000 → X (L - 1) m') → X L mm := by
        intro e
        induction e with
        | zero =>
          intro i W mm he hfr hRP hnx i0 i1 hRW hW hW2 hF hret
          have hi : i = N.1 := by omega
          subst hi
          have hRNm := zb_RN_frT h hfr
          refine hX L mm ⟨fun z => by omega, fun _ => (s_X12_targetOf (d := d + 3) L0 (by omega) hN hRNm hRP hgp).mono (fun t hT => ⟨⟨L0, by omega⟩, ?_⟩)⟩
          unfold PL_X12_grow_66
          rw [zb_v_500_27, hnx, hRNm.1]
          intro Y hY
          refine hY N.1 ⟨fun _ => ?_, fun z => absurd (Int.le_refl _) z⟩
          unfold PJ_X12_grow_90
          rw [hRNm.1]
          rw [show (N.1 - N.1).toNat = 0 by omega] at hret
          exact ⟨fun _ => ⟨zb_inI_of (by omega) (by omega), hret mm (zb_frT.rf L mm) hRW hW.2⟩, fun z => absurd rfl z⟩
        | succ e ihe =>
          intro i W mm he hfr hRP hnx i0 i1 hRW hW hW2 hF hret
          have hRNm := zb_RN_frT h hfr
          refine hX L mm ⟨fun z => by omega, fun _ => (s_X12_targetOf (d := d + 3) L0 (by omega) hN hRNm hRP hgp).mono (fun t hT => ⟨⟨L0, by omega⟩, ?_⟩)⟩
          unfold PL_X12_grow_66
          rw [zb_v_500_27, hnx, hRNm.1]
          intro Y hY
          have j90 : ∀ v, i ≤ v → v ≤ N.1 → (∀ j, i ≤ j → j < v → ¬ zb_flw N p j) → (v < N.1 → zb_flw N p v) → PJ_X12_grow_90 (d + 4) zb_E0 500 L mm X (fun r m1 => ((r = 1 ∧ (zb_nmW N).1 ≤ 3000 ∧ zb_RW m1 N o (zb_nmW N)) ∨ (r = 0 ∧ 3000 < (zb_nmW N).1)) ∧ zb_frT (-1) m m1) v := by
            intro v iv vn hsk hfl
            have esk := zb_fr_skip (N := N) (p := p) (rec := zb_wk N (f + 1)) (W := W) (n := N.1) (v - i).toNat i (by omega) (fun j j0 j1 => hsk j j0 (by omega))
            rw [show i + (((v - i).toNat : Nat) : Int) = v by omega] at esk
            rw [esk] at hF hret
            unfold PJ_X12_grow_90
            rw [hRNm.1]
            refine ⟨fun ev => ?_, fun ev => ⟨zb_inI_of (by omega) (by omega), fun m112 e112 => ?_⟩⟩
            · subst ev
              rw [show (N.1 - N.1).toNat = 0 by omega] at hret
              exact ⟨zb_inI_of (by omega) (by omega), hret mm (zb_frT.rf L mm) hRW hW.2⟩
            have v1 : v < N.1 := by omega
            have hflw := hfl v1
            have hna := zb_flw_na (by omega) v1 hflw
            have hgc := zb_chd_gd hgp (show 0 ≤ v by omega) v1
            have hkc := zb_chd_k hgp (show 0 ≤ v by omega) v1 hna
            have hkcn := zb_gd_le hgc h0
            rw [zb_v_500_27] at e112
            have ec : (N.1 - v).toNat = (N.1 - (v + 1)).toNat + 1 := by omega
            rw [ec, zb_fr_y hflw, zb_wk_S] at hF hret
            unfold PL_X12_grow_116
            rw [zb_v_500_19]
            intro Z hZ
            refine zb_lp1 (fun k mn => 0 ≤ k ∧ (∀ u, 0 ≤ u → u < k → mn 518 (12 * L + 12 + u) = p.1 u) ∧ (∀ j, (j < 12 * L + 12 ∨ 12 * L + 24 ≤ j) → mn 518 j = mm 518 j) ∧ ∀ c, c ≠ 518 → mn c = m112 c) N.1 (fun k mn ⟨k0, u1, u2, u3⟩ kn nx2 => hZ k mn ?_) 0 m112 h0 ⟨by omega, fun u u0 u1 => by omega, fun j _ => by rw [zb_u3 e112 (by omega)], fun c _ => rfl⟩
            have f112 : ∀ c, c ≠ 524 → m112 c = mm c := fun c hc => zb_u3 e112 hc
            rw [u3 500 (by omega), f112 500 (by omega), hRNm.1]
            refine ⟨fun ck => ?_, fun ck => ?_⟩
            · have hk9 : k = N.1 := by omega
              subst hk9
              unfold PJ_X12_grow_158
              rw [zb_v_500_20, u3 519 (by omega), f112 519 (by omega), hRP.1]
              refine ⟨zb_inI_of (by omega) (by omega), ⟨L0, by omega⟩, ⟨by omega, by omega⟩, fun m171 e171 => ?_⟩
              have f171 : ∀ c, c ≠ 518 → c ≠ 519 → c ≠ 524 → m171 c = mm c := fun c c1 c2 c3 => by rw [zb_u3 e171 c2, u3 c c1, f112 c c3]
              have hRL171 : zb_RL m171 N := zb_RL_same (zb_RN_L hRNm) (by rw [f171 500 (by omega) (by omega) (by omega)]) (f171 517 (by omega) (by omega) (by omega))
              have hRP171 : zb_RP m171 (L + 1) N.1 p := ⟨zb_u1 e171, fun x x0 x1 => by rw [zb_u3 e171 (by omega), show 12 * (L + 1) + x = 12 * L + 12 + x by omega]; exact u1 x x0 x1⟩
              refine (s_X12_markIn (d := d) (by omega) (by omega) hN hRL171 hRP171 hgp (by omega) v1).mono (fun _ m177 ⟨mk1, mk2⟩ => ?_)
              have e29 : m177 500 29 = W.2.1 := by rw [mk2.1 500 (by omega), f171 500 (by omega) (by omega) (by omega)]; exact hRW.2.1
              rw [e29]
              refine ⟨zb_inI_of (by omega) (by omega), fun m187 e187 => ?_⟩
              have c187 : ∀ c, c ≠ 500 → (c < 518 ∨ 521 < c) → c ≠ 524 → m187 c = mm c := fun c c1 c2 c3 => by rw [zb_u3 e187 c1, mk2.1 c (by omega), f171 c (by omega) (by omega) c3]
              have j187 : ∀ j, j ≠ 29 → m187 500 j = mm 500 j := fun j hj => by rw [zb_u2 e187 (by omega), mk2.1 500 (by omega), f171 500 (by omega) (by omega) (by omega)]
              have n187 : m187 524 L = v + 1 := by rw [zb_u3 e187 (by omega), mk2.1 524 (by omega), zb_u3 e171 (by omega), u3 524 (by omega)]; exact zb_u1 e112
              have fr187 : zb_frT L mm m187 := ⟨fun c c1 c2 => c187 c c1 (by omega) (by omega), fun j _ j2 => j187 j j2, fun j hj => by rw [zb_u3 e187 (by omega), mk2.2.1 j (by omega), zb_u3 e171 (by omega), u2 j (by omega)], fun j hj => by rw [zb_u3 e187 (by omega), mk2.2.2 j (by omega), zb_u2 e171 (by omega), u3 519 (by omega), f112 519 (by omega)], fun j hj => by rw [zb_u3 e187 (by omega), mk2.1 524 (by omega), zb_u3 e171 (by omega), u3 524 (by omega), zb_u2 e112 (by omega)]⟩
              have hRN187 : zb_RN m187 N := zb_RN_frT hRNm fr187
              have hRPc : zb_RP m187 (L + 1) N.1 (zb_chd N p v) := ⟨by rw [zb_u3 e187 (by omega)]; exact mk1.1, fun x x0 x1 => by rw [zb_u3 e187 (by omega)]; exact mk1.2 x x0 x1⟩
              have hRPp : zb_RP m187 L N.1 p := ⟨by rw [fr187.2.2.2.1 L (by omega)]; exact hRP.1, fun x x0 x1 => by rw [fr187.2.2.1 _ (by omega)]; exact hRP.2 x x0 x1⟩
              have hRW187 : zb_RW m187 N o (W.1, W.2.1 + 1, W.2.2) := ⟨by rw [j187 28 (by omega)]; exact hRW.1, zb_u1 e187, fun z => by rw [c187 525 (by omega) (by omega) (by omega), c187 526 (by omega) (by omega) (by omega)]; exact hRW.2.2 z⟩
              have frm187 := hfr.tr (fr187.dn (show -1 ≤ L by omega))
              rw [hRPc.1, hRN187.1]
              have e28 : m187 500 28 = W.1 := hRW187.1
              rw [e28]
              refine ⟨fun cf => ⟨fun c3 => ?_, fun c3 => ?_⟩, fun cf => ⟨⟨by omega, by omega⟩, fun m214 e214 => ?_⟩⟩
              · have ecf : (zb_chd N p v).2 = N.1 := by omega
                rw [if_pos ecf] at hF
                have hm := zb_fr_mono (N := N) (p := p) (zb_wk_mono N (f + 1)) (N.1 - (v + 1)).toNat (v + 1) (zb_lf1 N (zb_chd N p v) (W.1, W.2.1 + 1, W.2.2))
                rw [(zb_lf1_1 N (zb_chd N p v) _).1] at hm
                have hm : W.1 + 1 ≤ _ := hm
                exact ⟨Or.inr ⟨rfl, by omega⟩, frm187⟩
              · have ecf : (zb_chd N p v).2 = N.1 := by omega
                rw [if_pos ecf] at hF hret
                refine (s_X12_leaf (d := d + 2) (show 0 ≤ L + 1 by omega) (by omega) hN hRN187 (hat' m187 frm187) hRPc hgc ecf hRW187 hW).mono (fun _ m234 ⟨l1, l2, l3⟩ => ?_)
                have fr234 : zb_frT L m187 m234 := ⟨fun c c1 c2 => l2 c c1 (by omega), fun j j1 _ => l3 j j1, fun j _ => by rw [l2 518 (by omega) (by omega)], fun j _ => by rw [l2 519 (by omega) (by omega)], fun j _ => by rw [l2 524 (by omega) (by omega)]⟩
                obtain ⟨ea, eb⟩ := zb_lf1_1 N (zb_chd N p v) (W.1, W.2.1 + 1, W.2.2)
                have ea : _ = W.1 + 1 := ea
                have eb : _ = W.2.1 + 1 := eb
                exact ihe (v + 1) _ m234 (by omega) (frm187.tr (fr234.dn (by omega))) ⟨by rw [l2 519 (by omega) (by omega)]; exact hRPp.1, fun x x0 x1 => by rw [l2 518 (by omega) (by omega)]; exact hRPp.2 x x0 x1⟩ (by rw [l2 524 (by omega) (by omega)]; exact n187) (by omega) (by omega) l1 (by omega) (by omega) hF (fun m' f' r' l' => hret m' ((fr187.tr fr234).tr f') r' l')
              · have ecf : (zb_chd N p v).2 ≠ N.1 := by omega
                rw [if_neg ecf] at hF hret
                rw [zb_v_500_27] at e214
                have fr214 : zb_frT L m187 m214 := ⟨fun c c1 c2 => zb_u3 e214 (by omega), fun j _ _ => by rw [zb_u3 e214 (by omega)], fun j _ => by rw [zb_u3 e214 (by omega)], fun j _ => by rw [zb_u3 e214 (by omega)], fun j hj => zb_u2 e214 (by omega)⟩
                have n214 : m214 524 L = v + 1 := by rw [zb_u2 e214 (by omega)]; exact n187
                have g4 : ∀ c, c ≠ 524 → m214 c = m187 c := fun c hc => zb_u3 e214 hc
                have hm := zb_fr_mono (N := N) (p := p) (zb_wk_mono N (f + 1)) (N.1 - (v + 1)).toNat (v + 1) (zb_fr N (zb_chd N p v) (zb_wk N f) N.1.toNat 0 (W.1, W.2.1 + 1, W.2.2))
                have ewk : zb_wk N (f + 1) (zb_chd N p v) W = zb_fr N (zb_chd N p v) (zb_wk N f) N.1.toNat 0 (W.1, W.2.1 + 1, W.2.2) := by rw [zb_wk_S, if_neg ecf]
                have nb := zb_wk_nb N hN (f + 1) (zb_chd N p v) W (L + 1) hgc (by omega) (by omega) (by omega) (by omega)
                have nn := zb_wk_nn N (f + 1) (zb_chd N p v) W
                rw [ewk] at nb nn
                refine ihf (L + 1) (zb_chd N p v) 0 (W.1, W.2.1 + 1, W.2.2) m214 (by omega) (by omega) (by omega) hgc ecf (frm187.tr (fr214.dn (by omega))) ⟨by rw [g4 519 (by omega)]; exact hRPc.1, fun x x0 x1 => by rw [g4 518 (by omega)]; exact hRPc.2 x x0 x1⟩ (zb_u1 e214) (Int.le_refl _) h0 ⟨by rw [g4 500 (by omega)]; exact hRW187.1, by rw [g4 500 (by omega)]; exact hRW187.2.1, fun z => by rw [g4 525 (by omega), g4 526 (by omega)]; exact hRW187.2.2 z⟩ hW ⟨by show 0 ≤ W.2.1 + 1; omega, by show W.2.1 + 1 ≤ 13 * W.1 + (L + 1 + 1); omega⟩ (by rw [Int.sub_zero]; omega) (fun m' f' r' l' => ?_)
                rw [Int.sub_zero] at r' l'
                rw [show L + 1 - 1 = L by omega]
                have fr' := f'.dn (show L ≤ L + 1 by omega)
                exact ihe (v + 1) _ m' (by omega) (frm187.tr ((fr214.tr fr').dn (by omega))) ⟨by rw [f'.2.2.2.1 L (by omega), g4 519 (by omega)]; exact hRPp.1, fun x x0 x1 => by rw [f'.2.2.1 _ (by omega), g4 518 (by omega)]; exact hRPp.2 x x0 x1⟩ (by rw [f'.2.2.2.2 L (by omega)]; exact n214) (by omega) (by omega) r' ⟨by omega, l'⟩ ⟨by omega, by omega⟩ hF (fun m2 f2 r2 l2 => hret m2 ((fr187.tr (fr214.tr fr')).tr f2) r2 l2)
            · have k1 : k < N.1 := by omega
              refine ⟨zb_inI_of (by omega) (by omega), zb_inI_of (by omega) (by omega), zb_inI_of (by omega) (by omega), zb_inI_of (by omega) (by omega), ⟨by omega, by omega⟩, ⟨by omega, by omega⟩, fun m151 e151 => ⟨zb_inI_of (by omega) (by omega), nx2 k1 m151 ⟨by omega, fun u u0 uu => ?_, fun j hj => by rw [zb_u2 e151 (by omega)]; exact u2 j hj, fun c hc => by rw [zb_u3 e151 hc]; exact u3 c hc⟩⟩⟩
              by_cases w : u = k
              · rw [w, zb_u1 e151, u2 _ (by omega)]; exact hRP.2 k k0 k1
              · rw [zb_u2 e151 (by omega)]; exact u1 u u0 (by omega)
          refine zb_lp0 (fun v => i ≤ v ∧ ∀ j, i ≤ j → j < v → ¬ zb_flw N p j) N.1 (fun v ⟨v0, hv⟩ vn nxt => hY v ⟨fun c => j90 v v0 vn hv (fun z => by omega), fun c => (s_X12_follows (d := d + 2) L0 (by omega) hN hRNm hRP hT hgp (by omega) (by omega)).mono (fun r78 h78 => ?_)⟩) i i1 ⟨Int.le_refl _, fun j j0 j1 => by omega⟩
          rcases h78 with ⟨r1, r2⟩ | ⟨r1, r2⟩
          · exact ⟨fun z => by omega, fun _ => j90 v v0 vn hv (fun _ => r2)⟩
          · refine ⟨fun _ => ⟨zb_inI_of (by omega) (by omega), nxt (by omega) ⟨by omega, fun j j0 j1 => ?_⟩⟩, fun z => absurd r1 z⟩
            by_cases w : j = v
            · rw [w]; exact r2
            · exact hv j j0 (by omega)
      intro hfr hRP hnx i0 i1 hRW hW hW2 hF hret
      exact B N.1.toNat i W mm (by omega) hfr hRP hnx i0 i1 hRW hW hW2 hF hret
  have g4 : ∀ c, c ≠ 524 → m48 c = m17 c := fun c hc => zb_u3 e48 hc
  refine T 12 0 (zb_beg N) 0 (0, 0 + 1, (fun _ => 0), fun _ => 0) m48 (Int.le_refl _) (by omega) (by omega) hg ep fr48 ⟨by rw [g4 519 (by omega)]; exact q1.1, fun x x0 x1 => by rw [g4 518 (by omega)]; exact q1.2 x x0 x1⟩ (zb_u1 e48) (Int.le_refl _) h0 ⟨by rw [g4 500 (by omega)]; exact hR17.1, by rw [g4 500 (by omega)]; exact hR17.2.1, fun z => absurd rfl z⟩ ⟨Int.le_refl _, by show (0 : Int) ≤ 3000; omega⟩ ⟨by show (0 : Int) ≤ 0 + 1; omega, by show (0 : Int) + 1 ≤ 13 * 0 + (0 + 1); omega⟩ (by rw [Int.sub_zero, ← eF]; exact Int.le_refl _) (fun m' f' r' l' => ?_)
  rw [Int.sub_zero, ← eF] at r' l'
  exact hX (0 - 1) m' ⟨fun _ => ⟨Or.inl ⟨rfl, l', r'⟩, fr48.tr (f'.dn (by omega))⟩, fun z => absurd (show (0 : Int) - 1 < 0 by omega) z⟩
