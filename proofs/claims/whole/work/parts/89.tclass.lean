/-! ===== the class's turnings ===== -/
theorem s_X10_begin {d : Nat} {m : zb_M} {a : Int} (ha : zb_is zb_E0.1 a 10) : zb_T K_X10_begin (d + 1) [(2, a)] zb_E0 m (fun _ m1 => m1 a 0 = 1 ∧ (∀ i, 0 ≤ i → i < 12 → m1 (a + 1) i = -1) ∧ ∀ b, b ≠ a → b ≠ a + 1 → m1 b = m b) := by
  apply w_X10_begin
  unfold PM_X10_begin
  intro m2 e2
  unfold PL_X10_begin_7
  rw [zb_trn ha]
  intro X hX
  refine zb_lp1 (fun v mm => 0 ≤ v ∧ (∀ i, 0 ≤ i → i < v → mm (a + 1) i = -1) ∧ ∀ b, b ≠ a + 1 → mm b = m2 b) 12 (fun v mm ⟨v0, t1, t2⟩ vn nxt => hX v mm ⟨fun c => ⟨by rw [t2 a (by omega)]; exact zb_u1 e2, fun i i0 i1 => t1 i i0 (by omega), fun b b1 b2 => by rw [t2 b b2]; exact zb_u3 e2 b1⟩, fun c => ⟨⟨v0, by omega⟩, fun m19 e19 => ⟨zb_inI_of (by omega) (by omega), nxt (by omega) m19 ⟨by omega, fun i i0 i1 => ?_, fun b hb => by rw [zb_u3 e19 hb]; exact t2 b hb⟩⟩⟩⟩) 0 m2 (by omega) ⟨by omega, fun i i0 i1 => by omega, fun b _ => rfl⟩
  by_cases q : i = v
  · rw [q, zb_u1 e19]
  · rw [zb_u2 e19 (by omega)]; exact t1 i i0 (by omega)
theorem zb_tn_S {o f : Int → Int} {v i : Int} (v0 : 0 ≤ v) : zb_tn (v + 1) o f i = if o v = i then o (f v) else zb_tn v o f i := by
  unfold zb_tn
  rw [show (v + 1).toNat = v.toNat + 1 by omega]
  show (if 0 ≤ (if o ((v.toNat : Nat) : Int) = i then ((v.toNat : Nat) : Int) else zb_ix o i v.toNat) then o (f (if o ((v.toNat : Nat) : Int) = i then ((v.toNat : Nat) : Int) else zb_ix o i v.toNat)) else -1) = _
  rw [show ((v.toNat : Nat) : Int) = v by omega]
  by_cases q : o v = i
  · rw [if_pos q, if_pos q, if_pos v0]
  · rw [if_neg q, if_neg q]
theorem s_X10_take {d : Nat} {m : zb_M} {a e frm : Int} {N : zb_N} {o f : Int → Int} (ha : zb_is zb_E0.1 a 10) (ha2 : a + 1 < 126 ∨ 131 < a) (he : e ≠ a) (he1 : e ≠ a + 1) (hs : zb_CS m 126 N o) (hN : zb_ON N) (ho : zb_asc N.1 12 o) (f0 : 0 ≤ frm) (f1 : frm + 12 ≤ zb_len zb_E0.1 e) (f2 : frm ≤ 200) (hf : ∀ z, 0 ≤ z → z < N.1 → m e (frm + z) = f z) (hfr : ∀ z, 0 ≤ z → z < N.1 → 0 ≤ f z ∧ f z < N.1) : zb_T K_X10_take (d + 2) [(2, a), (2, 126), (2, e), (0, frm)] zb_E0 m (fun _ m1 => m1 a 0 = 1 ∧ (∀ i, 0 ≤ i → i < 12 → m1 (a + 1) i = zb_tn N.1 o f i) ∧ ∀ b, b ≠ a → b ≠ a + 1 → m1 b = m b) := by
  apply w_X10_take
  have hn := hN.1.2
  obtain ⟨w1, w2, w3, w4, w5⟩ := zb_shw zb_i_126
  unfold PM_X10_take
  refine (s_X10_begin ha).mono (fun _ m1 ⟨b1, b2, b3⟩ => ?_)
  unfold PL_X10_take_7
  rw [zb_trn ha, w1]
  intro X hX
  refine zb_lp1 (fun v mm => 0 ≤ v ∧ (∀ i, 0 ≤ i → i < 12 → mm (a + 1) i = zb_tn v o f i) ∧ ∀ b, b ≠ a + 1 → mm b = m1 b) N.1 (fun v mm ⟨v0, t1, t2⟩ vn nxt => hX v mm ⟨fun c => ?_, fun c => ?_⟩) 0 m1 hN.1.1 ⟨by omega, fun i i0 i1 => by rw [b2 i i0 i1]; rfl, fun b _ => rfl⟩
  · rw [t2 126 (by omega), b3 126 (by omega) (by omega), hs.1] at c
    have hv : v = N.1 := by omega
    subst hv
    exact ⟨by rw [t2 a (by omega)]; exact b1, t1, fun b q1 q2 => by rw [t2 b q2]; exact b3 b q1 q2⟩
  · rw [t2 126 (by omega), b3 126 (by omega) (by omega), hs.1] at c
    have hv1 : v < N.1 := by omega
    have hfv := hfr v v0 hv1
    have ef : mm e (frm + v) = f v := by rw [t2 e he1, b3 e he he1]; exact hf v v0 hv1
    have e1 : ∀ x, 0 ≤ x → x < N.1 → mm (126 + 1) x = o x := fun x x0 x1 => by rw [t2 _ (by omega), b3 _ (by omega) (by omega)]; exact (hs.2.1 x x0 x1).1
    have hov := ho.1 v v0 hv1
    rw [ef, e1 v v0 hv1, e1 _ hfv.1 hfv.2]
    refine ⟨⟨v0, by omega⟩, zb_inI_of (by omega) (by omega), ⟨by omega, by omega⟩, ⟨hfv.1, by omega⟩, ⟨hov.1, hov.2⟩, fun m38 e38 => ⟨zb_inI_of (by omega) (by omega), nxt (by omega) m38 ⟨by omega, fun i i0 i1 => ?_, fun b hb => by rw [zb_u3 e38 hb]; exact t2 b hb⟩⟩⟩
    rw [zb_tn_S v0]
    by_cases q : o v = i
    · rw [if_pos q, ← q, zb_u1 e38]
    · rw [if_neg q, zb_u2 e38 (by omega)]; exact t1 i i0 i1
theorem s_X10_leadsFrom {d : Nat} {m : zb_M} {a i : Int} (ha : zb_is zb_E0.1 a 10) (h1 : m a 0 = 1) : zb_Tp K_X10_leadsFrom (d + 2) [(2, a), (0, i)] zb_E0 m (fun r => (r = 1 ∧ (0 ≤ i ∧ i < 12) ∧ m (a + 1) i ≠ -1) ∨ (r = 0 ∧ ¬ ((0 ≤ i ∧ i < 12) ∧ m (a + 1) i ≠ -1))) := by
  apply w_X10_leadsFrom
  unfold PM_X10_leadsFrom
  rw [zb_trn ha]
  refine ⟨fun z => by omega, fun _ => s_X11_isBelow.mono (fun r h => ?_)⟩
  rcases zb_if1 h with ⟨q1, q2⟩ | ⟨q1, q2⟩
  · exact ⟨fun _ => Or.inr ⟨rfl, fun z => q2 z.1⟩, fun z => absurd q1 z⟩
  · exact ⟨fun z => by omega, fun _ => ⟨q2, fun c => Or.inr ⟨rfl, fun z => z.2 c⟩, fun c => Or.inl ⟨rfl, q2, c⟩⟩⟩
theorem s_X10_leadsFrom_0 {d : Nat} {m : zb_M} {a i : Int} (h1 : m a 0 = 0) : zb_Tp K_X10_leadsFrom (d + 2) [(2, a), (0, i)] zb_E0 m (fun r => r = 0) := by
  apply w_X10_leadsFrom
  unfold PM_X10_leadsFrom
  exact ⟨fun _ => rfl, fun z => absurd h1 z⟩
theorem s_X11_by {d : Nat} {m : zb_M} {T : zb_Tn} {i : Int} (h : zb_CT m T) : zb_Tp K_X11_by (d + 3) [(2, 1), (0, i)] zb_E0 m (fun r => r = v_by T i) := by
  apply w_X11_by
  unfold PM_X11_by
  rw [zb_v_1_11, zb_trn zb_i_397]
  match T, h with
  | none, h => exact (s_X10_leadsFrom_0 h).mono (fun r hr => ⟨fun _ => rfl, fun z => absurd hr z⟩)
  | some t, ⟨h1, h2⟩ =>
    refine (s_X10_leadsFrom zb_i_397 h1).mono (fun r hr => ?_)
    show (r = 0 → -1 = (if 0 ≤ i ∧ i < 12 then t i else -1)) ∧ (¬ r = 0 → (0 ≤ i ∧ i < 12) ∧ m 398 i = (if 0 ≤ i ∧ i < 12 then t i else -1))
    have hr : (r = 1 ∧ (0 ≤ i ∧ i < 12) ∧ m 398 i ≠ -1) ∨ (r = 0 ∧ ¬ ((0 ≤ i ∧ i < 12) ∧ m 398 i ≠ -1)) := hr
    rcases hr with ⟨r1, r2, r3⟩ | ⟨r1, r2⟩
    · exact ⟨fun z => by omega, fun _ => ⟨r2, by rw [if_pos r2]; exact h2 i r2.1 r2.2⟩⟩
    · refine ⟨fun _ => ?_, fun z => absurd r1 z⟩
      by_cases q : 0 ≤ i ∧ i < 12
      · rw [if_pos q, ← h2 i q.1 q.2]
        by_cases q2 : m 398 i = -1
        · exact q2.symm
        · exact absurd ⟨q, q2⟩ r2
      · rw [if_neg q]
def zb_frWT (m m1 : zb_M) : Prop := ∀ b, (b < 126 ∨ (135 < b ∧ b < 192) ∨ 355 < b) → b ≠ 397 → b ≠ 398 → m1 b = m b
theorem s_X11_where {d : Nat} {m : zb_M} {s : zb_Gs} {T : zb_Tn} {g a b : Int} (hC : zb_CG m s) (hO : zb_OG s) (hT : zb_CT m T) : zb_T K_X11_where (d + 22) [(2, 1), (0, g), (0, a), (0, b)] zb_E0 m (fun r m1 => r = (v_where s T g a b).1 ∧ zb_CT m1 (v_where s T g a b).2 ∧ zb_frWT m m1) := by
  apply w_X11_where
  unfold PM_X11_where
  have same : ∀ m1 : zb_M, (∀ c, 355 < c → m1 c = m c) → zb_CT m1 T := fun m1 he => by
    match T, hT with
    | none, hT => show m1 397 0 = 0; rw [he 397 (by omega)]; exact hT
    | some t, hT => exact ⟨by rw [he 397 (by omega)]; exact hT.1, by rw [he 398 (by omega)]; exact hT.2⟩
  refine (s_X11_refusal (d := d + 16) hC hO).mono (fun r m2 ⟨hr, h0, hf⟩ => ?_)
  unfold v_where
  refine ⟨fun c => ?_, fun c => by rw [if_neg (by rw [← hr]; exact c)]; exact ⟨hr, same m2 (fun c hc => hf c (by omega)), fun b hb _ _ => hf b (by omega)⟩⟩
  have hr0 : v_ref s g = 0 := hr.symm.trans c
  rw [if_pos hr0]
  obtain ⟨hN, hA⟩ := zb_shN_asc hO hr0
  have hs := h0 c
  rw [zb_v_1_2, zb_v_1_5, zb_v_1_11, zb_v_192_4]
  refine (s_X6_indexOf (d := d + 19) zb_i_126 hs hA).mono (fun x hx => ?_)
  refine (s_X6_indexOf (d := d + 19) zb_i_126 hs hA).mono (fun y hy => ?_)
  have ex : x = zb_ix (zb_sha (s.1 g)) a (zb_shn (s.1 g)).toNat := zb_ix_N hA hN.1.1 hx
  have ey : y = zb_ix (zb_sha (s.1 g)) b (zb_shn (s.1 g)).toNat := zb_ix_N hA hN.1.1 hy
  rw [← ex, ← ey]
  have bad : ¬ (0 ≤ x ∧ 0 ≤ y) → (fun r m1 => r = (if 0 ≤ x ∧ 0 ≤ y then (@ite (Int × zb_Tn) (∃ f, zb_led (zb_shN (s.1 g)) 0 x y f) (Classical.propDecidable _) (1, some (zb_tn (zb_shn (s.1 g)) (zb_sha (s.1 g)) (zb_l0 (zb_shN (s.1 g)) x y))) (0, T)) else (-1, T)).1 ∧ zb_CT m1 (if 0 ≤ x ∧ 0 ≤ y then (@ite (Int × zb_Tn) (∃ f, zb_led (zb_shN (s.1 g)) 0 x y f) (Classical.propDecidable _) (1, some (zb_tn (zb_shn (s.1 g)) (zb_sha (s.1 g)) (zb_l0 (zb_shN (s.1 g)) x y))) (0, T)) else (-1, T)).2 ∧ zb_frWT m m1) (-1) m2 := by
    intro q
    show -1 = (if 0 ≤ x ∧ 0 ≤ y then _ else ((-1 : Int), T)).1 ∧ zb_CT m2 (if 0 ≤ x ∧ 0 ≤ y then _ else ((-1 : Int), T)).2 ∧ zb_frWT m m2
    rw [if_neg q]
    exact ⟨rfl, same m2 (fun c hc => hf c (by omega)), fun b hb _ _ => hf b (by omega)⟩
  refine ⟨fun q => bad (by omega), fun q => ⟨fun q2 => ?_, fun q2 => bad (by omega)⟩⟩
  have x1 : x < zb_shn (s.1 g) := (zb_ix_rng (k := 0) hx (by omega)).1
  have y1 : y < zb_shn (s.1 g) := (zb_ix_rng (k := 0) hy q2).1
  rw [if_pos ⟨by omega, q2⟩]
  refine (s_X9_findLeast hs hN (by omega) x1 q2 y1).mono (fun r59 m59 ⟨g1, g2⟩ => ?_)
  have f59 : ∀ c, (c < 126 ∨ (135 < c ∧ c < 192) ∨ 355 < c) → m59 c = m c := fun c hc => by rw [g2 c (by omega) (by omega)]; exact hf c (by omega)
  rcases g1 with ⟨r1, r2⟩ | ⟨r1, r2⟩
  · refine ⟨fun z => by omega, fun _ => ?_⟩
    have hs59 : zb_CS m59 126 (zb_shN (s.1 g)) (zb_sha (s.1 g)) := zb_CS_same hs (fun c c0 c1 => g2 c (by omega) (by omega))
    refine (s_X10_take (d := d + 19) zb_i_397 (by omega) (by omega) (by omega) hs59 hN hA (by omega) (by rw [zb_len_352]; omega) (by omega) (fun z _ _ => by rw [Int.zero_add]) r2.1.1.1.1.1).mono (fun _ m83 ⟨t1, t2, t3⟩ => ?_)
    rw [if_pos ⟨_, r2.1⟩]
    exact ⟨rfl, ⟨t1, fun i i0 i1 => (t2 i i0 i1).trans (zb_tn_congr (zb_l0_ok r2) i)⟩, fun c hc c1 c2 => by rw [t3 c c1 (by omega)]; exact f59 c hc⟩
  · refine ⟨fun _ => ?_, fun z => absurd r1 z⟩
    rw [if_neg (fun z => by obtain ⟨f, hz⟩ := z; exact r2 f hz)]
    exact ⟨rfl, same m59 (fun c hc => f59 c (by omega)), fun c hc _ _ => f59 c hc⟩
theorem zb_len_353 : zb_len zb_E0.1 353 = 144 := by decide +kernel
def zb_frWM (m m1 : zb_M) : Prop := (∀ b, (b < 126 ∨ (135 < b ∧ b < 192) ∨ 355 < b) → b ≠ 1 → ¬ (476 ≤ b ∧ b ≤ 499) → m1 b = m b) ∧ ∀ j, j ≠ 13 → m1 1 j = m 1 j
theorem s_X11_makers {d : Nat} {m : zb_M} {s : zb_Gs} {K : zb_Km} {g : Int} (hC : zb_CG m s) (hO : zb_OG s) (hK : zb_CK m K) (hOK : zb_OK K) : zb_T K_X11_makers (d + 22) [(2, 1), (0, g)] zb_E0 m (fun r m1 => r = (v_makers s K g).1 ∧ zb_CK m1 (v_makers s K g).2 ∧ zb_frWM m m1) := by
  apply w_X11_makers
  unfold PM_X11_makers
  refine (s_X11_refusal (d := d + 16) hC hO).mono (fun r m2 ⟨hr, h0, hf⟩ => ?_)
  unfold v_makers
  refine ⟨fun c => ?_, fun c => ?_⟩
  · have hr0 : v_ref s g = 0 := hr.symm.trans c
    rw [if_pos hr0]
    obtain ⟨hN, hA⟩ := zb_shN_asc hO hr0
    have hn := hN.1.2
    have hs := h0 c
    have hM := zb_mks_MI hN
    have hcnt := zb_MI_cnt hM hN.1.1
    rw [zb_v_1_2, zb_v_1_5]
    refine (s_X9_findMakers hs hN).mono (fun _ m20 ⟨hT, hF, hc, hR⟩ m31 e31 => ?_)
    rw [hF.1] at e31
    have f31 : ∀ c, c ≠ 1 → m31 c = m20 c := fun c hc => zb_u3 e31 hc
    unfold PL_X11_makers_36
    rw [zb_v_1_2, zb_v_1_5, zb_v_1_12, zb_v_192_5]
    intro X hX
    refine zb_lp1 (fun v mm => 0 ≤ v ∧ (∀ k, 0 ≤ k → k < v → mm (476 + 2 * k) 0 = 1 ∧ ∀ i, 0 ≤ i → i < 12 → mm (477 + 2 * k) i = zb_tn (zb_shn (s.1 g)) (zb_sha (s.1 g)) ((zb_mks (zb_shN (s.1 g))).2 k) i) ∧ ∀ c, ¬ (476 ≤ c ∧ c ≤ 499) → mm c = m31 c) (zb_mks (zb_shN (s.1 g))).1 (fun v mm ⟨v0, t1, t2⟩ vn nxt => hX v mm ⟨fun c1 => ?_, fun c1 => ?_⟩) 0 m31 hM.2.1 ⟨by omega, fun k k0 k1 => by omega, fun c _ => rfl⟩
    · have e13 : mm 1 13 = (zb_mks (zb_shN (s.1 g))).1 := by rw [t2 1 (by omega)]; exact zb_u1 e31
      rw [e13] at c1
      unfold PJ_X11_makers_74
      refine ⟨e13, ⟨e13, fun k k0 k1 => t1 k k0 (by have k1 : k < (zb_mks (zb_shN (s.1 g))).1 := k1; omega)⟩, fun c hc c1 c2 => ?_, fun j hj => ?_⟩
      · rw [t2 c c2, f31 c c1, hR c (by omega) (by omega)]; exact hf c (by omega)
      · rw [t2 1 (by omega), zb_u2 e31 (by omega), hR 1 (by omega) (by omega), hf 1 (by omega)]
    · have e13 : mm 1 13 = (zb_mks (zb_shN (s.1 g))).1 := by rw [t2 1 (by omega)]; exact zb_u1 e31
      rw [e13] at c1
      have hv1 : v < (zb_mks (zb_shN (s.1 g))).1 := by omega
      have hpm := (hM.1 v v0 hv1).1.1
      obtain ⟨eF, iF⟩ := zb_makersFound v0 (show v < 12 by omega)
      rw [eF]
      have hsm : zb_CS mm 126 (zb_shN (s.1 g)) (zb_sha (s.1 g)) := zb_CS_same hT.2 (fun c c0 c1 => by rw [t2 c (by omega), f31 c (by omega)])
      refine ⟨⟨v0, by omega⟩, zb_inI_of (by omega) (by omega), (s_X10_take (d := d + 19) iF (by omega) (by omega) (by omega) hsm hN hA (by omega) (by rw [zb_len_353]; omega) (by omega) (fun z z0 z1 => by rw [t2 353 (by omega), f31 353 (by omega)]; exact hF.2.1 v z v0 hv1 z0 z1) hpm.1).mono (fun _ m65 ⟨p1, p2, p3⟩ => ⟨zb_inI_of (by omega) (by omega), nxt (by omega) m65 ⟨by omega, fun k k0 k1 => ?_, fun c hc => by rw [p3 c (by omega) (by omega)]; exact t2 c hc⟩⟩)⟩
      by_cases q : k = v
      · rw [q]
        refine ⟨p1, fun i i0 i1 => ?_⟩
        rw [show 477 + 2 * v = 476 + 2 * v + 1 by omega]
        exact p2 i i0 i1
      · rw [p3 _ (by omega) (by omega), p3 _ (by omega) (by omega)]
        exact t1 k k0 (by omega)
  · rw [if_neg (by rw [← hr]; exact c)]
    have hk1 := hOK.2.2.1.2
    refine ⟨hr, ⟨by rw [hf 1 (by omega)]; exact hK.1, fun k k0 k1 => by rw [hf _ (by omega), hf _ (by omega)]; exact hK.2 k k0 k1⟩, fun c hc _ _ => hf c (by omega), fun j _ => by rw [hf 1 (by omega)]⟩
theorem s_X11_maker {d : Nat} {m : zb_M} {K : zb_Km} {k i : Int} (hK : zb_CK m K) (hOK : zb_OK K) : zb_Tp K_X11_maker (d + 3) [(2, 1), (0, k), (0, i)] zb_E0 m (fun r => r = v_maker K k i) := by
  apply w_X11_maker
  unfold PM_X11_maker v_maker
  rw [hK.1, zb_v_1_12]
  have hk1 := hOK.2.2.1.2
  refine s_X11_isBelow.mono (fun r h => ?_)
  rcases zb_if1 h with ⟨q1, q2⟩ | ⟨q1, q2⟩
  · exact ⟨fun _ => by rw [if_neg (fun z => q2 z.1)], fun z => absurd q1 z⟩
  obtain ⟨eF, iF⟩ := zb_makersFound q2.1 (show k < 12 by omega)
  obtain ⟨p1, p2⟩ := hK.2 k q2.1 q2.2
  refine ⟨fun z => by omega, fun _ => ⟨⟨q2.1, by omega⟩, ?_⟩⟩
  rw [eF, zb_trn iF]
  refine (s_X10_leadsFrom iF p1).mono (fun r18 h18 => ?_)
  rw [show 476 + 2 * k + 1 = 477 + 2 * k by omega] at h18 ⊢
  rcases h18 with ⟨r1, r2, r3⟩ | ⟨r1, r2⟩
  · exact ⟨fun z => by omega, fun _ => ⟨r2, by rw [if_pos ⟨q2, r2⟩]; exact p2 i r2.1 r2.2⟩⟩
  · refine ⟨fun _ => ?_, fun z => absurd r1 z⟩
    by_cases q : 0 ≤ i ∧ i < 12
    · rw [if_pos ⟨q2, q⟩, ← p2 i q.1 q.2]
      by_cases q3 : m (477 + 2 * k) i = -1
      · exact q3.symm
      · exact absurd ⟨q, q3⟩ r2
    · rw [if_neg (fun z => q z.2)]
theorem s_X11_then {d : Nat} {m : zb_M} {T : zb_Tn} {K : zb_Km} {k : Int} (hT : zb_CT m T) (hOT : zb_OT T) (hK : zb_CK m K) (hOK : zb_OK K) : zb_T K_X11_then (d + 4) [(2, 1), (0, k)] zb_E0 m (fun r m1 => r = (v_then T K k).1 ∧ zb_CT m1 (v_then T K k).2 ∧ ∀ c, c ≠ 398 → m1 c = m c) := by
  apply w_X11_then
  unfold PM_X11_then v_then
  rw [hK.1, zb_v_1_11, zb_v_1_12]
  have hk1 := hOK.2.2.1.2
  refine s_X11_isBelow.mono (fun r h => ?_)
  rcases zb_if1 h with ⟨q1, q2⟩ | ⟨q1, q2⟩
  · exact ⟨fun _ => by rw [if_neg q2]; exact ⟨rfl, hT, fun _ _ => rfl⟩, fun z => absurd q1 z⟩
  obtain ⟨eF, iF⟩ := zb_makersFound q2.1 (show k < 12 by omega)
  obtain ⟨p1, p2⟩ := hK.2 k q2.1 q2.2
  have hpm := hOK.2.2.2 k q2.1 q2.2
  have tr := zb_tn_rng hOK.2.1 hpm.1
  refine ⟨fun z => by omega, fun _ => ⟨⟨q2.1, by omega⟩, ?_⟩⟩
  rw [eF, if_pos q2]
  match T, hT, hOT with
  | none, hT, _ =>
    have : zb_Tp K_X10_isWithin (d + 3) [(2, 397), (2, 476 + 2 * k)] zb_E0 m (fun r => r = 0) := by
      apply w_X10_isWithin
      exact ⟨fun _ => rfl, fun z => absurd hT z⟩
    exact this.mono (fun r hr => ⟨fun _ => ⟨rfl, hT, fun _ _ => rfl⟩, fun z => absurd hr z⟩)
  | some t, ⟨h1, h2⟩, hOT =>
    have other : ∀ (d : Nat) (mm : zb_M) (i : Int), (∀ c, c ≠ 398 → mm c = m c) → zb_Tp K_X10_leadsFrom (d + 2) [(2, 476 + 2 * k), (0, i)] zb_E0 mm (fun r => (r = 1 ∧ (0 ≤ i ∧ i < 12) ∧ 0 ≤ zb_ix K.2.1 i K.1.toNat) ∨ (r = 0 ∧ ¬ ((0 ≤ i ∧ i < 12) ∧ 0 ≤ zb_ix K.2.1 i K.1.toNat))) := fun d mm i he => by
      refine (s_X10_leadsFrom iF (by rw [he _ (by omega)]; exact p1)).mono (fun r hr => ?_)
      rw [he _ (by omega), show 476 + 2 * k + 1 = 477 + 2 * k by omega] at hr
      have key : (0 ≤ i ∧ i < 12) → (m (477 + 2 * k) i ≠ -1 ↔ 0 ≤ zb_ix K.2.1 i K.1.toNat) := fun hi => by
        rw [p2 i hi.1 hi.2]
        have := (tr i).2.2
        have := zb_ix_rg K.2.1 i K.1.toNat
        omega
      rcases hr with ⟨r1, r2, r3⟩ | ⟨r1, r2⟩
      · exact Or.inl ⟨r1, r2, (key r2).1 r3⟩
      · exact Or.inr ⟨r1, fun z => r2 ⟨z.1, (key z.1).2 z.2⟩⟩
    have own : ∀ (d : Nat) (i : Int), zb_Tp K_X10_leadsFrom (d + 2) [(2, 397), (0, i)] zb_E0 m (fun r => (r = 1 ∧ (0 ≤ i ∧ i < 12) ∧ t i ≠ -1) ∨ (r = 0 ∧ ¬ ((0 ≤ i ∧ i < 12) ∧ t i ≠ -1))) := fun d i => by
      refine (s_X10_leadsFrom zb_i_397 h1).mono (fun r hr => ?_)
      have hr : (r = 1 ∧ (0 ≤ i ∧ i < 12) ∧ m 398 i ≠ -1) ∨ (r = 0 ∧ ¬ ((0 ≤ i ∧ i < 12) ∧ m 398 i ≠ -1)) := hr
      by_cases hi : 0 ≤ i ∧ i < 12
      · rw [h2 i hi.1 hi.2] at hr; exact hr
      · rcases hr with ⟨-, r2, -⟩ | ⟨r1, -⟩
        · exact absurd r2 hi
        · exact Or.inr ⟨r1, fun z => hi z.1⟩
    have within : zb_Tp K_X10_isWithin (d + 3) [(2, 397), (2, 476 + 2 * k)] zb_E0 m (fun r => (r = 1 ∧ zb_wth t K) ∨ (r = 0 ∧ ¬ zb_wth t K)) := by
      apply w_X10_isWithin
      unfold PM_X10_isWithin
      refine ⟨fun z => by omega, fun _ => ?_⟩
      unfold PL_X10_isWithin_11
      rw [zb_trn zb_i_397]
      intro X hX
      refine zb_lp0 (fun v => 0 ≤ v ∧ ∀ i, 0 ≤ i → i < v → (t i ≠ -1 ↔ 0 ≤ zb_ix K.2.1 i K.1.toNat) ∧ (t i ≠ -1 → 0 ≤ zb_ix K.2.1 (t i) K.1.toNat)) 12 (fun v ⟨v0, hv⟩ vn nxt => hX v ⟨fun c => Or.inl ⟨rfl, fun i i0 i1 => hv i i0 (by omega)⟩, fun c => (own d v).mono (fun r19 h19 => (other d m v (fun _ _ => rfl)).mono (fun r24 h24 => ⟨fun e => (own d v).mono (fun r34 h34 => ⟨fun e0 => ⟨zb_inI_of (by omega) (by omega), nxt (by omega) ⟨by omega, fun i i0 i1 => ?_⟩⟩, fun e0 => ⟨⟨v0, by omega⟩, ?_⟩⟩), fun e => Or.inr ⟨rfl, fun z => ?_⟩⟩))⟩) 0 (by omega) ⟨by omega, fun i i0 i1 => by omega⟩
      · by_cases q : i = v
        · rw [q]
          have n1 : ¬ t v ≠ -1 := fun z => by
            rcases h34 with ⟨a1, -⟩ | ⟨-, a2⟩
            · omega
            · exact a2 ⟨by omega, z⟩
          have n2 : r19 = 0 := by
            rcases h19 with ⟨-, -, a3⟩ | ⟨a1, -⟩
            · exact absurd a3 n1
            · exact a1
          have n3 : ¬ 0 ≤ zb_ix K.2.1 v K.1.toNat := fun z => by
            rcases h24 with ⟨a1, -⟩ | ⟨-, a2⟩
            · omega
            · exact a2 ⟨by omega, z⟩
          exact ⟨⟨fun z => absurd z n1, fun z => absurd z n3⟩, fun z => absurd z n1⟩
        · exact hv i i0 (by omega)
      · have y1 : t v ≠ -1 := by
          rcases h34 with ⟨-, -, a3⟩ | ⟨a1, -⟩
          · exact a3
          · exact absurd a1 e0
        have y2 : r19 = 1 := by
          rcases h19 with ⟨a1, -⟩ | ⟨-, a2⟩
          · exact a1
          · exact absurd ⟨by omega, y1⟩ a2
        have y3 : 0 ≤ zb_ix K.2.1 v K.1.toNat := by
          rcases h24 with ⟨-, -, a3⟩ | ⟨a1, -⟩
          · exact a3
          · omega
        have etv : m (397 + 1) v = t v := h2 v v0 (by omega)
        rw [etv]
        have hr := hOT v v0 (by omega)
        refine (other d m (t v) (fun _ _ => rfl)).mono (fun r47 h47 => ⟨fun e1 => Or.inr ⟨rfl, fun z => ?_⟩, fun e1 => ⟨zb_inI_of (by omega) (by omega), nxt (by omega) ⟨by omega, fun i i0 i1 => ?_⟩⟩⟩)
        · have := (z v v0 (by omega)).2 y1
          rcases h47 with ⟨a1, -⟩ | ⟨-, a2⟩
          · omega
          · exact a2 ⟨by omega, this⟩
        · by_cases q : i = v
          · rw [q]
            refine ⟨⟨fun _ => y3, fun _ => y1⟩, fun _ => ?_⟩
            rcases h47 with ⟨-, -, a3⟩ | ⟨a1, -⟩
            · exact a3
            · exact absurd a1 e1
          · exact hv i i0 (by omega)
      · have zv := (z v v0 (by omega)).1
        rcases h19 with ⟨a1, a2, a3⟩ | ⟨a1, a2⟩
        · rcases h24 with ⟨b1, -⟩ | ⟨-, b2⟩
          · omega
          · exact b2 ⟨a2, zv.1 a3⟩
        · rcases h24 with ⟨b1, b2, b3⟩ | ⟨b1, -⟩
          · exact a2 ⟨b2, zv.2 b3⟩
          · omega
    refine within.mono (fun r23 h23 => ?_)
    rcases h23 with ⟨r1, r2⟩ | ⟨r1, r2⟩
    · refine ⟨fun z => by omega, fun _ => ?_⟩
      show zb_T _ _ _ _ _ (fun _ m42 => 1 = (@ite (Int × zb_Tn) (zb_wth t K) (Classical.propDecidable _) (1, some (fun i => if t i = -1 then -1 else zb_tn K.1 K.2.1 (K.2.2.2 k) (t i))) (-2, some t)).1 ∧ zb_CT m42 (@ite (Int × zb_Tn) (zb_wth t K) (Classical.propDecidable _) (1, some (fun i => if t i = -1 then -1 else zb_tn K.1 K.2.1 (K.2.2.2 k) (t i))) (-2, some t)).2 ∧ ∀ c, c ≠ 398 → m42 c = m c)
      rw [if_pos r2]
      apply w_X10_goOnBy
      unfold PM_X10_goOnBy PL_X10_goOnBy_2
      rw [zb_trn zb_i_397, zb_trn iF]
      intro X hX
      refine zb_lp1 (fun v mm => 0 ≤ v ∧ (∀ i, 0 ≤ i → i < v → mm 398 i = if t i = -1 then -1 else zb_tn K.1 K.2.1 (K.2.2.2 k) (t i)) ∧ (∀ i, v ≤ i → i < 12 → mm 398 i = t i) ∧ ∀ c, c ≠ 398 → mm c = m c) 12 (fun v mm ⟨v0, t1, t2, t3⟩ vn nxt => hX v mm ⟨fun c => ⟨rfl, ⟨by rw [t3 397 (by omega)]; exact h1, fun i i0 i1 => t1 i i0 (by omega)⟩, t3⟩, fun c => ?_⟩) 0 m (by omega) ⟨by omega, fun i i0 i1 => by omega, fun i i0 i1 => h2 i i0 i1, fun _ _ => rfl⟩
      have ev : mm 398 v = t v := t2 v (Int.le_refl _) (by omega)
      have hv := r2 v v0 (by omega)
      have hr := hOT v v0 (by omega)
      refine (s_X10_leadsFrom zb_i_397 (by rw [t3 397 (by omega)]; exact h1)).mono (fun r10 h10 => ?_)
      have h10 : (r10 = 1 ∧ (0 ≤ v ∧ v < 12) ∧ mm 398 v ≠ -1) ∨ (r10 = 0 ∧ ¬ ((0 ≤ v ∧ v < 12) ∧ mm 398 v ≠ -1)) := h10
      rw [ev] at h10
      refine ⟨fun e => ⟨zb_inI_of (by omega) (by omega), nxt (by omega) mm ⟨by omega, fun i i0 i1 => ?_, fun i i0 i1 => t2 i (by omega) i1, t3⟩⟩, fun e => ⟨⟨v0, by omega⟩, ?_⟩⟩
      · by_cases q : i = v
        · rw [q, ev]
          by_cases q3 : t v = -1
          · rw [if_pos q3]; exact q3
          · rcases h10 with ⟨a1, -⟩ | ⟨-, a2⟩
            · omega
            · exact absurd ⟨by omega, q3⟩ a2
        · exact t1 i i0 (by omega)
      · have y1 : t v ≠ -1 := by
          rcases h10 with ⟨-, -, a3⟩ | ⟨a1, -⟩
          · exact a3
          · exact absurd a1 e
        have ev2 : mm (397 + 1) v = t v := ev
        rw [ev2]
        refine (other d mm (t v) t3).mono (fun r23 h23 => ⟨fun e1 => ?_, fun e1 => ⟨⟨by omega, hr.2⟩, fun m45 e45 => ⟨zb_inI_of (by omega) (by omega), nxt (by omega) m45 ⟨by omega, fun i i0 i1 => ?_, fun i i0 i1 => ?_, fun c hc => ?_⟩⟩⟩⟩)
        · rcases h23 with ⟨a1, -⟩ | ⟨-, a2⟩
          · omega
          · exact absurd ⟨⟨by omega, hr.2⟩, hv.2 y1⟩ a2
        · have e45 : m45 = zb_up mm 398 v (mm (476 + 2 * k + 1) (t v)) := e45
          by_cases q : i = v
          · rw [q, zb_u1 e45, if_neg y1, t3 _ (by omega), show 476 + 2 * k + 1 = 477 + 2 * k by omega]
            exact p2 (t v) (by omega) hr.2
          · rw [zb_u2 e45 (by omega)]; exact t1 i i0 (by omega)
        · have e45 : m45 = zb_up mm 398 v (mm (476 + 2 * k + 1) (t v)) := e45
          rw [zb_u2 e45 (by omega)]; exact t2 i (by omega) i1
        · have e45 : m45 = zb_up mm 398 v (mm (476 + 2 * k + 1) (t v)) := e45
          rw [zb_u3 e45 hc]; exact t3 c hc
    · refine ⟨fun _ => ?_, fun z => absurd r1 z⟩
      show -2 = (@ite (Int × zb_Tn) (zb_wth t K) (Classical.propDecidable _) (1, some (fun i => if t i = -1 then -1 else zb_tn K.1 K.2.1 (K.2.2.2 k) (t i))) (-2, some t)).1 ∧ zb_CT m (@ite (Int × zb_Tn) (zb_wth t K) (Classical.propDecidable _) (1, some (fun i => if t i = -1 then -1 else zb_tn K.1 K.2.1 (K.2.2.2 k) (t i))) (-2, some t)).2 ∧ ∀ c, c ≠ 398 → m c = m c
      rw [if_neg r2]
      exact ⟨rfl, ⟨h1, h2⟩, fun _ _ => rfl⟩
