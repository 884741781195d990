/-- thing i is in the set r -/
def zb_has (r : Nat) (i : Int) : Prop := r.testBit i.toNat = true
theorem zb_has_get {r : Nat} {i : Int} (hr : r < 4096) (i0 : 0 ≤ i) (i1 : i < 12) : zb_and (zb_shr (r : Int) i) 1 = 1 ↔ zb_has r i := by
  have h := ((zb_bits hr).1 i.toNat (by omega)).2
  rw [show ((i.toNat : Nat) : Int) = i by omega] at h
  rw [h]
  unfold zb_has
  by_cases q : r.testBit i.toNat = true
  · rw [if_pos q]; exact ⟨fun _ => q, fun _ => rfl⟩
  · rw [if_neg q]; exact ⟨fun z => by omega, fun z => absurd z q⟩
theorem zb_has_set {r : Nat} {i : Int} (hr : r < 4096) (i0 : 0 ≤ i) (i1 : i < 12) : ∃ r' : Nat, zb_or (r : Int) (zb_shl 1 i) = (r' : Int) ∧ r' < 4096 ∧ r ≤ r' ∧ ∀ j : Int, 0 ≤ j → (zb_has r' j ↔ zb_has r j ∨ j = i) := by
  have h := ((zb_bits hr).1 i.toNat (by omega)).1
  rw [show ((i.toNat : Nat) : Int) = i by omega] at h
  have hs : ∀ j : Nat, j < 12 → 1 <<< j < 4096 := by decide
  refine ⟨_, h, Nat.or_lt_two_pow (n := 12) hr (hs _ (by omega)), Nat.left_le_or, fun j j0 => ?_⟩
  unfold zb_has
  rw [Nat.testBit_or, Nat.one_shiftLeft, Nat.testBit_two_pow, Bool.or_eq_true, decide_eq_true_eq]
  refine ⟨fun z => ?_, fun z => ?_⟩
  · rcases z with z | z
    · exact Or.inl z
    · exact Or.inr (by omega)
  · rcases z with z | z
    · exact Or.inl z
    · exact Or.inr (by omega)
theorem zb_has_0 (i : Int) : ¬ zb_has 0 i := by
  unfold zb_has
  rw [Nat.zero_testBit]
  exact Bool.false_ne_true
/-! ===== the reference: chains, what makers lead to ===== -/
theorem s_X12_chainOf {d : Nat} {m : zb_M} {k : Int} {N : zb_N} (hN : zb_ON N) (h : zb_RN m N) (k0 : 0 ≤ k) (k1 : k < N.1) : zb_T K_X12_chainOf (d + 3) [(2, 500), (0, k)] zb_E0 m (fun r m1 => (r = zb_chn N k ∧ (0 ≤ r ∧ r ≤ N.1)) ∧ ∀ c, c ≠ 539 → m1 c = m c) := by
  apply w_X12_chainOf
  have hn := hN.1.2
  unfold PM_X12_chainOf PL_X12_chainOf_4
  intro X hX
  refine zb_lq2 (fun c v mm => k ≤ v ∧ c = zb_sum (fun y => @ite Int (k ≤ y ∧ ∃ f, zb_led N k k y f) (Classical.propDecidable _) 1 0) v.toNat ∧ (0 ≤ c ∧ c ≤ v) ∧ ∀ b, b ≠ 539 → mm b = m b) N.1 (fun c v mm ⟨v0, hc, cr, hf⟩ vn nxt => hX c v mm ⟨fun c1 => ?_, fun c1 => ?_⟩) 0 k m (by omega) ⟨Int.le_refl _, (zb_sum_none (fun y y0 y1 => if_neg (fun z => by omega))).symm, by omega, fun b _ => rfl⟩
  · rw [hf 500 (by omega), h.1] at c1
    have hv : v = N.1 := by omega
    subst hv
    exact ⟨⟨hc, cr⟩, hf⟩
  · rw [hf 500 (by omega), h.1] at c1
    have hRN : zb_RN mm N := zb_RN_same h (by rw [hf 500 (by omega)]) (hf 516 (by omega)) (hf 517 (by omega))
    refine (s_X12_find hN hRN k0 (Int.le_refl _) k1 (by omega) (by omega)).mono (fun r17 m17 ⟨q1, q2⟩ => ?_)
    have hf17 : ∀ b, b ≠ 539 → m17 b = m b := fun b hb => by rw [q2 b hb]; exact hf b hb
    rcases q1 with ⟨r1, r2⟩ | ⟨r1, r2⟩
    · refine ⟨fun z => by omega, fun _ => ⟨zb_inI_of (by omega) (by omega), zb_inI_of (by omega) (by omega), nxt (by omega) (c + 1) m17 ⟨by omega, ?_, by omega, hf17⟩⟩⟩
      rw [zb_sum_S _ (by omega), ← hc, if_pos ⟨v0, _, r2.1⟩]
    · refine ⟨fun _ => ⟨zb_inI_of (by omega) (by omega), zb_inI_of (by omega) (by omega), nxt (by omega) (c + 0) m17 ⟨by omega, ?_, by omega, hf17⟩⟩, fun z => absurd r1 z⟩
      rw [zb_sum_S _ (by omega), ← hc, if_neg (fun z => by obtain ⟨f, hz⟩ := z.2; exact r2 f hz)]
/-- the reference's makers, as rows over things -/
def zb_rmk (m : zb_M) (n : Int) (o : Int → Int) (M : zb_Mk) : Prop := m 500 49 = M.1 ∧ ∀ k z, 0 ≤ k → k < M.1 → 0 ≤ z → z < n → m 540 (12 * k + o z) = o (M.2 k z)
theorem s_X12_leads {d : Nat} {m : zb_M} {n x y : Int} {o : Int → Int} {M : zb_Mk} (n0 : 0 ≤ n) (ho : zb_asc n 12 o) (hr : zb_rmk m n o M) (k0 : 0 ≤ M.1) (k1 : M.1 ≤ 12) (hM : ∀ j, 0 ≤ j → j < M.1 → zb_pm n (M.2 j)) (x0 : 0 ≤ x) (x1 : x < n) (y0 : 0 ≤ y) (y1 : y < n) : zb_Tp K_X12_leads (d + 1) [(2, 500), (0, o x), (0, o y)] zb_E0 m (fun r => (r = 1 ∧ zb_cn n M x y) ∨ (r = 0 ∧ ¬ zb_cn n M x y)) := by
  apply w_X12_leads
  have hox := ho.1 x x0 x1
  have hoy := ho.1 y y0 y1
  have inj := zb_asc_inj ho
  obtain ⟨ra, ea, ra1, -, ra3⟩ := zb_has_set (r := 0) (i := o x) (by omega) hox.1 hox.2
  have e0 : zb_shl 1 (o x) = (ra : Int) := by
    have h2 : zb_or ((0 : Nat) : Int) (zb_shl 1 (o x)) = zb_shl 1 (o x) := by
      have hck : ∀ i : Nat, i < 12 → zb_or ((0 : Nat) : Int) (zb_shl 1 (i : Int)) = zb_shl 1 (i : Int) := by decide +kernel
      have := hck (o x).toNat (by omega)
      rw [show (((o x).toNat : Nat) : Int) = o x by omega] at this
      exact this
    rw [← h2]; exact ea
  unfold PM_X12_leads PL_X12_leads_7
  rw [e0]
  intro X hX
  have ra0 : (ra : Int) ≠ 0 := fun z => by
    have : ra = 0 := by omega
    rw [this] at ra3
    exact zb_has_0 (o x) ((ra3 (o x) hox.1).2 (Or.inr rfl))
  have good0 : ∀ i, 0 ≤ i → zb_has ra i → ∃ z, 0 ≤ z ∧ z < n ∧ o z = i ∧ zb_cn n M x z := fun i i0 h => by
    rcases (ra3 i i0).1 h with q | q
    · exact absurd q (zb_has_0 i)
    · exact ⟨x, x0, x1, q.symm, zb_cn.rf x⟩
  have exit : ∀ r : Nat, r < 4096 → (∀ i, 0 ≤ i → zb_has r i → ∃ z, 0 ≤ z ∧ z < n ∧ o z = i ∧ zb_cn n M x z) → zb_has r (o x) → (∀ k z, 0 ≤ k → k < M.1 → 0 ≤ z → z < n → zb_has r (o z) → zb_has r (o (M.2 k z))) → PJ_X12_leads_85 d zb_E0 (o y) (fun r => (r = 1 ∧ zb_cn n M x y) ∨ (r = 0 ∧ ¬ zb_cn n M x y)) (r : Int) := by
    intro r hr4 hg hx hcl
    unfold PJ_X12_leads_85
    rw [zb_has_get hr4 hoy.1 hoy.2]
    refine ⟨fun c => ?_, fun c => Or.inr ⟨rfl, fun h => c ?_⟩⟩
    · obtain ⟨z, z0, z1, e, hz⟩ := hg (o y) hoy.1 c
      rw [inj z y z0 z1 y0 y1 e] at hz
      exact Or.inl ⟨rfl, hz⟩
    · have := h.of (fun z => if 0 ≤ z ∧ z < n then (@ite Int (zb_has r (o z)) (Classical.propDecidable _) 1 0) else 2) (fun k z a0 a1 z0 z1 => by
        have hm := hM k a0 a1
        have hz := hm.1 z z0 z1
        show (if 0 ≤ z ∧ z < n then (@ite Int (zb_has r (o z)) (Classical.propDecidable _) 1 0) else 2) = (if 0 ≤ M.2 k z ∧ M.2 k z < n then (@ite Int (zb_has r (o (M.2 k z))) (Classical.propDecidable _) 1 0) else 2)
        rw [if_pos ⟨z0, z1⟩, if_pos hz]
        have key := zb_sum_eqle (f := fun z => @ite Int (zb_has r (o z)) (Classical.propDecidable _) 1 0) (g := fun z => @ite Int (zb_has r (o (M.2 k z))) (Classical.propDecidable _) 1 0) (k := n.toNat) (fun u u0 u1 => by
          show (@ite Int (zb_has r (o u)) (Classical.propDecidable _) 1 0) ≤ @ite Int (zb_has r (o (M.2 k u))) (Classical.propDecidable _) 1 0
          by_cases q : zb_has r (o u)
          · rw [if_pos q, if_pos (hcl k u a0 a1 u0 (by omega) q)]; omega
          · rw [if_neg q]
            by_cases q2 : zb_has r (o (M.2 k u))
            · rw [if_pos q2]; omega
            · rw [if_neg q2]; omega) (zb_pm_sum hm (fun z => @ite Int (zb_has r (o z)) (Classical.propDecidable _) 1 0)).symm
        exact key z z0 (by omega))
      have this : (if 0 ≤ x ∧ x < n then (@ite Int (zb_has r (o x)) (Classical.propDecidable _) 1 0) else 2) = (if 0 ≤ y ∧ y < n then (@ite Int (zb_has r (o y)) (Classical.propDecidable _) 1 0) else 2) := this
      rw [if_pos (c := 0 ≤ x ∧ x < n) ⟨x0, x1⟩, if_pos (c := 0 ≤ y ∧ y < n) ⟨y0, y1⟩, if_pos hx] at this
      by_cases q : zb_has r (o y)
      · exact q
      · rw [if_neg q] at this; omega
  have pass : ∀ r : Nat, r < 4096 → (∀ i, 0 ≤ i → zb_has r i → ∃ z, 0 ≤ z ∧ z < n ∧ o z = i ∧ zb_cn n M x z) → zb_has r (o x) → (∀ r' : Nat, r' < 4096 → r ≤ r' → (∀ i, 0 ≤ i → zb_has r' i → ∃ z, 0 ≤ z ∧ z < n ∧ o z = i ∧ zb_cn n M x z) → zb_has r' (o x) → (r' = r → ∀ k z, 0 ≤ k → k < M.1 → 0 ≤ z → z < n → zb_has r (o z) → zb_has r (o (M.2 k z))) → X (r' : Int) (r : Int)) → PL_X12_leads_19 d zb_E0 500 m (fun r => (r = 1 ∧ zb_cn n M x y) ∨ (r = 0 ∧ ¬ zb_cn n M x y)) (PJ_X12_leads_82 d zb_E0 (r : Int) X (fun r => (r = 1 ∧ zb_cn n M x y) ∨ (r = 0 ∧ ¬ zb_cn n M x y))) (r : Int) 0 := by
    intro r hr4 hg hx hend
    unfold PL_X12_leads_19
    rw [hr.1]
    intro Y hY
    refine zb_lq (fun c k => 0 ≤ k ∧ ∃ r' : Nat, c = (r' : Int) ∧ r' < 4096 ∧ r ≤ r' ∧ (∀ i, 0 ≤ i → zb_has r' i → ∃ z, 0 ≤ z ∧ z < n ∧ o z = i ∧ zb_cn n M x z) ∧ zb_has r' (o x) ∧ (r' = r → ∀ j z, 0 ≤ j → j < k → 0 ≤ z → z < n → zb_has r (o z) → zb_has r (o (M.2 j z)))) M.1 (fun c k ⟨q0, r', ec, h1, h2, h3, h4, h5⟩ kn nx2 => hY c k ⟨fun c1 => ?_, fun c1 => ?_⟩) (r : Int) 0 k0 ⟨Int.le_refl _, r, rfl, hr4, Nat.le_refl _, hg, hx, fun _ j z j0 j1 => by omega⟩
    · rw [ec]
      unfold PJ_X12_leads_82
      exact hend r' h1 h2 h3 h4 (fun e j z j0 j1 z0 z1 h => h5 e j z j0 (by omega) z0 z1 h)
    · rw [ec]
      have hk1 : k < M.1 := by omega
      unfold PL_X12_leads_31
      rw [zb_v_500_50]
      intro Z hZ
      refine zb_lq (fun c i => 0 ≤ i ∧ ∃ r' : Nat, c = (r' : Int) ∧ r' < 4096 ∧ r ≤ r' ∧ (∀ i, 0 ≤ i → zb_has r' i → ∃ z, 0 ≤ z ∧ z < n ∧ o z = i ∧ zb_cn n M x z) ∧ zb_has r' (o x) ∧ (r' = r → (∀ j z, 0 ≤ j → j < k → 0 ≤ z → z < n → zb_has r (o z) → zb_has r (o (M.2 j z))) ∧ ∀ z, 0 ≤ z → z < n → o z < i → zb_has r (o z) → zb_has r (o (M.2 k z)))) 12 (fun c i ⟨i0, r', ec, h1, h2, h3, h4, h5⟩ inn nx3 => hZ c i ⟨fun c1 => ?_, fun c1 => ?_⟩) (r' : Int) 0 (by omega) ⟨Int.le_refl _, r', rfl, h1, h2, h3, h4, fun e => ⟨h5 e, fun z z0 z1 q => by have := (ho.1 z z0 z1).1; omega⟩⟩
      · unfold PJ_X12_leads_76
        refine ⟨zb_inI_of (by omega) (by omega), nx2 hk1 c ⟨by omega, r', ec, h1, h2, h3, h4, fun e j z j0 j1 z0 z1 h => ?_⟩⟩
        by_cases q : j = k
        · subst q
          exact (h5 e).2 z z0 z1 (by have := (ho.1 z z0 z1).2; omega) h
        · exact (h5 e).1 j z j0 (by omega) z0 z1 h
      · rw [ec, zb_has_get h1 i0 (by omega)]
        refine ⟨fun c2 => ?_, fun c2 => ?_⟩
        · obtain ⟨z, z0, z1, ez, hz⟩ := h3 i i0 c2
          have em : m 540 (12 * k + i) = o (M.2 k z) := by rw [← ez]; exact hr.2 k z q0 hk1 z0 z1
          have hmz := (hM k q0 hk1).1 z z0 z1
          have hom := ho.1 _ hmz.1 hmz.2
          rw [em]
          refine ⟨zb_inI_of (by omega) (by omega), zb_inI_of (by omega) (by omega), ⟨by omega, by omega⟩, zb_inI_of (by omega) (by omega), ?_⟩
          obtain ⟨r2, e2, g1, g2, g3⟩ := zb_has_set (r := r') (i := o (M.2 k z)) h1 hom.1 hom.2
          rw [e2]
          refine nx3 (by omega) _ ⟨by omega, r2, rfl, g1, by omega, fun i' i'0 h => ?_, (g3 _ hox.1).2 (Or.inl h4), fun e => ?_⟩
          · rcases (g3 i' i'0).1 h with h | h
            · exact h3 i' i'0 h
            · exact ⟨M.2 k z, hmz.1, hmz.2, h.symm, hz.tr (zb_cn.gn q0 hk1 z0 z1)⟩
          · have er : r' = r := by omega
            refine ⟨(h5 er).1, fun z' z'0 z'1 q h => ?_⟩
            by_cases q2 : o z' = i
            · have ezz : z' = z := inj z' z z'0 z'1 z0 z1 (q2.trans ez.symm)
              rw [ezz]
              have := (g3 (o (M.2 k z)) hom.1).2 (Or.inr rfl)
              rw [e] at this
              exact this
            · exact (h5 er).2 z' z'0 z'1 (by omega) h
        · refine ⟨zb_inI_of (by omega) (by omega), ?_⟩
          rw [(zb_bits h1).2]
          refine nx3 (by omega) _ ⟨by omega, r', rfl, h1, h2, h3, h4, fun e => ⟨(h5 e).1, fun z z0 z1 q h => ?_⟩⟩
          by_cases q2 : o z = i
          · rw [q2, ← e] at h; exact absurd h c2
          · exact (h5 e).2 z z0 z1 (by omega) h
  have loop : ∀ (f r b : Nat), 4096 - r ≤ f → (r : Int) ≠ (b : Int) → r < 4096 → (∀ i, 0 ≤ i → zb_has r i → ∃ z, 0 ≤ z ∧ z < n ∧ o z = i ∧ zb_cn n M x z) → zb_has r (o x) → X (r : Int) (b : Int) := by
    intro f
    induction f with
    | zero => intro r b hf hne hr4; omega
    | succ f ih =>
      intro r b hf hne hr4 hg hx
      refine hX r b ⟨fun z => absurd z hne, fun _ => pass r hr4 hg hx (fun r' q1 q2 q3 q4 q5 => ?_)⟩
      by_cases e : r' = r
      · subst e
        exact hX r' r' ⟨fun _ => exit r' q1 q3 q4 (q5 rfl), fun z => absurd rfl z⟩
      · exact ih r' r (by omega) (by omega) q1 q3 q4
  exact loop 4096 ra 0 (by omega) ra0 ra1 good0 ((ra3 (o x) hox.1).2 (Or.inr rfl))
