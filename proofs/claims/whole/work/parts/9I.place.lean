/-! ===== the class: a name is put in its place ===== -/
theorem zb_lnm {i : Int} (h0 : 0 ≤ i) (h1 : i < 8) : zb_is zb_E0.1 (404 + 3 * i) 3 := by
  have : i = 0 ∨ i = 1 ∨ i = 2 ∨ i = 3 ∨ i = 4 ∨ i = 5 ∨ i = 6 ∨ i = 7 := by omega
  rcases this with q | q | q | q | q | q | q | q <;> subst q <;> exact zb_isb_ok (by decide +kernel)
theorem s_X3_isLessThan {d : Nat} {m : zb_M} {a b l : Int} (ia : zb_is zb_E0.1 a 3) (ib : zb_is zb_E0.1 b 3) (h1 : m a 2 = l) (h2 : m b 2 = l) (l0 : 0 ≤ l ∧ l ≤ 157) : zb_Tp K_X3_isLessThan (d + 2) [(2, a), (2, b)] zb_E0 m (fun r => (r = 1 ∧ zb_lex l (m (a + 1)) (m (b + 1))) ∨ (r = 0 ∧ ¬ zb_lex l (m (a + 1)) (m (b + 1)))) := by
  apply w_X3_isLessThan
  unfold PM_X3_isLessThan
  rw [(zb_nam ia).1, (zb_nam ib).1]
  refine (s_X3_differsAt ia ib h1 h2 l0 l0).mono (fun r hr => ?_)
  rw [if_neg (Int.lt_irrefl _)] at hr
  rcases hr with ⟨e, hr⟩ | ⟨r0, r1, r2, r3⟩
  · refine ⟨fun _ => Or.inr ⟨rfl, fun z => zb_lex_ir z (Or.inl (zb_eqo.sy hr))⟩, fun z => by omega⟩
  · refine ⟨fun z => by omega, fun _ => ⟨⟨r0, by omega⟩, fun c => Or.inr ⟨rfl, fun z => zb_lex_ir z (Or.inr ⟨r, r0, r1, fun i i0 i1 => (r2 i i0 i1).symm, by omega⟩)⟩, fun c => Or.inl ⟨rfl, r, r0, r1, r2, by omega⟩⟩⟩
theorem s_X2_putInPlace {d : Nat} {m : zb_M} {c l : Int} {s : Int → Int} (hc : m 400 1 = c) (c0 : 0 ≤ c) (c1 : c < 8) (l0 : 0 ≤ l ∧ l ≤ 157) (hs : zb_pm 8 s) (hn : ∀ k, 0 ≤ k → k < 8 → m 401 k = 404 + 3 * s k) (hl : ∀ k, 0 ≤ k → k ≤ c → m (404 + 3 * s k) 2 = l) (hst : ∀ i k, 0 ≤ i → i < k → k < c → zb_lex l (m (404 + 3 * s i + 1)) (m (404 + 3 * s k + 1))) (hne : ∀ k, 0 ≤ k → k < c → ¬ zb_eqo l (m (404 + 3 * s k + 1)) (m (404 + 3 * s c + 1))) : zb_T K_X2_putInPlace (d + 3) [(2, 400)] zb_E0 m (fun _ m1 => ∃ i, (0 ≤ i ∧ i ≤ c) ∧ m1 400 1 = c + 1 ∧ (∀ k, 0 ≤ k → k < 8 → m1 401 k = 404 + 3 * zb_rot s i c k) ∧ (∀ k, 0 ≤ k → k < i → zb_lex l (m (404 + 3 * s k + 1)) (m (404 + 3 * s c + 1))) ∧ (∀ k, i ≤ k → k < c → zb_lex l (m (404 + 3 * s c + 1)) (m (404 + 3 * s k + 1))) ∧ ∀ x, x ≠ 400 → x ≠ 401 → m1 x = m x) := by
  apply w_X2_putInPlace
  have sr := fun k (k0 : 0 ≤ k) (k1 : k < 8) => hs.1 k k0 k1
  have sc := sr c c0 c1
  unfold PM_X2_putInPlace
  rw [zb_v_400_0, hc, hn c c0 c1]
  refine ⟨⟨c0, c1⟩, zb_lnm sc.1 sc.2, ?_⟩
  unfold PL_X2_putInPlace_15
  rw [zb_v_400_0, hc, hn c c0 c1]
  intro X hX
  have fin : ∀ (u : Int) (mm : zb_M), 0 ≤ u → u ≤ c → (∀ k, 0 ≤ k → k < u → mm 401 k = 404 + 3 * s k) → (∀ k, u < k → k ≤ c → mm 401 k = 404 + 3 * s (k - 1)) → (∀ k, c < k → k < 8 → mm 401 k = 404 + 3 * s k) → (∀ x, x ≠ 401 → mm x = m x) → (∀ k, u ≤ k → k < c → zb_lex l (m (404 + 3 * s c + 1)) (m (404 + 3 * s k + 1))) → (∀ k, 0 ≤ k → k < u → zb_lex l (m (404 + 3 * s k + 1)) (m (404 + 3 * s c + 1))) → PJ_X2_putInPlace_54 (d + 2) zb_E0 400 m (fun _ m1 => ∃ i, (0 ≤ i ∧ i ≤ c) ∧ m1 400 1 = c + 1 ∧ (∀ k, 0 ≤ k → k < 8 → m1 401 k = 404 + 3 * zb_rot s i c k) ∧ (∀ k, 0 ≤ k → k < i → zb_lex l (m (404 + 3 * s k + 1)) (m (404 + 3 * s c + 1))) ∧ (∀ k, i ≤ k → k < c → zb_lex l (m (404 + 3 * s c + 1)) (m (404 + 3 * s k + 1))) ∧ ∀ x, x ≠ 400 → x ≠ 401 → m1 x = m x) u mm := by
    intro u mm u0 uc q1 q2 q3 q4 q5 q6
    unfold PJ_X2_putInPlace_54
    rw [zb_v_400_0, hc, hn c c0 c1]
    refine ⟨⟨u0, by omega⟩, fun m60 e60 => ?_⟩
    have e1 : m60 400 1 = c := by rw [zb_u3 e60 (by omega), q4 400 (by omega)]; exact hc
    rw [e1]
    refine ⟨zb_inI_of (by omega) (by omega), fun m68 e68 => ⟨u, ⟨u0, uc⟩, zb_u1 e68, fun k k0 k1 => ?_, q6, q5, fun x x1 x2 => by rw [zb_u3 e68 x1, zb_u3 e60 x2]; exact q4 x x2⟩⟩
    rw [zb_u3 e68 (by omega)]
    unfold zb_rot
    by_cases w : k = u
    · rw [if_pos w, w]; exact zb_u1 e60
    · rw [if_neg w, zb_u2 e60 (by omega)]
      by_cases w2 : u < k ∧ k ≤ c
      · rw [if_pos w2]; exact q2 k w2.1 w2.2
      · rw [if_neg w2]
        by_cases w3 : k < u
        · exact q1 k k0 w3
        · exact q3 k (by omega) k1
  have go : ∀ (f : Nat) (u : Int) (mm : zb_M), 0 ≤ u → u ≤ c → u ≤ f → (∀ k, 0 ≤ k → k < u → mm 401 k = 404 + 3 * s k) → (∀ k, u < k → k ≤ c → mm 401 k = 404 + 3 * s (k - 1)) → (∀ k, c < k → k < 8 → mm 401 k = 404 + 3 * s k) → (∀ x, x ≠ 401 → mm x = m x) → (∀ k, u ≤ k → k < c → zb_lex l (m (404 + 3 * s c + 1)) (m (404 + 3 * s k + 1))) → X u mm := by
    intro f
    induction f with
    | zero =>
      intro u mm u0 uc uf q1 q2 q3 q4 q5
      exact hX u mm ⟨fun _ => fin u mm u0 uc q1 q2 q3 q4 q5 (fun k k0 k1 => by omega), fun z => by omega⟩
    | succ f ih =>
      intro u mm u0 uc uf q1 q2 q3 q4 q5
      refine hX u mm ⟨fun z => fin u mm u0 uc q1 q2 q3 q4 q5 (fun k k0 k1 => by omega), fun z => ⟨zb_inI_of (by omega) (by omega), ⟨by omega, by omega⟩, ?_⟩⟩
      have su := sr (u - 1) (by omega) (by omega)
      rw [q1 (u - 1) (by omega) (by omega)]
      have fr : ∀ k, 0 ≤ k → k < 8 → ∀ j, 0 ≤ j → j ≤ 1 → mm (404 + 3 * s k + j) = m (404 + 3 * s k + j) := fun k k0 k1 j j0 j1 => q4 _ (by have := sr k k0 k1; omega)
      have fr0 : ∀ k, 0 ≤ k → k < 8 → mm (404 + 3 * s k) = m (404 + 3 * s k) := fun k k0 k1 => q4 _ (by have := sr k k0 k1; omega)
      refine ⟨zb_lnm su.1 su.2, (s_X3_isLessThan (d := d) (zb_lnm sc.1 sc.2) (zb_lnm su.1 su.2) (l := l) (by rw [fr0 c c0 c1]; exact hl c c0 (Int.le_refl _)) (by rw [fr0 (u - 1) (by omega) (by omega)]; exact hl (u - 1) (by omega) (by omega)) l0).mono (fun r hr => ?_)⟩
      rw [fr c c0 c1 1 (by omega) (by omega), fr (u - 1) (by omega) (by omega) 1 (by omega) (by omega)] at hr
      rcases hr with ⟨r1, hr⟩ | ⟨r1, hr⟩
      · refine ⟨fun w => by omega, fun _ => ⟨⟨u0, by omega⟩, fun m47 e47 => ⟨zb_inI_of (by omega) (by omega), ih (u + -1) m47 (by omega) (by omega) (by omega) (fun k k0 k1 => ?_) (fun k k0 k1 => ?_) (fun k k0 k1 => ?_) (fun x hx => by rw [zb_u3 e47 hx]; exact q4 x hx) (fun k k0 k1 => ?_)⟩⟩⟩
        · rw [zb_u2 e47 (by omega)]; exact q1 k k0 (by omega)
        · by_cases w : k = u
          · rw [w, zb_u1 e47]
          · rw [zb_u2 e47 (by omega)]; exact q2 k (by omega) k1
        · rw [zb_u2 e47 (by omega)]; exact q3 k k0 k1
        · by_cases w : k = u - 1
          · rw [w]; exact hr
          · exact q5 k (by omega) k1
      · refine ⟨fun _ => fin u mm u0 uc q1 q2 q3 q4 q5 (fun k k0 k1 => ?_), fun w => absurd r1 w⟩
        have hlt : zb_lex l (m (404 + 3 * s (u - 1) + 1)) (m (404 + 3 * s c + 1)) := by
          rcases zb_le_of_not l0.1 hr with w | w
          · exact absurd w (hne (u - 1) (by omega) (by omega))
          · exact w
        by_cases w : k = u - 1
        · rw [w]; exact hlt
        · exact zb_lex_tr (hst k (u - 1) k0 (by omega) (by omega)) hlt
  exact go c.toNat c m c0 (Int.le_refl _) (by omega) (fun k k0 k1 => hn k k0 (by omega)) (fun k k0 k1 => by omega) (fun k k0 k1 => hn k (by omega) k1) (fun _ _ => rfl) (fun k k0 k1 => by omega)
/-! what a list holds -/
/-- how many names; of how many things; the rows -/
abbrev zb_Li : Type := Int × Int × (Int → Int → Int)
noncomputable def zb_R (n : Int) (b : Nat) : Int → Int := (zb_nmW (zb_dr n b)).2.2.1
def zb_pcM (b M : Nat) : Prop := zb_pc b = M
/-- the names of the drawings below v of M lines -/
def zb_Sv (n : Int) (M : Nat) (v : Int) (L : zb_Li) : Prop := L.2.1 = n ∧ 0 ≤ L.1 ∧ (∀ k, 0 ≤ k → k < L.1 → ∃ b : Nat, (b : Int) < v ∧ zb_pcM b M ∧ zb_eqo (zb_rsz n) (zb_R n b) (L.2.2 k)) ∧ (∀ b : Nat, (b : Int) < v → zb_pcM b M → ∃ k, (0 ≤ k ∧ k < L.1) ∧ zb_eqo (zb_rsz n) (zb_R n b) (L.2.2 k)) ∧ ∀ i k, 0 ≤ i → i < k → k < L.1 → zb_lex (zb_rsz n) (L.2.2 i) (L.2.2 k)
theorem zb_lex_ne {n : Int} {f g : Int → Int} (h : zb_lex n f g) (e : zb_eqo n f g) : False := zb_lex_ir h (Or.inl e.sy)
theorem zb_Sv_half {n : Int} {M : Nat} {v : Int} {A B : zb_Li} (a : zb_Sv n M v A) (b : zb_Sv n M v B) : ∀ (f : Nat) (k : Int), k ≤ f → 0 ≤ k → k < A.1 → k < B.1 ∧ zb_eqo (zb_rsz n) (A.2.2 k) (B.2.2 k) := by
  have to : ∀ {A B : zb_Li}, zb_Sv n M v A → zb_Sv n M v B → ∀ k, 0 ≤ k → k < A.1 → ∃ l, (0 ≤ l ∧ l < B.1) ∧ zb_eqo (zb_rsz n) (A.2.2 k) (B.2.2 l) := fun a b k k0 k1 => by
    obtain ⟨x, x0, x1, x2⟩ := a.2.2.1 k k0 k1
    obtain ⟨l, l0, l1⟩ := b.2.2.2.1 x x0 x1
    exact ⟨l, l0, x2.sy.tr l1⟩
  have A3 := a.2.2.2.2
  have B3 := b.2.2.2.2
  intro f
  induction f with
  | zero =>
    intro k kf k0 k1
    obtain ⟨l, ⟨l0, l1⟩, e⟩ := to a b k k0 k1
    by_cases q : l = k
    · rw [q] at e l1; exact ⟨l1, e⟩
    · obtain ⟨j, ⟨j0, j1⟩, e2⟩ := to b a k k0 (by omega)
      have w := B3 k l k0 (by omega) l1
      by_cases q2 : j = k
      · rw [q2] at e2; exact (zb_lex_ne w (e2.tr e)).elim
      · have w2 := A3 k j k0 (by omega) j1
        exact (zb_lex_ir (zb_lex_tr w2 (zb_lex_congr e2 e.sy w)) (Or.inl (zb_eqo.rf _ _))).elim
  | succ f ih =>
    intro k kf k0 k1
    obtain ⟨l, ⟨l0, l1⟩, e⟩ := to a b k k0 k1
    rcases Int.lt_trichotomy l k with q | q | q
    · have h := (ih l (by omega) l0 (by omega)).2
      exact (zb_lex_ne (A3 l k l0 q k1) (h.tr e.sy)).elim
    · rw [q] at e l1; exact ⟨l1, e⟩
    · obtain ⟨j, ⟨j0, j1⟩, e2⟩ := to b a k k0 (by omega)
      have w := B3 k l k0 q l1
      rcases Int.lt_trichotomy j k with q2 | q2 | q2
      · have h := (ih j (by omega) j0 (by omega)).2
        exact (zb_lex_ne (B3 j k j0 q2 (by omega)) (h.sy.tr e2.sy)).elim
      · rw [q2] at e2; exact (zb_lex_ne w (e2.tr e)).elim
      · have w2 := A3 k j k0 q2 j1
        exact (zb_lex_ir (zb_lex_tr w2 (zb_lex_congr e2 e.sy w)) (Or.inl (zb_eqo.rf _ _))).elim
theorem zb_Sv_uniq {n : Int} {M : Nat} {v : Int} {A B : zb_Li} (a : zb_Sv n M v A) (b : zb_Sv n M v B) : A.1 = B.1 ∧ ∀ k, 0 ≤ k → k < A.1 → zb_eqo (zb_rsz n) (A.2.2 k) (B.2.2 k) := by
  have a0 := a.2.1
  have b0 := b.2.1
  refine ⟨?_, fun k k0 k1 => (zb_Sv_half a b k.toNat k (by omega) k0 k1).2⟩
  have h1 : A.1 ≤ B.1 := by
    by_cases q : A.1 = 0
    · omega
    · have := (zb_Sv_half a b (A.1 - 1).toNat (A.1 - 1) (by omega) (by omega) (by omega)).1; omega
  have h2 : B.1 ≤ A.1 := by
    by_cases q : B.1 = 0
    · omega
    · have := (zb_Sv_half b a (B.1 - 1).toNat (B.1 - 1) (by omega) (by omega) (by omega)).1; omega
  omega
/-! how many -/
def zb_cle (c n : Int) (M : Nat) (v : Int) : Prop := c ≤ (zb_lmc n.toNat M v.toNat : Int)
theorem zb_lmc_mono (n M v : Nat) : ∀ w : Nat, zb_lmc n M v ≤ zb_lmc n M (v + w) := by
  intro w
  induction w with
  | zero => exact Nat.le_refl _
  | succ w ih =>
    show zb_lmc n M v ≤ zb_lmc n M (v + w + 1)
    rw [zb_lmc_S]
    exact Nat.le_trans ih (Nat.le_add_right _ _)
theorem zb_cle_7 {c n v : Int} {M : Nat} (h : zb_cle c n M v) (n0 : 1 ≤ n) (n1 : n ≤ 5) (hM : M < 11) (hv : v ≤ ((2 ^ zb_prN n.toNat : Nat) : Int)) : c ≤ 7 := by
  have a := zb_lmc_mono n.toNat M v.toNat (2 ^ zb_prN n.toNat - v.toNat)
  rw [Nat.add_sub_of_le (Int.toNat_le.2 hv)] at a
  have b := zb_lmc_7 (n := n.toNat) (m := M) (by omega) (by omega) hM
  have c := Nat.le_trans a b
  unfold zb_cle at h
  exact Int.le_trans h (Int.ofNat_le.2 c)
theorem zb_cle_up {c n v : Int} {M : Nat} (h : zb_cle c n M v) (v0 : 0 ≤ v) : zb_cle c n M (v + 1) := by
  unfold zb_cle at *
  have a := zb_lmc_mono n.toNat M v.toNat 1
  rw [show (v + 1).toNat = v.toNat + 1 by omega]
  exact Int.le_trans h (Int.ofNat_le.2 a)
theorem zb_cle_new {c n : Int} {M v : Nat} (h : zb_cle c n M v) (n0 : 1 ≤ n) (n1 : n ≤ 5) (hv : v < 2 ^ zb_prN n.toNat) (hp : zb_pcM v M) (hn : ∀ b : Nat, b < v → zb_pcM b M → ¬ zb_eqo (zb_rsz n) (zb_R n b) (zb_R n v)) : zb_cle (c + 1) n M ((v : Int) + 1) := by
  have h10 := zb_pr_10 (n := n) (by omega) n1
  have row : ∀ b : Nat, b < 2 ^ zb_prN n.toNat → ∀ x : Nat, x < n.toNat - 1 → (zb_pcM b M → zb_pcM (zb_xN x b) M) ∧ zb_xN x b < 2 ^ zb_prN n.toNat ∧ zb_eqo (zb_rsz n) (zb_R n b) (zb_R n (zb_xN x b)) := fun b hb x hx => by
    have ok := zb_xN_ok (b := b) (x := x) (by omega) (by omega)
    have iso := zb_xN_iso (n := n) (x := (x : Int)) (b := b) n1 (by omega) (by omega) hb
    have hl := ok.2.2.2 n.toNat (by omega) (by omega) hb
    refine ⟨fun z => ok.2.1.trans z, hl, ?_⟩
    exact zb_row_iso (N := zb_dr n b) (zb_dr_ON b (by omega) n1) (zb_dr_ON _ (by omega) n1) iso
  have lm : zb_lm n.toNat v = true := by
    unfold zb_lm
    refine List.all_eq_true.mpr (fun x hx => ?_)
    have hx := List.mem_range.mp hx
    obtain ⟨p1, p2, p3⟩ := row v hv x hx
    rw [Bool.and_eq_true]
    refine ⟨Nat.ble_eq_true_of_le (Nat.le_of_not_lt (fun z => hn _ z (p1 hp) p3.sy)), List.all_eq_true.mpr (fun y hy => ?_)⟩
    have hy := List.mem_range.mp hy
    obtain ⟨q1, q2, q3⟩ := row _ p2 y hy
    exact Nat.ble_eq_true_of_le (Nat.le_of_not_lt (fun z => hn _ z (q1 (p1 hp)) (p3.tr q3).sy))
  unfold zb_cle at *
  rw [show ((v : Int) + 1).toNat = v + 1 by omega, zb_lmc_S, if_pos ⟨hp, lm⟩, Int.natCast_add]
  exact Int.add_le_add_right h 1
