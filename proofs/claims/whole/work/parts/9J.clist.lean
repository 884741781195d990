/-! ===== the class: the list ===== -/
def zb_CL (m : zb_M) (L : zb_Li) : Prop := m 400 1 = L.1 ∧ ∃ s, zb_pm 8 s ∧ ∀ k, 0 ≤ k → k < 8 → m 401 k = 404 + 3 * s k ∧ (k < L.1 → m (404 + 3 * s k) 1 = L.2.1 ∧ m (404 + 3 * s k) 2 = zb_rsz L.2.1 ∧ zb_eqo (zb_rsz L.2.1) (m (404 + 3 * s k + 1)) (L.2.2 k))
theorem zb_CL_same {m m1 : zb_M} {L : zb_Li} (h : zb_CL m L) (he : ∀ x, 400 ≤ x → x ≤ 427 → x ≠ 402 → x ≠ 403 → m1 x = m x) : zb_CL m1 L := by
  obtain ⟨a, s, hs, b⟩ := h
  refine ⟨by rw [he 400 (by omega) (by omega) (by omega) (by omega)]; exact a, s, hs, fun k k0 k1 => ?_⟩
  have r := hs.1 k k0 k1
  rw [he 401 (by omega) (by omega) (by omega) (by omega), he (404 + 3 * s k) (by omega) (by omega) (by omega) (by omega), he (404 + 3 * s k + 1) (by omega) (by omega) (by omega) (by omega)]
  exact b k k0 k1
theorem zb_CL_eq {m : zb_M} {A B : zb_Li} (h : zb_CL m A) (e1 : A.1 = B.1) (e2 : A.2.1 = B.2.1) (e3 : ∀ k, 0 ≤ k → k < A.1 → zb_eqo (zb_rsz A.2.1) (A.2.2 k) (B.2.2 k)) : zb_CL m B := by
  obtain ⟨a, s, hs, b⟩ := h
  refine ⟨a.trans e1, s, hs, fun k k0 k1 => ⟨(b k k0 k1).1, fun kl => ?_⟩⟩
  obtain ⟨c1, c2, c3⟩ := (b k k0 k1).2 (by omega)
  rw [← e2]
  exact ⟨c1, c2, c3.tr (e3 k k0 (by omega))⟩
/-- row r comes in at place i -/
def zb_LI (L : zb_Li) (i : Int) (r : Int → Int) : zb_Li := (L.1 + 1, L.2.1, fun k => if k < i then L.2.2 k else if k = i then r else L.2.2 (k - 1))
theorem zb_LI_lt {L : zb_Li} {i k : Int} {r : Int → Int} (h : k < i) : (zb_LI L i r).2.2 k = L.2.2 k := if_pos h
theorem zb_LI_eq {L : zb_Li} {i : Int} {r : Int → Int} : (zb_LI L i r).2.2 i = r := by
  show (if i < i then L.2.2 i else if i = i then r else L.2.2 (i - 1)) = r
  rw [if_neg (Int.lt_irrefl _), if_pos rfl]
theorem zb_LI_gt {L : zb_Li} {i k : Int} {r : Int → Int} (h : i < k) : (zb_LI L i r).2.2 k = L.2.2 (k - 1) := by
  show (if k < i then L.2.2 k else if k = i then r else L.2.2 (k - 1)) = _
  rw [if_neg (by omega), if_neg (by omega)]
theorem zb_Sv_skip {n : Int} {M v : Nat} {L : zb_Li} (h : zb_Sv n M v L) (hv : zb_pcM v M → ∃ k, (0 ≤ k ∧ k < L.1) ∧ zb_eqo (zb_rsz n) (zb_R n v) (L.2.2 k)) : zb_Sv n M ((v : Int) + 1) L := by
  obtain ⟨a, b, c, e, f⟩ := h
  refine ⟨a, b, fun k k0 k1 => ?_, fun x x1 hx => ?_, f⟩
  · obtain ⟨x, x1, x2⟩ := c k k0 k1
    exact ⟨x, by omega, x2⟩
  · by_cases q : x = v
    · rw [q] at hx ⊢; exact hv hx
    · exact e x (by omega) hx
theorem zb_Sv_in {n : Int} {M v : Nat} {L : zb_Li} {i : Int} {r : Int → Int} (h : zb_Sv n M v L) (hp : zb_pcM v M) (hr : zb_eqo (zb_rsz n) (zb_R n v) r) (i0 : 0 ≤ i) (i1 : i ≤ L.1) (h1 : ∀ k, 0 ≤ k → k < i → zb_lex (zb_rsz n) (L.2.2 k) r) (h2 : ∀ k, i ≤ k → k < L.1 → zb_lex (zb_rsz n) r (L.2.2 k)) : zb_Sv n M ((v : Int) + 1) (zb_LI L i r) := by
  obtain ⟨a, b, c, e, f⟩ := h
  refine ⟨a, by show 0 ≤ L.1 + 1; omega, fun k k0 k1 => ?_, fun x x1 hx => ?_, fun j k j0 jk k1 => ?_⟩
  · have k1 : k < L.1 + 1 := k1
    rcases Int.lt_trichotomy k i with q | q | q
    · rw [zb_LI_lt q]
      obtain ⟨x, x1, x2⟩ := c k k0 (by omega)
      exact ⟨x, by omega, x2⟩
    · rw [q, zb_LI_eq]; exact ⟨v, by omega, hp, hr⟩
    · rw [zb_LI_gt q]
      obtain ⟨x, x1, x2⟩ := c (k - 1) (by omega) (by omega)
      exact ⟨x, by omega, x2⟩
  · by_cases q : x = v
    · rw [q]; exact ⟨i, ⟨i0, by show i < L.1 + 1; omega⟩, by rw [zb_LI_eq]; exact hr⟩
    · obtain ⟨k, ⟨k0, k1⟩, w⟩ := e x (by omega) hx
      by_cases q2 : k < i
      · exact ⟨k, ⟨k0, by show k < L.1 + 1; omega⟩, by rw [zb_LI_lt q2]; exact w⟩
      · exact ⟨k + 1, ⟨by omega, by show k + 1 < L.1 + 1; omega⟩, by rw [zb_LI_gt (by omega), show k + 1 - 1 = k by omega]; exact w⟩
  · have k1 : k < L.1 + 1 := k1
    rcases Int.lt_trichotomy k i with q | q | q
    · rw [zb_LI_lt q, zb_LI_lt (by omega)]; exact f j k j0 jk (by omega)
    · rw [q, zb_LI_eq, zb_LI_lt (by omega)]; exact h1 j j0 (by omega)
    · rw [zb_LI_gt q]
      rcases Int.lt_trichotomy j i with q2 | q2 | q2
      · rw [zb_LI_lt q2]; exact f j (k - 1) j0 (by omega) (by omega)
      · rw [q2, zb_LI_eq]; exact h2 (k - 1) (by omega) (by omega)
      · rw [zb_LI_gt q2]; exact f (j - 1) (k - 1) (by omega) (by omega) (by omega)
/-- drawings of one row are of one sort -/
theorem zb_sort1 {n : Int} {m : zb_M} {b c : Nat} (n0 : 1 ≤ n) (n1 : n ≤ 5) (hcl : zb_mcl n m) (hb : b < 2 ^ zb_prN n.toNat) (hc : c < 2 ^ zb_prN n.toNat) (mb : m 402 (b : Int) ≠ 0) (h : zb_eqo (zb_rsz n) (zb_R n b) (zb_R n c)) : m 402 (c : Int) ≠ 0 := by
  obtain ⟨f, hf⟩ := zb_iso_row (N := zb_dr n b) (M := zb_dr n c) (zb_dr_ON b (by omega) n1) (zb_dr_ON c (by omega) n1) rfl h
  exact zb_drg (M := fun x => m 402 (x : Int) ≠ 0) (by omega) n1 hcl hc n.toNat (by omega) b f hb mb hf (fun i i0 i1 => by omega)
theorem zb_R_ex {n x : Int} {b : Nat} (n0 : 1 ≤ n) (n1 : n ≤ 5) (hb : b < 2 ^ zb_prN n.toNat) (x0 : 0 ≤ x) (x1 : x + 1 < n) : zb_eqo (zb_rsz n) (zb_R n b) (zb_R n (zb_xN x.toNat b)) := zb_row_iso (N := zb_dr n b) (zb_dr_ON b (by omega) n1) (zb_dr_ON _ (by omega) n1) (zb_xN_iso n1 x0 x1 hb)
def zb_frML (m m1 : zb_M) : Prop := ∀ x, (x < 126 ∨ (191 < x ∧ x < 400) ∨ 427 < x) → m1 x = m x
/-- while the class lists -/
def zb_Jm (n : Int) (M : Nat) (m : zb_M) (v : Int) (mm : zb_M) (L : zb_Li) : Prop := zb_CL mm L ∧ zb_Sv n M v L ∧ zb_cle L.1 n M v ∧ zb_mcl n mm ∧ (∀ b : Nat, b < 2 ^ zb_prN n.toNat → mm 402 (b : Int) ≠ 0 → ∃ k, (0 ≤ k ∧ k < L.1) ∧ zb_eqo (zb_rsz n) (zb_R n b) (L.2.2 k)) ∧ (∀ b : Nat, (b : Int) < v → zb_pcM b M → mm 402 (b : Int) ≠ 0) ∧ zb_frML m mm
theorem s_X2_make {d : Nat} {m : zb_M} {n : Int} {M : Nat} {L0 : zb_Li} (n0 : 1 ≤ n) (n1 : n ≤ 5) (hM : M < 11) (h0 : zb_CL m L0) : zb_T K_X2_make (d + 21) [(2, 400), (0, n), (0, (M : Int)), (2, 136), (2, 126)] zb_E0 m (fun _ m1 => ∃ L, zb_CL m1 L ∧ (zb_Sv n M ((2 ^ zb_prN n.toNat : Nat) : Int) L ∧ L.1 ≤ 7) ∧ zb_frML m m1) := by
  apply w_X2_make
  have h10 := zb_pr_10 (n := n) (by omega) n1
  have rz := zb_rsz_rng (show 0 ≤ n by omega) (by omega)
  have nn1 := zb_nn1 n0 n1
  unfold PM_X2_make
  intro m2 e2
  refine ⟨zb_inI_of (by omega) (by omega), zb_inI_of (by omega) (by omega), ⟨nn1.1, by omega⟩, ?_⟩
  unfold PL_X2_make_19
  rw [zb_shl_pr n0 n1, zb_v_400_2]
  obtain ⟨P, hP⟩ : ∃ P : Nat, P = 2 ^ zb_prN n.toNat := ⟨_, rfl⟩
  have hP' : P ≤ 1024 := by rw [hP]; exact h10.2.1
  intro X hX
  rw [← hP] at hX
  refine zb_lp1 (fun v mm => 0 ≤ v ∧ (∀ c, 0 ≤ c → c < v → mm 402 c = 0) ∧ ∀ x, x ≠ 402 → mm x = m2 x) (P : Int) (fun v mm ⟨v0, t1, t2⟩ vn nxt => hX v mm ⟨fun c => ?_, fun c => ⟨⟨v0, by omega⟩, fun m33 e33 => ⟨zb_inI_of (by omega) (by omega), nxt (by omega) m33 ⟨by omega, fun k k0 k1 => ?_, fun x hx => by rw [zb_u3 e33 hx]; exact t2 x hx⟩⟩⟩⟩) 0 m2 (by omega) ⟨by omega, fun c c0 c1 => by omega, fun _ _ => rfl⟩
  · have hv : v = P := by omega
    subst hv
    unfold PJ_X2_make_40 PL_X2_make_43
    rw [zb_shl_pr n0 n1, zb_v_400_0, zb_v_400_2]
    intro Y hY
    rw [← hP] at hY
    have start : zb_Jm n M m 0 mm (0, n, fun _ _ => 0) := by
      obtain ⟨-, s, hs, hk⟩ := h0
      refine ⟨⟨by rw [t2 400 (by omega)]; exact zb_u1 e2, s, hs, fun k k0 k1 => ⟨by rw [t2 401 (by omega), zb_u3 e2 (by omega)]; exact (hk k k0 k1).1, fun z => by have z : k < 0 := z; omega⟩⟩, ⟨rfl, Int.le_refl _, fun k k0 k1 => by have k1 : k < 0 := k1; omega, fun b b1 => by omega, fun i k i0 ik k1 => by have k1 : k < 0 := k1; omega⟩, by unfold zb_cle; exact Int.natCast_nonneg _, fun c hc z => absurd (t1 c (by omega) (by omega)) z, fun b hb z => absurd (t1 b (by omega) (by omega)) z, fun b b1 => by omega, fun x hx => by rw [t2 x (by omega), zb_u3 e2 (by omega)]⟩
    refine zb_lp1 (fun v mn => 0 ≤ v ∧ ∃ L, zb_Jm n M m v mn L) (P : Int) (fun v mn ⟨v0, L, hJ⟩ vn nx2 => hY v mn ⟨fun c2 => ?_, fun c2 => ?_⟩) 0 mm (by omega) ⟨by omega, _, start⟩
    · have hv : v = P := by omega
      subst hv
      obtain ⟨a1, a2, a3, a4, a5, a6, a7⟩ := hJ
      rw [hP] at a2 a3
      exact ⟨L, a1, ⟨by rw [hP]; exact a2, zb_cle_7 a3 n0 n1 hM (Int.le_refl _)⟩, a7⟩
    · have vP : v < P := by omega
      obtain ⟨b, hb⟩ : ∃ b : Nat, v = (b : Int) := ⟨v.toNat, by omega⟩
      subst hb
      have bP : b < 2 ^ zb_prN n.toNat := by rw [← hP]; omega
      have b1024 : b < 1024 := by omega
      obtain ⟨a1, a2, a3, a4, a5, a6, a7⟩ := hJ
      have c7 := zb_cle_7 a3 n0 n1 hM (by rw [← hP]; omega)
      have c0 := a2.2.1
      have L21 := a2.1
      have skip : (zb_pcM b M → mn 402 (b : Int) ≠ 0) → Y ((b : Int) + 1) mn := fun hz => by
        refine nx2 vP mn ⟨by omega, L, a1, zb_Sv_skip a2 (fun z => a5 b bP (hz z)), zb_cle_up a3 v0, a4, a5, fun x x1 hx => ?_, a7⟩
        by_cases q : x = b
        · rw [q] at hx ⊢; exact hz hx
        · exact a6 x (by omega) hx
      obtain ⟨d1, s, hs, hk⟩ := a1
      rw [d1]
      refine ⟨fun z => by omega, fun _ => (s_J6_bitCount (d := d + 19) b1024).mono (fun r61 e61 => ⟨fun q => ?_, fun q => ⟨zb_inI_of (by omega) (by omega), skip (fun z => absurd (by rw [e61]; unfold zb_pcM at z; rw [z]) q)⟩⟩)⟩
      have hp : zb_pcM b M := by unfold zb_pcM; rw [e61] at q; exact Int.ofNat.inj q
      clear q e61
      refine ⟨⟨v0, by omega⟩, fun z => ?_, fun z => ⟨zb_inI_of (by omega) (by omega), skip (fun _ => z)⟩⟩
      refine (s_X2_meetAll (d := d + 17) (Q := fun x => zb_eqo (zb_rsz n) (zb_R n x) (zb_R n b)) n0 n1 bP z a4 (zb_eqo.rf _ _) (fun c hc hq x x0 x1 => (zb_R_ex n0 n1 hc x0 x1).sy.tr hq)).mono (fun _ m85 ⟨g1, g2, g3, g4, g5⟩ => ?_)
      refine (s_X6_takePairs (d := d + 18) n0 n1 b1024).mono (fun _ m93 ⟨p1, p2⟩ => ?_)
      have f93 : ∀ x, x ≠ 402 → x ≠ 403 → (x < 126 ∨ 131 < x) → m93 x = mn x := fun x x1 x2 x3 => by rw [p2 x x3]; exact g5 x x1 x2
      have sr := fun k (k0 : 0 ≤ k) (k1 : k < 8) => hs.1 k k0 k1
      have sc := sr L.1 c0 (by omega)
      have e400 : m93 400 1 = L.1 := by rw [f93 400 (by omega) (by omega) (by omega)]; exact d1
      have e401 : ∀ k, 0 ≤ k → k < 8 → m93 401 k = 404 + 3 * s k := fun k k0 k1 => by rw [f93 401 (by omega) (by omega) (by omega)]; exact (hk k k0 k1).1
      rw [e400, e401 L.1 c0 (by omega)]
      refine ⟨⟨c0, by omega⟩, zb_lnm sc.1 sc.2, ?_⟩
      have hON := zb_dr_ON b (show 0 ≤ n by omega) n1
      have hA : zb_Ga 126 (404 + 3 * s L.1) := ⟨zb_i_126, zb_lnm sc.1 sc.2, by omega, by omega, by omega⟩
      refine (s_X8_findName (d := d) hA p1 hON).mono (fun r108 m108 ⟨f1, f2⟩ => ?_)
      have few : (zb_nmW (zb_dr n b)).1 ≤ 3000 := zb_nmW_few (N := zb_dr n b) n0 n1
      rcases f1 with ⟨r1, -, nm⟩ | ⟨-, w, -⟩
      · refine ⟨fun w => by omega, fun _ => ?_⟩
        obtain ⟨y0, y1, y2, y3, y4, y5, y6⟩ := nm
        have y1 : m108 (404 + 3 * s L.1) 1 = n := y1
        have y2 : m108 (404 + 3 * s L.1) 2 = zb_rsz n := y2
        have y5 : zb_eqo (zb_rsz n) (m108 (404 + 3 * s L.1 + 1)) (zb_R n b) := y5
        have fk : ∀ k, 0 ≤ k → k < L.1 → m108 (404 + 3 * s k) = mn (404 + 3 * s k) ∧ m108 (404 + 3 * s k + 1) = mn (404 + 3 * s k + 1) := fun k k0 k1 => by
          have r := sr k k0 (by omega)
          have ne : s k ≠ s L.1 := fun e => by have := hs.2 k L.1 k0 (by omega) c0 (by omega) e; omega
          exact ⟨by rw [f2 _ (by omega) (by omega)]; exact f93 _ (by omega) (by omega) (by omega), by rw [f2 _ (by omega) (by omega)]; exact f93 _ (by omega) (by omega) (by omega)⟩
        have Fk : ∀ k, 0 ≤ k → k < L.1 → zb_eqo (zb_rsz n) (m108 (404 + 3 * s k + 1)) (L.2.2 k) := fun k k0 k1 => by
          rw [(fk k k0 k1).2, ← L21]
          exact ((hk k k0 (by omega)).2 k1).2.2
        have n401 : ∀ k, 0 ≤ k → k < 8 → m108 401 k = 404 + 3 * s k := fun k k0 k1 => by rw [f2 401 (by omega) (by omega)]; exact e401 k k0 k1
        have hne : ∀ x : Nat, (x : Int) < b → zb_pcM x M → ¬ zb_eqo (zb_rsz n) (zb_R n x) (zb_R n b) := fun x x1 hx e => zb_sort1 n0 n1 a4 (by omega) bP (a6 x x1 hx) e z
        refine (s_X2_putInPlace (d := d + 17) (c := L.1) (l := zb_rsz n) (by rw [f2 400 (by omega) (by omega)]; exact e400) c0 (by omega) (by omega) hs n401 (fun k k0 k1 => ?_) (fun i k i0 ik k1 => zb_lex_congr (Fk i i0 (by omega)).sy (Fk k (by omega) k1).sy (a2.2.2.2.2 i k i0 ik k1)) (fun k k0 k1 e => ?_)).mono (fun _ m115 ⟨i, ⟨i0, i1⟩, h1, h2, h3, h4, h5⟩ => ⟨zb_inI_of (by omega) (by omega), nx2 vP m115 ⟨by omega, zb_LI L i (zb_R n b), ?_, ?_, ?_, ?_, ?_, ?_, ?_⟩⟩)
        · by_cases w : k = L.1
          · rw [w]; exact y2
          · rw [(fk k k0 (by omega)).1, ← L21]; exact ((hk k k0 (by omega)).2 (by omega)).2.1
        · obtain ⟨x, x1, hx, ex⟩ := a2.2.2.1 k k0 k1
          exact hne x x1 hx (ex.tr ((Fk k k0 k1).sy.tr (e.tr y5)))
        · refine ⟨h1, zb_rot s i L.1, zb_rot_pm hs i0 i1 (by omega), fun k k0 k1 => ⟨h2 k k0 k1, fun kl => ?_⟩⟩
          have kl : k < L.1 + 1 := kl
          show m115 (404 + 3 * zb_rot s i L.1 k) 1 = L.2.1 ∧ m115 (404 + 3 * zb_rot s i L.1 k) 2 = zb_rsz L.2.1 ∧ zb_eqo (zb_rsz L.2.1) (m115 (404 + 3 * zb_rot s i L.1 k + 1)) ((zb_LI L i (zb_R n b)).2.2 k)
          have old : ∀ k, 0 ≤ k → k < L.1 → m115 (404 + 3 * s k) 1 = L.2.1 ∧ m115 (404 + 3 * s k) 2 = zb_rsz L.2.1 ∧ zb_eqo (zb_rsz L.2.1) (m115 (404 + 3 * s k + 1)) (L.2.2 k) := fun k k0 k1 => by
            have r := sr k k0 (by omega)
            rw [h5 _ (by omega) (by omega), h5 _ (by omega) (by omega), (fk k k0 k1).1, (fk k k0 k1).2]
            exact (hk k k0 (by omega)).2 k1
          rcases Int.lt_trichotomy k i with w | w | w
          · have e : zb_rot s i L.1 k = s k := by unfold zb_rot; rw [if_neg (by omega), if_neg (by omega)]
            rw [e, zb_LI_lt w]
            exact old k k0 (by omega)
          · have e : zb_rot s i L.1 k = s L.1 := by unfold zb_rot; rw [if_pos w]
            rw [e, w, zb_LI_eq, h5 _ (by omega) (by omega), h5 _ (by omega) (by omega), L21]
            exact ⟨y1, y2, y5⟩
          · have e : zb_rot s i L.1 k = s (k - 1) := by unfold zb_rot; rw [if_neg (by omega), if_pos (by omega)]
            rw [e, zb_LI_gt w]
            exact old (k - 1) (by omega) (by omega)
        · exact zb_Sv_in a2 hp (zb_eqo.rf _ _) i0 i1 (fun k k0 k1 => zb_lex_congr (Fk k k0 (by omega)) y5 (h3 k k0 k1)) (fun k k0 k1 => zb_lex_congr y5 (Fk k (by omega) k1) (h4 k k0 k1))
        · exact zb_cle_new a3 n0 n1 bP hp (fun x x1 hx => hne x (by omega) hx)
        · intro c hc mc x x0 x1
          have e402 : m115 402 = m85 402 := by rw [h5 402 (by omega) (by omega), f2 402 (by omega) (by omega), p2 402 (by omega)]
          rw [e402] at mc ⊢
          exact g1 c hc mc x x0 x1
        · intro c hc mc
          have e402 : m115 402 = m85 402 := by rw [h5 402 (by omega) (by omega), f2 402 (by omega) (by omega), p2 402 (by omega)]
          rw [e402] at mc
          rcases g4 c mc with w | ⟨-, w⟩
          · obtain ⟨k, ⟨k0, k1⟩, e⟩ := a5 c hc w
            by_cases q : k < i
            · exact ⟨k, ⟨k0, by show k < L.1 + 1; omega⟩, by rw [zb_LI_lt q]; exact e⟩
            · exact ⟨k + 1, ⟨by omega, by show k + 1 < L.1 + 1; omega⟩, by rw [zb_LI_gt (by omega), show k + 1 - 1 = k by omega]; exact e⟩
          · exact ⟨i, ⟨i0, by show i < L.1 + 1; omega⟩, by rw [zb_LI_eq]; exact w⟩
        · intro c hc hx
          have e402 : m115 402 = m85 402 := by rw [h5 402 (by omega) (by omega), f2 402 (by omega) (by omega), p2 402 (by omega)]
          rw [e402]
          by_cases w : c = b
          · rw [w]; exact g3
          · exact g2 _ (a6 c (by omega) hx)
        · intro x hx
          rw [h5 x (by omega) (by omega), f2 x (by omega) (by omega), f93 x (by omega) (by omega) (by omega)]
          exact a7 x hx
      · omega
  · by_cases w : k = v
    · rw [w, zb_u1 e33]
    · rw [zb_u2 e33 (by omega)]; exact t1 k k0 (by omega)
