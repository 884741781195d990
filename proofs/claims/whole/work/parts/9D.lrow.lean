/-! ===== the row of a name is the least of all leaves' ===== -/
/-- V is what comes of W by the rows of which P holds -/
def zb_Lw (n : Int) (P : (Int → Int) → Prop) (W V : zb_Wk) : Prop := (∀ r, P r → V.1 ≠ 0 ∧ zb_le n V.2.2.1 r) ∧ (W.1 ≠ 0 → V.1 ≠ 0 ∧ zb_le n V.2.2.1 W.2.2.1) ∧ (V.1 ≠ 0 → (∃ r, P r ∧ zb_eqo n V.2.2.1 r) ∨ (W.1 ≠ 0 ∧ zb_eqo n V.2.2.1 W.2.2.1))
theorem zb_Lw.rf {n : Int} {P : (Int → Int) → Prop} (W : zb_Wk) (h : ∀ r, ¬ P r) : zb_Lw n P W W := ⟨fun r hr => absurd hr (h r), fun w => ⟨w, Or.inl (zb_eqo.rf _ _)⟩, fun w => Or.inr ⟨w, zb_eqo.rf _ _⟩⟩
theorem zb_Lw.tr {n : Int} {P Q R : (Int → Int) → Prop} {W V U : zb_Wk} (a : zb_Lw n P W V) (b : zb_Lw n Q V U) (h : ∀ r, R r ↔ P r ∨ Q r) : zb_Lw n R W U := by
  refine ⟨fun r hr => ?_, fun w => ?_, fun w => ?_⟩
  · rcases (h r).1 hr with q | q
    · obtain ⟨v, l⟩ := a.1 r q
      obtain ⟨u, l2⟩ := b.2.1 v
      exact ⟨u, l2.tr l⟩
    · exact b.1 r q
  · obtain ⟨v, l⟩ := a.2.1 w
    obtain ⟨u, l2⟩ := b.2.1 v
    exact ⟨u, l2.tr l⟩
  · rcases b.2.2 w with ⟨r, q, e⟩ | ⟨v, e⟩
    · exact Or.inl ⟨r, (h r).2 (Or.inr q), e⟩
    · rcases a.2.2 v with ⟨r, q, e2⟩ | ⟨w0, e2⟩
      · exact Or.inl ⟨r, (h r).2 (Or.inl q), e.tr e2⟩
      · exact Or.inr ⟨w0, e.tr e2⟩
theorem zb_Lw.iff {n : Int} {P Q : (Int → Int) → Prop} {W V : zb_Wk} (a : zb_Lw n P W V) (h : ∀ r, P r ↔ Q r) : zb_Lw n Q W V := ⟨fun r hr => a.1 r ((h r).2 hr), a.2.1, fun w => by
  rcases a.2.2 w with ⟨r, q, e⟩ | q
  · exact Or.inl ⟨r, (h r).1 q, e⟩
  · exact Or.inr q⟩
theorem zb_wk_Lw {N : zb_N} (h0 : 0 ≤ N.1) (h1 : N.1 ≤ 12) : ∀ (u : Nat) (p : zb_Pt) (W : zb_Wk), zb_gp N.1 p → 0 ≤ W.1 → zb_Lw (zb_rsz N.1) (zb_Lf N u p) W (zb_wk N u p W) := by
  have rz := zb_rsz_rng h0 h1
  intro u
  induction u with
  | zero => intro p W hp hW; exact zb_Lw.rf W (fun r h => h)
  | succ u ih =>
    intro p W hp hW
    show zb_Lw (zb_rsz N.1) (zb_Lf N (u + 1) p) W (if p.2 = N.1 then zb_lf1 N p (W.1, W.2.1 + 1, W.2.2) else zb_fr N p (zb_wk N u) N.1.toNat 0 (W.1, W.2.1 + 1, W.2.2))
    by_cases q : p.2 = N.1
    · rw [if_pos q]
      unfold zb_lf1
      by_cases w : (W.1, W.2.1 + 1, W.2.2).1 = 0 ∨ zb_lex (zb_rsz N.1) (zb_rw N (zb_lord N.1 p)) (W.1, W.2.1 + 1, W.2.2).2.2.1
      · rw [if_pos w]
        refine ⟨fun r hr => ⟨by show W.1 + 1 ≠ 0; omega, ?_⟩, fun w0 => ⟨by show W.1 + 1 ≠ 0; omega, ?_⟩, fun _ => Or.inl ⟨zb_rw N (zb_lord N.1 p), Or.inl ⟨q, zb_eqo.rf _ _⟩, zb_eqo.rf _ _⟩⟩
        · rcases hr with ⟨-, e⟩ | ⟨e, -⟩
          · exact Or.inl e
          · exact absurd q e
        · rcases w with w | w
          · exact absurd w w0
          · exact Or.inr w
      · rw [if_neg w]
        have w1 : ¬ W.1 = 0 := fun z => w (Or.inl z)
        have w2 := zb_le_of_not (n := zb_rsz N.1) (by omega) (fun z => w (Or.inr z))
        refine ⟨fun r hr => ⟨by show W.1 + 1 ≠ 0; omega, ?_⟩, fun w0 => ⟨by show W.1 + 1 ≠ 0; omega, Or.inl (zb_eqo.rf _ _)⟩, fun _ => Or.inr ⟨w1, zb_eqo.rf _ _⟩⟩
        rcases hr with ⟨-, e⟩ | ⟨e, -⟩
        · exact w2.tr (Or.inl e)
        · exact absurd q e
    · rw [if_neg q]
      have fold : ∀ (c : Nat) (i : Int) (V : zb_Wk), 0 ≤ i → i + c ≤ N.1 → 0 ≤ V.1 → zb_Lw (zb_rsz N.1) (fun r => ∃ x, (i ≤ x ∧ x < i + c) ∧ zb_flw N p x ∧ zb_Lf N u (zb_chd N p x) r) V (zb_fr N p (zb_wk N u) c i V) := by
        intro c
        induction c with
        | zero => intro i V i0 ic hV; exact zb_Lw.rf V (fun r ⟨x, ⟨a, b⟩, _⟩ => by omega)
        | succ c ihc =>
          intro i V i0 ic hV
          by_cases w : zb_flw N p i
          · rw [zb_fr_y w]
            have a := ih (zb_chd N p i) V (zb_chd_gd hp i0 (by omega)) hV
            have b := ihc (i + 1) (zb_wk N u (zb_chd N p i) V) (by omega) (by omega) (Int.le_trans hV (zb_wk_mono N u _ V))
            refine a.tr b (fun r => ⟨fun ⟨x, hx, hf, hl⟩ => ?_, fun h => ?_⟩)
            · by_cases e : x = i
              · rw [e] at hl; exact Or.inl hl
              · exact Or.inr ⟨x, by omega, hf, hl⟩
            · rcases h with hl | ⟨x, hx, hf, hl⟩
              · exact ⟨i, by omega, w, hl⟩
              · exact ⟨x, by omega, hf, hl⟩
          · rw [zb_fr_n w]
            refine (ihc (i + 1) V (by omega) (by omega) hV).iff (fun r => ⟨fun ⟨x, hx, hf, hl⟩ => ⟨x, by omega, hf, hl⟩, fun ⟨x, hx, hf, hl⟩ => ⟨x, ?_, hf, hl⟩⟩)
            by_cases e : x = i
            · rw [e] at hf; exact absurd hf w
            · omega
      have key := fold N.1.toNat 0 (W.1, W.2.1 + 1, W.2.2) (Int.le_refl _) (by omega) hW
      have key2 := key.iff (Q := zb_Lf N (u + 1) p) (fun r => ⟨fun ⟨x, hx, hf, hl⟩ => Or.inr ⟨q, x, ⟨hx.1, by omega⟩, hf.1, hl⟩, fun h => ?_⟩)
      · exact key2
      · rcases h with ⟨e, -⟩ | ⟨-, x, ⟨x0, x1⟩, ht, hl⟩
        · exact absurd e q
        · obtain ⟨y, y0, y1, hf, hl2⟩ := zb_flw_of hp h0 x.toNat x x0 (by omega) x1 ht hl
          exact ⟨y, ⟨y0, by omega⟩, hf, hl2⟩
theorem zb_row_lst {N : zb_N} (hN : zb_ON N) : (∀ r, zb_Lf N 13 (zb_beg N) r → zb_le (zb_rsz N.1) (zb_nmW N).2.2.1 r) ∧ ∃ r, zb_Lf N 13 (zb_beg N) r ∧ zb_eqo (zb_rsz N.1) (zb_nmW N).2.2.1 r := by
  have h := zb_wk_Lw hN.1.1 hN.1.2 13 (zb_beg N) zb_W0w (zb_beg_gd N) (Int.le_refl _)
  have h1 := (zb_nmW_ok hN).2.2
  refine ⟨fun r hr => (h.1 r hr).2, ?_⟩
  rcases h.2.2 (by show (zb_nmW N).1 ≠ 0; omega) with a | ⟨a, -⟩
  · exact a
  · exact absurd rfl a
theorem zb_iso_inv {N M : zb_N} {f : Int → Int} (h : zb_iso N M f) : ∃ g, zb_iso M N g := by
  obtain ⟨a, b, c, e⟩ := h
  obtain ⟨g, g1, g2, g3⟩ := zb_pm_inv b
  refine ⟨g, a.symm, by rw [a]; exact g1, fun x x0 x1 => ?_, fun x y x0 x1 y0 y1 => ?_⟩
  · rw [a] at x1
    have r := g1.1 x x0 x1
    rw [← c _ r.1 r.2, g2 x x0 x1]
  · rw [a] at x1 y1
    have r := g1.1 x x0 x1
    have r2 := g1.1 y y0 y1
    rw [← e _ _ r.1 r.2 r2.1 r2.2, g2 x x0 x1, g2 y y0 y1]
theorem zb_row_iso {N M : zb_N} {f : Int → Int} (hN : zb_ON N) (hM : zb_ON M) (h : zb_iso N M f) : zb_eqo (zb_rsz N.1) (zb_nmW N).2.2.1 (zb_nmW M).2.2.1 := by
  obtain ⟨a1, r, a2, a3⟩ := zb_row_lst hN
  obtain ⟨b1, s, b2, b3⟩ := zb_row_lst hM
  obtain ⟨g, hg⟩ := zb_iso_inv h
  rw [h.1] at b1 b3
  have k1 := b1 r (zb_Lf_iso h hN.1.1 13 (zb_beg_gd N) (zb_beg_gd M) (zb_beg_iso h) a2)
  have k2 := a1 s (zb_Lf_iso hg hM.1.1 13 (zb_beg_gd M) (zb_beg_gd N) (zb_beg_iso hg) b2)
  exact zb_le_an (k2.tr (Or.inl b3.sy)) (k1.tr (Or.inl a3.sy))
/-- nets of one name are the same but for numbers -/
theorem zb_iso_row {N M : zb_N} (hN : zb_ON N) (hM : zb_ON M) (en : M.1 = N.1) (h : zb_eqo (zb_rsz N.1) (zb_nmW N).2.2.1 (zb_nmW M).2.2.1) : ∃ f, zb_iso N M f := by
  obtain ⟨a1, a2, -⟩ := zb_nmW_ok hN
  obtain ⟨b1, b2, -⟩ := zb_nmW_ok hM
  generalize (zb_nmW N).2.2.1 = R at a1 h
  generalize (zb_nmW M).2.2.1 = S at b1 h
  generalize (zb_nmW N).2.2.2 = o at a1 a2
  generalize (zb_nmW M).2.2.2 = q at b1 b2
  subst a1
  subst b1
  rw [en] at b2
  obtain ⟨g, g1, g2, g3⟩ := zb_pm_inv a2
  have hn0 := hN.1.1
  have rz := zb_rsz_rng hn0 hN.1.2
  have nn := zb_nn hn0 hN.1.2
  have hk : ∀ i, 0 ≤ i → i < N.1 → N.2.1 (o i) = M.2.1 (q i) := fun i i0 i1 => by
    have := h (i + 1) (by omega) (by unfold zb_rsz; omega)
    unfold zb_rw at this
    rw [if_neg (by omega), if_pos (by omega), if_neg (by omega), if_pos (by omega), show i + 1 - 1 = i by omega] at this
    exact this
  have hl : ∀ i j, 0 ≤ i → i < N.1 → 0 ≤ j → j < N.1 → N.2.2 (o i) (o j) = M.2.2 (q i) (q j) := fun i j i0 i1 j0 j1 => by
    have pq := zb_pq i0 i1 j0 j1
    have dm := zb_dm (p := i) (show 0 < N.1 by omega) j0 j1
    have := h (i * N.1 + j + 1 + N.1) (by omega) (by unfold zb_rsz; omega)
    unfold zb_rw at this
    rw [en, if_neg (by omega), if_neg (by omega), if_neg (by omega), if_neg (by omega), show i * N.1 + j + 1 + N.1 - 1 - N.1 = i * N.1 + j by omega, dm.1, dm.2] at this
    exact this
  refine ⟨fun x => q (g x), en, ⟨fun x x0 x1 => ?_, fun x y x0 x1 y0 y1 e => ?_⟩, fun x x0 x1 => ?_, fun x y x0 x1 y0 y1 => ?_⟩
  · have r := g1.1 x x0 x1
    exact b2.1 _ r.1 r.2
  · have r := g1.1 x x0 x1
    have r2 := g1.1 y y0 y1
    have := b2.2 _ _ r.1 r.2 r2.1 r2.2 e
    exact g1.2 x y x0 x1 y0 y1 this
  · have r := g1.1 x x0 x1
    show M.2.1 (q (g x)) = N.2.1 x
    rw [← hk _ r.1 r.2, g2 x x0 x1]
  · have r := g1.1 x x0 x1
    have r2 := g1.1 y y0 y1
    show M.2.2 (q (g x)) (q (g y)) = N.2.2 x y
    rw [← hl _ _ r.1 r.2 r2.1 r2.2, g2 x x0 x1, g2 y y0 y1]
/-- few leaves, if there are few things -/
theorem zb_wk_few {N : zb_N} (h0 : 0 ≤ N.1) (h1 : N.1 ≤ 5) : ∀ (u e : Nat) (p : zb_Pt) (W : zb_Wk), zb_gp N.1 p → N.1 - p.2 ≤ e → (zb_wk N u p W).1 ≤ W.1 + ((5 ^ e : Nat) : Int) := by
  intro u
  induction u with
  | zero => intro e p W hp he; show W.1 ≤ W.1 + ((5 ^ e : Nat) : Int); exact Int.le_add_of_nonneg_right (Int.natCast_nonneg _)
  | succ u ih =>
    intro e p W hp he
    have hk := zb_gd_le hp h0
    have pe : 0 < 5 ^ e := Nat.pow_pos (by omega)
    show (if p.2 = N.1 then zb_lf1 N p (W.1, W.2.1 + 1, W.2.2) else zb_fr N p (zb_wk N u) N.1.toNat 0 (W.1, W.2.1 + 1, W.2.2)).1 ≤ _
    by_cases q : p.2 = N.1
    · rw [if_pos q, (zb_lf1_1 N p _).1]
      show W.1 + 1 ≤ _
      omega
    · rw [if_neg q]
      match e, he with
      | 0, he => omega
      | e + 1, he =>
        have fold : ∀ (c : Nat) (i : Int) (V : zb_Wk), 0 ≤ i → i + c ≤ N.1 → (zb_fr N p (zb_wk N u) c i V).1 ≤ V.1 + c * ((5 ^ e : Nat) : Int) := by
          intro c
          induction c with
          | zero => intro i V i0 ic; show V.1 ≤ _; simp
          | succ c ihc =>
            intro i V i0 ic
            have ex : ((c + 1 : Nat) : Int) * ((5 ^ e : Nat) : Int) = c * ((5 ^ e : Nat) : Int) + ((5 ^ e : Nat) : Int) := by
              rw [show ((c + 1 : Nat) : Int) = (c : Int) + 1 by omega, Int.add_mul, Int.one_mul]
            rw [ex]
            by_cases w : zb_flw N p i
            · rw [zb_fr_y w]
              have a := ih e (zb_chd N p i) V (zb_chd_gd hp i0 (by omega)) (by have := zb_chd_k hp i0 (by omega) (zb_flw_na i0 (by omega) w); omega)
              have b := ihc (i + 1) (zb_wk N u (zb_chd N p i) V) (by omega) (by omega)
              omega
            · rw [zb_fr_n w]
              have b := ihc (i + 1) V (by omega) (by omega)
              omega
        have key := fold N.1.toNat 0 (W.1, W.2.1 + 1, W.2.2) (Int.le_refl _) (by omega)
        have key : (zb_fr N p (zb_wk N u) N.1.toNat 0 (W.1, W.2.1 + 1, W.2.2)).1 ≤ W.1 + (N.1.toNat : Int) * ((5 ^ e : Nat) : Int) := key
        have m : (N.1.toNat : Int) * ((5 ^ e : Nat) : Int) ≤ 5 * ((5 ^ e : Nat) : Int) := Int.mul_le_mul_of_nonneg_right (by omega) (by omega)
        have pw : ((5 ^ (e + 1) : Nat) : Int) = 5 * ((5 ^ e : Nat) : Int) := by rw [Nat.pow_succ, Nat.mul_comm]; omega
        rw [pw]
        omega
theorem zb_nmW_few {N : zb_N} (h0 : 1 ≤ N.1) (h1 : N.1 ≤ 5) : (zb_nmW N).1 ≤ 3000 := by
  have hg := zb_beg_gd N
  have := hg.1 0 (Int.le_refl _) (by omega)
  have k := zb_wk_few (by omega) h1 13 4 (zb_beg N) zb_W0w hg (by omega)
  have k : (zb_nmW N).1 ≤ 0 + ((5 ^ 4 : Nat) : Int) := k
  have : (5 ^ 4 : Nat) = 625 := rfl
  omega
