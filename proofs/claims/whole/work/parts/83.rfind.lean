/-! ===== the reference finds the least turning ===== -/
def zb_MG (N : zb_N) (im : Int → Int) (i c : Int) : Prop := N.2.1 i = N.2.1 c ∧ N.2.2 i i = N.2.2 c c ∧ ∀ j, 0 ≤ j → j < i → im j ≠ c ∧ N.2.2 i j = N.2.2 c (im j) ∧ N.2.2 j i = N.2.2 (im j) c
theorem zb_MG_congr {N : zb_N} {f g : Int → Int} {i c : Int} (e : ∀ j, 0 ≤ j → j < i → f j = g j) (h : zb_MG N f i c) : zb_MG N g i c := ⟨h.1, h.2.1, fun j j0 j1 => by rw [← e j j0 j1]; exact h.2.2 j j0 j1⟩
theorem s_X12_mayGo {d : Nat} {m : zb_M} {i c : Int} {N : zb_N} (hN : zb_ON N) (h : zb_RN m N) (i0 : 0 ≤ i) (i1 : i < N.1) (c0 : 0 ≤ c) (c1 : c < N.1) (him : ∀ j, 0 ≤ j → j < i → 0 ≤ m 539 j ∧ m 539 j < N.1) : zb_Tp K_X12_mayGo (d + 1) [(2, 500), (0, i), (0, c)] zb_E0 m (fun r => (r = 1 ∧ zb_MG N (m 539) i c) ∨ (r = 0 ∧ ¬ zb_MG N (m 539) i c)) := by
  apply w_X12_mayGo
  have hn := hN.1.2
  have j45 : ∀ s : Int, ((s = 1 ∧ N.2.1 i = N.2.1 c ∧ N.2.2 i i = N.2.2 c c) ∨ (s = 0 ∧ ¬ zb_MG N (m 539) i c)) → PJ_X12_mayGo_45 d zb_E0 500 i c m (fun r => (r = 1 ∧ zb_MG N (m 539) i c) ∨ (r = 0 ∧ ¬ zb_MG N (m 539) i c)) s := by
    intro s hs
    unfold PJ_X12_mayGo_45 PL_X12_mayGo_49
    rw [zb_v_500_18, zb_v_500_48]
    intro X hX
    refine zb_lq (fun s v => 0 ≤ v ∧ ((s = 1 ∧ (N.2.1 i = N.2.1 c ∧ N.2.2 i i = N.2.2 c c) ∧ ∀ j, 0 ≤ j → j < v → m 539 j ≠ c ∧ N.2.2 i j = N.2.2 c (m 539 j) ∧ N.2.2 j i = N.2.2 (m 539 j) c) ∨ (s = 0 ∧ ¬ zb_MG N (m 539) i c))) i (fun s v ⟨v0, hs⟩ vn nxt => hX s v ⟨fun c2 => ?_, fun c2 => ⟨fun c3 => ?_, fun c3 => ?_⟩⟩) s 0 i0 ⟨by omega, ?_⟩
    · rcases hs with ⟨h1, h2⟩ | ⟨h1, h2⟩
      · exact Or.inl ⟨h1, h2, fun j j0 j1 => by omega⟩
      · exact Or.inr ⟨h1, h2⟩
    · rcases hs with ⟨h1, h2, h3⟩ | ⟨h1, h2⟩
      · exact ⟨Or.inr h1, Or.inl ⟨h1, h2.1, h2.2, fun j j0 j1 => h3 j j0 (by omega)⟩⟩
      · exact ⟨Or.inl h1, Or.inr ⟨h1, h2⟩⟩
    · rcases hs with ⟨h1, h2, h3⟩ | ⟨h1, h2⟩
      · omega
      · exact ⟨Or.inl h1, Or.inr ⟨h1, h2⟩⟩
    · rcases hs with ⟨h1, h2, h3⟩ | ⟨h1, h2⟩
      · have hv := him v v0 (by omega)
        have bad : ¬ zb_MG N (m 539) i c → zb_inI (v + 1) ∧ X 0 (v + 1) := fun z => ⟨zb_inI_of (by omega) (by omega), nxt (by omega) 0 ⟨by omega, Or.inr ⟨rfl, z⟩⟩⟩
        refine ⟨⟨v0, by omega⟩, fun c4 => bad (fun z => (z.2.2 v v0 (by omega)).1 c4), fun c4 => ⟨zb_inI_of (by omega) (by omega), zb_inI_of (by omega) (by omega), ⟨by omega, by omega⟩, zb_inI_of (by omega) (by omega), zb_inI_of (by omega) (by omega), ⟨by omega, by omega⟩, ?_⟩⟩
        rw [h.2.2 i v i0 i1 v0 (by omega), h.2.2 c (m 539 v) c0 c1 hv.1 hv.2, h.2.2 v i v0 (by omega) i0 i1, h.2.2 (m 539 v) c hv.1 hv.2 c0 c1]
        refine ⟨fun c5 => ⟨zb_inI_of (by omega) (by omega), zb_inI_of (by omega) (by omega), ⟨by omega, by omega⟩, zb_inI_of (by omega) (by omega), zb_inI_of (by omega) (by omega), ⟨by omega, by omega⟩, fun c6 => ⟨zb_inI_of (by omega) (by omega), nxt (by omega) 1 ⟨by omega, Or.inl ⟨rfl, h2, fun j j0 j1 => ?_⟩⟩⟩, fun c6 => bad (fun z => c6 (z.2.2 v v0 (by omega)).2.2)⟩, fun c5 => bad (fun z => c5 (z.2.2 v v0 (by omega)).2.1)⟩
        by_cases q : j = v
        · rw [q]; exact ⟨c4, c5, c6⟩
        · exact h3 j j0 (by omega)
      · omega
  unfold PM_X12_mayGo PJ_X12_mayGo_44
  rw [zb_v_500_17, zb_v_500_18, h.2.1 i i0 i1, h.2.1 c c0 c1, h.2.2 i i i0 i1 i0 i1, h.2.2 c c c0 c1 c0 c1]
  exact ⟨⟨i0, by omega⟩, ⟨c0, by omega⟩, fun q => ⟨zb_inI_of (by omega) (by omega), zb_inI_of (by omega) (by omega), ⟨by omega, by omega⟩, zb_inI_of (by omega) (by omega), zb_inI_of (by omega) (by omega), ⟨by omega, by omega⟩, fun q2 => j45 1 (Or.inl ⟨rfl, q, q2⟩), fun q2 => j45 0 (Or.inr ⟨rfl, fun z => q2 z.2.1⟩)⟩, fun q => j45 0 (Or.inr ⟨rfl, fun z => q z.1⟩)⟩
/-- where the search stands: what is before is settled, and none has been passed over -/
def zb_Fi (N : zb_N) (L a b : Int) (m : zb_M) (i : Int) (mm : zb_M) : Prop := (∀ c, c ≠ 539 → mm c = m c) ∧ (∀ p, 0 ≤ p → p < i → (0 ≤ mm 539 p ∧ mm 539 p < N.1) ∧ zb_MG N (mm 539) p (mm 539 p) ∧ (p < L → mm 539 p = p) ∧ (p = a → mm 539 p = b)) ∧ (0 ≤ i → i < N.1 → -1 ≤ mm 539 i ∧ mm 539 i < N.1) ∧ ∀ g, zb_led N L a b g → (0 ≤ i ∧ (∀ p, 0 ≤ p → p < i → g p = mm 539 p) ∧ (i < N.1 → mm 539 i < g i)) ∨ ∃ p, 0 ≤ p ∧ p < i ∧ (∀ u, 0 ≤ u → u < p → g u = mm 539 u) ∧ mm 539 p < g p
theorem zb_Fi_end {N : zb_N} {L a b : Int} {m mm : zb_M} (hL : L ≤ N.1) (a0 : 0 ≤ a) (a1 : a < N.1) (h : zb_Fi N L a b m N.1 mm) : zb_lst N.1 (zb_led N L a b) (mm 539) := by
  obtain ⟨h1, h2, h3, h4⟩ := h
  refine ⟨⟨⟨⟨⟨fun p p0 p1 => (h2 p p0 p1).1, fun p q p0 p1 q0 q1 e => ?_⟩, fun x x0 x1 => (h2 x x0 x1).2.1.1.symm, fun x y x0 x1 y0 y1 => ?_⟩, fun z z0 z1 => (h2 z z0 (by omega)).2.2.1 z1⟩, (h2 a a0 a1).2.2.2 rfl⟩, fun g hg => ?_⟩
  · rcases Int.lt_trichotomy p q with c | c | c
    · exact absurd e ((h2 q q0 q1).2.1.2.2 p p0 c).1
    · exact c
    · exact absurd e.symm ((h2 p p0 p1).2.1.2.2 q q0 c).1
  · rcases Int.lt_trichotomy x y with c | c | c
    · exact ((h2 y y0 y1).2.1.2.2 x x0 c).2.2.symm
    · subst c; exact (h2 x x0 x1).2.1.2.1.symm
    · exact ((h2 x x0 x1).2.1.2.2 y y0 c).2.1.symm
  · rcases h4 g hg with ⟨-, k1, -⟩ | ⟨p, p0, p1, k1, k2⟩
    · exact Or.inl (fun x x0 x1 => (k1 x x0 x1).symm)
    · exact Or.inr ⟨p, p0, p1, fun i i0 i1 => (k1 i i0 i1).symm, k2⟩
theorem zb_led_MG {N : zb_N} {L a b i : Int} {g im : Int → Int} (hg : zb_led N L a b g) (i0 : 0 ≤ i) (i1 : i < N.1) (e : ∀ p, 0 ≤ p → p < i → g p = im p) : zb_MG N im i (g i) := by
  obtain ⟨⟨⟨hp, hk, hl⟩, -⟩, -⟩ := hg
  refine ⟨(hk i i0 i1).symm, (hl i i i0 i1 i0 i1).symm, fun j j0 j1 => ?_⟩
  rw [← e j j0 j1]
  exact ⟨fun z => by have := hp.2 j i j0 (by omega) i0 i1 z; omega, (hl i j i0 i1 j0 (by omega)).symm, (hl j i j0 (by omega) i0 i1).symm⟩
theorem s_X12_find {d : Nat} {m : zb_M} {L a b : Int} {N : zb_N} (hN : zb_ON N) (h : zb_RN m N) (L0 : 0 ≤ L) (La : L ≤ a) (a1 : a < N.1) (b0 : 0 ≤ b) (b1 : b < N.1) : zb_T K_X12_find (d + 2) [(2, 500), (0, L), (0, a), (0, b)] zb_E0 m (fun r m1 => ((r = 1 ∧ zb_lst N.1 (zb_led N L a b) (m1 539)) ∨ (r = 0 ∧ ∀ f, ¬ zb_led N L a b f)) ∧ ∀ c, c ≠ 539 → m1 c = m c) := by
  apply w_X12_find
  have hn := hN.1.2
  unfold PM_X12_find
  rw [zb_v_500_48]
  intro m9 e9
  unfold PL_X12_find_10
  rw [zb_v_500_48]
  intro X hX
  have fin : ∀ mm, zb_Fi N L a b m N.1 mm → X N.1 mm := fun mm hI => by
    have e15 : mm 500 15 = N.1 := by rw [hI.1 500 (by omega)]; exact h.1
    refine hX N.1 mm ⟨fun z => by omega, fun _ => ⟨fun _ => ?_, fun z => absurd (by rw [e15]; exact Int.le_refl _) z⟩⟩
    unfold PJ_X12_find_179
    exact ⟨fun _ => ⟨Or.inl ⟨rfl, zb_Fi_end (by omega) (by omega) a1 hI⟩, hI.1⟩, fun z => absurd e15.symm z⟩
  have step : ∀ (i : Int) (mm : zb_M), 0 ≤ i → i < N.1 → zb_Fi N L a b m i mm → (∀ (c : Int) (m1 : zb_M), mm 539 i < c → (∀ p, p < i → m1 539 p = mm 539 p) → m1 539 i = c → zb_Fi N L a b m (i + 1) m1 → X (i + 1) m1) → (zb_Fi N L a b m (i - 1) mm → X (i - 1) mm) → X i mm := by
    intro i mm i0 i1 hI fwd bck
    obtain ⟨h1, h2, h3, h4⟩ := hI
    have h3 := h3 i0 i1
    have e15 : mm 500 15 = N.1 := by rw [h1 500 (by omega)]; exact h.1
    have hRN : zb_RN mm N := zb_RN_same h (by rw [h1 500 (by omega)]) (h1 516 (by omega)) (h1 517 (by omega))
    have j132 : ∀ c, 0 ≤ c → c ≤ N.1 → (∀ c', mm 539 i < c' → c' < c → ((i < L → c' = i) ∧ (i = a → c' = b)) → ¬ zb_MG N (mm 539) i c') → (c < N.1 → mm 539 i < c ∧ ((i < L → c = i) ∧ (i = a → c = b)) ∧ zb_MG N (mm 539) i c) → PJ_X12_find_132 (d + 1) zb_E0 500 i mm X (fun r m1 => ((r = 1 ∧ zb_lst N.1 (zb_led N L a b) (m1 539)) ∨ (r = 0 ∧ ∀ f, ¬ zb_led N L a b f)) ∧ ∀ c, c ≠ 539 → m1 c = m c) c := by
      intro c c0 cn d1 d2
      have alw : ∀ g, zb_led N L a b g → (i < L → g i = i) ∧ (i = a → g i = b) := fun g hg => ⟨fun q => hg.1.2 i i0 q, fun q => by rw [q]; exact hg.2⟩
      have ge : ∀ g, zb_led N L a b g → (∀ p, 0 ≤ p → p < i → g p = mm 539 p) → mm 539 i < g i → c ≤ g i := fun g hg k1 k2 => by
        by_cases q : g i < c
        · exact absurd (zb_led_MG hg i0 i1 k1) (d1 (g i) k2 q (alw g hg))
        · omega
      unfold PJ_X12_find_132
      rw [e15, zb_v_500_48]
      refine ⟨fun cl => ?_, fun cl => ⟨zb_inI_of (by omega) (by omega), bck ⟨h1, fun p p0 p1 => h2 p p0 (by omega), fun q0 q1 => ?_, fun g hg => ?_⟩⟩⟩
      · obtain ⟨d3, d4, d5⟩ := d2 cl
        intro m155 e155
        have key : ∀ m1 : zb_M, (∀ p, p < i → m1 539 p = mm 539 p) → m1 539 i = c → (i + 1 < N.1 → m1 539 (i + 1) = -1) → (∀ c, c ≠ 539 → m1 c = m c) → X (i + 1) m1 := by
          intro m1 k1 k2 k3 k4
          refine fwd c m1 d3 k1 k2 ⟨k4, fun p p0 p1 => ?_, fun q0 q1 => by rw [k3 q1]; omega, fun g hg => ?_⟩
          · by_cases q : p = i
            · subst q
              rw [k2]
              exact ⟨⟨c0, cl⟩, zb_MG_congr (fun j j0 j1 => (k1 j j1).symm) d5, d4.1, d4.2⟩
            · rw [k1 p (by omega)]
              obtain ⟨z1, z2, z3, z4⟩ := h2 p p0 (by omega)
              exact ⟨z1, zb_MG_congr (fun j j0 j1 => (k1 j (by omega)).symm) z2, z3, z4⟩
          · rcases h4 g hg with ⟨-, t1, t2⟩ | ⟨p, p0, p1, t1, t2⟩
            · have t3 := ge g hg t1 (t2 i1)
              have hgi := hg.1.1.1.1
              by_cases q : g i = c
              · refine Or.inl ⟨by omega, fun p p0 p1 => ?_, fun q2 => ?_⟩
                · by_cases q3 : p = i
                  · rw [q3, k2]; exact q
                  · rw [k1 p (by omega)]; exact t1 p p0 (by omega)
                · have := hgi (i + 1) (by omega) q2
                  rw [k3 q2]; omega
              · exact Or.inr ⟨i, i0, by omega, fun u u0 u1 => by rw [k1 u u1]; exact t1 u u0 u1, by rw [k2]; omega⟩
            · exact Or.inr ⟨p, p0, by omega, fun u u0 u1 => by rw [k1 u (by omega)]; exact t1 u u0 u1, by rw [k1 p p1]; exact t2⟩
        have f155 : ∀ c, c ≠ 539 → m155 c = m c := fun c hc => by rw [zb_u3 e155 hc]; exact h1 c hc
        rw [f155 500 (by omega), h.1]
        refine ⟨zb_inI_of (by omega) (by omega), fun q => key m155 (fun p hp => zb_u2 e155 (by omega)) (zb_u1 e155) (fun q2 => by omega) f155, fun q => ⟨⟨by omega, by omega⟩, fun m175 e175 => key m175 (fun p hp => by rw [zb_u2 e175 (by omega), zb_u2 e155 (by omega)]) (by rw [zb_u2 e175 (by omega), zb_u1 e155]) (fun _ => zb_u1 e175) (fun c hc => by rw [zb_u3 e175 hc]; exact f155 c hc)⟩⟩
      · have := (h2 (i - 1) q0 (by omega)).1
        omega
      · have nog : ∀ g, zb_led N L a b g → (∀ p, 0 ≤ p → p < i → g p = mm 539 p) → ¬ mm 539 i < g i := fun g hg t1 t2 => by
          have := ge g hg t1 t2
          have := hg.1.1.1.1 i i0 i1
          omega
        rcases h4 g hg with ⟨-, t1, t2⟩ | ⟨p, p0, p1, t1, t2⟩
        · exact absurd (t2 i1) (nog g hg t1)
        · by_cases q : p = i - 1
          · subst q
            exact Or.inl ⟨p0, t1, fun _ => t2⟩
          · exact Or.inr ⟨p, p0, by omega, t1, t2⟩
    have him : ∀ j, 0 ≤ j → j < i → 0 ≤ mm 539 j ∧ mm 539 j < N.1 := fun j j0 j1 => (h2 j j0 j1).1
    have jbound : ∀ to, 0 ≤ to → to < N.1 → ((i < L → to = i) ∧ (i = a → to = b)) → (∀ c', ((i < L → c' = i) ∧ (i = a → c' = b)) → c' = to) → PJ_X12_find_66 (d + 1) zb_E0 500 i mm 1 X (fun r m1 => ((r = 1 ∧ zb_lst N.1 (zb_led N L a b) (m1 539)) ∨ (r = 0 ∧ ∀ f, ¬ zb_led N L a b f)) ∧ ∀ c, c ≠ 539 → m1 c = m c) to := by
      intro to t0 t1 t2 t3
      unfold PJ_X12_find_66
      rw [zb_v_500_48, e15]
      refine ⟨fun z => by omega, fun _ => ⟨fun q => ?_, fun q => ?_⟩⟩
      · unfold PJ_X12_find_89 PJ_X12_find_91 PL_X12_find_91
        rw [e15]
        intro Y hY
        refine hY N.1 ⟨fun _ => j132 N.1 hN.1.1 (Int.le_refl _) (fun c' q1 q2 q3 => ?_) (fun z => by omega), fun z => absurd (Int.le_refl _) z⟩
        have := t3 c' q3
        omega
      · unfold PJ_X12_find_89 PJ_X12_find_91 PL_X12_find_91
        rw [e15]
        intro Y hY
        refine hY to ⟨fun z => by omega, fun _ => (s_X12_mayGo hN hRN i0 i1 t0 t1 him).mono (fun r hr => ?_)⟩
        rcases hr with ⟨r1, r2⟩ | ⟨r1, r2⟩
        · exact ⟨fun z => by omega, fun _ => j132 to t0 (by omega) (fun c' q1 q2 q3 => by have := t3 c' q3; omega) (fun _ => ⟨by omega, t2, r2⟩)⟩
        · refine ⟨fun _ => ⟨fun z => by omega, fun _ => hY N.1 ⟨fun _ => j132 N.1 hN.1.1 (Int.le_refl _) (fun c' q1 q2 q3 => ?_) (fun z => by omega), fun z => absurd (Int.le_refl _) z⟩⟩, fun z => absurd r1 z⟩
          rw [t3 c' q3]
          exact r2
    have j47 : (i < L ∨ i = a) → PJ_X12_find_47 (d + 1) zb_E0 500 L b i mm X (fun r m1 => ((r = 1 ∧ zb_lst N.1 (zb_led N L a b) (m1 539)) ∨ (r = 0 ∧ ∀ f, ¬ zb_led N L a b f)) ∧ ∀ c, c ≠ 539 → m1 c = m c) := by
      intro hb
      unfold PJ_X12_find_47 PJ_X12_find_52
      refine ⟨fun q => jbound b b0 b1 ⟨fun z => by omega, fun _ => rfl⟩ (fun c' q2 => q2.2 (by omega)), fun q => jbound i i0 i1 ⟨fun _ => rfl, fun z => by omega⟩ (fun c' q2 => q2.1 (by omega))⟩
    refine hX i mm ⟨fun z => by omega, fun _ => ⟨fun z => by omega, fun _ => ⟨⟨i0, by omega⟩, zb_inI_of (by omega) (by omega), fun q => j47 (Or.inl q), fun q => ⟨fun q2 => j47 (Or.inr q2), fun q2 => ?_⟩⟩⟩⟩
    unfold PJ_X12_find_52
    have free : ∀ to, PJ_X12_find_66 (d + 1) zb_E0 500 i mm 0 X (fun r m1 => ((r = 1 ∧ zb_lst N.1 (zb_led N L a b) (m1 539)) ∨ (r = 0 ∧ ∀ f, ¬ zb_led N L a b f)) ∧ ∀ c, c ≠ 539 → m1 c = m c) to := by
      intro to
      unfold PJ_X12_find_66
      rw [zb_v_500_48]
      refine ⟨fun _ => ?_, fun z => absurd rfl z⟩
      unfold PJ_X12_find_91 PL_X12_find_91
      rw [e15]
      intro Y hY
      refine zb_lp0 (fun c => mm 539 i < c ∧ ∀ c', mm 539 i < c' → c' < c → ¬ zb_MG N (mm 539) i c') N.1 (fun c ⟨c0, hc⟩ cn nxt => hY c ⟨fun z => j132 c (by omega) cn (fun c' q1 q3 _ => hc c' q1 q3) (fun z2 => by omega), fun z => (s_X12_mayGo hN hRN i0 i1 (by omega) (by omega) him).mono (fun r hr => ?_)⟩) (mm 539 i + 1) (by omega) ⟨by omega, fun c' q1 q3 => by omega⟩
      rcases hr with ⟨r1, r2⟩ | ⟨r1, r2⟩
      · exact ⟨fun z => by omega, fun _ => j132 c (by omega) cn (fun c' q1 q3 _ => hc c' q1 q3) (fun _ => ⟨c0, ⟨fun z => by omega, fun z => absurd z q2⟩, r2⟩)⟩
      · refine ⟨fun _ => ⟨fun _ => ⟨zb_inI_of (by omega) (by omega), nxt (by omega) ⟨by omega, fun c' q1 q3 => ?_⟩⟩, fun z => absurd rfl z⟩, fun z => absurd r1 z⟩
        by_cases w : c' = c
        · rw [w]; exact r2
        · exact hc c' q1 (by omega)
    exact ⟨fun _ => free b, fun _ => free i⟩
  have A : ∀ (e : Nat) (i : Int) (mm : zb_M), 0 ≤ i → i ≤ N.1 → N.1 - i ≤ e → zb_Fi N L a b m i mm → (∀ m1, (∀ p, p < i → m1 539 p = mm 539 p) → zb_Fi N L a b m (i - 1) m1 → X (i - 1) m1) → X i mm := by
    intro e
    induction e with
    | zero =>
      intro i mm i0 i1 ie hI bck
      have : i = N.1 := by omega
      subst this
      exact fin mm hI
    | succ e ih =>
      intro i mm i0 i1 ie hI bck
      by_cases q : i = N.1
      · subst q
        exact fin mm hI
      have B : ∀ (u : Nat) (m2 : zb_M), N.1 - m2 539 i ≤ u → (∀ p, p < i → m2 539 p = mm 539 p) → zb_Fi N L a b m i m2 → X i m2 := by
        intro u
        induction u with
        | zero =>
          intro m2 hu hp hI2
          have := hI2.2.2.1 i0 (by omega)
          omega
        | succ u ihu =>
          intro m2 hu hp hI2
          have h3 := hI2.2.2.1 i0 (by omega)
          refine step i m2 i0 (by omega) hI2 (fun c m1 hc k1 k2 k3 => ih (i + 1) m1 (by omega) (by omega) (by omega) k3 (fun m3 k4 k5 => ?_)) (fun k => bck m2 hp k)
          have e0 : i + 1 - 1 = i := by omega
          rw [e0] at k5 ⊢
          have k6 := k4 i (by omega)
          rw [k2] at k6
          exact ihu m3 (by omega) (fun p hp2 => by rw [k4 p (by omega), k1 p hp2]; exact hp p hp2) k5
      exact B (N.1 + 1).toNat mm (by have := hI.2.2.1 i0 (by omega); omega) (fun p _ => rfl) hI
  have f9 : ∀ c, c ≠ 539 → m9 c = m c := fun c hc => zb_u3 e9 hc
  refine A N.1.toNat 0 m9 (Int.le_refl _) hN.1.1 (by omega) ⟨f9, fun p p0 p1 => by omega, fun _ _ => by rw [zb_u1 e9]; omega, fun g hg => Or.inl ⟨Int.le_refl _, fun p p0 p1 => by omega, fun q => ?_⟩⟩ (fun m1 _ hI => ?_)
  · have := hg.1.1.1.1 0 (Int.le_refl _) q
    rw [zb_u1 e9]; omega
  · refine hX (0 - 1) m1 ⟨fun _ => ?_, fun z => absurd (show (0 : Int) - 1 < 0 by omega) z⟩
    have e15 : m1 500 15 = N.1 := by rw [hI.1 500 (by omega)]; exact h.1
    unfold PJ_X12_find_179
    refine ⟨fun z => by rw [e15] at z; omega, fun _ => ⟨Or.inr ⟨rfl, fun f hf => ?_⟩, hI.1⟩⟩
    rcases hI.2.2.2 f hf with ⟨t0, -⟩ | ⟨p, p0, p1, -⟩
    · omega
    · omega
