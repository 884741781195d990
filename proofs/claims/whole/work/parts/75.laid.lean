/-! ===== the same, the reference's side ===== -/
def zb_RN (m : zb_M) (N : zb_N) : Prop := m 500 15 = N.1 ∧ (∀ x, 0 ≤ x → x < N.1 → m 516 x = N.2.1 x) ∧ ∀ x y, 0 ≤ x → x < N.1 → 0 ≤ y → y < N.1 → m 517 (12 * x + y) = N.2.2 x y
theorem zb_RN_same {m m1 : zb_M} {N : zb_N} (h : zb_RN m N) (h5 : m1 500 15 = m 500 15) (h6 : m1 516 = m 516) (h7 : m1 517 = m 517) : zb_RN m1 N := by
  refine ⟨h5.trans h.1, ?_, ?_⟩
  · rw [h6]; exact h.2.1
  · rw [h7]; exact h.2.2
theorem s_X12_layOut {d : Nat} {m : zb_M} {s : zb_Gs} {g : Int} (hC : zb_RG m s) (hO : zb_OG s) (g0 : 0 ≤ g) (g1 : g < 8) : zb_T K_X12_layOut (d + 4) [(2, 500), (0, g)] zb_E0 m (fun _ m1 => (zb_RN m1 (zb_shN (s.1 g)) ∧ ∀ x, 0 ≤ x → x < zb_shn (s.1 g) → m1 515 x = zb_sha (s.1 g) x) ∧ (∀ c, (c < 500 ∨ (500 < c ∧ c < 515) ∨ 517 < c) → m1 c = m c) ∧ ∀ j, j ≠ 15 → m1 500 j = m 500 j) := by
  apply w_X12_layOut
  have hG := hO.1 g g0 g1
  have hn := hG.2.1
  have hr := zb_shn_rng hG
  have hsa := zb_sha_asc hG
  have hg0 : m 501 g = (s.1 g).1 := (hC.1 g g0 g1).1
  unfold PM_X12_layOut
  intro m2 e2
  unfold PL_X12_layOut_7
  rw [zb_v_500_0, zb_v_500_1, zb_v_500_16, zb_v_500_17]
  intro X hX
  refine zb_lp1 (fun v mm => 0 ≤ v ∧ (mm 500 15 = (zb_sat (s.1 g) v.toNat).1 ∧ ∀ x, 0 ≤ x → x < (zb_sat (s.1 g) v.toNat).1 → mm 515 x = (zb_sat (s.1 g) v.toNat).2 x ∧ mm 516 x = zb_key (s.1 g) ((zb_sat (s.1 g) v.toNat).2 x)) ∧ (∀ c, (c < 500 ∨ (500 < c ∧ c < 515) ∨ 516 < c) → mm c = m c) ∧ ∀ j, j ≠ 15 → mm 500 j = m 500 j) (s.1 g).1 (fun v mm ⟨v0, ⟨k1, k2⟩, k3, k4⟩ vn nxt => hX v mm ⟨⟨g0, g1⟩, fun c => ?_, fun c => ?_⟩) 0 m2 hG.1 ⟨by omega, ⟨zb_u1 e2, fun x x0 x1 => by have x1 : x < 0 := x1; omega⟩, fun c hc => by rw [zb_u3 e2 (by omega)], fun j hj => by rw [zb_u2 e2 (by omega)]⟩
  · rw [k3 501 (by omega), hg0] at c
    have hv : v = (s.1 g).1 := by omega
    subst hv
    clear nxt hX X
    unfold PJ_X12_layOut_73 PL_X12_layOut_75
    have k1 : mm 500 15 = zb_shn (s.1 g) := k1
    have k2 : ∀ x, 0 ≤ x → x < zb_shn (s.1 g) → mm 515 x = zb_sha (s.1 g) x ∧ mm 516 x = zb_key (s.1 g) (zb_sha (s.1 g) x) := k2
    intro Y hY
    refine zb_lp1 (fun x mn => 0 ≤ x ∧ (∀ c, c ≠ 517 → mn c = mm c) ∧ ∀ z y, 0 ≤ z → z < x → 0 ≤ y → y < zb_shn (s.1 g) → mn 517 (12 * z + y) = (s.1 g).2.2.2.2.2 (zb_sha (s.1 g) z) (zb_sha (s.1 g) y)) (zb_shn (s.1 g)) (fun x mn ⟨x0, n1, n2⟩ xn nx2 => hY x mn ⟨fun c2 => ⟨⟨⟨?_, fun z z0 z1 => ?_, fun z y z0 z1 y0 y1 => ?_⟩, fun z z0 z1 => ?_⟩, fun c hc => ?_, fun j hj => ?_⟩, fun c2 => ?_⟩) 0 mm hr.1 ⟨by omega, fun c _ => rfl, fun z y z0 z1 => by omega⟩
    · rw [n1 500 (by omega)]; exact k1
    · rw [n1 516 (by omega)]; exact (k2 z z0 z1).2
    · rw [n1 500 (by omega), k1] at c2
      have z1 : z < zb_shn (s.1 g) := z1
      have y1 : y < zb_shn (s.1 g) := y1
      exact n2 z y z0 (by omega) y0 y1
    · rw [n1 515 (by omega)]; exact (k2 z z0 z1).1
    · rw [n1 c (by omega)]; exact k3 c (by omega)
    · rw [n1 500 (by omega)]; exact k4 j hj
    · rw [n1 500 (by omega), k1] at c2
      unfold PL_X12_layOut_85
      rw [zb_v_500_16, zb_v_500_18]
      intro Z hZ
      refine zb_lp1 (fun y mo => 0 ≤ y ∧ (∀ c, c ≠ 517 → mo c = mm c) ∧ (∀ z y, 0 ≤ z → z < x → 0 ≤ y → y < zb_shn (s.1 g) → mo 517 (12 * z + y) = (s.1 g).2.2.2.2.2 (zb_sha (s.1 g) z) (zb_sha (s.1 g) y)) ∧ ∀ u, 0 ≤ u → u < y → mo 517 (12 * x + u) = (s.1 g).2.2.2.2.2 (zb_sha (s.1 g) x) (zb_sha (s.1 g) u)) (zb_shn (s.1 g)) (fun y mo ⟨y0, o1, o2, o3⟩ yn nx3 => hZ y mo ⟨fun c3 => ?_, fun c3 => ?_⟩) 0 mn hr.1 ⟨by omega, n1, n2, fun u u0 u1 => by omega⟩
      · rw [o1 500 (by omega), k1] at c3
        refine ⟨zb_inI_of (by omega) (by omega), nx2 (by omega) mo ⟨by omega, o1, fun z u z0 z1 u0 u1 => ?_⟩⟩
        by_cases q : z = x
        · subst q; exact o3 u u0 (by omega)
        · exact o2 z u z0 (by omega) u0 u1
      · rw [o1 500 (by omega), k1] at c3
        have hx := hsa.1 x x0 (by omega)
        have hy := hsa.1 y y0 (by omega)
        rw [o1 515 (by omega), (k2 x x0 (by omega)).1, (k2 y y0 (by omega)).1]
        have hC1 : zb_RG mo s := zb_RG_same hC (fun b b0 b1 => by rw [o1 b (by omega)]; exact k3 b (by omega)) (by rw [o1 500 (by omega)]; exact k4 13 (by omega))
        refine ⟨zb_inI_of (by omega) (by omega), zb_inI_of (by omega) (by omega), ⟨x0, by omega⟩, ⟨y0, by omega⟩, (s_X12_lineOf hC1 hO g0 g1 hx.1 hx.2 hy.1 (by omega)).mono (fun r hq => ⟨⟨by omega, by omega⟩, fun m1 e1 => ⟨zb_inI_of (by omega) (by omega), nx3 (by omega) m1 ⟨by omega, fun c hc => by rw [zb_u3 e1 hc]; exact o1 c hc, fun z u z0 z1 u0 u1 => ?_, fun u u0 u1 => ?_⟩⟩⟩)⟩
        · rw [zb_u2 e1 (by omega)]; exact o2 z u z0 z1 u0 u1
        · by_cases q : u = y
          · rw [q, zb_u1 e1]; exact hq
          · rw [zb_u2 e1 (by omega)]; exact o3 u u0 (by omega)
  · rw [k3 501 (by omega), hg0] at c
    have hs := (zb_sat_ok (s.1 g) v.toNat).1
    have e1 : mm 502 (12 * g + v) = (s.1 g).2.1 v := by rw [k3 502 (by omega)]; exact ((hC.1 g g0 g1).2 v v0 (by omega)).1
    have eS := zb_sat_S (s.1 g) v0
    rw [e1, k1]
    refine ⟨zb_inI_of (by omega) (by omega), zb_inI_of (by omega) (by omega), ⟨by omega, by omega⟩, fun q => ⟨zb_inI_of (by omega) (by omega), nxt (by omega) mm ⟨by omega, ?_, k3, k4⟩⟩, fun q => ⟨⟨hs.1, by omega⟩, fun m41 e41 => ?_⟩⟩
    · rw [if_pos q] at eS
      rw [eS]
      exact ⟨k1, k2⟩
    · rw [if_neg q] at eS
      have hC1 : zb_RG m41 s := zb_RG_same hC (fun b b0 b1 => by rw [zb_u3 e41 (by omega)]; exact k3 b (by omega)) (by rw [zb_u3 e41 (by omega)]; exact k4 13 (by omega))
      refine (s_X12_keyOf hC1 hO g0 g1 v0 (by omega)).mono (fun r hr2 => ?_)
      have q41 : m41 500 15 = (zb_sat (s.1 g) v.toNat).1 := by rw [zb_u3 e41 (by omega)]; exact k1
      rw [q41]
      refine ⟨⟨hs.1, by omega⟩, fun m56 e56 => ?_⟩
      have q56 : m56 500 15 = (zb_sat (s.1 g) v.toNat).1 := by rw [zb_u3 e56 (by omega)]; exact q41
      rw [q56]
      refine ⟨zb_inI_of (by omega) (by omega), fun m64 e64 => ⟨zb_inI_of (by omega) (by omega), nxt (by omega) m64 ⟨by omega, ?_, fun c hc => ?_, fun j hj => ?_⟩⟩⟩
      · rw [eS]
        refine ⟨zb_u1 e64, fun x x0 x1 => ?_⟩
        have x1 : x < (zb_sat (s.1 g) v.toNat).1 + 1 := x1
        show m64 515 x = (if x = (zb_sat (s.1 g) v.toNat).1 then v else (zb_sat (s.1 g) v.toNat).2 x) ∧ m64 516 x = zb_key (s.1 g) (if x = (zb_sat (s.1 g) v.toNat).1 then v else (zb_sat (s.1 g) v.toNat).2 x)
        by_cases q2 : x = (zb_sat (s.1 g) v.toNat).1
        · rw [if_pos q2, q2]
          refine ⟨?_, ?_⟩
          · rw [zb_u3 e64 (by omega), zb_u3 e56 (by omega), zb_u1 e41]
          · rw [zb_u3 e64 (by omega), zb_u1 e56, hr2]
        · rw [if_neg q2]
          refine ⟨?_, ?_⟩
          · rw [zb_u3 e64 (by omega), zb_u3 e56 (by omega), zb_u2 e41 (by omega)]; exact (k2 x x0 (by omega)).1
          · rw [zb_u3 e64 (by omega), zb_u2 e56 (by omega), zb_u3 e41 (by omega)]; exact (k2 x x0 (by omega)).2
      · rw [zb_u3 e64 (by omega), zb_u3 e56 (by omega), zb_u3 e41 (by omega)]; exact k3 c hc
      · rw [zb_u2 e64 (by omega), zb_u3 e56 (by omega), zb_u3 e41 (by omega)]; exact k4 j hj
theorem s_X12_handOf {d : Nat} {m : zb_M} {i n : Int} {o : Int → Int} (hn : m 500 24 = n) (n1 : n ≤ 12) (h0 : 0 ≤ n) (ho : ∀ x, 0 ≤ x → x < n → m 522 x = o x) : zb_Tp K_X12_handOf (d + 1) [(2, 500), (0, i)] zb_E0 m (fun r => zb_isx n o i r) := by
  apply w_X12_handOf
  unfold PM_X12_handOf PL_X12_handOf_2
  rw [zb_v_500_25, hn]
  intro X hX
  refine zb_lp0 (fun v => 0 ≤ v ∧ ∀ x, 0 ≤ x → x < v → o x ≠ i) n (fun v ⟨v0, hv⟩ vn nxt => hX v ⟨fun c => Or.inl ⟨rfl, fun x x0 x1 => hv x x0 (by omega)⟩, fun c => ⟨⟨v0, by omega⟩, fun c2 => Or.inr ⟨v0, by omega, by rw [ho v v0 (by omega)] at c2; exact c2⟩, fun c2 => ⟨zb_inI_of (by omega) (by omega), nxt (by omega) ⟨by omega, fun x x0 x1 => ?_⟩⟩⟩⟩) 0 h0 ⟨by omega, fun x x0 x1 => by omega⟩
  by_cases q : x = v
  · rw [q]; rw [ho v v0 (by omega)] at c2; exact c2
  · exact hv x x0 (by omega)
theorem s_X12_shownPlace {d : Nat} {m : zb_M} {i n : Int} {o : Int → Int} (hn : m 500 15 = n) (n1 : n ≤ 12) (h0 : 0 ≤ n) (ho : ∀ x, 0 ≤ x → x < n → m 515 x = o x) : zb_Tp K_X12_shownPlace (d + 1) [(2, 500), (0, i)] zb_E0 m (fun r => zb_isx n o i r) := by
  apply w_X12_shownPlace
  unfold PM_X12_shownPlace PL_X12_shownPlace_2
  rw [zb_v_500_16, hn]
  intro X hX
  refine zb_lp0 (fun v => 0 ≤ v ∧ ∀ x, 0 ≤ x → x < v → o x ≠ i) n (fun v ⟨v0, hv⟩ vn nxt => hX v ⟨fun c => Or.inl ⟨rfl, fun x x0 x1 => hv x x0 (by omega)⟩, fun c => ⟨⟨v0, by omega⟩, fun c2 => Or.inr ⟨v0, by omega, by rw [ho v v0 (by omega)] at c2; exact c2⟩, fun c2 => ⟨zb_inI_of (by omega) (by omega), nxt (by omega) ⟨by omega, fun x x0 x1 => ?_⟩⟩⟩⟩) 0 h0 ⟨by omega, fun x x0 x1 => by omega⟩
  by_cases q : x = v
  · rw [q]; rw [ho v v0 (by omega)] at c2; exact c2
  · exact hv x x0 (by omega)
