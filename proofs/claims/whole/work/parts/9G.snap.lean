/-! ===== the class: a drawing as a snapshot; all drawings of one sort ===== -/
theorem zb_lnS {m m1 : zb_M} {n x0 y0 v : Int} {L : Int → Int → Int} {S T : Int → Int → Prop} (hm1 : ∀ b j, m1 b j = if b = 126 + 5 ∧ j = x0 * 12 + y0 then zb_W v else if b = 126 + 4 ∧ j = x0 * 12 + y0 then v else m b j) (hv : v = L x0 y0) (n1 : n ≤ 12) (y00 : 0 ≤ y0) (y01 : y0 < n) (h : ∀ x y, 0 ≤ x → x < n → 0 ≤ y → y < n → S x y → m 130 (x * 12 + y) = L x y ∧ m 131 (x * 12 + y) = zb_W (L x y)) (hT : ∀ x y, 0 ≤ x → 0 ≤ y → T x y → S x y ∨ (x = x0 ∧ y = y0)) : ∀ x y, 0 ≤ x → x < n → 0 ≤ y → y < n → T x y → m1 130 (x * 12 + y) = L x y ∧ m1 131 (x * 12 + y) = zb_W (L x y) := by
  intro x y a1 a2 a3 a4 t
  rw [hm1, hm1]
  by_cases c : x = x0 ∧ y = y0
  · rw [if_neg (by omega), if_pos (by rw [c.1, c.2]; exact ⟨rfl, rfl⟩), if_pos (by rw [c.1, c.2]; exact ⟨rfl, rfl⟩), c.1, c.2, hv]
    exact ⟨rfl, rfl⟩
  · have s : S x y := by
      rcases hT x y a1 a3 t with z | z
      · exact z
      · exact absurd z c
    rw [if_neg (by omega), if_neg (by omega), if_neg (by omega), if_neg (by omega)]
    exact h x y a1 a2 a3 a4 s
theorem s_X6_takePairs {d : Nat} {m : zb_M} {n : Int} {b : Nat} (n0 : 1 ≤ n) (n1 : n ≤ 5) (hb : b < 1024) : zb_T K_X6_takePairs (d + 2) [(2, 126), (0, n), (0, (b : Int))] zb_E0 m (fun _ m1 => zb_CS m1 126 (zb_dr n b) (fun i => i) ∧ ∀ c, (c < 126 ∨ 131 < c) → m1 c = m c) := by
  apply w_X6_takePairs
  obtain ⟨w1, w2, w3, w4, w5⟩ := zb_shw zb_i_126
  unfold PM_X6_takePairs
  intro m2 e2
  unfold PL_X6_takePairs_7
  rw [w2]
  intro X hX
  refine zb_lp1 (fun v mm => 0 ≤ v ∧ mm 126 0 = 0 ∧ (∀ i, 0 ≤ i → i < v → mm 128 i = -1) ∧ ∀ c, (c < 126 ∨ 131 < c) → mm c = m c) 12 (fun v mm ⟨v0, h1, h2, h3⟩ vn nxt => hX v mm ⟨fun c => ?_, fun c => ⟨⟨v0, by omega⟩, fun m19 e19 => ⟨zb_inI_of (by omega) (by omega), nxt (by omega) m19 ⟨by omega, by rw [zb_u3 e19 (by omega)]; exact h1, fun i i0 i1 => ?_, fun c hc => by rw [zb_u3 e19 (by omega)]; exact h3 c hc⟩⟩⟩⟩) 0 m2 (by omega) ⟨by omega, zb_u1 e2, fun i i0 i1 => by omega, fun c hc => by rw [zb_u3 e2 (by omega)]⟩
  · unfold PJ_X6_takePairs_26 PL_X6_takePairs_28
    intro Y hY
    refine zb_lp1 (fun v mn => 0 ≤ v ∧ mn 126 0 = v ∧ (∀ x, 0 ≤ x → x < v → mn 127 x = x ∧ mn 129 x = 0) ∧ (∀ i, 0 ≤ i → i < 12 → mn 128 i = if i < v then i else -1) ∧ ∀ c, (c < 126 ∨ 131 < c) → mn c = m c) n (fun v mn ⟨v0, q1, q2, q3, q4⟩ vn nx2 => hY v mn ⟨fun c2 => ?_, fun c2 => ?_⟩) 0 mm (by omega) ⟨by omega, h1, fun x x0 x1 => by omega, fun i i0 i1 => by rw [if_neg (by omega)]; exact h2 i i0 (by omega), h3⟩
    · have hv : v = n := by omega
      subst hv
      unfold PJ_X6_takePairs_45 PL_X6_takePairs_47
      intro Z hZ
      refine zb_lp1 (fun u mo => 0 ≤ u ∧ (∀ x y, 0 ≤ x → x < v → 0 ≤ y → y < v → (x < u ∧ y < u) → mo 130 (x * 12 + y) = (zb_dr v b).2.2 x y ∧ mo 131 (x * 12 + y) = zb_W ((zb_dr v b).2.2 x y)) ∧ ∀ c, c ≠ 130 → c ≠ 131 → mo c = mn c) v (fun u mo ⟨u0, r1, r2⟩ un nx3 => hZ u mo ⟨fun c3 => ?_, fun c3 => ?_⟩) 0 mn (by omega) ⟨by omega, fun x y _ _ _ _ z => by omega, fun c _ _ => rfl⟩
      · have hu : u = v := by omega
        subst hu
        refine ⟨⟨by rw [r2 126 (by omega) (by omega)]; exact q1, fun x x0 x1 => ?_, fun x y x0 x1 y0 y1 => r1 x y x0 x1 y0 y1 ⟨x1, y1⟩, fun i i0 i1 => ?_⟩, fun c hc => by rw [r2 c (by omega) (by omega)]; exact q4 c hc⟩
        · show mo 127 x = x ∧ mo 129 x = 0
          rw [r2 127 (by omega) (by omega), r2 129 (by omega) (by omega)]
          exact q2 x x0 x1
        · show zb_isx u (fun i => i) i (mo 128 i)
          rw [r2 128 (by omega) (by omega), q3 i i0 i1]
          by_cases z : i < u
          · rw [if_pos z]; exact Or.inr ⟨i0, z, rfl⟩
          · rw [if_neg z]; exact Or.inl ⟨rfl, fun x _ x1 e => z (by have e : x = i := e; omega)⟩
      · have u1 : u < v := by omega
        refine (s_X6_setLine zb_i_126 u0 (by omega) u0 (by omega) (by omega) (by omega)).mono (fun _ m56 h56 => ?_)
        unfold PL_X6_takePairs_62
        intro V hV
        refine zb_lp1 (fun w mp => 0 ≤ w ∧ (∀ x y, 0 ≤ x → x < v → 0 ≤ y → y < v → ((x < u ∧ y < u) ∨ (x = u ∧ y = u) ∨ (x = u ∧ y < w) ∨ (y = u ∧ x < w)) → mp 130 (x * 12 + y) = (zb_dr v b).2.2 x y ∧ mp 131 (x * 12 + y) = zb_W ((zb_dr v b).2.2 x y)) ∧ ∀ c, c ≠ 130 → c ≠ 131 → mp c = mn c) u (fun w mp ⟨w0, s1, s2⟩ wn nx4 => hV w mp ⟨fun c4 => ?_, fun c4 => ?_⟩) 0 m56 u0 ⟨by omega, ?_, fun c k1 k2 => ?_⟩
        · exact zb_lnS h56 (by show (0 : Int) = if u = u then 0 else _; rw [if_pos rfl]) (show v ≤ 12 by omega) u0 (by omega) r1 (fun x y _ _ z => by omega)
        · exact funext fun j => by rw [h56, if_neg (by omega), if_neg (by omega), r2 c k1 k2]
        · have hw : w = u := by omega
          subst hw
          unfold PJ_X6_takePairs_104
          exact ⟨zb_inI_of (by omega) (by omega), nx3 (by omega) mp ⟨by omega, fun x y x0 x1 y0 y1 z => s1 x y x0 x1 y0 y1 (by omega), s2⟩⟩
        · refine (s_X2_bitOf u0 (by omega) w0 (by omega)).mono (fun r72 e72 => ?_)
          have bo := zb_bo_rng n1 u0 u1 w0 (show w < v by omega) (by omega)
          have bt := zb_bit (b := b) (show b < 4096 by omega) bo.1 (show zb_bo u w < 12 by omega)
          obtain ⟨l, hl0, hl1, hl2, hl3⟩ : ∃ l : Int, (0 ≤ l ∧ l ≤ 9) ∧ (True → zb_and (zb_shr (b : Int) r72) 1 = l) ∧ (True → l = (zb_dr v b).2.2 u w) ∧ (True → l = (zb_dr v b).2.2 w u) := by
            refine ⟨if b.testBit (zb_bo u w).toNat then 1 else 0, ?_, fun _ => by rw [e72]; exact bt, fun _ => (zb_dr_one (show u ≠ w by clear bt bo e72; omega)).symm, fun _ => ?_⟩
            · clear bt; split <;> omega
            · rw [zb_dr_one (show w ≠ u by clear bt bo e72; omega), zb_bo_sy w u]
          clear bt bo e72
          rw [hl1 trivial]
          refine (s_X6_setLine zb_i_126 u0 (by omega) w0 (by omega) hl0.1 hl0.2).mono (fun _ m86 h86 => ?_)
          refine (s_X6_setLine zb_i_126 w0 (by omega) u0 (by omega) hl0.1 hl0.2).mono (fun _ m95 h95 => ?_)
          refine ⟨zb_inI_of (by omega) (by omega), nx4 (by omega) m95 ⟨by omega, ?_, fun c k1 k2 => funext fun j => by rw [h95, if_neg (by omega), if_neg (by omega), h86, if_neg (by omega), if_neg (by omega), s2 c k1 k2]⟩⟩
          have t1 := zb_lnS (T := fun x y => ((x < u ∧ y < u) ∨ (x = u ∧ y = u) ∨ (x = u ∧ y < w) ∨ (y = u ∧ x < w)) ∨ (x = u ∧ y = w)) h86 (hl2 trivial) (show v ≤ 12 by omega) w0 (by omega) s1 (fun x y _ _ z => z)
          exact zb_lnS h95 (hl3 trivial) (show v ≤ 12 by omega) u0 (by omega) t1 (fun x y _ _ z => by omega)
    · refine (s_X6_addThing zb_i_126 q1 v0 (by omega) v0 (by omega)).mono (fun _ m36 h36 => ⟨zb_inI_of (by omega) (by omega), nx2 (by omega) m36 ⟨by omega, ?_, fun x x0 x1 => ⟨?_, ?_⟩, fun i i0 i1 => ?_, fun c hc => funext fun j => ?_⟩⟩)
      · rw [h36, if_pos ⟨rfl, rfl⟩]
      · rw [h36, if_neg (by omega), if_neg (by omega), if_neg (by omega)]
        by_cases z : x = v
        · rw [if_pos ⟨by omega, z⟩, z]
        · rw [if_neg (by omega)]; exact (q2 x x0 (by omega)).1
      · rw [h36, if_neg (by omega)]
        by_cases z : x = v
        · rw [if_pos ⟨by omega, z⟩]
        · rw [if_neg (by omega), if_neg (by omega), if_neg (by omega)]; exact (q2 x x0 (by omega)).2
      · rw [h36, if_neg (by omega), if_neg (by omega)]
        by_cases z : i = v
        · rw [if_pos ⟨by omega, z⟩, if_pos (by omega), z]
        · rw [if_neg (by omega), if_neg (by omega), q3 i i0 i1]
          by_cases z2 : i < v
          · rw [if_pos z2, if_pos (by omega)]
          · rw [if_neg z2, if_neg (by omega)]
      · rw [h36, if_neg (by omega), if_neg (by omega), if_neg (by omega), if_neg (by omega), q4 c hc]
  · by_cases z : i = v
    · rw [z]; exact zb_u1 e19
    · rw [zb_u2 e19 (by omega)]; exact h2 i i0 (by omega)
