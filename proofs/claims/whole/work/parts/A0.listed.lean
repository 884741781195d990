/-! ===== listed, both sides ===== -/
def zb_lsG (n : Int) (row : Int → Int) (v : Int) : zb_Gv := (v, (fun _ => 0), (fun _ => 0), (fun _ => 0), (fun _ => n), fun x y => if y < n then row (1 + n + x * n + y) else 0)
theorem zb_lsG_ok {n v : Int} {row : Int → Int} (n0 : 1 ≤ n) (n1 : n ≤ 5) (v0 : 0 ≤ v) (v1 : v ≤ n) (hr : zb_b9 (zb_rsz n) row) : zb_Og (zb_lsG n row v) := by
  refine ⟨v0, by show v ≤ 12; omega, fun i i0 i1 => ?_⟩
  have i1 : i < v := i1
  show (0 ≤ (0 : Int) ∧ (0 : Int) ≤ 4) ∧ (0 ≤ (0 : Int) ∧ (0 : Int) ≤ 9) ∧ (0 ≤ (0 : Int) ∧ (0 : Int) ≤ 99) ∧ (-1 ≤ n ∧ n ≤ 12) ∧ ∀ j, 0 ≤ j → j < 12 → (0 ≤ (if j < n then row (1 + n + i * n + j) else 0) ∧ (if j < n then row (1 + n + i * n + j) else 0) ≤ 9) ∧ (n ≤ j → (if j < n then row (1 + n + i * n + j) else 0) = 0)
  refine ⟨by omega, by omega, by omega, by omega, fun j j0 j1 => ?_⟩
  by_cases q : j < n
  · rw [if_pos q]
    have pq := zb_pq i0 (show i < n by omega) j0 q
    exact ⟨hr _ (by omega) (by unfold zb_rsz; omega), fun z => by omega⟩
  · rw [if_neg q]; omega
theorem s_X4_becomeNamed {d : Nat} {m : zb_M} {a b n : Int} {row : Int → Int} {g0 : zb_Gv} (ia : zb_is zb_E0.1 a 4) (ib : zb_is zb_E0.1 b 3) (hab : b + 2 < a ∨ a + 5 < b) (n0 : 1 ≤ n) (n1 : n ≤ 5) (hn : m b 1 = n) (hr : zb_eqo (zb_rsz n) (m (b + 1)) row) (br : zb_b9 (zb_rsz n) row) : zb_T K_X4_becomeNamed (d + 3) [(2, a), (2, b)] zb_E0 m (fun _ m1 => zb_Cg m1 a (zb_lsG n row n) ∧ ∀ x, (x < a ∨ a + 5 < x) → m1 x = m x) := by
  apply w_X4_becomeNamed
  obtain ⟨v1, v2, v3, v4, v5⟩ := zb_net ia
  unfold PM_X4_becomeNamed
  intro m7 e7
  unfold PL_X4_becomeNamed_12
  rw [hn, v4, v5, (zb_nam ib).1]
  intro X hX
  refine zb_lp1 (fun v mm => 0 ≤ v ∧ zb_Cg mm a (zb_lsG n row v) ∧ ∀ x, (x < a ∨ a + 5 < x) → mm x = m x) n (fun v mm ⟨vz, h1, h2⟩ vn nxt => hX v mm ⟨fun c => ?_, fun c => ?_⟩) 0 m7 (by omega) ⟨by omega, ⟨zb_u1 e7, fun i i0 i1 => by have i1 : i < 0 := i1; omega⟩, fun x hx => by rw [zb_u3 e7 (by omega)]⟩
  · have hv : v = n := by omega
    subst hv
    exact ⟨h1, h2⟩
  · have v1' : v < n := by omega
    refine (s_X4_add ia h1 (zb_lsG_ok n0 n1 vz vn br) (by show v < 12; omega)).mono (fun _ m21 ⟨_, p2, p3⟩ => ⟨⟨vz, by omega⟩, fun m31 e31 => ?_⟩)
    have vn0 := zb_pq vz v1' (show (0 : Int) ≤ 0 by omega) (show 0 < n by omega)
    have vn1 := zb_pq vz v1' (show 0 ≤ n - 1 by omega) (show n - 1 < n by omega)
    have nn := zb_nn (show 0 ≤ n by omega) (by omega)
    have rz := zb_rsz_rng (show 0 ≤ n by omega) (by omega)
    have rzd : zb_rsz n = 1 + n + n * n := rfl
    have hrow : ∀ j, 0 ≤ j → j < zb_rsz n → m31 (b + 1) j = row j := fun j j0 j1 => by rw [zb_u3 e31 (by omega), p3 (b + 1) (by omega), h2 (b + 1) (by omega)]; exact hr j j0 j1
    refine ⟨zb_inI_of (by omega) (by omega), zb_inI_of (by omega) (by omega), zb_inI_of (by omega) (by omega), zb_inI_of (by omega) (by omega), ⟨by omega, by omega, by omega, by omega, by omega⟩, fun m52 e52 => ⟨zb_inI_of (by omega) (by omega), nxt v1' m52 ⟨by omega, ⟨?_, fun i i0 i1 => ?_⟩, fun x hx => ?_⟩⟩⟩
    · have c52 : ∀ x j, x ≠ a + 5 → m52 x j = m31 x j := fun x j hx => by rw [e52]; exact if_neg (fun z => hx z.1)
      rw [c52 a 0 (by omega), zb_u3 e31 (by omega)]
      exact p2.1
    · have c52 : ∀ x j, x ≠ a + 5 → m52 x j = m31 x j := fun x j hx => by rw [e52]; exact if_neg (fun z => hx z.1)
      have i1 : i < v + 1 := i1
      obtain ⟨q1, q2, q3, q4, q5⟩ := p2.2 i i0 (by show i < v + 1; exact i1)
      have q1 : m21 (a + 1) i = if i = v then 0 else 0 := q1
      have q2 : m21 (a + 2) i = if i = v then 0 else 0 := q2
      have q3 : m21 (a + 3) i = if i = v then (if zb_nk 0 then 0 else 0) else 0 := q3
      have q4 : m21 (a + 4) i = if i = v then -1 else n := q4
      have q5 : ∀ j, 0 ≤ j → j < 12 → m21 (a + 5) (i * 12 + j) = if i = v then 0 else if j < n then row (1 + n + i * n + j) else 0 := q5
      show m52 (a + 1) i = 0 ∧ m52 (a + 2) i = 0 ∧ m52 (a + 3) i = 0 ∧ m52 (a + 4) i = n ∧ ∀ j, 0 ≤ j → j < 12 → m52 (a + 5) (i * 12 + j) = if j < n then row (1 + n + i * n + j) else 0
      refine ⟨?_, ?_, ?_, ?_, fun j j0 j1 => ?_⟩
      · rw [c52 _ _ (by omega), zb_u3 e31 (by omega), q1]; split <;> rfl
      · rw [c52 _ _ (by omega), zb_u3 e31 (by omega), q2]; split <;> rfl
      · rw [c52 _ _ (by omega), zb_u3 e31 (by omega), q3]
        by_cases w : i = v
        · rw [if_pos w]; split <;> rfl
        · rw [if_neg w]
      · rw [c52 _ _ (by omega)]
        by_cases w : i = v
        · rw [w, zb_u1 e31]
        · rw [zb_u2 e31 (Or.inr w), q4, if_neg w]
      · rw [e52]
        show (if a + 5 = a + 5 ∧ v * 12 ≤ i * 12 + j ∧ i * 12 + j < v * 12 + n then m31 (b + 1) (1 + n + v * n + (i * 12 + j - v * 12)) else m31 (a + 5) (i * 12 + j)) = _
        by_cases w : i = v
        · by_cases w2 : j < n
          · rw [if_pos ⟨rfl, by omega, by omega⟩, if_pos w2, w, show 1 + n + v * n + (v * 12 + j - v * 12) = 1 + n + v * n + j by omega]
            have pq := zb_pq vz v1' j0 w2
            exact hrow _ (by omega) (by omega)
          · rw [if_neg (by omega), zb_u3 e31 (by omega), q5 j j0 j1, if_pos w, if_neg w2]
        · rw [if_neg (by omega), zb_u3 e31 (by omega), q5 j j0 j1, if_neg w]
    · have c52 : m52 x = m31 x := funext fun j => by rw [e52]; exact if_neg (fun z => by omega)
      rw [c52, zb_u3 e31 (by omega), p3 x hx]
      exact h2 x hx
noncomputable def v_listed (s : zb_Gs) (L : zb_Li) (i g : Int) : Int × zb_Gs := if (0 ≤ g ∧ g < 8) ∧ 0 ≤ i ∧ i < L.1 then (L.2.1, zb_put (zb_psh s g) g (zb_lsG L.2.1 (L.2.2 i) L.2.1)) else (-1, s)
theorem v_listed_ok {s : zb_Gs} {L : zb_Li} {i g : Int} (hO : zb_OG s) (hL : zb_OLi L) : zb_OG (v_listed s L i g).2 := by
  unfold v_listed
  by_cases q : (0 ≤ g ∧ g < 8) ∧ 0 ≤ i ∧ i < L.1
  · rw [if_pos q]
    obtain ⟨a, b⟩ := hL.2 i q.2.1 q.2.2
    exact zb_put_ok (zb_psh_ok hO q.1.1 q.1.2) (zb_lsG_ok a.1 a.2 (by omega) (Int.le_refl _) b)
  · rw [if_neg q]; exact hO
theorem s_X11_listed {d : Nat} {m : zb_M} {s : zb_Gs} {L : zb_Li} {i g : Int} (hC : zb_CG m s) (hO : zb_OG s) (hL : zb_CL m L) (hOL : zb_OLi L) : zb_T K_X11_listed (d + 4) [(2, 1), (0, i), (0, g)] zb_E0 m (zb_Rc m (v_listed s L i g)) := by
  apply w_X11_listed
  unfold PM_X11_listed v_listed
  rw [zb_v_1_0, zb_v_1_14, zb_v_400_0]
  refine s_X11_isGraph.mono (fun r h => ?_)
  rcases zb_if1 h with ⟨h1, h2⟩ | ⟨h1, h2⟩
  · refine ⟨fun _ => ?_, fun z => absurd h1 z⟩
    rw [if_neg (fun z => h2 z.1)]
    exact zb_Rc_same hC
  obtain ⟨l1, sp, hs, hk⟩ := hL
  rw [l1]
  refine ⟨fun z => by omega, fun _ => s_X11_isBelow.mono (fun r2 h3 => ?_)⟩
  rcases zb_if1 h3 with ⟨h4, h5⟩ | ⟨h4, h5⟩
  · refine ⟨fun _ => ?_, fun z => absurd h4 z⟩
    rw [if_neg (fun z => h5 z.2)]
    exact zb_Rc_same hC
  refine ⟨fun z => by omega, fun _ => ?_⟩
  obtain ⟨g0, g1⟩ := h2
  obtain ⟨a1, a2⟩ := zb_nets g0 g1
  have l7 := hOL.1
  obtain ⟨⟨n0, n1⟩, br⟩ := hOL.2 i h5.1 h5.2
  rw [if_pos ⟨⟨g0, g1⟩, h5⟩, a1]
  refine (s_X11_keep hC hO g0 g1).mono (fun _ m25 ⟨k1, k2⟩ => ?_)
  obtain ⟨e401, ek⟩ := hk i h5.1 (by omega)
  obtain ⟨f1, f2, f3⟩ := ek h5.2
  have sr := hs.1 i h5.1 (by omega)
  rw [k2 401 (by omega), e401]
  refine ⟨⟨g0, g1⟩, ⟨h5.1, by omega⟩, zb_lnm sr.1 sr.2, ?_⟩
  refine (s_X4_becomeNamed (d := d) (g0 := s.1 0) a2 (zb_lnm sr.1 sr.2) (by omega) n0 n1 (by rw [k2 _ (by omega)]; exact f1) (by rw [k2 _ (by omega)]; exact f3) br).mono (fun _ m43 ⟨p1, p2⟩ => ?_)
  have e0 : m43 (428 + 6 * g) 0 = L.2.1 := p1.1
  rw [e0]
  exact zb_Rc_put k1 k2 g0 g1 p1 p2
theorem s_X12_listed {d : Nat} {m : zb_M} {s : zb_Gs} {L : zb_Li} {i g : Int} (hC : zb_RG m s) (hO : zb_OG s) (hL : zb_RLi m L) (hOL : zb_OLi L) : zb_T K_X12_listed (d + 4) [(2, 500), (0, i), (0, g)] zb_E0 m (zb_Rr m (v_listed s L i g)) := by
  apply w_X12_listed
  unfold PM_X12_listed v_listed
  have l7 := hOL.1
  rw [hL.1]
  refine ⟨zb_inI_of (by omega) (by omega), s_X12_in.mono (fun r h => ?_)⟩
  rcases zb_if1 h with ⟨h1, h2⟩ | ⟨h1, h2⟩
  · refine ⟨fun _ => ?_, fun z => absurd h1 z⟩
    rw [if_neg (fun z => h2 (by omega))]
    exact zb_Rr_same hC
  refine ⟨fun z => by omega, fun _ => s_X12_isGraph.mono (fun r2 h3 => ?_)⟩
  rcases zb_if1 h3 with ⟨h4, h5⟩ | ⟨h4, h5⟩
  · refine ⟨fun _ => ?_, fun z => absurd h4 z⟩
    rw [if_neg (fun z => h5 z.1)]
    exact zb_Rr_same hC
  refine ⟨fun z => by omega, fun _ => ?_⟩
  obtain ⟨g0, g1⟩ := h5
  have iL : 0 ≤ i ∧ i < L.1 := by omega
  obtain ⟨⟨n0, n1⟩, br⟩ := hOL.2 i iL.1 iL.2
  rw [if_pos ⟨⟨g0, g1⟩, iL⟩]
  have rzd : zb_rsz L.2.1 = 1 + L.2.1 + L.2.1 * L.2.1 := rfl
  have e53 := hL.2.1 (by omega)
  have erow := hL.2.2 i iL.1 iL.2
  generalize hn : L.2.1 = n at n0 n1 br rzd e53 erow
  generalize L.2.2 i = row at br erow
  refine (s_X12_note hC hO g0 g1).mono (fun r26 m26 kk => ⟨⟨g0, g1⟩, fun m38 e38 => ?_⟩)
  rw [zb_v_500_0] at e38
  have n53 : m26 500 53 = n := by rw [kk.2.2 53 (by omega)]; exact e53
  have r541 : ∀ j, 0 ≤ j → j < zb_rsz n → m26 541 (32 * i + j) = row j := fun j j0 j1 => by rw [kk.2.1 541 (by omega)]; exact erow j j0 j1
  rw [n53] at e38
  unfold PL_X12_listed_41
  rw [zb_v_500_1, zb_v_500_2, zb_v_500_3, zb_v_500_4]
  intro X hX
  refine zb_lp1 (fun v mm => 0 ≤ v ∧ (∀ b j, b ≠ 501 → (502 ≤ b → b ≤ 505 → j < 12 * g ∨ 12 * g + 12 ≤ j) → (b = 506 → j < 144 * g ∨ 144 * g + 144 ≤ j) → mm b j = m26 b j) ∧ (∀ j, mm 501 j = if j = g then n else m26 501 j) ∧ ∀ x, 0 ≤ x → x < v → mm 502 (12 * g + x) = 0 ∧ mm 503 (12 * g + x) = 0 ∧ mm 504 (12 * g + x) = 0 ∧ mm 505 (12 * g + x) = n ∧ ∀ j, 0 ≤ j → j < n → mm 506 (144 * g + 12 * x + j) = row (1 + n + x * n + j)) n (fun v mm ⟨vz, t1, t2, t3⟩ vn nxt => hX v mm ⟨fun c => ?_, fun c => ?_⟩) 0 m38 (by omega) ⟨by omega, fun b j b1 b2 b3 => by rw [zb_u3 e38 b1], fun j => ?_, fun x x0 x1 => by omega⟩
  · by_cases w : j = g
    · rw [if_pos w, w, zb_u1 e38]
    · rw [if_neg w, zb_u2 e38 (Or.inr w)]
  · have e53' : mm 500 53 = n := by rw [t1 500 53 (by omega) (by omega) (by omega)]; exact n53
    rw [e53'] at c
    have hv : v = n := by omega
    subst hv
    unfold PJ_X12_listed_166
    rw [e53']
    exact zb_Rr_put kk hO g0 g1 ⟨by rw [t2 g, if_pos rfl]; rfl, fun x x0 x1 => ⟨(t3 x x0 x1).1, (t3 x x0 x1).2.1, (t3 x x0 x1).2.2.1, (t3 x x0 x1).2.2.2.1, fun j j0 j1 => by
      have j1 : j < v := j1
      show mm 506 (144 * g + 12 * x + j) = if j < v then row (1 + v + x * v + j) else 0
      rw [if_pos j1]
      exact (t3 x x0 x1).2.2.2.2 j j0 j1⟩⟩ (fun b j b1 b2 b3 b4 => by
      by_cases w : b = 501
      · subst w
        rw [t2 j, if_neg (b2 rfl)]
      · exact t1 b j w b3 b4)
  · have e53' : mm 500 53 = n := by rw [t1 500 53 (by omega) (by omega) (by omega)]; exact n53
    rw [e53'] at c
    have v1 : v < n := by omega
    refine ⟨zb_inI_of (by omega) (by omega), zb_inI_of (by omega) (by omega), ⟨by omega, by omega⟩, fun m64 e64 m72 e72 m80 e80 m91 e91 => ?_⟩
    have e53'' : m80 500 53 = n := by rw [zb_u3 e80 (by omega), zb_u3 e72 (by omega), zb_u3 e64 (by omega)]; exact e53'
    rw [e53''] at e91
    have f91 : ∀ b j, b ≠ 502 → b ≠ 503 → b ≠ 504 → b ≠ 505 → m91 b j = mm b j := fun b j b1 b2 b3 b4 => by rw [zb_u3 e91 b4, zb_u3 e80 b3, zb_u3 e72 b2, zb_u3 e64 b1]
    have f91' : ∀ b j, j ≠ 12 * g + v → m91 b j = mm b j := fun b j hj => by rw [zb_u2 e91 (Or.inr hj), zb_u2 e80 (Or.inr hj), zb_u2 e72 (Or.inr hj), zb_u2 e64 (Or.inr hj)]
    unfold PL_X12_listed_95
    rw [zb_v_500_5, zb_v_500_54]
    intro Y hY
    refine zb_lp1 (fun w mn => 0 ≤ w ∧ (∀ b j, (b ≠ 506 ∨ j < 12 * (12 * g + v) ∨ 12 * (12 * g + v) + 12 ≤ j) → mn b j = m91 b j) ∧ ∀ j, 0 ≤ j → j < w → j < n → mn 506 (12 * (12 * g + v) + j) = row (1 + n + v * n + j)) 12 (fun w mn ⟨w0, u1, u2⟩ wn nx2 => hY w mn ⟨fun c2 => ?_, fun c2 => ?_⟩) 0 m91 (by omega) ⟨by omega, fun _ _ _ => rfl, fun j j0 j1 => by omega⟩
    · have hw : w = 12 := by omega
      subst hw
      unfold PJ_X12_listed_160
      refine ⟨zb_inI_of (by omega) (by omega), nxt v1 mn ⟨by omega, fun b j b1 b2 b3 => ?_, fun j => ?_, fun x x0 x1 => ?_⟩⟩
      · rw [u1 b j (by omega)]
        by_cases w : 502 ≤ b ∧ b ≤ 505
        · rw [f91' b j (by have := b2 w.1 w.2; omega)]; exact t1 b j b1 b2 b3
        · rw [f91 b j (by omega) (by omega) (by omega) (by omega)]; exact t1 b j b1 b2 b3
      · rw [u1 501 j (by omega), f91 501 j (by omega) (by omega) (by omega) (by omega)]; exact t2 j
      · by_cases w : x = v
        · subst w
          refine ⟨?_, ?_, ?_, ?_, fun j j0 j1 => ?_⟩
          · rw [u1 502 _ (by omega), zb_u3 e91 (by omega), zb_u3 e80 (by omega), zb_u3 e72 (by omega), zb_u1 e64]
          · rw [u1 503 _ (by omega), zb_u3 e91 (by omega), zb_u3 e80 (by omega), zb_u1 e72]
          · rw [u1 504 _ (by omega), zb_u3 e91 (by omega), zb_u1 e80]
          · rw [u1 505 _ (by omega), zb_u1 e91]
          · rw [show 144 * g + 12 * x + j = 12 * (12 * g + x) + j by omega]; exact u2 j j0 (by omega) j1
        · obtain ⟨s1, s2, s3, s4, s5⟩ := t3 x x0 (by omega)
          rw [u1 502 _ (by omega), u1 503 _ (by omega), u1 504 _ (by omega), u1 505 _ (by omega), f91' _ _ (by omega), f91' _ _ (by omega), f91' _ _ (by omega), f91' _ _ (by omega)]
          exact ⟨s1, s2, s3, s4, fun j j0 j1 => by rw [u1 506 _ (by omega), f91 506 _ (by omega) (by omega) (by omega) (by omega)]; exact s5 j j0 j1⟩
    · have w1 : w < 12 := by omega
      have e53w : mn 500 53 = n := by rw [u1 500 53 (by omega), f91 500 53 (by omega) (by omega) (by omega) (by omega)]; exact e53'
      rw [e53w]
      refine ⟨zb_inI_of (by omega) (by omega), zb_inI_of (by omega) (by omega), fun q => ⟨⟨by omega, by omega⟩, fun m153 e153 => ⟨zb_inI_of (by omega) (by omega), nx2 w1 m153 ⟨by omega, fun b j hb => ?_, fun j j0 j1 j2 => ?_⟩⟩⟩, fun q => ?_⟩
      · rw [zb_u2 e153 (by omega)]; exact u1 b j hb
      · rw [zb_u2 e153 (by omega)]; exact u2 j j0 (by omega) j2
      · have pq := zb_pq vz v1 w0 (show w < n by omega)
        have nn := zb_nn (show 0 ≤ n by omega) (by omega)
        have cm : n * v = v * n := Int.mul_comm n v
        rw [cm]
        have rd : mn 541 (32 * i + 1 + n + v * n + w) = row (1 + n + v * n + w) := by
          rw [u1 541 _ (by omega), f91 541 _ (by omega) (by omega) (by omega) (by omega), t1 541 _ (by omega) (by omega) (by omega), show 32 * i + 1 + n + v * n + w = 32 * i + (1 + n + v * n + w) by omega]
          exact r541 _ (by omega) (by omega)
        have nn25 : n * n ≤ 25 := Int.mul_le_mul n1 n1 (by omega) (by omega)
        rw [rd]
        refine ⟨zb_inI_of (by omega) (by omega), zb_inI_of (by omega) (by omega), zb_inI_of (by omega) (by omega), zb_inI_of (by omega) (by omega), zb_inI_of (by omega) (by omega), zb_inI_of (by omega) (by omega), ⟨by omega, by omega⟩, ⟨by omega, by omega⟩, fun m153 e153 => ⟨zb_inI_of (by omega) (by omega), nx2 w1 m153 ⟨by omega, fun b j hb => ?_, fun j j0 j1 j2 => ?_⟩⟩⟩
        · rw [zb_u2 e153 (by omega)]; exact u1 b j hb
        · by_cases z : j = w
          · rw [z, zb_u1 e153]
          · rw [zb_u2 e153 (by omega)]; exact u2 j j0 (by omega) j2
