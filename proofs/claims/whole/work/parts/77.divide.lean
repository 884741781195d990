/-! ===== the class divides heaps by what is seen ===== -/
theorem zb_cmp_0 {x y : Int} : zb_cmp x y = 0 ↔ x = y := by
  unfold zb_cmp
  by_cases q : y < x
  · rw [if_pos q]; omega
  · rw [if_neg q]
    by_cases q2 : x = y
    · rw [if_pos q2]; omega
    · rw [if_neg q2]; omega
theorem zb_cmp_ge {x y : Int} : 0 ≤ zb_cmp x y ↔ y ≤ x := by
  unfold zb_cmp
  by_cases q : y < x
  · rw [if_pos q]; omega
  · rw [if_neg q]
    by_cases q2 : x = y
    · rw [if_pos q2]; omega
    · rw [if_neg q2]; omega
theorem zb_lq2 {X : Int → Int → zb_M → Prop} (I : Int → Int → zb_M → Prop) (n : Int) (hs : ∀ c v m, I c v m → v ≤ n → (v < n → ∀ c' m', I c' (v + 1) m' → X c' (v + 1) m') → X c v m) : ∀ c v m, v ≤ n → I c v m → X c v m := by
  have key : ∀ (f : Nat) (c v : Int) (m : zb_M), n - v ≤ f → v ≤ n → I c v m → X c v m := by
    intro f
    induction f with
    | zero => intro c v m h1 h2 h3; exact hs c v m h3 h2 (fun z => by omega)
    | succ f ih => intro c v m h1 h2 h3; exact hs c v m h3 h2 (fun z c' m' h' => ih c' (v + 1) m' (by omega) (by omega) h')
  intro c v m h1 h2
  exact key (n - v).toNat c v m (by omega) h1 h2
/-- how things of one heap compare -/
def zb_cpr (m : zb_M) (n : Int) (p : zb_Pt) (K : Int → Int) : Prop := ∀ (mm : zb_M), mm 132 = m 132 → mm 133 = m 133 → ∀ (d : Nat) (x y : Int), 0 ≤ x → x < n → 0 ≤ y → y < n → x ≠ y → p.1 x = p.1 y → zb_Tp K_X7_compare (d + 1) [(2, 132), (0, x), (0, y)] zb_E0 mm (fun r => (r = 0 ∧ K x = K y) ∨ (r = 1 ∧ K y < K x) ∨ (r = -1 ∧ K x < K y))
theorem zb_cpr_of {m : zb_M} {n w B : Int} {p : zb_Pt} {K : Int → Int} {R : Int → Int → Int} (n1 : n ≤ 12) (hw : m 132 1 = w) (w0 : 0 ≤ w) (w1 : w ≤ 24) (hR : ∀ x, 0 ≤ x → x < n → ¬ zb_aln n p x → ∀ k, 0 ≤ k → k < w → m 133 (x * 24 + k) = R x k) (hB : ∀ x k, 0 ≤ x → x < n → 0 ≤ k → k < w → 0 ≤ R x k ∧ R x k < B) (hK : ∀ x, 0 ≤ x → x < n → K x = zb_P B (R x) w.toNat) : zb_cpr m n p K := by
  intro mm e2 e3 d x y x0 x1 y0 y1 xy hxy
  have ax : ¬ zb_aln n p x := fun z => xy (z y y0 y1 hxy.symm).symm
  have ay : ¬ zb_aln n p y := fun z => xy (z x x0 x1 hxy)
  apply w_X7_compare
  unfold PM_X7_compare PL_X7_compare_2
  rw [zb_v_132_0, e2, hw, hK x x0 x1, hK y y0 y1]
  intro X hX
  refine zb_lp0 (fun v => 0 ≤ v ∧ ∀ k, 0 ≤ k → k < v → R x k = R y k) w (fun v ⟨v0, hv⟩ vn nxt => hX v ⟨fun c => Or.inl ⟨rfl, zb_P_congr (fun i i0 i1 => hv i i0 (by omega))⟩, fun c => ⟨zb_inI_of (by omega) (by omega), zb_inI_of (by omega) (by omega), ⟨by omega, by omega⟩, zb_inI_of (by omega) (by omega), zb_inI_of (by omega) (by omega), ⟨by omega, by omega⟩, ?_⟩⟩) 0 w0 ⟨by omega, fun k k0 k1 => by omega⟩
  rw [e3, hR x x0 x1 ax v v0 (by omega), hR y y0 y1 ay v v0 (by omega), zb_cmp_0]
  refine ⟨fun c2 => ⟨zb_inI_of (by omega) (by omega), nxt (by omega) ⟨by omega, fun k k0 k1 => ?_⟩⟩, fun c2 => ?_⟩
  · by_cases q : k = v
    · rw [q]; exact c2
    · exact hv k k0 (by omega)
  · unfold PJ_X7_compare_44
    rw [zb_cmp_ge]
    refine ⟨fun c3 => Or.inr (Or.inl ⟨rfl, ?_⟩), fun c3 => Or.inr (Or.inr ⟨rfl, ?_⟩)⟩
    · exact zb_P_lt v0 (fun i i0 i1 => (hv i i0 i1).symm) (by omega) (by omega) (fun i i0 i1 => hB y i y0 y1 i0 (by omega)) (fun i i0 i1 => hB x i x0 x1 i0 (by omega))
    · exact zb_P_lt v0 (fun i i0 i1 => hv i i0 i1) (by omega) (by omega) (fun i i0 i1 => hB x i x0 x1 i0 (by omega)) (fun i i0 i1 => hB y i y0 y1 i0 (by omega))
theorem zb_J_congr {h K S T : Int → Int} : ∀ {q : Nat}, (∀ i : Int, 0 ≤ i → i ≤ q → S i = T i) → zb_J h K S q = zb_J h K T q := by
  intro q
  induction q with
  | zero => intro _; rfl
  | succ q ih =>
    intro e
    show zb_J h K S q + (if zb_lt h K (S (q : Int)) (S ((q : Int) + 1)) then 1 else 0) = zb_J h K T q + (if zb_lt h K (T (q : Int)) (T ((q : Int) + 1)) then 1 else 0)
    rw [ih (fun i i0 i1 => e i i0 (by omega)), e q (by omega) (by omega), e ((q : Int) + 1) (by omega) (by omega)]
theorem zb_J_mono (h K S : Int → Int) : ∀ (d q : Nat), zb_J h K S q ≤ zb_J h K S (q + d) ∧ zb_J h K S (q + d) ≤ zb_J h K S q + d := by
  intro d q
  induction d with
  | zero => exact ⟨Int.le_refl _, by show zb_J h K S q ≤ zb_J h K S q + ((0 : Nat) : Int); omega⟩
  | succ d ih =>
    have e : zb_J h K S (q + (d + 1)) = zb_J h K S (q + d) + if zb_lt h K (S ((q + d : Nat) : Int)) (S (((q + d : Nat) : Int) + 1)) then 1 else 0 := rfl
    rw [e]
    split <;> omega
theorem zb_J_le (h K S : Int → Int) {x y : Int} (x0 : 0 ≤ x) (xy : x ≤ y) : zb_J h K S x.toNat ≤ zb_J h K S y.toNat := by
  have := (zb_J_mono h K S (y - x).toNat x.toNat).1
  rw [show x.toNat + (y - x).toNat = y.toNat by omega] at this
  exact this
theorem zb_J_rng (h K S : Int → Int) {x : Int} (x0 : 0 ≤ x) : 0 ≤ zb_J h K S x.toNat ∧ zb_J h K S x.toNat ≤ x := by
  have := zb_J_mono h K S x.toNat 0
  rw [Nat.zero_add] at this
  have e : zb_J h K S 0 = 0 := rfl
  omega
/-- what the sorting of one heap leaves -/
def zb_sd (m m1 : zb_M) (a n s e : Int) (p : zb_Pt) (K : Int → Int) : Prop := zb_pm n (m1 (a + 3)) ∧ (∀ j, p.1 (m1 (a + 3) j) = p.1 (m (a + 3) j)) ∧ zb_srt p.1 K (m1 (a + 3)) 0 e ∧ (∀ j, j < s → m1 (a + 3) j = m (a + 3) j) ∧ ∀ b, b ≠ a + 3 → m1 b = m b
theorem zb_div36 {d : Nat} {m m0 : zb_M} {a n s h : Int} {p : zb_Pt} {K : Int → Int} {Q : Int → zb_M → Prop} {KK : zb_M → Prop} (ha : zb_is zb_E0.1 a 5) (hap : a + 3 < 132 ∨ 135 < a) (n1 : n ≤ 12) (hc : zb_cpr m0 n p K) (e2 : m 132 = m0 132) (e3 : m 133 = m0 133) (h0 : 0 ≤ h) (hp : zb_pm n (m (a + 3))) (hs : ∀ x y, 0 ≤ x → x < y → y < n → p.1 (m (a + 3) x) ≤ p.1 (m (a + 3) y)) (hst : s = zb_cb n p.1 h) (hsz : m (a + 2) h = zb_sz n p.1 h) (hen : s + zb_sz n p.1 h ≤ n) (s0 : 0 ≤ s) (hsr : zb_srt p.1 K (m (a + 3)) 0 s) (hKK : ∀ m1, zb_sd m m1 a n s (s + zb_sz n p.1 h) p K → KK m1) : PL_X7_divide_36 (d + 1) zb_E0 132 a s h m Q KK s m := by
  obtain ⟨v2, v3, v4⟩ := zb_part ha
  have z0 : 0 ≤ zb_sz n p.1 h := (zb_cnt_rng _ _).1
  have hin : ∀ j, s ≤ j → j < s + zb_sz n p.1 h → p.1 (m (a + 3) j) = h := fun j j0 j1 => by
    have q1 := zb_pos_lt hp hs h (p := j) (by omega) (by omega)
    have q2 := zb_pos_lt hp hs (h + 1) (p := j) (by omega) (by omega)
    rw [zb_cb_S, ← hst] at q2
    rw [← hst] at q1
    omega
  have hlow : ∀ j, 0 ≤ j → j < s → p.1 (m (a + 3) j) < h := fun j j0 j1 => by
    have q1 := zb_pos_lt hp hs h (p := j) (by omega) (by omega)
    rw [← hst] at q1
    exact q1.2 j1
  unfold PL_X7_divide_36
  rw [v3, hsz]
  intro X hX
  refine zb_lp1 (fun v mm => s ≤ v ∧ zb_sd m mm a n s v p K) (s + zb_sz n p.1 h) (fun v mm ⟨v0, t1, t2, t3, t4, t5⟩ vn nxt => hX v mm ⟨fun c => ?_, fun c => ⟨⟨by omega, by omega⟩, ?_⟩⟩) s m (by omega) ⟨Int.le_refl _, hp, fun _ => rfl, hsr, fun _ _ => rfl, fun _ _ => rfl⟩
  · have : v = s + zb_sz n p.1 h := by omega
    subst this
    exact hKK mm ⟨t1, t2, t3, t4, t5⟩
  unfold PL_X7_divide_54
  rw [v4]
  intro Y hY
  have hxv := t1.1 v (by omega) (by omega)
  have hhv : p.1 (mm (a + 3) v) = h := by rw [t2]; exact hin v v0 (by omega)
  have go : ∀ (f : Nat) (u : Int) (mn : zb_M), s ≤ u → u ≤ v → u - s ≤ f → (∀ j, v < j → mn (a + 3) j = mm (a + 3) j) → (∀ j, u < j → j ≤ v → mn (a + 3) j = mm (a + 3) (j - 1)) → (∀ j, j ≤ u → mn (a + 3) j = mm (a + 3) j) → (∀ b, b ≠ a + 3 → mn b = mm b) → (∀ j, u ≤ j → j < v → zb_lt p.1 K (mm (a + 3) v) (mm (a + 3) j)) → Y u mn := by
    intro f
    induction f with
    | zero =>
      intro u mn g0 g1 g2 q1 q2 q3 q4 q5
      have hu : u = s := by omega
      subst hu
      refine hY u mn ⟨fun _ => ?_, fun z => absurd (Int.le_refl _) z⟩
      unfold PJ_X7_divide_94
      rw [v4]
      refine ⟨⟨by omega, by omega⟩, fun m100 e100 => ⟨zb_inI_of (by omega) (by omega), nxt (by omega) m100 ?_⟩⟩
      have ef : m100 (a + 3) = zb_rot (mm (a + 3)) u v := funext (fun j => by
        unfold zb_rot
        by_cases w : j = u
        · rw [w, if_pos rfl, zb_u1 e100]
        · rw [if_neg w, zb_u2 e100 (by omega)]
          by_cases w2 : u < j ∧ j ≤ v
          · rw [if_pos w2]; exact q2 j w2.1 w2.2
          · rw [if_neg w2]
            by_cases w3 : v < j
            · exact q1 j w3
            · exact q3 j (by omega))
      refine ⟨by omega, by rw [ef]; exact zb_rot_pm t1 (by omega) g1 (by omega), fun j => ?_, ?_, fun j hj => ?_, fun b hb => by rw [zb_u3 e100 hb, q4 b hb]; exact t5 b hb⟩
      · rw [ef, ← t2]
        unfold zb_rot
        by_cases w : j = u
        · rw [if_pos w, hhv, w, t2]; exact (hin u (Int.le_refl _) (by omega)).symm
        · rw [if_neg w]
          by_cases w2 : u < j ∧ j ≤ v
          · rw [if_pos w2, t2, t2, hin (j - 1) (by omega) (by omega), hin j (by omega) (by omega)]
          · rw [if_neg w2]
      · rw [ef]
        refine zb_rot_srt t3 (by omega) g1 q5 (fun z => ?_)
        have h1 := hlow (u - 1) (by omega) (by omega)
        have h2 := t2 (u - 1)
        unfold zb_lt
        omega
      · rw [ef]
        unfold zb_rot
        rw [if_neg (by omega), if_neg (by omega)]
        exact t4 j hj
    | succ f ih =>
      intro u mn g0 g1 g2 q1 q2 q3 q4 q5
      by_cases cs : u = s
      · exact ih u mn g0 g1 (by omega) q1 q2 q3 q4 q5
      have hne : mm (a + 3) (u - 1) ≠ mm (a + 3) v := fun z => by
        have := t1.2 (u - 1) v (by omega) (by omega) (by omega) (by omega) z
        omega
      have hm := t1.1 (u - 1) (by omega) (by omega)
      have hhu : p.1 (mm (a + 3) (u - 1)) = h := by rw [t2]; exact hin (u - 1) (by omega) (by omega)
      refine hY u mn ⟨fun z => absurd z (by omega), fun _ => ⟨zb_inI_of (by omega) (by omega), ⟨by omega, by omega⟩, ?_⟩⟩
      rw [q3 (u - 1) (by omega)]
      refine (hc mn ((q4 132 (by omega)).trans ((t5 132 (by omega)).trans e2)) ((q4 133 (by omega)).trans ((t5 133 (by omega)).trans e3)) d _ _ hm.1 hm.2 hxv.1 hxv.2 hne (hhu.trans hhv.symm)).mono (fun r hr => ⟨fun c2 => ?_, fun c2 => ⟨⟨by omega, by omega⟩, fun m87 e87 => ⟨zb_inI_of (by omega) (by omega), ?_⟩⟩⟩)
      · have hle : ¬ K (mm (a + 3) v) < K (mm (a + 3) (u - 1)) := by omega
        unfold PJ_X7_divide_94
        rw [v4]
        refine ⟨⟨by omega, by omega⟩, fun m100 e100 => ⟨zb_inI_of (by omega) (by omega), nxt (by omega) m100 ?_⟩⟩
        have ef : m100 (a + 3) = zb_rot (mm (a + 3)) u v := funext (fun j => by
          unfold zb_rot
          by_cases w : j = u
          · rw [w, if_pos rfl, zb_u1 e100]
          · rw [if_neg w, zb_u2 e100 (by omega)]
            by_cases w2 : u < j ∧ j ≤ v
            · rw [if_pos w2]; exact q2 j w2.1 w2.2
            · rw [if_neg w2]
              by_cases w3 : v < j
              · exact q1 j w3
              · exact q3 j (by omega))
        refine ⟨by omega, by rw [ef]; exact zb_rot_pm t1 (by omega) g1 (by omega), fun j => ?_, ?_, fun j hj => ?_, fun b hb => by rw [zb_u3 e100 hb, q4 b hb]; exact t5 b hb⟩
        · rw [ef, ← t2]
          unfold zb_rot
          by_cases w : j = u
          · rw [if_pos w, hhv, w, t2]; exact (hin u (by omega) (by omega)).symm
          · rw [if_neg w]
            by_cases w2 : u < j ∧ j ≤ v
            · rw [if_pos w2, t2, t2, hin (j - 1) (by omega) (by omega), hin j (by omega) (by omega)]
            · rw [if_neg w2]
        · rw [ef]
          refine zb_rot_srt t3 (by omega) g1 q5 (fun z => ?_)
          unfold zb_lt
          omega
        · rw [ef]
          unfold zb_rot
          rw [if_neg (by omega), if_neg (by omega)]
          exact t4 j hj
      · have hlt : K (mm (a + 3) v) < K (mm (a + 3) (u - 1)) := by omega
        refine ih (u + -1) m87 (by omega) (by omega) (by omega) (fun j hj => ?_) (fun j j0 j1 => ?_) (fun j hj => ?_) (fun b hb => ?_) (fun j j0 j1 => ?_)
        · rw [zb_u2 e87 (by omega)]; exact q1 j hj
        · by_cases w : j = u
          · rw [w, zb_u1 e87]
          · rw [zb_u2 e87 (by omega)]; exact q2 j (by omega) j1
        · rw [zb_u2 e87 (by omega)]; exact q3 j (by omega)
        · rw [zb_u3 e87 hb]; exact q4 b hb
        · by_cases w : j = u - 1
          · rw [w]; unfold zb_lt; omega
          · exact q5 j (by omega) j1
  exact go (v - s).toNat v mm v0 (Int.le_refl _) (by omega) (fun j _ => rfl) (fun j j0 j1 => by omega) (fun j _ => rfl) (fun b _ => rfl) (fun j j0 j1 => by omega)
/-- new heaps up to a place: how many; of each thing its one; their sizes -/
def zb_nh (m : zb_M) (a made s : Int) (p : zb_Pt) (K : Int → Int) : Prop := made = (if s = 0 then 0 else zb_J p.1 K (m (a + 3)) (s - 1).toNat + 1) ∧ (∀ q, 0 ≤ q → q < s → m 134 (m (a + 3) q) = zb_J p.1 K (m (a + 3)) q.toNat) ∧ ∀ i, 0 ≤ i → i < made → m 135 i = zb_cnt (fun q => zb_J p.1 K (m (a + 3)) q.toNat == i) s.toNat
theorem zb_div110 {d : Nat} {m m0 md : zb_M} {a n s e h made : Int} {p : zb_Pt} {K : Int → Int} {Q : Int → zb_M → Prop} {KK : Int → zb_M → Prop} (ha : zb_is zb_E0.1 a 5) (hap : a + 3 < 132 ∨ 135 < a) (n1 : n ≤ 12) (hc : zb_cpr m0 n p K) (e2 : m 132 = m0 132) (e3 : m 133 = m0 133) (he : s + md (a + 2) h = e) (s0 : 0 ≤ s) (se : s < e) (en : e ≤ n) (hp : zb_pm n (m (a + 3))) (hsr : zb_srt p.1 K (m (a + 3)) 0 e) (hin : ∀ j, s ≤ j → j < e → p.1 (m (a + 3) j) = h) (hlow : ∀ j, 0 ≤ j → j < s → p.1 (m (a + 3) j) < h) (hnh : zb_nh m a made s p K) (hKK : ∀ made1 m1, zb_nh m1 a made1 e p K → (∀ b, b ≠ 134 → b ≠ 135 → m1 b = m b) → KK made1 m1) : PL_X7_divide_110 (d + 1) zb_E0 132 a s h md Q KK made s m := by
  obtain ⟨v2, v3, v4⟩ := zb_part ha
  unfold PL_X7_divide_110
  rw [v3, he, v4]
  intro X hX
  refine zb_lq2 (fun c v mm => s ≤ v ∧ zb_nh mm a c v p K ∧ ∀ b, b ≠ 134 → b ≠ 135 → mm b = m b) e (fun c v mm ⟨v0, ⟨t1, t2, t3⟩, t4⟩ vn nxt => hX c v mm ⟨fun c1 => ?_, fun c1 => ?_⟩) made s m (by omega) ⟨Int.le_refl _, hnh, fun b _ _ => rfl⟩
  · have : v = e := by omega
    subst this
    exact hKK c mm ⟨t1, t2, t3⟩ t4
  have eS : mm (a + 3) = m (a + 3) := t4 _ (by omega) (by omega)
  rw [eS] at t1 t2 t3
  have hr := hp.1 v (by omega) (by omega)
  have jr := zb_J_rng p.1 K (m (a + 3)) (x := v) (by omega)
  have cr : c ≤ v ∧ 0 ≤ c := by
    rw [t1]
    by_cases w : v = 0
    · rw [if_pos w]; omega
    · rw [if_neg w]; have := zb_J_rng p.1 K (m (a + 3)) (x := v - 1) (by omega); omega
  have j152 : ∀ (c' : Int) (mn : zb_M), c' = zb_J p.1 K (m (a + 3)) v.toNat + 1 → (∀ i, 0 ≤ i → i < c' → mn 135 i = zb_cnt (fun q => zb_J p.1 K (m (a + 3)) q.toNat == i) v.toNat) → (∀ b, b ≠ 135 → mn b = mm b) → PJ_X7_divide_152 (d + 1) zb_E0 132 a v X Q c' mn := by
    intro c' mn hc' h5 hf
    unfold PJ_X7_divide_152
    rw [v4, zb_v_132_2, zb_v_132_3, hf (a + 3) (by omega), eS]
    refine ⟨⟨by omega, by omega⟩, zb_inI_of (by omega) (by omega), ⟨hr.1, by omega⟩, fun m164 e164 => ⟨⟨by omega, by omega⟩, ?_⟩⟩
    have q5 : m164 135 (c' - 1) = zb_cnt (fun q => zb_J p.1 K (m (a + 3)) q.toNat == c' - 1) v.toNat := by rw [zb_u3 e164 (by omega)]; exact h5 (c' - 1) (by omega) (by omega)
    have cr2 := zb_cnt_rng (fun q => zb_J p.1 K (m (a + 3)) q.toNat == c' - 1) v.toNat
    rw [q5]
    refine ⟨zb_inI_of (by omega) (by omega), fun m176 e176 => ⟨zb_inI_of (by omega) (by omega), nxt (by omega) c' m176 ⟨by omega, ⟨?_, fun q q0 q1 => ?_, fun i i0 i1 => ?_⟩, fun b b1 b2 => by rw [zb_u3 e176 b2, zb_u3 e164 b1, hf b b2]; exact t4 b b1 b2⟩⟩⟩
    · have e : m176 (a + 3) = m (a + 3) := by rw [zb_u3 e176 (by omega), zb_u3 e164 (by omega), hf _ (by omega)]; exact eS
      rw [e, if_neg (by omega), show v + 1 - 1 = v by omega]
      exact hc'
    · have e : m176 (a + 3) = m (a + 3) := by rw [zb_u3 e176 (by omega), zb_u3 e164 (by omega), hf _ (by omega)]; exact eS
      rw [e, zb_u3 e176 (by omega)]
      by_cases w : q = v
      · rw [w, zb_u1 e164]; omega
      · have ne : m (a + 3) q ≠ m (a + 3) v := fun z => w (hp.2 q v q0 (by omega) (by omega) (by omega) z)
        rw [zb_u2 e164 (Or.inr ne), hf 134 (by omega)]
        exact t2 q q0 (by omega)
    · have e : m176 (a + 3) = m (a + 3) := by rw [zb_u3 e176 (by omega), zb_u3 e164 (by omega), hf _ (by omega)]; exact eS
      rw [e, zb_cnt_S _ (by omega : 0 ≤ v)]
      by_cases w : i = c' - 1
      · rw [w, zb_u1 e176, if_pos (by simp; omega)]
      · rw [zb_u2 e176 (Or.inr w), zb_u3 e164 (by omega), h5 i i0 i1, if_neg (by simp; omega)]; omega
  have j142 : c = zb_J p.1 K (m (a + 3)) v.toNat → PJ_X7_divide_142 (d + 1) zb_E0 132 a c v mm X Q := by
    intro hcJ
    unfold PJ_X7_divide_142
    rw [zb_v_132_3]
    refine ⟨zb_inI_of (by omega) (by omega), ⟨cr.2, by omega⟩, fun m151 e151 => j152 (c + 1) m151 (by omega) (fun i i0 i1 => ?_) (fun b hb => zb_u3 e151 hb)⟩
    by_cases w : i = c
    · rw [w, zb_u1 e151, zb_cnt_sum]
      refine (zb_sum_none (fun q q0 q1 => if_neg ?_)).symm
      have : zb_J p.1 K (m (a + 3)) q.toNat < c := by
        have h1 := zb_J_le p.1 K (m (a + 3)) q0 (show q ≤ v - 1 by omega)
        rw [if_neg (by omega)] at t1
        omega
      simp; omega
    · rw [zb_u2 e151 (Or.inr w)]; exact t3 i i0 (by omega)
  refine ⟨fun q => j142 ?_, fun q => ⟨zb_inI_of (by omega) (by omega), ⟨by omega, by omega⟩, ⟨by omega, by omega⟩, ?_⟩⟩
  · subst q
    rw [t1]
    by_cases w : v = 0
    · rw [if_pos w, w]; rfl
    · rw [if_neg w, zb_J_S p.1 K (m (a + 3)) (by omega : 0 < v), if_pos (Or.inl (by have := hlow (v - 1) (by omega) (by omega); have := hin v (Int.le_refl _) (by omega); omega))]
  · have hr1 := hp.1 (v - 1) (by omega) (by omega)
    have ne : m (a + 3) (v - 1) ≠ m (a + 3) v := fun z => by
      have := hp.2 (v - 1) v (by omega) (by omega) (by omega) (by omega) z
      omega
    have h1 := hin (v - 1) (by omega) (by omega)
    have h2 := hin v (by omega) (by omega)
    have h3 := hsr (v - 1) v (by omega) (by omega) (by omega)
    have eJ := zb_J_S p.1 K (m (a + 3)) (by omega : 0 < v)
    rw [if_neg (by omega)] at t1
    rw [eS]
    refine (hc mm ((t4 132 (by omega) (by omega)).trans e2) ((t4 133 (by omega) (by omega)).trans e3) d _ _ hr1.1 hr1.2 hr.1 hr.2 ne (h1.trans h2.symm)).mono (fun r hr2 => ⟨fun c2 => ?_, fun c2 => ?_⟩)
    · have hk : ¬ zb_lt p.1 K (m (a + 3) (v - 1)) (m (a + 3) v) := by unfold zb_lt; omega
      rw [if_neg hk] at eJ
      exact j152 c mm (by omega) (fun i i0 i1 => t3 i i0 i1) (fun b _ => rfl)
    · have hk : zb_lt p.1 K (m (a + 3) (v - 1)) (m (a + 3) v) := by unfold zb_lt at h3 ⊢; omega
      rw [if_pos hk] at eJ
      exact j142 (by omega)
theorem s_X7_divide {d : Nat} {m : zb_M} {a n : Int} {p : zb_Pt} {K : Int → Int} (ha : zb_is zb_E0.1 a 5) (hap : a + 3 < 132 ∨ 135 < a) (h : zb_CP m a n p) (hg : zb_gp n p) (n0 : 0 ≤ n) (n1 : n ≤ 12) (hc : zb_cpr m n p K) : zb_T K_X7_divide (d + 2) [(2, 132), (2, a)] zb_E0 m (fun _ m1 => zb_CP m1 a n (zb_rank n p.1 K) ∧ ∀ b, b ≠ 134 → b ≠ 135 → (b < a ∨ a + 3 < b) → m1 b = m b) := by
  apply w_X7_divide
  obtain ⟨v2, v3, v4⟩ := zb_part ha
  obtain ⟨h1, h2, h3, h4, h5, h6⟩ := h
  have hk := zb_gd_le hg n0
  have hcn : zb_cb n p.1 p.2 = n := zb_cb_n n0 (fun x x0 x1 => (hg.1 x x0 x1).2)
  have hc0 : zb_cb n p.1 0 = 0 := zb_cb_0 (fun x x0 x1 => (hg.1 x x0 x1).1)
  have cbm : ∀ i j, 0 ≤ i → i ≤ j → zb_cb n p.1 i ≤ zb_cb n p.1 j := fun i j i0 ij => by
    have : ∀ k : Nat, zb_cb n p.1 i ≤ zb_cb n p.1 (i + k) := fun k => by
      induction k with
      | zero => rw [show i + ((0 : Nat) : Int) = i by omega]; exact Int.le_refl _
      | succ k ih =>
        rw [show i + ((k + 1 : Nat) : Int) = (i + k) + 1 by omega, zb_cb_S]
        have : 0 ≤ zb_sz n p.1 (i + k) := (zb_cnt_rng _ _).1
        omega
    have := this (j - i).toNat
    rw [show i + (((j - i).toNat : Nat) : Int) = j by omega] at this
    exact this
  unfold PM_X7_divide PL_X7_divide_13
  rw [v3]
  intro X hX
  have go : ∀ (f : Nat) (s made u : Int) (mm : zb_M), 0 ≤ u → u ≤ p.2 → p.2 - u ≤ f → s = zb_cb n p.1 u → zb_pm n (mm (a + 3)) → (∀ x y, 0 ≤ x → x < y → y < n → p.1 (mm (a + 3) x) ≤ p.1 (mm (a + 3) y)) → zb_srt p.1 K (mm (a + 3)) 0 s → zb_nh mm a made s p K → (∀ b, b ≠ 134 → b ≠ 135 → b ≠ a + 3 → mm b = m b) → X s made u mm := by
    intro f
    induction f with
    | zero =>
      intro s made u mm u0 u1 uf hs t1 t2 t3 t4 t5
      have hu : u = p.2 := by omega
      subst hu
      have hsn : s = n := hs.trans hcn
      subst hsn
      refine hX s made p.2 mm ⟨fun _ => ?_, fun z => absurd (by rw [t5 a (by omega) (by omega) (by omega), h2]; exact Int.le_refl _) z⟩
      unfold PJ_X7_divide_192
      rw [zb_v_132_2, zb_v_132_3, v2, v3]
      intro m194 e194
      refine ⟨by unfold zb_cpo; omega, fun m209 e209 m224 e224 => ?_⟩
      obtain ⟨q1, q2, q3⟩ := t4
      have eS : m224 (a + 3) = mm (a + 3) := by rw [zb_c3 e224 (by omega), zb_c3 e209 (by omega), zb_u3 e194 (by omega)]
      have eh : ∀ x, 0 ≤ x → x < 12 → m224 (a + 1) x = mm 134 x := fun x x0 x1 => by
        rw [zb_c3 e224 (by omega), zb_c1 e209 (by omega) (by omega), zb_u3 e194 (by omega)]
        congr 1; omega
      have ez : ∀ x, 0 ≤ x → x < 12 → m224 (a + 2) x = mm 135 x := fun x x0 x1 => by
        rw [zb_c1 e224 (by omega) (by omega), zb_c3 e209 (by omega), zb_u3 e194 (by omega)]
        congr 1; omega
      have rk : zb_rk s p.1 K (mm 134) made ∧ 0 ≤ made ∧ made ≤ 12 := by
        by_cases w : s = 0
        · rw [if_pos w] at q1
          exact ⟨⟨fun x x0 x1 => by omega, fun i i0 i1 => by omega, fun x y x0 x1 => by omega⟩, by omega, by omega⟩
        · rw [if_neg w] at q1
          have := zb_J_rng p.1 K (mm (a + 3)) (x := s - 1) (by omega)
          refine ⟨?_, by omega, by omega⟩
          rw [q1]
          exact zb_rk_of_srt t1 t3 (by omega) q2
      obtain ⟨rk, made0, made1⟩ := rk
      obtain ⟨eq2, eq1⟩ := zb_rank_eq rk made0
      have fr : ∀ b, b ≠ 134 → b ≠ 135 → (b < a ∨ a + 3 < b) → m224 b = m b := fun b b1 b2 b3 => by
        rw [zb_c3 e224 (by omega), zb_c3 e209 (by omega), zb_u3 e194 (by omega)]
        exact t5 b b1 b2 (by omega)
      refine ⟨zb_CP_to (p := (mm 134, made)) ⟨?_, ?_, fun x x0 x1 => eh x x0 (by omega), fun i i0 i1 => ?_, by rw [eS]; exact t1, fun x y x0 xy y1 => ?_⟩ n0 eq2 eq1, fr⟩
      · rw [zb_c3 e224 (by omega), zb_c3 e209 (by omega), zb_u2 e194 (by omega), t5 a (by omega) (by omega) (by omega)]; exact h1
      · rw [zb_c3 e224 (by omega), zb_c3 e209 (by omega), zb_u1 e194]
      · have i1 : i < made := i1
        rw [ez i i0 (by omega), q3 i i0 i1]
        show _ = zb_sz s (mm 134) i
        unfold zb_sz
        rw [← zb_pm_cnt t1 (fun x => mm 134 x == i), zb_cnt_sum, zb_cnt_sum]
        exact zb_sum_congr (fun q q0 q5 => by rw [q2 q q0 (by omega)])
      · rw [eS, ]
        show mm 134 (mm (a + 3) x) ≤ mm 134 (mm (a + 3) y)
        rw [q2 x x0 (by omega), q2 y (by omega) y1]
        exact zb_J_le p.1 K (mm (a + 3)) x0 (by omega)
    | succ f ih =>
      intro s made u mm u0 u1 uf hs t1 t2 t3 t4 t5
      by_cases cu : u = p.2
      · exact ih s made u mm u0 u1 (by omega) hs t1 t2 t3 t4 t5
      have ea : mm a 1 = p.2 := by rw [t5 a (by omega) (by omega) (by omega)]; exact h2
      have ez : mm (a + 2) u = zb_sz n p.1 u := by rw [t5 (a + 2) (by omega) (by omega) (by omega)]; exact h4 u u0 (by omega)
      have hsz : 1 ≤ zb_sz n p.1 u := by
        obtain ⟨x, x0, x1, hx⟩ := hg.2.1 u u0 (by omega)
        have := zb_sz_pos (h := p.1) x0 x1
        rw [hx] at this
        exact this
      have hend := zb_cb_S n p.1 u
      have hen : s + zb_sz n p.1 u ≤ n := by
        have := cbm (u + 1) p.2 (by omega) (by omega)
        omega
      have s0 : 0 ≤ s := by have := cbm 0 u (by omega) u0; omega
      have e2 : mm 132 = m 132 := t5 132 (by omega) (by omega) (by omega)
      have e3 : mm 133 = m 133 := t5 133 (by omega) (by omega) (by omega)
      refine hX s made u mm ⟨fun z => by omega, fun _ => ⟨⟨u0, by omega⟩, ?_, ?_⟩⟩
      · rw [ez]; exact zb_inI_of (by omega) (by omega)
      refine zb_div36 ha hap n1 hc e2 e3 u0 t1 t2 hs ez hen s0 t3 (fun m1 hsd => ?_)
      obtain ⟨r1, r2, r3, r4, r5⟩ := hsd
      have hin : ∀ j, s ≤ j → j < s + zb_sz n p.1 u → p.1 (m1 (a + 3) j) = u := fun j j0 j1 => by
        have q1 := zb_pos_lt t1 t2 u (p := j) (by omega) (by omega)
        have q2 := zb_pos_lt t1 t2 (u + 1) (p := j) (by omega) (by omega)
        rw [zb_cb_S, ← hs] at q2
        rw [← hs] at q1
        rw [r2]
        omega
      have hlow : ∀ j, 0 ≤ j → j < s → p.1 (m1 (a + 3) j) < u := fun j j0 j1 => by
        have q1 := zb_pos_lt t1 t2 u (p := j) (by omega) (by omega)
        rw [← hs] at q1
        rw [r2]
        exact q1.2 j1
      have eJ : ∀ q, 0 ≤ q → q < s → zb_J p.1 K (m1 (a + 3)) q.toNat = zb_J p.1 K (mm (a + 3)) q.toNat := fun q q0 q1 => zb_J_congr (fun i i0 i1 => r4 i (by omega))
      have nh1 : zb_nh m1 a made s p K := by
        obtain ⟨q1, q2, q3⟩ := t4
        refine ⟨?_, fun q q0 q1 => ?_, fun i i0 i1 => ?_⟩
        · rw [q1]
          by_cases w : s = 0
          · rw [if_pos w, if_pos w]
          · rw [if_neg w, if_neg w, eJ (s - 1) (by omega) (by omega)]
        · rw [eJ q q0 q1, r4 q q1, r5 134 (by omega)]; exact q2 q q0 q1
        · rw [r5 135 (by omega), q3 i i0 i1, zb_cnt_sum, zb_cnt_sum]
          exact zb_sum_congr (fun q q0 q5 => by rw [eJ q q0 (by omega)])
      unfold PJ_X7_divide_107
      refine zb_div110 (n := n) ha hap n1 hc ((r5 132 (by omega)).trans e2) ((r5 133 (by omega)).trans e3) (by rw [ez]) s0 (by omega) hen r1 r3 hin hlow nh1 (fun made1 m2 k1 k2 => ?_)
      unfold PJ_X7_divide_183
      rw [v3, ez]
      have eS : m2 (a + 3) = m1 (a + 3) := k2 _ (by omega) (by omega)
      refine ⟨zb_inI_of (by omega) (by omega), ih (s + zb_sz n p.1 u) made1 (u + 1) m2 (by omega) (by omega) (by omega) (by omega) (by rw [eS]; exact r1) (fun x y x0 xy y1 => ?_) (by rw [eS]; exact r3) k1 (fun b b1 b2 b3 => ?_)⟩
      · rw [eS, r2, r2]; exact t2 x y x0 xy y1
      · rw [k2 b b1 b2, r5 b b3]; exact t5 b b1 b2 b3
  exact go p.2.toNat 0 0 0 m (by omega) hg.2.2.1 (by omega) hc0.symm h5 h6 (fun i j i0 ij j1 => by omega) ⟨by rw [if_pos rfl], fun q q0 q1 => by omega, fun i i0 i1 => by omega⟩ (fun b _ _ _ => rfl)
