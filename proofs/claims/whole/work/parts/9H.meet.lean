/-! ===== the class: all drawings of one sort ===== -/
theorem zb_cnt_upd {p q : Int → Bool} {c : Int} (hp : p c = true) (hq : q c = false) (h : ∀ x, x ≠ c → q x = p x) (c0 : 0 ≤ c) : ∀ k : Nat, (c < k → zb_cnt q k + 1 = zb_cnt p k) ∧ (k ≤ c → zb_cnt q k = zb_cnt p k) := by
  intro k
  induction k with
  | zero => exact ⟨fun z => by omega, fun _ => rfl⟩
  | succ k ih =>
    refine ⟨fun z => ?_, fun z => ?_⟩
    · show zb_cnt q k + (if q (k : Int) then 1 else 0) + 1 = zb_cnt p k + if p (k : Int) then 1 else 0
      by_cases w : (k : Int) = c
      · rw [w, hp, hq, if_pos rfl, if_neg (by simp), ih.2 (by omega)]; omega
      · rw [h _ w, ← ih.1 (by omega)]; omega
    · show zb_cnt q k + (if q (k : Int) then 1 else 0) = zb_cnt p k + if p (k : Int) then 1 else 0
      rw [h _ (by omega), ih.2 (by omega)]
def zb_mcl (n : Int) (m : zb_M) : Prop := ∀ c : Nat, c < 2 ^ zb_prN n.toNat → m 402 c ≠ 0 → ∀ x, 0 ≤ x → x + 1 < n → m 402 (zb_xN x.toNat c : Int) ≠ 0
/-- how many drawings are not met -/
def zb_unm (K : Nat) (m : zb_M) : Int := zb_cnt (fun c => m 402 c == 0) K
/-- the queue -/
def zb_que (K : Nat) (n : Int) (Q : Nat → Prop) (m mm : zb_M) (b : Nat) (f : Int) : Prop := (1 ≤ f ∧ f + zb_unm K mm ≤ 1024) ∧ (∀ t, 0 ≤ t → t < f → ∃ c : Nat, mm 403 t = (c : Int) ∧ c < 2 ^ zb_prN n.toNat ∧ Q c ∧ mm 402 c ≠ 0) ∧ (∀ c : Nat, mm 402 c ≠ 0 → m 402 c ≠ 0 ∨ ∃ t, (0 ≤ t ∧ t < f) ∧ mm 403 t = (c : Int)) ∧ (∀ c, m 402 c ≠ 0 → mm 402 c ≠ 0) ∧ mm 402 (b : Int) ≠ 0 ∧ ∀ c, c ≠ 402 → c ≠ 403 → mm c = m c
theorem zb_unm_rng (K : Nat) (m : zb_M) : 0 ≤ zb_unm K m := (zb_cnt_rng _ K).1
theorem zb_unm_up {K : Nat} {m m1 : zb_M} {c : Int} (h : m 402 c = 0) (h1 : m1 402 c ≠ 0) (hx : ∀ x, x ≠ c → m1 402 x = m 402 x) (c0 : 0 ≤ c) (c1 : c < K) : zb_unm K m1 + 1 = zb_unm K m := (zb_cnt_upd (p := fun c => m 402 c == 0) (q := fun c => m1 402 c == 0) (c := c) (by simp [h]) (by simp [h1]) (fun x hx' => by show (m1 402 x == 0) = (m 402 x == 0); rw [hx x hx']) c0 K).1 c1
theorem zb_unm_le (K : Nat) (m : zb_M) : zb_unm K m ≤ K := (zb_cnt_rng _ K).2
theorem s_X2_meetAll {d : Nat} {m : zb_M} {n : Int} {b : Nat} {Q : Nat → Prop} (n0 : 1 ≤ n) (n1 : n ≤ 5) (hb : b < 2 ^ zb_prN n.toNat) (hu : m 402 (b : Int) = 0) (hcl : zb_mcl n m) (hQ : Q b) (hQc : ∀ c, c < 2 ^ zb_prN n.toNat → Q c → ∀ x, 0 ≤ x → x + 1 < n → Q (zb_xN x.toNat c)) : zb_T K_X2_meetAllOfSort (d + 3) [(2, 400), (0, n), (0, (b : Int))] zb_E0 m (fun _ m1 => zb_mcl n m1 ∧ (∀ c, m 402 c ≠ 0 → m1 402 c ≠ 0) ∧ m1 402 (b : Int) ≠ 0 ∧ (∀ c : Nat, m1 402 c ≠ 0 → m 402 c ≠ 0 ∨ (c < 2 ^ zb_prN n.toNat ∧ Q c)) ∧ ∀ c, c ≠ 402 → c ≠ 403 → m1 c = m c) := by
  apply w_X2_meetAllOfSort
  have h10 := zb_pr_10 (n := n) (by omega) n1
  obtain ⟨K, hK⟩ : ∃ K : Nat, (K : Int) = 1024 := ⟨1024, rfl⟩
  unfold PM_X2_meetAllOfSort
  rw [zb_v_400_2, zb_v_400_3]
  intro m6 e6
  refine ⟨⟨by omega, by omega⟩, fun m13 e13 => ?_⟩
  have e402 : ∀ c, c ≠ (b : Int) → m13 402 c = m 402 c := fun c hc => by rw [zb_u2 e13 (Or.inr hc), zb_u3 e6 (by omega)]
  have eb : m13 402 (b : Int) = 1 := zb_u1 e13
  have q0 : zb_que K n Q m m13 b 1 := by
    refine ⟨⟨by omega, ?_⟩, fun t t0 t1 => ⟨b, ?_, hb, hQ, by rw [eb]; omega⟩, fun c hc => ?_, fun c hc => ?_, by rw [eb]; omega, fun c c1 c2 => by rw [zb_u3 e13 c1, zb_u3 e6 c2]⟩
    · have u1 := zb_unm_up (K := K) hu (by rw [eb]; omega) e402 (by omega) (by omega)
      have u2 := zb_unm_le K m
      omega
    · rw [zb_u3 e13 (by omega), show t = 0 by omega, zb_u1 e6]
    · by_cases w : c = b
      · exact Or.inr ⟨0, by omega, by rw [zb_u3 e13 (by omega), zb_u1 e6, w]⟩
      · rw [e402 c (by omega)] at hc; exact Or.inl hc
    · by_cases w : c = b
      · rw [w, eb]; omega
      · rw [e402 c w]; exact hc
  unfold PL_X2_meetAllOfSort_19
  intro X hX
  refine zb_lq2 (fun f k mm => (0 ≤ k ∧ k ≤ f) ∧ zb_que K n Q m mm b f ∧ ∀ t, 0 ≤ t → t < k → ∀ x, 0 ≤ x → x + 1 < n → mm 402 (zb_xN x.toNat (mm 403 t).toNat : Int) ≠ 0) 1024 (fun f k mm ⟨⟨k0, kf⟩, q, hd⟩ kn nxt => hX f k mm ?_) 1 0 m13 (by omega) ⟨by omega, q0, fun t t0 t1 => by omega⟩
  have fin : k = f → zb_mcl n mm ∧ (∀ c, m 402 c ≠ 0 → mm 402 c ≠ 0) ∧ mm 402 (b : Int) ≠ 0 ∧ (∀ c : Nat, mm 402 c ≠ 0 → m 402 c ≠ 0 ∨ (c < 2 ^ zb_prN n.toNat ∧ Q c)) ∧ ∀ c, c ≠ 402 → c ≠ 403 → mm c = m c := by
    intro ek
    obtain ⟨-, qa, qb, qd, qe, qf⟩ := q
    refine ⟨fun c hc mc x x0 x1 => ?_, qd, qe, fun c hc => ?_, qf⟩
    · rcases qb c mc with z | ⟨t, ⟨t0, t1⟩, z⟩
      · exact qd _ (hcl c hc z x x0 x1)
      · have := hd t t0 (by omega) x x0 x1
        rw [z] at this
        exact this
    · rcases qb c hc with z | ⟨t, ⟨t0, t1⟩, z⟩
      · exact Or.inl z
      · obtain ⟨c', e', h1, h2, h3⟩ := qa t t0 t1
        have : c' = c := by omega
        rw [this] at h1 h2
        exact Or.inr ⟨h1, h2⟩
  have uu := zb_unm_rng K mm
  have q1 := q.1
  refine ⟨fun c => fin (by omega), fun c => ⟨fun c2 => fin (by omega), fun c2 => ?_⟩⟩
  unfold PL_X2_meetAllOfSort_36
  rw [zb_v_400_2, zb_v_400_3]
  intro Y hY
  refine zb_lq2 (fun f x mn => (0 ≤ x ∧ k < f) ∧ zb_que K n Q m mn b f ∧ (∀ t, 0 ≤ t → t < k → ∀ x, 0 ≤ x → x + 1 < n → mn 402 (zb_xN x.toNat (mn 403 t).toNat : Int) ≠ 0) ∧ ∀ x', 0 ≤ x' → x' < x → mn 402 (zb_xN x'.toNat (mn 403 k).toNat : Int) ≠ 0) (n - 1) (fun f x mn ⟨⟨x0, kf⟩, q, hd, hx⟩ xn nx2 => hY f x mn ⟨zb_inI_of (by omega) (by omega), fun c3 => ?_, fun c3 => ?_⟩) f 0 mm (by omega) ⟨by omega, q, hd, fun x' a b => by omega⟩
  · unfold PJ_X2_meetAllOfSort_97
    refine ⟨zb_inI_of (by omega) (by omega), nxt (by omega) f mn ⟨by omega, q, fun t t0 t1 x' x0' x1' => ?_⟩⟩
    by_cases w : t = k
    · rw [w]; exact hx x' x0' (by omega)
    · exact hd t t0 (by omega) x' x0' x1'
  · have x1 : x + 1 < n := by omega
    obtain ⟨⟨qz, qu⟩, qa, qb, qd, qe, qf⟩ := q
    obtain ⟨c, ec, cP, cQ, cm⟩ := qa k k0 kf
    rw [ec]
    refine ⟨⟨k0, by omega⟩, (s_X2_exchanged n1 x0 x1 cP).mono (fun r54 e54 => ?_)⟩
    have rP := (zb_xN_ok (b := c) (x := x.toNat) (by omega) (by omega)).2.2.2 n.toNat (by omega) (by omega) cP
    rw [e54]
    generalize hr : zb_xN x.toNat c = r at rP
    have rQ : Q r := by rw [← hr]; exact hQc c cP cQ x x0 x1
    refine ⟨⟨by omega, by omega⟩, fun z m79 e79 => ?_, fun z => nx2 (by omega) f mn ⟨⟨by omega, kf⟩, ⟨⟨qz, qu⟩, qa, qb, qd, qe, qf⟩, hd, fun x' a b => ?_⟩⟩
    · have eq' : ∀ m90 : zb_M, m90 = zb_up m79 403 f (r : Int) → (∀ j, m90 402 j = if j = (r : Int) then 1 else mn 402 j) ∧ (∀ t, m90 403 t = if t = f then (r : Int) else mn 403 t) ∧ ∀ c, c ≠ 402 → c ≠ 403 → m90 c = mn c := fun m90 e90 => by
        refine ⟨fun j => ?_, fun t => ?_, fun c c1 c2 => by rw [zb_u3 e90 c2, zb_u3 e79 c1]⟩
        · rw [zb_u3 e90 (by omega)]
          by_cases w : j = (r : Int)
          · rw [if_pos w, w, zb_u1 e79]
          · rw [if_neg w, zb_u2 e79 (Or.inr w)]
        · by_cases w : t = f
          · rw [if_pos w, w, zb_u1 e90]
          · rw [if_neg w, zb_u2 e90 (Or.inr w), zb_u3 e79 (by omega)]
      have um : 1 ≤ zb_unm K mn := by
        have u1 := zb_unm_up (K := K) z (by rw [zb_u1 e79]; omega) (fun x hx => zb_u2 e79 (Or.inr hx)) (by omega) (by omega)
        have u2 := zb_unm_rng K m79
        omega
      refine ⟨zb_inI_of (by omega) (by omega), ⟨by omega, by omega⟩, fun m90 e90 => ?_⟩
      obtain ⟨f402, f403, ff⟩ := eq' m90 e90
      have up402 : ∀ j, mn 402 j ≠ 0 → m90 402 j ≠ 0 := fun j hj => by rw [f402]; split <;> omega
      refine nx2 (by omega) (f + 1) m90 ⟨⟨by omega, by omega⟩, ⟨⟨by omega, ?_⟩, fun t t0 t1 => ?_, fun c' hc' => ?_, fun c' hc' => up402 _ (qd c' hc'), up402 _ qe, fun c' c1 c2 => by rw [ff c' c1 c2]; exact qf c' c1 c2⟩, fun t t0 t1 x' x0' x1' => ?_, fun x' a b => ?_⟩
      · have u1 := zb_unm_up (K := K) (m1 := m90) z (by rw [f402, if_pos rfl]; omega) (fun x hx => by rw [f402, if_neg hx]) (by omega) (by omega)
        omega
      · by_cases w : t = f
        · exact ⟨r, by rw [f403, if_pos w], rP, rQ, by rw [f402, if_pos rfl]; omega⟩
        · obtain ⟨c', e', h1, h2, h3⟩ := qa t t0 (by omega)
          exact ⟨c', by rw [f403, if_neg w]; exact e', h1, h2, up402 _ h3⟩
      · by_cases w : (c' : Int) = r
        · exact Or.inr ⟨f, by omega, by rw [f403, if_pos rfl]; omega⟩
        · rw [f402, if_neg w] at hc'
          rcases qb c' hc' with y | ⟨t, ⟨t0, t1⟩, y⟩
          · exact Or.inl y
          · exact Or.inr ⟨t, by omega, by rw [f403, if_neg (by omega)]; exact y⟩
      · rw [f403, if_neg (by omega)]
        exact up402 _ (hd t t0 t1 x' x0' x1')
      · rw [f403, if_neg (by omega)]
        by_cases w : x' = x
        · rw [w, ec, show ((c : Int)).toNat = c by omega, hr, f402, if_pos rfl]; omega
        · exact up402 _ (hx x' a (by omega))
    · by_cases w : x' = x
      · rw [w, ec, show ((c : Int)).toNat = c by omega, hr]; exact z
      · exact hx x' a (by omega)
