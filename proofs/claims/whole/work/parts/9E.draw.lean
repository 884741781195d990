/-! ===== drawings of few things ===== -/
def zb_bo (i j : Int) : Int := ((if i < j then j else i) * ((if i < j then j else i) - 1)) / 2 + (if j < i then j else i)
def zb_pr (n : Int) : Int := (n * (n - 1)) / 2
def zb_prN (n : Nat) : Nat := n * (n - 1) / 2
/-- where bit k stood before things x and x + 1 exchanged their numbers -/
def zb_xt (x k : Nat) : Nat := match x with
  | 0 => if k = 1 then 2 else if k = 2 then 1 else if k = 3 then 4 else if k = 4 then 3 else if k = 6 then 7 else if k = 7 then 6 else k
  | 1 => if k = 0 then 1 else if k = 1 then 0 else if k = 4 then 5 else if k = 5 then 4 else if k = 7 then 8 else if k = 8 then 7 else k
  | 2 => if k = 1 then 3 else if k = 3 then 1 else if k = 2 then 4 else if k = 4 then 2 else if k = 8 then 9 else if k = 9 then 8 else k
  | _ => if k = 3 then 6 else if k = 6 then 3 else if k = 4 then 7 else if k = 7 then 4 else if k = 5 then 8 else if k = 8 then 5 else k
def zb_xs (x b : Nat) : Nat → Nat
  | 0 => 0
  | k + 1 => zb_xs x b k + (if b.testBit (zb_xt x k) then 2 ^ k else 0)
def zb_xN (x b : Nat) : Nat := zb_xs x b 10
def zb_pcs (b : Nat) : Nat → Nat
  | 0 => 0
  | k + 1 => zb_pcs b k + (if b.testBit k then 1 else 0)
def zb_pc (b : Nat) : Nat := zb_pcs b 10
def zb_xck (a n : Nat) : Bool := (List.range n).all fun u => (List.range 4).all fun x => ((List.range 10).all fun k => (zb_xN x (a + u)).testBit k == (a + u).testBit (zb_xt x k)) && (zb_pc (zb_xN x (a + u)) == zb_pc (a + u)) && (zb_xN x (zb_xN x (a + u)) == a + u) && ((List.range 6).all fun m => decide (x + 1 < m → a + u < 2 ^ zb_prN m → zb_xN x (a + u) < 2 ^ zb_prN m))
set_option maxRecDepth 1000000 in
theorem zb_xck_0 : zb_xck 0 512 = true := by decide +kernel
set_option maxRecDepth 1000000 in
theorem zb_xck_1 : zb_xck 512 512 = true := by decide +kernel
theorem zb_xck_at {a n b x : Nat} (h : zb_xck a n = true) (h0 : a ≤ b) (h1 : b < a + n) (hx : x < 4) : (∀ k, k < 10 → (zb_xN x b).testBit k = b.testBit (zb_xt x k)) ∧ zb_pc (zb_xN x b) = zb_pc b ∧ zb_xN x (zb_xN x b) = b ∧ ∀ m, m < 6 → x + 1 < m → b < 2 ^ zb_prN m → zb_xN x b < 2 ^ zb_prN m := by
  have h2 := List.all_eq_true.mp h (b - a) (List.mem_range.mpr (by omega))
  have e : a + (b - a) = b := by omega
  rw [e] at h2
  have h3 := List.all_eq_true.mp h2 x (List.mem_range.mpr hx)
  simp only [Bool.and_eq_true, List.all_eq_true, List.mem_range, decide_eq_true_eq, beq_iff_eq] at h3
  exact ⟨fun k hk => h3.1.1.1 k hk, h3.1.1.2, h3.1.2, fun m hm => h3.2 m hm⟩
theorem zb_xN_ok {b x : Nat} (hb : b < 1024) (hx : x < 4) : (∀ k, k < 10 → (zb_xN x b).testBit k = b.testBit (zb_xt x k)) ∧ zb_pc (zb_xN x b) = zb_pc b ∧ zb_xN x (zb_xN x b) = b ∧ ∀ m, m < 6 → x + 1 < m → b < 2 ^ zb_prN m → zb_xN x b < 2 ^ zb_prN m := by
  by_cases c : b < 512
  · exact zb_xck_at zb_xck_0 (by omega) (by omega) hx
  · exact zb_xck_at zb_xck_1 (by omega) (by omega) hx
/-- no one, or two, exchanges give a lesser drawing -/
def zb_lm (n b : Nat) : Bool := (List.range (n - 1)).all fun x => Nat.ble b (zb_xN x b) && (List.range (n - 1)).all fun y => Nat.ble b (zb_xN y (zb_xN x b))
def zb_lmc (n m v : Nat) : Nat := ((List.range v).filter (fun b => (zb_pc b == m) && zb_lm n b)).length
theorem zb_lmc_S (n m v : Nat) : zb_lmc n m (v + 1) = zb_lmc n m v + (if zb_pc v = m ∧ zb_lm n v = true then 1 else 0) := by
  unfold zb_lmc
  rw [List.range_succ, List.filter_append, List.length_append]
  congr 1
  by_cases c : zb_pc v = m ∧ zb_lm n v = true
  · rw [if_pos c, List.filter_cons_of_pos (by simp [c.1, c.2])]; rfl
  · rw [if_neg c, List.filter_cons_of_neg (by simp; exact fun h => by simpa using fun z => c ⟨h, z⟩)]; rfl
def zb_lmL (n : Nat) : List Nat := (List.range (2 ^ zb_prN n)).filter (zb_lm n)
def zb_lmk (n : Nat) : Bool := (List.range 11).all fun m => Nat.ble (((zb_lmL n).filter (fun b => zb_pc b == m)).length) 7
set_option maxRecDepth 1000000 in
theorem zb_lmk_ok : (zb_lmk 1 && zb_lmk 2 && zb_lmk 3 && zb_lmk 4) = true := by decide +kernel
set_option maxRecDepth 1000000 in
theorem zb_lmk_5 : zb_lmk 5 = true := by decide +kernel
theorem zb_lmc_7 {n m : Nat} (h1 : 1 ≤ n) (h2 : n ≤ 5) (hm : m < 11) : zb_lmc n m (2 ^ zb_prN n) ≤ 7 := by
  have hk : zb_lmk n = true := by
    have a := zb_lmk_ok
    simp only [Bool.and_eq_true] at a
    have : n = 1 ∨ n = 2 ∨ n = 3 ∨ n = 4 ∨ n = 5 := by omega
    rcases this with q | q | q | q | q <;> subst q
    · exact a.1.1.1
    · exact a.1.1.2
    · exact a.1.2
    · exact a.2
    · exact zb_lmk_5
  have h := List.all_eq_true.mp hk m (List.mem_range.mpr hm)
  have h := Nat.le_of_ble_eq_true h
  unfold zb_lmL at h
  rw [List.filter_filter] at h
  exact h
/-! where pairs stand -/
def zb_nbr (x i : Int) : Int := zb_swp x (x + 1) i
def zb_bck2 : Bool := (List.range 5).all fun i => (List.range 5).all fun j => decide (i = j) || (decide (zb_bo i j = zb_bo j i ∧ 0 ≤ zb_bo i j) && ((List.range 6).all fun n => decide (i < n → j < n → (zb_bo i j).toNat < zb_prN n)) && ((List.range 4).all fun x => decide (zb_xt x (zb_bo (zb_nbr x i) (zb_nbr x j)).toNat = (zb_bo i j).toNat)))
theorem zb_bck2_ok : zb_bck2 = true := by decide +kernel
def zb_bck3 : Bool := (List.range 6).all fun n => (List.range 10).all fun k => decide (k < zb_prN n → ∃ i, i < n ∧ ∃ j, j < i ∧ zb_bo i j = k)
theorem zb_bck3_ok : zb_bck3 = true := by decide +kernel
theorem zb_bo_sy (i j : Int) : zb_bo i j = zb_bo j i := by
  unfold zb_bo
  rcases Int.lt_trichotomy i j with c | c | c
  · rw [if_pos c, if_neg (by omega), if_neg (by omega), if_pos c]
  · rw [c]
  · rw [if_neg (by omega), if_pos c, if_pos c, if_neg (by omega)]
theorem zb_bo_rng {n i j : Int} (n1 : n ≤ 5) (i0 : 0 ≤ i) (i1 : i < n) (j0 : 0 ≤ j) (j1 : j < n) (ne : i ≠ j) : 0 ≤ zb_bo i j ∧ (zb_bo i j).toNat < zb_prN n.toNat ∧ zb_bo i j < 10 := by
  have h := List.all_eq_true.mp (List.all_eq_true.mp zb_bck2_ok i.toNat (List.mem_range.mpr (by omega))) j.toNat (List.mem_range.mpr (by omega))
  simp only [Bool.or_eq_true, Bool.and_eq_true, List.all_eq_true, List.mem_range, decide_eq_true_eq] at h
  rw [show ((i.toNat : Nat) : Int) = i by omega, show ((j.toNat : Nat) : Int) = j by omega] at h
  rcases h with h | ⟨⟨⟨-, h2⟩, h3⟩, -⟩
  · omega
  · have a := h3 n.toNat (by omega) (by omega) (by omega)
    have b := h3 5 (by omega) (by omega) (by omega)
    have c : zb_prN 5 = 10 := rfl
    exact ⟨h2, a, by omega⟩
theorem zb_xt_bo {x i j : Int} (x0 : 0 ≤ x) (x1 : x < 4) (i0 : 0 ≤ i) (i1 : i < 5) (j0 : 0 ≤ j) (j1 : j < 5) (ne : i ≠ j) : zb_xt x.toNat (zb_bo (zb_nbr x i) (zb_nbr x j)).toNat = (zb_bo i j).toNat := by
  have h := List.all_eq_true.mp (List.all_eq_true.mp zb_bck2_ok i.toNat (List.mem_range.mpr (by omega))) j.toNat (List.mem_range.mpr (by omega))
  simp only [Bool.or_eq_true, Bool.and_eq_true, List.all_eq_true, List.mem_range, decide_eq_true_eq] at h
  rw [show ((i.toNat : Nat) : Int) = i by omega, show ((j.toNat : Nat) : Int) = j by omega] at h
  rcases h with h | ⟨-, h4⟩
  · omega
  · have a := h4 x.toNat (by omega)
    rw [show ((x.toNat : Nat) : Int) = x by omega] at a
    exact a
theorem zb_bo_sur {n : Int} {k : Nat} (n0 : 0 ≤ n) (n1 : n ≤ 5) (hk : k < zb_prN n.toNat) : ∃ i j : Int, (0 ≤ j ∧ j < i ∧ i < n) ∧ zb_bo i j = k := by
  have k10 : k < 10 := by
    have : n.toNat = 0 ∨ n.toNat = 1 ∨ n.toNat = 2 ∨ n.toNat = 3 ∨ n.toNat = 4 ∨ n.toNat = 5 := by omega
    rcases this with q | q | q | q | q | q <;> rw [q] at hk
    all_goals exact Nat.lt_of_lt_of_le hk (by decide)
  have h := List.all_eq_true.mp (List.all_eq_true.mp zb_bck3_ok n.toNat (List.mem_range.mpr (by omega))) k (List.mem_range.mpr k10)
  obtain ⟨i, hi, j, hj, e⟩ := of_decide_eq_true h hk
  exact ⟨i, j, by omega, e⟩
theorem zb_nbr_rng {n x i : Int} (x0 : 0 ≤ x) (x1 : x + 1 < n) (i0 : 0 ≤ i) (i1 : i < n) : 0 ≤ zb_nbr x i ∧ zb_nbr x i < n := by
  unfold zb_nbr zb_swp
  repeat' split
  all_goals omega
theorem zb_nbr_2 (x i : Int) : zb_nbr x (zb_nbr x i) = i := by
  unfold zb_nbr zb_swp
  repeat' split
  all_goals omega
theorem zb_nbr_ne {x i j : Int} (h : i ≠ j) : zb_nbr x i ≠ zb_nbr x j := fun e => h (by rw [← zb_nbr_2 x i, e, zb_nbr_2])
/-! drawings as nets -/
def zb_dr (n : Int) (b : Nat) : zb_N := (n, (fun _ => 0), fun x y => if x = y then 0 else if b.testBit (zb_bo x y).toNat then 1 else 0)
theorem zb_dr_ON {n : Int} (b : Nat) (h0 : 0 ≤ n) (h1 : n ≤ 5) : zb_ON (zb_dr n b) := by
  refine ⟨⟨h0, by show n ≤ 12; omega⟩, fun x _ _ => ⟨by show (0 : Int) ≤ 0; omega, by show (0 : Int) ≤ 10000; omega⟩, fun x y _ _ _ _ => ?_⟩
  show 0 ≤ (if x = y then (0 : Int) else if b.testBit (zb_bo x y).toNat then 1 else 0) ∧ (if x = y then (0 : Int) else if b.testBit (zb_bo x y).toNat then 1 else 0) ≤ 9
  repeat' split
  all_goals omega
theorem zb_pr_10 {n : Int} (h0 : 0 ≤ n) (h1 : n ≤ 5) : zb_prN n.toNat ≤ 10 ∧ 2 ^ zb_prN n.toNat ≤ 1024 ∧ zb_pr n = zb_prN n.toNat := by
  have : n = 0 ∨ n = 1 ∨ n = 2 ∨ n = 3 ∨ n = 4 ∨ n = 5 := by omega
  rcases this with q | q | q | q | q | q <;> subst q <;> decide
theorem zb_xN_bit {n x : Int} {b : Nat} (h1 : n ≤ 5) (x0 : 0 ≤ x) (x1 : x + 1 < n) (hb : b < 2 ^ zb_prN n.toNat) {i j : Int} (i0 : 0 ≤ i) (i1 : i < n) (j0 : 0 ≤ j) (j1 : j < n) (ne : i ≠ j) : (zb_xN x.toNat b).testBit (zb_bo (zb_nbr x i) (zb_nbr x j)).toNat = b.testBit (zb_bo i j).toNat := by
  have r := zb_nbr_rng x0 x1 i0 i1
  have s := zb_nbr_rng x0 x1 j0 j1
  have bo := zb_bo_rng h1 r.1 r.2 s.1 s.2 (zb_nbr_ne ne)
  have h10 := zb_pr_10 (n := n) (by omega) h1
  rw [(zb_xN_ok (b := b) (x := x.toNat) (by omega) (by omega)).1 _ (by omega), zb_xt_bo x0 (by omega) i0 (by omega) j0 (by omega) ne]
theorem zb_xN_iso {n x : Int} {b : Nat} (h1 : n ≤ 5) (x0 : 0 ≤ x) (x1 : x + 1 < n) (hb : b < 2 ^ zb_prN n.toNat) : zb_iso (zb_dr n b) (zb_dr n (zb_xN x.toNat b)) (zb_nbr x) := by
  refine ⟨rfl, ⟨fun i i0 i1 => zb_nbr_rng x0 x1 i0 i1, fun i j _ _ _ _ e => by rw [← zb_nbr_2 x i, e, zb_nbr_2]⟩, fun _ _ _ => rfl, fun i j i0 i1 j0 j1 => ?_⟩
  show (if zb_nbr x i = zb_nbr x j then (0 : Int) else if (zb_xN x.toNat b).testBit (zb_bo (zb_nbr x i) (zb_nbr x j)).toNat then 1 else 0) = if i = j then 0 else if b.testBit (zb_bo i j).toNat then 1 else 0
  by_cases c : i = j
  · rw [if_pos c, if_pos (by rw [c])]
  · rw [if_neg c, if_neg (zb_nbr_ne c), zb_xN_bit h1 x0 x1 hb i0 i1 j0 j1 c]
/-- drawings of one net are one -/
theorem zb_dr_ext {n : Int} {b c : Nat} (h0 : 0 ≤ n) (h1 : n ≤ 5) (hb : b < 2 ^ zb_prN n.toNat) (hc : c < 2 ^ zb_prN n.toNat) (h : ∀ i j, 0 ≤ j → j < i → i < n → b.testBit (zb_bo i j).toNat = c.testBit (zb_bo i j).toNat) : b = c := by
  refine Nat.eq_of_testBit_eq (fun k => ?_)
  by_cases q : k < zb_prN n.toNat
  · obtain ⟨i, j, ⟨a1, a2, a3⟩, e⟩ := zb_bo_sur h0 h1 q
    have := h i j a1 a2 a3
    rw [e] at this
    exact this
  · rw [Nat.testBit_lt_two_pow (Nat.lt_of_lt_of_le hb (Nat.pow_le_pow_right (by omega) (by omega))), Nat.testBit_lt_two_pow (Nat.lt_of_lt_of_le hc (Nat.pow_le_pow_right (by omega) (by omega)))]
theorem zb_dr_one {n : Int} {b : Nat} {i j : Int} (ne : i ≠ j) : (zb_dr n b).2.2 i j = if b.testBit (zb_bo i j).toNat then 1 else 0 := by
  show (if i = j then (0 : Int) else if b.testBit (zb_bo i j).toNat then 1 else 0) = _
  rw [if_neg ne]
/-- what is closed under exchanges has all drawings of a net, if it has one -/
theorem zb_drg {n : Int} {M : Nat → Prop} (h0 : 0 ≤ n) (h1 : n ≤ 5) (hM : ∀ b, b < 2 ^ zb_prN n.toNat → M b → ∀ x, 0 ≤ x → x + 1 < n → M (zb_xN x.toNat b)) {c : Nat} (hc : c < 2 ^ zb_prN n.toNat) : ∀ (k : Nat), (k : Int) ≤ n → ∀ (b : Nat) (f : Int → Int), b < 2 ^ zb_prN n.toNat → M b → zb_iso (zb_dr n b) (zb_dr n c) f → (∀ i, (k : Int) ≤ i → i < n → f i = i) → M c := by
  intro k
  induction k with
  | zero =>
    intro _ b f hb mb hf hfix
    have : b = c := zb_dr_ext h0 h1 hb hc (fun i j j0 ji i1 => by
      have := hf.2.2.2 i j (by omega) i1 j0 (show j < n by omega)
      rw [hfix i (by omega) i1, hfix j (by omega) (by omega), zb_dr_one (by omega), zb_dr_one (by omega)] at this
      by_cases q : b.testBit (zb_bo i j).toNat = true <;> by_cases q2 : c.testBit (zb_bo i j).toNat = true
      · rw [q, q2]
      · rw [if_pos q, if_neg q2] at this; omega
      · rw [if_neg q, if_pos q2] at this; omega
      · rw [Bool.not_eq_true] at q q2; rw [q, q2])
    rw [← this]; exact mb
  | succ k ih =>
    intro hk
    have go : ∀ (e : Nat) (j : Int), 0 ≤ j → j ≤ k → (k : Int) - j ≤ e → ∀ (b : Nat) (f : Int → Int), b < 2 ^ zb_prN n.toNat → M b → zb_iso (zb_dr n b) (zb_dr n c) f → (∀ i, ((k + 1 : Nat) : Int) ≤ i → i < n → f i = i) → f j = k → M c := by
      intro e
      induction e with
      | zero =>
        intro j j0 jk he b f hb mb hf hfix hj
        have : j = k := by omega
        subst this
        refine ih (by omega) b f hb mb hf (fun i i0 i1 => ?_)
        by_cases q : i = k
        · rw [q]; exact hj
        · exact hfix i (by omega) i1
      | succ e ihe =>
        intro j j0 jk he b f hb mb hf hfix hj
        by_cases q : j = k
        · subst q
          refine ih (by omega) b f hb mb hf (fun i i0 i1 => ?_)
          by_cases q : i = k
          · rw [q]; exact hj
          · exact hfix i (by omega) i1
        · have x1 : j + 1 < n := by omega
          have hi := zb_xN_iso h1 j0 x1 hb
          have h10 := zb_pr_10 h0 h1
          have hx := (zb_xN_ok (b := b) (x := j.toNat) (by omega) (by omega)).2.2.2 n.toNat (by omega) (by omega) hb
          refine ihe (j + 1) (by omega) (by omega) (by omega) (zb_xN j.toNat b) (fun i => f (zb_nbr j i)) hx (hM b hb mb j j0 x1) ?_ (fun i i0 i1 => ?_) ?_
          · refine ⟨rfl, ⟨fun i i0 i1 => ?_, fun u v u0 u1 v0 v1 w => ?_⟩, fun _ _ _ => rfl, fun u v u0 u1 v0 v1 => ?_⟩
            · have r := zb_nbr_rng j0 x1 i0 i1
              exact hf.2.1.1 _ r.1 r.2
            · have r := zb_nbr_rng j0 x1 u0 u1
              have r2 := zb_nbr_rng j0 x1 v0 v1
              have := hf.2.1.2 _ _ r.1 r.2 r2.1 r2.2 w
              rw [← zb_nbr_2 j u, this, zb_nbr_2]
            · have r := zb_nbr_rng j0 x1 u0 u1
              have r2 := zb_nbr_rng j0 x1 v0 v1
              show (zb_dr n c).2.2 (f (zb_nbr j u)) (f (zb_nbr j v)) = _
              rw [hf.2.2.2 _ _ r.1 r.2 r2.1 r2.2, ← hi.2.2.2 _ _ r.1 r.2 r2.1 r2.2, zb_nbr_2, zb_nbr_2]
          · show f (zb_nbr j i) = i
            have : zb_nbr j i = i := by unfold zb_nbr zb_swp; rw [if_neg (by omega), if_neg (by omega)]
            rw [this]; exact hfix i i0 i1
          · show f (zb_nbr j (j + 1)) = k
            have : zb_nbr j (j + 1) = j := by unfold zb_nbr zb_swp; rw [if_neg (by omega), if_pos rfl]
            rw [this]; exact hj
    intro b f hb mb hf hfix
    obtain ⟨j, j0, j1, hj⟩ := zb_pm_sur hf.2.1 (x := (k : Int)) (by omega) (show (k : Int) < n by omega)
    have j1 : j < n := j1
    have jk : j ≤ k := by
      by_cases q : j ≤ k
      · exact q
      · have := hfix j (by omega) j1; omega
    exact go ((k : Int) - j).toNat j j0 jk (by omega) b f hb mb hf hfix hj
