/-! ===== sums over the first numbers; rows that take each number once ===== -/
def zb_sum (f : Int → Int) : Nat → Int
  | 0 => 0
  | k + 1 => zb_sum f k + f (k : Int)
theorem zb_sum_S (f : Int → Int) {v : Int} (h : 0 ≤ v) : zb_sum f (v + 1).toNat = zb_sum f v.toNat + f v := by
  have e : (v + 1).toNat = v.toNat + 1 := by omega
  have e2 : ((v.toNat : Nat) : Int) = v := by omega
  rw [e]
  show zb_sum f v.toNat + f ((v.toNat : Nat) : Int) = _
  rw [e2]
theorem zb_sum_congr {f g : Int → Int} {k : Nat} (h : ∀ x : Int, 0 ≤ x → x < k → f x = g x) : zb_sum f k = zb_sum g k := by
  induction k with
  | zero => rfl
  | succ k ih =>
    show zb_sum f k + f k = zb_sum g k + g k
    rw [ih (fun x x0 x1 => h x x0 (by omega)), h k (by omega) (by omega)]
theorem zb_sum_le {f g : Int → Int} {k : Nat} (h : ∀ x : Int, 0 ≤ x → x < k → f x ≤ g x) : zb_sum f k ≤ zb_sum g k := by
  induction k with
  | zero => exact Int.le_refl _
  | succ k ih =>
    show zb_sum f k + f k ≤ zb_sum g k + g k
    have := ih (fun x x0 x1 => h x x0 (by omega))
    have := h k (by omega) (by omega)
    omega
theorem zb_sum_const (c : Int) (k : Nat) : zb_sum (fun _ => c) k = c * k := by
  induction k with
  | zero => show (0 : Int) = _; simp
  | succ k ih =>
    show zb_sum (fun _ => c) k + c = c * ((k + 1 : Nat) : Int)
    rw [ih, Int.natCast_add, Int.mul_add]
    simp
theorem zb_sum_add (f g : Int → Int) (k : Nat) : zb_sum (fun x => f x + g x) k = zb_sum f k + zb_sum g k := by
  induction k with
  | zero => rfl
  | succ k ih =>
    show zb_sum (fun x => f x + g x) k + (f k + g k) = zb_sum f k + f k + (zb_sum g k + g k)
    rw [ih]; omega
theorem zb_sum_sub (f g : Int → Int) (k : Nat) : zb_sum (fun x => f x - g x) k = zb_sum f k - zb_sum g k := by
  induction k with
  | zero => rfl
  | succ k ih =>
    show zb_sum (fun x => f x - g x) k + (f k - g k) = zb_sum f k + f k - (zb_sum g k + g k)
    rw [ih]; omega
theorem zb_sum_mul (c : Int) (f : Int → Int) (k : Nat) : zb_sum (fun x => c * f x) k = c * zb_sum f k := by
  induction k with
  | zero => show (0 : Int) = c * 0; simp
  | succ k ih =>
    show zb_sum (fun x => c * f x) k + c * f k = c * (zb_sum f k + f k)
    rw [ih, Int.mul_add]
theorem zb_sum_none {f : Int → Int} {k : Nat} (h : ∀ x : Int, 0 ≤ x → x < k → f x = 0) : zb_sum f k = 0 := by
  rw [zb_sum_congr h, zb_sum_const]; simp
theorem zb_sum_one (a c : Int) {k : Nat} (h0 : 0 ≤ a) (h1 : a < k) : zb_sum (fun x => if x = a then c else 0) k = c := by
  induction k with
  | zero => omega
  | succ k ih =>
    show zb_sum (fun x => if x = a then c else 0) k + (if (k : Int) = a then c else 0) = c
    by_cases q : (k : Int) = a
    · rw [if_pos q, zb_sum_none (fun x x0 x1 => by rw [if_neg (by omega)])]; omega
    · rw [if_neg q, ih (by omega)]; omega
theorem zb_sum_comm (f : Int → Int → Int) (k l : Nat) : zb_sum (fun i => zb_sum (fun j => f i j) l) k = zb_sum (fun j => zb_sum (fun i => f i j) k) l := by
  induction k with
  | zero => exact (zb_sum_none (fun x _ _ => rfl)).symm
  | succ k ih =>
    show zb_sum (fun i => zb_sum (fun j => f i j) l) k + zb_sum (fun j => f k j) l = zb_sum (fun j => zb_sum (fun i => f i j) k + f k j) l
    rw [ih, zb_sum_add]
theorem zb_sum_eq0 {f : Int → Int} {k : Nat} (h : ∀ x : Int, 0 ≤ x → x < k → 0 ≤ f x) (hs : zb_sum f k = 0) : ∀ x : Int, 0 ≤ x → x < k → f x = 0 := by
  induction k with
  | zero => intro x x0 x1; omega
  | succ k ih =>
    have hs : zb_sum f k + f k = 0 := hs
    have h1 := h k (by omega) (by omega)
    have h2 : zb_sum (fun _ => 0) k ≤ zb_sum f k := zb_sum_le (fun x x0 x1 => h x x0 (by omega))
    rw [zb_sum_const] at h2
    intro x x0 x1
    by_cases q : x = k
    · rw [q]; omega
    · exact ih (fun x x0 x1 => h x x0 (by omega)) (by omega) x x0 (by omega)
theorem zb_sum_eqle {f g : Int → Int} {k : Nat} (h : ∀ x : Int, 0 ≤ x → x < k → f x ≤ g x) (hs : zb_sum f k = zb_sum g k) : ∀ x : Int, 0 ≤ x → x < k → f x = g x := by
  intro x x0 x1
  have h1 := zb_sum_eq0 (f := fun x => g x - f x) (k := k) (fun x x0 x1 => by have := h x x0 x1; show 0 ≤ g x - f x; omega) (by rw [zb_sum_sub]; omega) x x0 x1
  have h1 : g x - f x = 0 := h1
  omega
theorem zb_sum_some {f : Int → Int} {k : Nat} (h : zb_sum f k ≠ 0) : ∃ x : Int, 0 ≤ x ∧ x < k ∧ f x ≠ 0 := by
  refine Classical.byContradiction (fun hn => h (zb_sum_none (fun x x0 x1 => ?_)))
  exact Classical.byContradiction (fun h2 => hn ⟨x, x0, x1, h2⟩)
theorem zb_cnt_sum (p : Int → Bool) (k : Nat) : zb_cnt p k = zb_sum (fun x => if p x then 1 else 0) k := by
  induction k with
  | zero => rfl
  | succ k ih =>
    show zb_cnt p k + (if p k then 1 else 0) = zb_sum _ k + (if p k then 1 else 0)
    rw [ih]
/-- o takes each number below n once -/
def zb_pm (n : Int) (o : Int → Int) : Prop := (∀ p, 0 ≤ p → p < n → 0 ≤ o p ∧ o p < n) ∧ ∀ p q, 0 ≤ p → p < n → 0 ≤ q → q < n → o p = o q → p = q
theorem zb_pm_one {n : Int} {o : Int → Int} (h : zb_pm n o) : ∀ x, 0 ≤ x → x < n → zb_sum (fun p => if x = o p then 1 else 0) n.toNat = 1 := by
  obtain ⟨h1, h2⟩ := h
  have le1 : ∀ x : Int, 0 ≤ x → x < (n.toNat : Nat) → zb_sum (fun p => if x = o p then 1 else 0) n.toNat ≤ (fun _ => (1 : Int)) x := by
    intro x x0 x1
    show _ ≤ (1 : Int)
    by_cases q : ∃ p, 0 ≤ p ∧ p < n ∧ x = o p
    · obtain ⟨p, p0, p1, e⟩ := q
      have := zb_sum_congr (f := fun p => if x = o p then 1 else 0) (g := fun y => if y = p then 1 else 0) (k := n.toNat) (fun y y0 y1 => by
        by_cases q : y = p
        · rw [if_pos q, q, if_pos e]
        · rw [if_neg q, if_neg (fun z => q (h2 y p y0 (by omega) p0 p1 (z.symm.trans e)))])
      rw [this, zb_sum_one p 1 p0 (by omega)]
      exact Int.le_refl _
    · rw [zb_sum_none (fun y y0 y1 => if_neg (fun z => q ⟨y, y0, by omega, z⟩))]
      omega
  have hs : zb_sum (fun x => zb_sum (fun p => if x = o p then 1 else 0) n.toNat) n.toNat = zb_sum (fun _ => 1) n.toNat := by
    rw [zb_sum_comm]
    refine zb_sum_congr (fun p p0 p1 => ?_)
    exact zb_sum_one (o p) 1 (h1 p p0 (by omega)).1 (by have := (h1 p p0 (by omega)).2; omega)
  intro x x0 x1
  exact zb_sum_eqle le1 hs x x0 (by omega)
theorem zb_pm_sum {n : Int} {o : Int → Int} (h : zb_pm n o) (g : Int → Int) : zb_sum (fun p => g (o p)) n.toNat = zb_sum g n.toNat := by
  have e1 : zb_sum (fun p => g (o p)) n.toNat = zb_sum (fun p => zb_sum (fun x => g x * (if x = o p then 1 else 0)) n.toNat) n.toNat := by
    refine zb_sum_congr (fun p p0 p1 => ?_)
    have hp := h.1 p p0 (by omega)
    rw [show zb_sum (fun x => g x * (if x = o p then 1 else 0)) n.toNat = zb_sum (fun x => if x = o p then g (o p) else 0) n.toNat from zb_sum_congr (fun x x0 x1 => by
      by_cases q : x = o p
      · rw [if_pos q, if_pos q, q]; omega
      · rw [if_neg q, if_neg q]; omega)]
    rw [zb_sum_one _ _ hp.1 (by omega)]
  rw [e1, zb_sum_comm]
  refine zb_sum_congr (fun x x0 x1 => ?_)
  rw [zb_sum_mul, zb_pm_one h x x0 (by omega)]
  omega
theorem zb_pm_sur {n : Int} {o : Int → Int} (h : zb_pm n o) {x : Int} (x0 : 0 ≤ x) (x1 : x < n) : ∃ p, 0 ≤ p ∧ p < n ∧ o p = x := by
  obtain ⟨p, p0, p1, hp⟩ := zb_sum_some (f := fun p => if x = o p then 1 else 0) (k := n.toNat) (by rw [zb_pm_one h x x0 x1]; omega)
  refine ⟨p, p0, by omega, ?_⟩
  by_cases q : x = o p
  · exact q.symm
  · exact absurd (if_neg q) hp
theorem zb_pm_cnt {n : Int} {o : Int → Int} (h : zb_pm n o) (g : Int → Bool) : zb_cnt (fun p => g (o p)) n.toNat = zb_cnt g n.toNat := by
  rw [zb_cnt_sum, zb_cnt_sum]
  exact zb_pm_sum h (fun x => if g x then 1 else 0)
/-- a row of n numbers below n that takes every one takes each once -/
theorem zb_sur_pm {n : Int} {o : Int → Int} (h1 : ∀ p, 0 ≤ p → p < n → 0 ≤ o p ∧ o p < n) (h2 : ∀ x, 0 ≤ x → x < n → ∃ p, 0 ≤ p ∧ p < n ∧ o p = x) : zb_pm n o := by
  refine ⟨h1, fun p q p0 p1 q0 q1 e => ?_⟩
  have c1 : ∀ x : Int, 0 ≤ x → x < (n.toNat : Nat) → (fun _ => (1 : Int)) x ≤ zb_sum (fun p => if x = o p then 1 else 0) n.toNat := by
    intro x x0 x1
    obtain ⟨p, p0, p1, e⟩ := h2 x x0 (by omega)
    show (1 : Int) ≤ _
    have := zb_sum_le (f := fun y => if y = p then 1 else 0) (g := fun p => if x = o p then 1 else 0) (k := n.toNat) (fun y y0 y1 => by
      by_cases q : y = p
      · rw [if_pos q, q, if_pos e.symm]; exact Int.le_refl _
      · rw [if_neg q]; split <;> omega)
    rw [zb_sum_one p 1 p0 (by omega)] at this
    exact this
  have hs : zb_sum (fun _ => 1) n.toNat = zb_sum (fun x => zb_sum (fun p => if x = o p then 1 else 0) n.toNat) n.toNat := by
    rw [zb_sum_comm]
    refine zb_sum_congr (fun p p0 p1 => ?_)
    exact (zb_sum_one (o p) 1 (h1 p p0 (by omega)).1 (by have := (h1 p p0 (by omega)).2; omega)).symm
  have e1 := zb_sum_eqle c1 hs (o p) (h1 p p0 p1).1 (by have := (h1 p p0 p1).2; omega)
  refine Classical.byContradiction (fun hne => ?_)
  have := zb_sum_le (f := fun y => (if y = p then 1 else 0) + (if y = q then 1 else 0)) (g := fun r => if o p = o r then 1 else 0) (k := n.toNat) (fun y y0 y1 => by
    show (if y = p then (1 : Int) else 0) + (if y = q then 1 else 0) ≤ if o p = o y then 1 else 0
    by_cases w : y = p
    · rw [if_pos w, if_neg (by omega), w, if_pos rfl]; omega
    · rw [if_neg w]
      by_cases w2 : y = q
      · rw [if_pos w2, w2, if_pos e]; omega
      · rw [if_neg w2]; split <;> omega)
  rw [zb_sum_add, zb_sum_one p 1 p0 (by omega), zb_sum_one q 1 q0 (by omega)] at this
  omega
