/-! ===== nets that are asked about; what a thing sees ===== -/
/-- how many things; their keys; the lines -/
abbrev zb_N : Type := Int × (Int → Int) × (Int → Int → Int)
def zb_ON (N : zb_N) : Prop := (0 ≤ N.1 ∧ N.1 ≤ 12) ∧ (∀ x, 0 ≤ x → x < N.1 → 0 ≤ N.2.1 x ∧ N.2.1 x ≤ 10000) ∧ ∀ x y, 0 ≤ x → x < N.1 → 0 ≤ y → y < N.1 → 0 ≤ N.2.2 x y ∧ N.2.2 x y ≤ 9
def zb_W (v : Int) : Int := if v = 1 then 4294967296 else if v = 2 then 268435456 else if v = 3 then 16777216 else if v = 4 then 1048576 else if v = 5 then 65536 else if v = 6 then 4096 else if v = 7 then 256 else if v = 8 then 16 else if v = 9 then 1 else 0
theorem zb_W_rng (v : Int) : 0 ≤ zb_W v ∧ zb_W v ≤ 4294967296 := by
  unfold zb_W
  repeat' split
  all_goals omega
theorem zb_W_shl {v : Int} (h0 : 1 ≤ v) (h1 : v ≤ 9) : zb_lshl 1 (4 * (9 - v)) = zb_W v := by
  have : v = 1 ∨ v = 2 ∨ v = 3 ∨ v = 4 ∨ v = 5 ∨ v = 6 ∨ v = 7 ∨ v = 8 ∨ v = 9 := by omega
  rcases this with q | q | q | q | q | q | q | q | q <;> subst q <;> decide +kernel
theorem zb_W_0 : zb_W 0 = 0 := rfl
/-- what thing x sees in place j of its row: first its lines to the heaps, then those back -/
def zb_sw1 (N : zb_N) (h : Int → Int) (k x j y : Int) : Int := if j < k then (if h y = j then zb_W (N.2.2 x y) else 0) else (if h y = j - k then zb_W (N.2.2 y x) else 0)
def zb_sg (N : zb_N) (h : Int → Int) (k x j : Int) : Int := zb_sum (zb_sw1 N h k x j) N.1.toNat
theorem zb_sw1_rng (N : zb_N) (h : Int → Int) (k x j y : Int) : 0 ≤ zb_sw1 N h k x j y ∧ zb_sw1 N h k x j y ≤ 4294967296 := by
  have a := zb_W_rng (N.2.2 x y)
  have b := zb_W_rng (N.2.2 y x)
  unfold zb_sw1
  repeat' split
  all_goals omega
theorem zb_sums_rng {f : Int → Int} {c : Int} (hf : ∀ y, 0 ≤ f y ∧ f y ≤ c) (k : Nat) : 0 ≤ zb_sum f k ∧ zb_sum f k ≤ c * k := by
  have a := zb_sum_le (f := fun _ => 0) (g := f) (k := k) (fun x _ _ => (hf x).1)
  have b := zb_sum_le (f := f) (g := fun _ => c) (k := k) (fun x _ _ => (hf x).2)
  rw [zb_sum_const] at a b
  omega
theorem zb_sg_rng {N : zb_N} (hN : zb_ON N) (h : Int → Int) (k x j : Int) : 0 ≤ zb_sg N h k x j ∧ zb_sg N h k x j < 68719476736 := by
  have := zb_sums_rng (zb_sw1_rng N h k x j) N.1.toNat
  unfold zb_sg
  have h1 := hN.1
  omega
/-- a row read as one number -/
def zb_P (B : Int) (f : Int → Int) : Nat → Int
  | 0 => 0
  | w + 1 => zb_P B f w * B + f (w : Int)
theorem zb_P_congr {B : Int} {f g : Int → Int} {w : Nat} (h : ∀ i : Int, 0 ≤ i → i < w → f i = g i) : zb_P B f w = zb_P B g w := by
  induction w with
  | zero => rfl
  | succ w ih =>
    show zb_P B f w * B + f w = zb_P B g w * B + g w
    rw [ih (fun i i0 i1 => h i i0 (by omega)), h w (by omega) (by omega)]
theorem zb_P_lt {B : Int} {f g : Int → Int} {j : Int} (j0 : 0 ≤ j) (he : ∀ i, 0 ≤ i → i < j → f i = g i) (hl : f j < g j) : ∀ {w : Nat}, j < w → (∀ i : Int, 0 ≤ i → i < w → 0 ≤ f i ∧ f i < B) → (∀ i : Int, 0 ≤ i → i < w → 0 ≤ g i ∧ g i < B) → zb_P B f w < zb_P B g w := by
  intro w
  induction w with
  | zero => intro jw; omega
  | succ w ih =>
    intro jw hf hg
    show zb_P B f w * B + f w < zb_P B g w * B + g w
    have a := hf w (by omega) (by omega)
    have b := hg w (by omega) (by omega)
    by_cases q : j = w
    · rw [zb_P_congr (f := f) (g := g) (fun i i0 i1 => he i i0 (by omega)), ← q]
      omega
    · have c := ih (by omega) (fun i i0 i1 => hf i i0 (by omega)) (fun i i0 i1 => hg i i0 (by omega))
      have e : (zb_P B f w + 1) * B ≤ zb_P B g w * B := Int.mul_le_mul_of_nonneg_right (by omega) (by omega)
      rw [Int.add_mul] at e
      omega
theorem zb_P_rng {B : Int} {f : Int → Int} (h0 : 0 ≤ B) : ∀ {w : Nat}, (∀ i : Int, 0 ≤ i → i < w → 0 ≤ f i ∧ f i < B) → 0 ≤ zb_P B f w ∧ zb_P B f w < B ^ w := by
  intro w
  induction w with
  | zero => intro _; exact ⟨Int.le_refl _, by simp [zb_P]⟩
  | succ w ih =>
    intro hf
    have a := hf w (by omega) (by omega)
    have b := ih (fun i i0 i1 => hf i i0 (by omega))
    have e : (zb_P B f w + 1) * B ≤ B ^ w * B := Int.mul_le_mul_of_nonneg_right (by omega) (by omega)
    have e0 : 0 ≤ zb_P B f w * B := Int.mul_nonneg b.1 h0
    rw [Int.add_mul] at e
    show 0 ≤ zb_P B f w * B + f w ∧ zb_P B f w * B + f w < B ^ (w + 1)
    rw [Int.pow_succ]
    omega
theorem zb_P_head (B : Int) (f : Int → Int) : ∀ w : Nat, zb_P B f (w + 1) = f 0 * B ^ w + zb_P B (fun i => f (i + 1)) w := by
  intro w
  induction w with
  | zero => show 0 * B + f ((0 : Nat) : Int) = _; simp [zb_P]
  | succ w ih =>
    show zb_P B f (w + 1) * B + f ((w + 1 : Nat) : Int) = f 0 * B ^ (w + 1) + (zb_P B (fun i => f (i + 1)) w * B + f ((w : Int) + 1))
    rw [ih, Int.pow_succ, Int.add_mul, Int.mul_assoc, show ((w + 1 : Nat) : Int) = (w : Int) + 1 by omega]
    omega
theorem zb_P_blk {F c : Int → Int} : ∀ {w : Nat}, (∀ j : Int, 0 ≤ j → j < w → F j = (((((((c (9 * j) * 16 + c (9 * j + 1)) * 16 + c (9 * j + 2)) * 16 + c (9 * j + 3)) * 16 + c (9 * j + 4)) * 16 + c (9 * j + 5)) * 16 + c (9 * j + 6)) * 16 + c (9 * j + 7)) * 16 + c (9 * j + 8)) → zb_P 68719476736 F w = zb_P 16 c (9 * w) := by
  intro w
  induction w with
  | zero => intro _; rfl
  | succ w ih =>
    intro h
    have a := ih (fun j j0 j1 => h j j0 (by omega))
    have b := h w (by omega) (by omega)
    have s : ∀ u : Nat, zb_P 16 c (u + 1) = zb_P 16 c u * 16 + c (u : Int) := fun u => rfl
    have e : 9 * (w + 1) = 9 * w + 1 + 1 + 1 + 1 + 1 + 1 + 1 + 1 + 1 := by omega
    rw [e]
    simp only [s]
    show zb_P 68719476736 F w * 68719476736 + F w = _
    rw [a, b]
    have c0 : ((9 * w : Nat) : Int) = 9 * (w : Int) := by omega
    have c1 : ((9 * w + 1 : Nat) : Int) = 9 * (w : Int) + 1 := by omega
    have c2 : ((9 * w + 1 + 1 : Nat) : Int) = 9 * (w : Int) + 2 := by omega
    have c3 : ((9 * w + 1 + 1 + 1 : Nat) : Int) = 9 * (w : Int) + 3 := by omega
    have c4 : ((9 * w + 1 + 1 + 1 + 1 : Nat) : Int) = 9 * (w : Int) + 4 := by omega
    have c5 : ((9 * w + 1 + 1 + 1 + 1 + 1 : Nat) : Int) = 9 * (w : Int) + 5 := by omega
    have c6 : ((9 * w + 1 + 1 + 1 + 1 + 1 + 1 : Nat) : Int) = 9 * (w : Int) + 6 := by omega
    have c7 : ((9 * w + 1 + 1 + 1 + 1 + 1 + 1 + 1 : Nat) : Int) = 9 * (w : Int) + 7 := by omega
    have c8 : ((9 * w + 1 + 1 + 1 + 1 + 1 + 1 + 1 + 1 : Nat) : Int) = 9 * (w : Int) + 8 := by omega
    rw [c0, c1, c2, c3, c4, c5, c6, c7, c8]
    omega
/-- what thing x sees, as one number -/
def zb_Kv (N : zb_N) (h : Int → Int) (k x : Int) : Int := zb_P 68719476736 (zb_sg N h k x) (2 * k).toNat
/-- the reference's counts: place i of the row of thing x -/
def zb_ct1 (N : zb_N) (h : Int → Int) (k x i y : Int) : Int := if i < 9 * k then (if h y = i / 9 ∧ N.2.2 x y = i % 9 + 1 then 1 else 0) else (if h y = i / 9 - k ∧ N.2.2 y x = i % 9 + 1 then 1 else 0)
def zb_ct (N : zb_N) (h : Int → Int) (k x i : Int) : Int := zb_sum (zb_ct1 N h k x i) N.1.toNat
theorem zb_ct_rng {N : zb_N} (hN : zb_ON N) (h : Int → Int) (k x i : Int) : 0 ≤ zb_ct N h k x i ∧ zb_ct N h k x i < 16 := by
  have := zb_sums_rng (f := zb_ct1 N h k x i) (c := 1) (fun y => by unfold zb_ct1; repeat' split
                                                                    all_goals omega) N.1.toNat
  unfold zb_ct
  have h1 := hN.1
  omega
theorem zb_sum_hor (f g : Int → Int) (k : Nat) : zb_sum f k * 16 + zb_sum g k = zb_sum (fun y => f y * 16 + g y) k := by
  rw [zb_sum_add, Int.mul_comm, ← zb_sum_mul]
  congr 1
  exact zb_sum_congr (fun x _ _ => by omega)
theorem zb_sg_ct {N : zb_N} (hN : zb_ON N) (h : Int → Int) {k x j : Int} (x0 : 0 ≤ x) (x1 : x < N.1) (j0 : 0 ≤ j) : zb_sg N h k x j = (((((((zb_ct N h k x (9 * j) * 16 + zb_ct N h k x (9 * j + 1)) * 16 + zb_ct N h k x (9 * j + 2)) * 16 + zb_ct N h k x (9 * j + 3)) * 16 + zb_ct N h k x (9 * j + 4)) * 16 + zb_ct N h k x (9 * j + 5)) * 16 + zb_ct N h k x (9 * j + 6)) * 16 + zb_ct N h k x (9 * j + 7)) * 16 + zb_ct N h k x (9 * j + 8) := by
  unfold zb_ct
  rw [zb_sum_hor, zb_sum_hor, zb_sum_hor, zb_sum_hor, zb_sum_hor, zb_sum_hor, zb_sum_hor, zb_sum_hor]
  unfold zb_sg
  refine zb_sum_congr (fun y y0 y1 => ?_)
  have d : ∀ v : Int, 0 ≤ v → v ≤ 8 → (9 * j + v) / 9 = j ∧ (9 * j + v) % 9 = v ∧ (9 * j + v < 9 * k ↔ j < k) := fun v v0 v1 => by omega
  have d0 : 9 * j / 9 = j ∧ 9 * j % 9 = 0 ∧ (9 * j < 9 * k ↔ j < k) := by omega
  have d1 := d 1 (by omega) (by omega)
  have d2 := d 2 (by omega) (by omega)
  have d3 := d 3 (by omega) (by omega)
  have d4 := d 4 (by omega) (by omega)
  have d5 := d 5 (by omega) (by omega)
  have d6 := d 6 (by omega) (by omega)
  have d7 := d 7 (by omega) (by omega)
  have d8 := d 8 (by omega) (by omega)
  unfold zb_sw1 zb_ct1
  simp only [d0.1, d0.2.1, d0.2.2, d1.1, d1.2.1, d1.2.2, d2.1, d2.2.1, d2.2.2, d3.1, d3.2.1, d3.2.2, d4.1, d4.2.1, d4.2.2, d5.1, d5.2.1, d5.2.2, d6.1, d6.2.1, d6.2.2, d7.1, d7.2.1, d7.2.2, d8.1, d8.2.1, d8.2.2]
  clear d0 d1 d2 d3 d4 d5 d6 d7 d8 d
  have fin : ∀ (c : Prop) [Decidable c] (l : Int), 0 ≤ l → l ≤ 9 → (if c then zb_W l else 0) = (((((((((if c ∧ l = 0 + 1 then (1 : Int) else 0) * 16 + if c ∧ l = 1 + 1 then 1 else 0) * 16 + if c ∧ l = 2 + 1 then 1 else 0) * 16 + if c ∧ l = 3 + 1 then 1 else 0) * 16 + if c ∧ l = 4 + 1 then 1 else 0) * 16 + if c ∧ l = 5 + 1 then 1 else 0) * 16 + if c ∧ l = 6 + 1 then 1 else 0) * 16 + if c ∧ l = 7 + 1 then 1 else 0) * 16 + if c ∧ l = 8 + 1 then 1 else 0) := by
    intro c _ l l0 l1
    by_cases q : c
    · simp only [q, true_and, if_true]
      have : l = 0 ∨ l = 1 ∨ l = 2 ∨ l = 3 ∨ l = 4 ∨ l = 5 ∨ l = 6 ∨ l = 7 ∨ l = 8 ∨ l = 9 := by omega
      rcases this with q | q | q | q | q | q | q | q | q | q <;> subst q <;> decide
    · simp only [q, false_and, if_false]
      decide
  by_cases q : j < k
  · simp only [q, if_true]
    have hl := hN.2.2 x y x0 x1 y0 (by omega)
    exact fin (h y = j) (N.2.2 x y) hl.1 hl.2
  · simp only [q, if_false]
    have hl := hN.2.2 y x y0 (by omega) x0 x1
    exact fin (h y = j - k) (N.2.2 y x) hl.1 hl.2
theorem zb_K_ct {N : zb_N} (hN : zb_ON N) (h : Int → Int) {k x : Int} (k0 : 0 ≤ k) (x0 : 0 ≤ x) (x1 : x < N.1) : zb_Kv N h k x = zb_P 16 (zb_ct N h k x) (18 * k).toNat := by
  unfold zb_Kv
  rw [zb_P_blk (c := zb_ct N h k x) (fun j j0 j1 => zb_sg_ct hN h x0 x1 j0)]
  congr 1
  omega
theorem zb_head_lt {a b M p q : Int} (hp : 0 ≤ p ∧ p < M) (hq : 0 ≤ q ∧ q < M) : (a * M + p < b * M + q ↔ a < b ∨ (a = b ∧ p < q)) := by
  rcases Int.lt_trichotomy a b with c | c | c
  · have e : (a + 1) * M ≤ b * M := Int.mul_le_mul_of_nonneg_right (by omega) (by omega)
    rw [Int.add_mul] at e
    exact ⟨fun _ => Or.inl c, fun _ => by omega⟩
  · subst c
    exact ⟨fun z => Or.inr ⟨rfl, by omega⟩, fun z => by omega⟩
  · have e : (b + 1) * M ≤ a * M := Int.mul_le_mul_of_nonneg_right (by omega) (by omega)
    rw [Int.add_mul] at e
    exact ⟨fun _ => by omega, fun z => by omega⟩
/-- the reference's row of sights: the heap, then the counts -/
def zb_rr (N : zb_N) (h : Int → Int) (k x i : Int) : Int := if i = 0 then h x else zb_ct N h k x (i - 1)
theorem zb_rr_lt {N : zb_N} (hN : zb_ON N) {h : Int → Int} {k x y : Int} (k0 : 0 ≤ k) (x0 : 0 ≤ x) (x1 : x < N.1) (y0 : 0 ≤ y) (y1 : y < N.1) : (zb_P 16 (zb_rr N h k x) (18 * k + 1).toNat < zb_P 16 (zb_rr N h k y) (18 * k + 1).toNat ↔ zb_lt h (zb_Kv N h k) x y) := by
  have e : ∀ z, 0 ≤ z → z < N.1 → zb_P 16 (zb_rr N h k z) (18 * k + 1).toNat = h z * 16 ^ (18 * k).toNat + zb_Kv N h k z := fun z z0 z1 => by
    rw [show (18 * k + 1).toNat = (18 * k).toNat + 1 by omega, zb_P_head, zb_K_ct hN h k0 z0 z1]
    have e1 : zb_rr N h k z 0 = h z := rfl
    rw [e1, zb_P_congr (f := fun i => zb_rr N h k z (i + 1)) (g := zb_ct N h k z) (fun i i0 i1 => by
      show (if i + 1 = 0 then h z else zb_ct N h k z (i + 1 - 1)) = _
      rw [if_neg (by omega), show i + 1 - 1 = i by omega])]
  have r : ∀ z, 0 ≤ z → z < N.1 → 0 ≤ zb_Kv N h k z ∧ zb_Kv N h k z < 16 ^ (18 * k).toNat := fun z z0 z1 => by
    rw [zb_K_ct hN h k0 z0 z1]
    exact zb_P_rng (by omega) (fun i _ _ => zb_ct_rng hN h k z i)
  rw [e x x0 x1, e y y0 y1]
  exact zb_head_lt (r x x0 x1) (r y y0 y1)
