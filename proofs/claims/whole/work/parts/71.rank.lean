/-! ===== things parted by what is seen of them: numbers of heaps ===== -/
/-- x lies ahead of y: by its heap, then by what is seen -/
abbrev zb_lt (h K : Int → Int) (x y : Int) : Prop := h x < h y ∨ (h x = h y ∧ K x < K y)
/-- h' numbers the heaps that h and K part, without gaps -/
def zb_rk (n : Int) (h K h' : Int → Int) (k' : Int) : Prop := (∀ x, 0 ≤ x → x < n → 0 ≤ h' x ∧ h' x < k') ∧ (∀ i, 0 ≤ i → i < k' → ∃ x, 0 ≤ x ∧ x < n ∧ h' x = i) ∧ ∀ x y, 0 ≤ x → x < n → 0 ≤ y → y < n → (h' x < h' y ↔ zb_lt h K x y)
theorem zb_rk_le {n : Int} {h K h1 h2 : Int → Int} {k1 k2 : Int} (a : zb_rk n h K h1 k1) (b : zb_rk n h K h2 k2) : ∀ (f : Nat) (x : Int), 0 ≤ x → x < n → h1 x ≤ f → h1 x ≤ h2 x := by
  intro f
  induction f with
  | zero => intro x x0 x1 hf; have := (b.1 x x0 x1).1; omega
  | succ f ih =>
    intro x x0 x1 hf
    by_cases q : h1 x ≤ 0
    · have := (b.1 x x0 x1).1; omega
    · obtain ⟨y, y0, y1, e⟩ := a.2.1 (h1 x - 1) (by omega) (by have := (a.1 x x0 x1).2; omega)
      have h3 := ih y y0 y1 (by omega)
      have h4 := (a.2.2 y x y0 y1 x0 x1).1 (by omega)
      have h5 := (b.2.2 y x y0 y1 x0 x1).2 h4
      omega
theorem zb_rk_k {n : Int} {h K h1 : Int → Int} {k1 : Int} (a : zb_rk n h K h1 k1) (h0 : 0 < n) : 0 < k1 := by
  have := a.1 0 (by omega) h0
  omega
theorem zb_rk_uniq {n : Int} {h K h1 h2 : Int → Int} {k1 k2 : Int} (a : zb_rk n h K h1 k1) (b : zb_rk n h K h2 k2) (p1 : 0 ≤ k1) (p2 : 0 ≤ k2) : k1 = k2 ∧ ∀ x, 0 ≤ x → x < n → h1 x = h2 x := by
  have e : ∀ x, 0 ≤ x → x < n → h1 x = h2 x := fun x x0 x1 => by
    have u := zb_rk_le a b (h1 x).toNat x x0 x1 (by have := (a.1 x x0 x1).1; omega)
    have v := zb_rk_le b a (h2 x).toNat x x0 x1 (by have := (b.1 x x0 x1).1; omega)
    omega
  refine ⟨?_, e⟩
  have l1 : k1 ≤ k2 := by
    by_cases q : k1 ≤ 0
    · omega
    · obtain ⟨x, x0, x1, hx⟩ := a.2.1 (k1 - 1) (by omega) (by omega)
      have := (b.1 x x0 x1).2
      have := e x x0 x1
      omega
  have l2 : k2 ≤ k1 := by
    by_cases q : k2 ≤ 0
    · omega
    · obtain ⟨x, x0, x1, hx⟩ := b.2.1 (k2 - 1) (by omega) (by omega)
      have := (a.1 x x0 x1).2
      have := e x x0 x1
      omega
  omega
theorem zb_rk_congr {n : Int} {h K g L h' : Int → Int} {k' : Int} (eh : ∀ x, 0 ≤ x → x < n → h x = g x) (eK : ∀ x, 0 ≤ x → x < n → K x = L x) (a : zb_rk n h K h' k') : zb_rk n g L h' k' := by
  refine ⟨a.1, a.2.1, fun x y x0 x1 y0 y1 => ?_⟩
  rw [a.2.2 x y x0 x1 y0 y1]
  unfold zb_lt
  rw [eh x x0 x1, eh y y0 y1, eK x x0 x1, eK y y0 y1]
theorem zb_rk_to {n : Int} {h K h' g : Int → Int} {k' : Int} (a : zb_rk n h K h' k') (e : ∀ x, 0 ≤ x → x < n → g x = h' x) : zb_rk n h K g k' := by
  refine ⟨fun x x0 x1 => by rw [e x x0 x1]; exact a.1 x x0 x1, fun i i0 i1 => ?_, fun x y x0 x1 y0 y1 => by rw [e x x0 x1, e y y0 y1]; exact a.2.2 x y x0 x1 y0 y1⟩
  obtain ⟨x, x0, x1, hx⟩ := a.2.1 i i0 i1
  exact ⟨x, x0, x1, by rw [e x x0 x1]; exact hx⟩
/-- the places a .. e - 1 stand in order -/
def zb_srt (h K S : Int → Int) (a e : Int) : Prop := ∀ i j, a ≤ i → i < j → j < e → ¬ zb_lt h K (S j) (S i)
/-- what stands at p is put in at a, the rest moves on -/
def zb_rot (S : Int → Int) (a p : Int) : Int → Int := fun j => if j = a then S p else if a < j ∧ j ≤ p then S (j - 1) else S j
theorem zb_rot_pm {n : Int} {S : Int → Int} {a p : Int} (h : zb_pm n S) (a0 : 0 ≤ a) (ap : a ≤ p) (pn : p < n) : zb_pm n (zb_rot S a p) := by
  have e : ∀ j, zb_rot S a p j = S (if j = a then p else if a < j ∧ j ≤ p then j - 1 else j) := fun j => by
    unfold zb_rot
    split
    · rfl
    · split <;> rfl
  have r : ∀ j, 0 ≤ j → j < n → 0 ≤ (if j = a then p else if a < j ∧ j ≤ p then j - 1 else j) ∧ (if j = a then p else if a < j ∧ j ≤ p then j - 1 else j) < n := fun j j0 j1 => by
    split
    · omega
    · split <;> omega
  refine ⟨fun j j0 j1 => ?_, fun i j i0 i1 j0 j1 hij => ?_⟩
  · rw [e]; exact h.1 _ (r j j0 j1).1 (r j j0 j1).2
  · rw [e, e] at hij
    have := h.2 _ _ (r i i0 i1).1 (r i i0 i1).2 (r j j0 j1).1 (r j j0 j1).2 hij
    by_cases q1 : i = a
    · rw [if_pos q1] at this
      by_cases q2 : j = a
      · omega
      · rw [if_neg q2] at this
        split at this <;> omega
    · rw [if_neg q1] at this
      by_cases q2 : j = a
      · rw [if_pos q2] at this
        split at this <;> omega
      · rw [if_neg q2] at this
        split at this <;> split at this <;> omega
theorem zb_rot_srt {h K S : Int → Int} {s a p : Int} (hs : zb_srt h K S s p) (sa : s ≤ a) (ap : a ≤ p) (h1 : ∀ j, a ≤ j → j < p → zb_lt h K (S p) (S j)) (h2 : s < a → ¬ zb_lt h K (S p) (S (a - 1))) : zb_srt h K (zb_rot S a p) s (p + 1) := by
  intro i j i0 ij j1
  unfold zb_rot
  by_cases q1 : i = a
  · rw [if_pos q1, if_neg (by omega), if_pos (by omega)]
    have := h1 (j - 1) (by omega) (by omega)
    unfold zb_lt at *
    omega
  · rw [if_neg q1]
    by_cases q2 : j = a
    · rw [if_pos q2, if_neg (by omega)]
      have w := h2 (by omega)
      by_cases q3 : i = a - 1
      · rw [q3]; exact w
      · have := hs i (a - 1) i0 (by omega) (by omega)
        unfold zb_lt at *
        omega
    · rw [if_neg q2]
      by_cases q3 : a < i ∧ i ≤ p
      · rw [if_pos q3, if_pos (by omega)]
        exact hs (i - 1) (j - 1) (by omega) (by omega) (by omega)
      · rw [if_neg q3]
        by_cases q4 : a < j ∧ j ≤ p
        · rw [if_pos q4]
          by_cases q5 : i = j - 1
          · omega
          · exact hs i (j - 1) i0 (by omega) (by omega)
        · rw [if_neg q4]
          exact hs i j i0 ij (by omega)
/-- how often one heap ends and another begins, up to a place -/
def zb_J (h K S : Int → Int) : Nat → Int
  | 0 => 0
  | p + 1 => zb_J h K S p + if zb_lt h K (S (p : Int)) (S ((p : Int) + 1)) then 1 else 0
theorem zb_J_S (h K S : Int → Int) {v : Int} (h0 : 0 < v) : zb_J h K S v.toNat = zb_J h K S (v - 1).toNat + if zb_lt h K (S (v - 1)) (S v) then 1 else 0 := by
  have e : v.toNat = (v - 1).toNat + 1 := by omega
  have e2 : (((v - 1).toNat : Nat) : Int) = v - 1 := by omega
  rw [e]
  show zb_J h K S (v - 1).toNat + (if zb_lt h K (S (((v - 1).toNat : Nat) : Int)) (S ((((v - 1).toNat : Nat) : Int) + 1)) then 1 else 0) = _
  rw [e2, show v - 1 + 1 = v by omega]
theorem zb_J_lt {n : Int} {h K S : Int → Int} (hs : zb_srt h K S 0 n) : ∀ (d : Nat) (p : Int), 0 ≤ p → p + d < n → zb_J h K S p.toNat ≤ zb_J h K S (p + d).toNat ∧ (zb_J h K S p.toNat < zb_J h K S (p + d).toNat ↔ zb_lt h K (S p) (S (p + d))) := by
  intro d
  induction d with
  | zero =>
    intro p p0 p1
    rw [show p + ((0 : Nat) : Int) = p by omega]
    unfold zb_lt
    omega
  | succ d ih =>
    intro p p0 p1
    obtain ⟨i1, i2⟩ := ih p p0 (by omega)
    have e : p + ((d + 1 : Nat) : Int) = (p + d) + 1 := by omega
    rw [e, zb_J_S h K S (v := p + d + 1) (by omega), show p + (d : Int) + 1 - 1 = p + d by omega]
    have w1 := hs (p + d) (p + d + 1) (by omega) (by omega) (by omega)
    have w2 : ¬ zb_lt h K (S (p + d)) (S p) := by
      by_cases q : d = 0
      · subst q
        rw [show p + ((0 : Nat) : Int) = p by omega]
        unfold zb_lt; omega
      · exact hs p (p + d) p0 (by omega) (by omega)
    by_cases q : zb_lt h K (S (p + d)) (S (p + d + 1))
    · rw [if_pos q]
      refine ⟨by omega, fun _ => ?_, fun _ => by omega⟩
      unfold zb_lt at *
      omega
    · rw [if_neg q]
      refine ⟨by omega, fun z => ?_, fun z => ?_⟩
      · have z2 := i2.1 (by omega)
        unfold zb_lt at *
        omega
      · have z2 : zb_lt h K (S p) (S (p + d)) := by
          unfold zb_lt at *
          omega
        have := i2.2 z2
        omega
theorem zb_J_all (h K S : Int → Int) : ∀ (q : Nat) (i : Int), 0 ≤ i → i ≤ zb_J h K S q → ∃ p : Nat, p ≤ q ∧ zb_J h K S p = i := by
  intro q
  induction q with
  | zero => intro i i0 i1; exact ⟨0, Nat.le_refl _, by have : zb_J h K S 0 = 0 := rfl; omega⟩
  | succ q ih =>
    intro i i0 i1
    by_cases w : i ≤ zb_J h K S q
    · obtain ⟨p, p1, p2⟩ := ih i i0 w
      exact ⟨p, by omega, p2⟩
    · refine ⟨q + 1, Nat.le_refl _, ?_⟩
      have e : zb_J h K S (q + 1) = zb_J h K S q + if zb_lt h K (S (q : Int)) (S ((q : Int) + 1)) then 1 else 0 := rfl
      rw [e] at i1 ⊢
      split at i1
      · rename_i c; rw [if_pos c]; omega
      · rename_i c; omega
theorem zb_rk_of_srt {n : Int} {h K S h' : Int → Int} (hp : zb_pm n S) (hs : zb_srt h K S 0 n) (h0 : 0 < n) (hh : ∀ p, 0 ≤ p → p < n → h' (S p) = zb_J h K S p.toNat) : zb_rk n h K h' (zb_J h K S (n - 1).toNat + 1) := by
  have mono : ∀ p q, 0 ≤ p → p ≤ q → q < n → zb_J h K S p.toNat ≤ zb_J h K S q.toNat ∧ (zb_J h K S p.toNat < zb_J h K S q.toNat ↔ zb_lt h K (S p) (S q)) := fun p q p0 pq qn => by
    have := zb_J_lt hs (q - p).toNat p p0 (by omega)
    rw [show p + (((q - p).toNat : Nat) : Int) = q by omega] at this
    exact this
  refine ⟨fun x x0 x1 => ?_, fun i i0 i1 => ?_, fun x y x0 x1 y0 y1 => ?_⟩
  · obtain ⟨p, p0, p1, rfl⟩ := zb_pm_sur hp x0 x1
    rw [hh p p0 p1]
    have a := (mono 0 p (by omega) p0 p1).1
    have b := (mono p (n - 1) p0 (by omega) (by omega)).1
    have c : zb_J h K S (0 : Int).toNat = 0 := rfl
    omega
  · obtain ⟨p, p1, p2⟩ := zb_J_all h K S (n - 1).toNat i i0 (by omega)
    have hr := hp.1 p (by omega) (by omega)
    refine ⟨S p, hr.1, hr.2, ?_⟩
    rw [hh p (by omega) (by omega)]
    simpa using p2
  · obtain ⟨p, p0, p1, rfl⟩ := zb_pm_sur hp x0 x1
    obtain ⟨q, q0, q1, rfl⟩ := zb_pm_sur hp y0 y1
    rw [hh p p0 p1, hh q q0 q1]
    by_cases c : p ≤ q
    · exact (mono p q p0 c q1).2
    · have a := mono q p q0 (by omega) p1
      refine ⟨fun z => by omega, fun z => absurd z (hs q p q0 (by omega) p1)⟩
theorem zb_srt_ex (h K : Int → Int) : ∀ n : Nat, ∃ S, zb_pm (n : Int) S ∧ zb_srt h K S 0 n := by
  intro n
  induction n with
  | zero => exact ⟨fun x => x, ⟨fun p p0 p1 => by omega, fun p q p0 p1 => by omega⟩, fun i j i0 ij j1 => by omega⟩
  | succ n ih =>
    obtain ⟨S, hp, hs⟩ := ih
    have hp2 : zb_pm ((n + 1 : Nat) : Int) (fun x : Int => if x = n then (n : Int) else S x) := by
      refine ⟨fun p p0 p1 => ?_, fun p q p0 p1 q0 q1 e => ?_⟩
      · show 0 ≤ (if p = n then (n : Int) else S p) ∧ (if p = n then (n : Int) else S p) < _
        by_cases c : p = n
        · rw [if_pos c]; omega
        · rw [if_neg c]; have := hp.1 p p0 (by omega); omega
      · have e : (if p = n then (n : Int) else S p) = (if q = n then (n : Int) else S q) := e
        by_cases c : p = n
        · rw [if_pos c] at e
          by_cases c2 : q = n
          · omega
          · rw [if_neg c2] at e; have := hp.1 q q0 (by omega); omega
        · rw [if_neg c] at e
          by_cases c2 : q = n
          · rw [if_pos c2] at e; have := hp.1 p p0 (by omega); omega
          · rw [if_neg c2] at e; exact hp.2 p q p0 (by omega) q0 (by omega) e
    have hs2 : zb_srt h K (fun x : Int => if x = n then (n : Int) else S x) 0 n := fun i j i0 ij j1 => by
      show ¬ zb_lt h K (if j = n then (n : Int) else S j) (if i = n then (n : Int) else S i)
      rw [if_neg (by omega), if_neg (by omega)]
      exact hs i j i0 ij j1
    generalize (fun x : Int => if x = n then (n : Int) else S x) = T at hp2 hs2
    have fnd : ∀ a : Nat, a ≤ n → (∀ j : Int, a ≤ j → j < n → zb_lt h K (T n) (T j)) → ∃ b : Int, 0 ≤ b ∧ b ≤ n ∧ (∀ j, b ≤ j → j < n → zb_lt h K (T n) (T j)) ∧ (0 < b → ¬ zb_lt h K (T n) (T (b - 1))) := by
      intro a
      induction a with
      | zero => intro _ ha; exact ⟨0, by omega, by omega, fun j j0 j1 => ha j (by omega) j1, fun z => by omega⟩
      | succ a iha =>
        intro an ha
        by_cases c : zb_lt h K (T n) (T a)
        · refine iha (by omega) (fun j j0 j1 => ?_)
          by_cases c2 : j = a
          · rw [c2]; exact c
          · exact ha j (by omega) j1
        · refine ⟨(a : Int) + 1, by omega, by omega, fun j j0 j1 => ha j (by omega) j1, fun _ => ?_⟩
          rw [show (a : Int) + 1 - 1 = a by omega]
          exact c
    obtain ⟨b, b0, b1, b2, b3⟩ := fnd n (Nat.le_refl _) (fun j j0 j1 => by omega)
    refine ⟨zb_rot T b n, zb_rot_pm hp2 b0 b1 (by omega), ?_⟩
    have := zb_rot_srt hs2 b0 b1 b2 b3
    rw [show ((n + 1 : Nat) : Int) = (n : Int) + 1 by omega]
    exact this
theorem zb_rank_ex (n : Int) (h K : Int → Int) : ∃ p : (Int → Int) × Int, (zb_rk n h K p.1 p.2 ∧ 0 ≤ p.2) ∧ ∀ x, ¬ (0 ≤ x ∧ x < n) → p.1 x = 0 := by
  by_cases h0 : 0 < n
  · obtain ⟨S, hp, hs⟩ := zb_srt_ex h K n.toNat
    rw [show ((n.toNat : Nat) : Int) = n by omega] at hp hs
    have ex : ∀ x, 0 ≤ x ∧ x < n → ∃ p, 0 ≤ p ∧ p < n ∧ S p = x := fun x hx => zb_pm_sur hp hx.1 hx.2
    have hk := zb_rk_of_srt (h' := fun x => @dite Int (0 ≤ x ∧ x < n) inferInstance (fun hx => zb_J h K S (Classical.choose (ex x hx)).toNat) (fun _ => 0)) hp hs h0 (fun p p0 p1 => by
      have hr := hp.1 p p0 p1
      show dite _ _ _ = _
      rw [dif_pos hr]
      have hc := Classical.choose_spec (ex (S p) hr)
      rw [hp.2 _ p hc.1 hc.2.1 p0 p1 hc.2.2])
    exact ⟨(_, _), ⟨hk, Int.le_of_lt (zb_rk_k hk h0)⟩, fun x hx => dif_neg hx⟩
  · exact ⟨(fun _ => 0, 0), ⟨⟨fun x x0 x1 => by omega, fun i i0 i1 => by have i1 : i < 0 := i1; omega, fun x y x0 x1 => by omega⟩, Int.le_refl _⟩, fun x _ => rfl⟩
/-- the heaps that h and K part, numbered -/
noncomputable def zb_rank (n : Int) (h K : Int → Int) : (Int → Int) × Int := Classical.choose (zb_rank_ex n h K)
theorem zb_rank_ok (n : Int) (h K : Int → Int) : zb_rk n h K (zb_rank n h K).1 (zb_rank n h K).2 ∧ 0 ≤ (zb_rank n h K).2 ∧ ∀ x, ¬ (0 ≤ x ∧ x < n) → (zb_rank n h K).1 x = 0 := by
  obtain ⟨⟨a, b⟩, c⟩ := Classical.choose_spec (zb_rank_ex n h K)
  exact ⟨a, b, c⟩
theorem zb_rank_eq {n : Int} {h K h' : Int → Int} {k' : Int} (a : zb_rk n h K h' k') (k0 : 0 ≤ k') : k' = (zb_rank n h K).2 ∧ ∀ x, 0 ≤ x → x < n → h' x = (zb_rank n h K).1 x :=
  zb_rk_uniq a (zb_rank_ok n h K).1 k0 (zb_rank_ok n h K).2.1
theorem zb_rank_same {n : Int} {h K : Int → Int} {p : (Int → Int) × Int} (a : zb_rk n h K p.1 p.2) (k0 : 0 ≤ p.2) (hz : ∀ x, ¬ (0 ≤ x ∧ x < n) → p.1 x = 0) : zb_rank n h K = p := by
  obtain ⟨e1, e2⟩ := zb_rank_eq a k0
  refine Prod.ext (funext fun x => ?_) e1.symm
  by_cases q : 0 ≤ x ∧ x < n
  · exact (e2 x q.1 q.2).symm
  · rw [hz x q]; exact (zb_rank_ok n h K).2.2 x q
theorem zb_rank_congr {n : Int} {h K g L : Int → Int} (eh : ∀ x, 0 ≤ x → x < n → h x = g x) (eK : ∀ x, 0 ≤ x → x < n → K x = L x) : zb_rank n h K = zb_rank n g L := by
  obtain ⟨a, b, c⟩ := zb_rank_ok n g L
  exact zb_rank_same (zb_rk_congr (fun x x0 x1 => (eh x x0 x1).symm) (fun x x0 x1 => (eK x x0 x1).symm) a) b c
