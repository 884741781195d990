/-! ===== bits of numbers below 4096 ===== -/
def zb_bck (a n : Nat) : Bool := (List.range n).all fun x => (List.range 12).all (fun i => decide (zb_or ((a + x : Nat) : Int) (zb_shl 1 (i : Int)) = (((a + x) ||| (1 <<< i) : Nat) : Int)) && decide (zb_and (zb_shr ((a + x : Nat) : Int) (i : Int)) 1 = if (a + x).testBit i then 1 else 0)) && decide (zb_or ((a + x : Nat) : Int) 0 = ((a + x : Nat) : Int))
set_option maxRecDepth 1000000 in
theorem zb_bck_0 : zb_bck 0 1024 = true := by decide +kernel
set_option maxRecDepth 1000000 in
theorem zb_bck_1 : zb_bck 1024 1024 = true := by decide +kernel
set_option maxRecDepth 1000000 in
theorem zb_bck_2 : zb_bck 2048 1024 = true := by decide +kernel
set_option maxRecDepth 1000000 in
theorem zb_bck_3 : zb_bck 3072 1024 = true := by decide +kernel
theorem zb_bck_at {a n x : Nat} (h : zb_bck a n = true) (h0 : a ≤ x) (h1 : x < a + n) : (∀ i : Nat, i < 12 → zb_or (x : Int) (zb_shl 1 (i : Int)) = ((x ||| (1 <<< i) : Nat) : Int) ∧ zb_and (zb_shr (x : Int) (i : Int)) 1 = if x.testBit i then 1 else 0) ∧ zb_or (x : Int) 0 = (x : Int) := by
  have h2 := List.all_eq_true.mp h (x - a) (List.mem_range.mpr (by omega))
  have e : a + (x - a) = x := by omega
  rw [e] at h2
  simp only [Bool.and_eq_true, List.all_eq_true, List.mem_range, decide_eq_true_eq] at h2
  exact ⟨fun i hi => ⟨(h2.1 i hi).1, (h2.1 i hi).2⟩, h2.2⟩
theorem zb_bits {x : Nat} (hx : x < 4096) : (∀ i : Nat, i < 12 → zb_or (x : Int) (zb_shl 1 (i : Int)) = ((x ||| (1 <<< i) : Nat) : Int) ∧ zb_and (zb_shr (x : Int) (i : Int)) 1 = if x.testBit i then 1 else 0) ∧ zb_or (x : Int) 0 = (x : Int) := by
  by_cases c1 : x < 1024
  · exact zb_bck_at zb_bck_0 (by omega) (by omega)
  by_cases c2 : x < 2048
  · exact zb_bck_at zb_bck_1 (by omega) (by omega)
  by_cases c3 : x < 3072
  · exact zb_bck_at zb_bck_2 (by omega) (by omega)
  exact zb_bck_at zb_bck_3 (by omega) (by omega)
