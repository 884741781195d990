/-! ===== the world as the two stand after they are made ===== -/
def zb_g0 : zb_Gv := (0, (fun _ => 0), (fun _ => 0), (fun _ => 0), (fun _ => 0), fun _ _ => 0)
def zb_wd0 : zb_Wd := (((fun _ => zb_g0), 0, fun _ => (0, zb_g0)), none, none, none, (0, (fun _ => 0), 0, fun _ _ => 0), none, (0, 0, fun _ _ => 0))
theorem zb_m0_c : ((zb_m0 3 2 = 0 ∧ zb_m0 3 3 = 0 ∧ zb_m0 1 7 = 0 ∧ zb_m0 394 0 = 0 ∧ zb_m0 397 0 = 0) ∧ zb_m0 1 13 = 0 ∧ zb_m0 356 9 = 0 ∧ zb_m0 400 1 = 0) ∧ (zb_m0 401 0 = 404 ∧ zb_m0 401 1 = 407 ∧ zb_m0 401 2 = 410 ∧ zb_m0 401 3 = 413) ∧ zb_m0 401 4 = 416 ∧ zb_m0 401 5 = 419 ∧ zb_m0 401 6 = 422 ∧ zb_m0 401 7 = 425 := by decide +kernel
theorem zb_m0_n : (zb_m0 428 0 = 0 ∧ zb_m0 434 0 = 0 ∧ zb_m0 440 0 = 0 ∧ zb_m0 446 0 = 0) ∧ zb_m0 452 0 = 0 ∧ zb_m0 458 0 = 0 ∧ zb_m0 464 0 = 0 ∧ zb_m0 470 0 = 0 := by decide +kernel
theorem zb_m0_r : (zb_m0 500 13 = 0 ∧ zb_m0 500 23 = 0 ∧ zb_m0 500 34 = 0 ∧ zb_m0 500 40 = 0 ∧ zb_m0 500 42 = 0) ∧ zb_m0 500 49 = 0 ∧ zb_m0 500 51 = 0 ∧ zb_m0 500 52 = 0 := by decide +kernel
theorem zb_m0_g : (zb_m0 501 0 = 0 ∧ zb_m0 501 1 = 0 ∧ zb_m0 501 2 = 0 ∧ zb_m0 501 3 = 0) ∧ zb_m0 501 4 = 0 ∧ zb_m0 501 5 = 0 ∧ zb_m0 501 6 = 0 ∧ zb_m0 501 7 = 0 := by decide +kernel
theorem zb_8 {P : Int → Prop} (h : (P 0 ∧ P 1 ∧ P 2 ∧ P 3) ∧ P 4 ∧ P 5 ∧ P 6 ∧ P 7) {k : Int} (k0 : 0 ≤ k) (k1 : k < 8) : P k := by
  obtain ⟨⟨a0, a1, a2, a3⟩, a4, a5, a6, a7⟩ := h
  have : k = 0 ∨ k = 1 ∨ k = 2 ∨ k = 3 ∨ k = 4 ∨ k = 5 ∨ k = 6 ∨ k = 7 := by omega
  rcases this with q | q | q | q | q | q | q | q <;> subst q <;> assumption
theorem zb_Inv_0 : zb_Inv zb_m0 := by
  obtain ⟨⟨⟨c1, c2, c3, c4, c5⟩, c6, c7, c8⟩, cn⟩ := zb_m0_c
  obtain ⟨⟨r1, r2, r3, r4, r5⟩, r6, r7, r8⟩ := zb_m0_r
  refine ⟨zb_wd0, ⟨⟨fun g g0 g1 => ⟨zb_8 (P := fun g => zb_m0 (428 + 6 * g) 0 = 0) zb_m0_n g0 g1, fun i i0 i1 => ?_⟩, by rw [c1]; omega, c2, fun k k0 k1 => ?_⟩, c3, c4, c5, ⟨c6, fun k k0 k1 => ?_⟩, c7, c8, fun x => x, ⟨fun x x0 x1 => ⟨x0, x1⟩, fun x y _ _ _ _ e => e⟩, fun k k0 k1 => ⟨zb_8 (P := fun k => zb_m0 401 k = 404 + 3 * k) cn k0 k1, fun z => ?_⟩⟩, ⟨⟨fun g g0 g1 => ⟨zb_8 (P := fun g => zb_m0 501 g = 0) zb_m0_g g0 g1, fun i i0 i1 => ?_⟩, r1, fun k k0 k1 => ?_⟩, r2, r3, r4, ⟨⟨r6, fun k z k0 k1 => ?_⟩, 0, by omega, r7, fun i i0 i1 => ⟨fun z => absurd z (zb_has_0 i), fun z => ?_⟩⟩, r5, r8, fun z => ?_, fun k k0 k1 => ?_⟩, ⟨⟨fun g _ _ => ⟨Int.le_refl _, by show (0 : Int) ≤ 12; omega, fun i i0 i1 => ?_⟩, ⟨Int.le_refl _, by show (0 : Int) ≤ 20; omega⟩, fun k k0 k1 => ?_⟩, trivial, trivial, trivial, ⟨Int.le_refl _, ⟨fun x x0 x1 => ?_, fun x y x0 xy y1 => ?_⟩, ⟨Int.le_refl _, by show (0 : Int) ≤ 12; omega⟩, fun j j0 j1 => ?_⟩, ⟨Int.le_refl _, by show (0 : Int) ≤ 7; omega⟩, fun k k0 k1 => ?_⟩⟩
  all_goals first
    | (have i1' : i < 0 := i1; omega)
    | (have k1' : k < 0 := k1; omega)
    | (have z' : k < 0 := z; omega)
    | (have z' : (0 : Int) < 0 := z; omega)
    | (have z' : 0 ≤ (-1 : Int) := z; omega)
    | (have x1' : x < 0 := x1; omega)
    | (have y1' : y < 0 := y1; omega)
    | (have j1' : j < 0 := j1; omega)
