/-! ===== the law's loop ===== -/
theorem zb_two1 {k1 k2 : zb_K} {d : Nat} {A B : List zb_V} {m : zb_M} {P Q : zb_M → Prop} (h : zb_T k1 d A zb_E0 m (fun r m1 => zb_T k2 d B zb_E0 m1 (fun r' m2 => r = r' ∧ zb_Inv m2))) (hP : ∀ m2, zb_Inv m2 → P m2) : zb_T k1 d A zb_E0 m (fun r m1 => zb_T k2 d B zb_E0 m1 (fun r' m2 => (r = r' → P m2) ∧ (¬ r = r' → Q m2))) :=
  h.mono (fun r m1 h1 => h1.mono (fun r' m2 h2 => ⟨fun _ => hP m2 h2.2, fun z => absurd h2.1 z⟩))
theorem zb_two2 {k1 k2 : zb_K} {d : Nat} {A B : List zb_V} {m : zb_M} {P Q : Prop} (h : zb_Tp k1 d A zb_E0 m (fun r => zb_Tp k2 d B zb_E0 m (fun r' => r = r'))) (hP : P) : zb_Tp k1 d A zb_E0 m (fun r => zb_Tp k2 d B zb_E0 m (fun r' => (r = r' → P) ∧ (¬ r = r' → Q))) :=
  h.mono (fun r h1 => h1.mono (fun r' h2 => ⟨fun _ => hP, fun z => absurd h2 z⟩))
theorem zb_law_ok (h0 : zb_Inv zb_m0) : zb_Pure := by
  intro Ln xs hL
  unfold PL_L_law_18
  intro X hX
  have go : ∀ (f : Nat) (v : Int) (m : zb_M), zb_Inv m → 0 ≤ v → v ≤ Ln → (Ln : Int) - v ≤ f → X v m := by
    intro f
    induction f with
    | zero =>
      intro v m hI v0 vL hf
      exact hX v m ⟨zb_inI_of (by omega) (by omega), fun _ => rfl, fun c => by omega⟩
    | succ f ih =>
      intro v m hI v0 vL hf
      refine hX v m ⟨zb_inI_of (by omega) (by omega), fun _ => rfl, fun c => ?_⟩
      have i8 : zb_inI (v + 8) := zb_inI_of (by omega) (by omega)
      have i1 : zb_inI (v + 1) := zb_inI_of (by omega) (by omega)
      have g1 : 0 ≤ v + 1 ∧ v + 1 < (Ln : Int) := ⟨by omega, by omega⟩
      have i2 : zb_inI (v + 2) := zb_inI_of (by omega) (by omega)
      have g2 : 0 ≤ v + 2 ∧ v + 2 < (Ln : Int) := ⟨by omega, by omega⟩
      have i3 : zb_inI (v + 3) := zb_inI_of (by omega) (by omega)
      have g3 : 0 ≤ v + 3 ∧ v + 3 < (Ln : Int) := ⟨by omega, by omega⟩
      have i4 : zb_inI (v + 4) := zb_inI_of (by omega) (by omega)
      have g4 : 0 ≤ v + 4 ∧ v + 4 < (Ln : Int) := ⟨by omega, by omega⟩
      have i5 : zb_inI (v + 5) := zb_inI_of (by omega) (by omega)
      have g5 : 0 ≤ v + 5 ∧ v + 5 < (Ln : Int) := ⟨by omega, by omega⟩
      have i6 : zb_inI (v + 6) := zb_inI_of (by omega) (by omega)
      have g6 : 0 ≤ v + 6 ∧ v + 6 < (Ln : Int) := ⟨by omega, by omega⟩
      have i7 : zb_inI (v + 7) := zb_inI_of (by omega) (by omega)
      have g7 : 0 ≤ v + 7 ∧ v + 7 < (Ln : Int) := ⟨by omega, by omega⟩
      have nx : ∀ m2, zb_Inv m2 → zb_inI (v + 8) ∧ X (v + 8) m2 := fun m2 h2 => ⟨i8, ih (v + 8) m2 h2 (by omega) (by omega) (by omega)⟩
      have gv : 0 ≤ v ∧ v < (Ln : Int) := ⟨v0, by omega⟩
      clear hX ih hf vL c
      refine ⟨gv, ?_, ?_, ?_, ?_, ?_, ?_, ?_, ?_, ?_, ?_, ?_, ?_, ?_, ?_, ?_, ?_, ?_, ?_, ?_, ?_, ?_, ?_, ?_, ?_, ?_, ?_, ?_, ?_, ?_, ?_, ?_, ?_, ?_, ?_, fun _ => nx m hI⟩
      · exact fun _ => ⟨i1, g1, i2, g2, i3, g3, i4, g4, zb_two1 (zb_op_thing hI) nx⟩
      · exact fun _ => ⟨i1, g1, i2, g2, i3, g3, zb_two1 (zb_op_colour hI) nx⟩
      · exact fun _ => ⟨i1, g1, i2, g2, i3, g3, zb_two1 (zb_op_word hI) nx⟩
      · exact fun _ => ⟨i1, g1, i2, g2, i3, g3, zb_two1 (zb_op_row hI) nx⟩
      · exact fun _ => ⟨i1, g1, i2, g2, zb_two1 (zb_op_unrow hI) nx⟩
      · exact fun _ => ⟨i1, g1, i2, g2, i3, g3, i4, g4, zb_two1 (zb_op_place hI) nx⟩
      · exact fun _ => ⟨i1, g1, i2, g2, i3, g3, zb_two2 (zb_op_line hI) (nx m hI)⟩
      · exact fun _ => ⟨i1, g1, i2, g2, i3, g3, i4, g4, i5, g5, i6, g6, i7, g7, zb_two1 (zb_op_copy (zb_i32 _) (zb_i32 _) (zb_i32 _) hI) nx⟩
      · exact fun _ => ⟨i1, g1, i2, g2, i3, g3, zb_two1 (zb_op_swap hI) nx⟩
      · exact fun _ => ⟨i1, g1, i2, g2, zb_two1 (zb_op_twin hI) nx⟩
      · exact fun _ => ⟨i1, g1, zb_two1 (zb_op_drop hI) nx⟩
      · exact fun _ => ⟨i1, g1, i2, g2, i3, g3, zb_two2 (zb_op_told hI) (nx m hI)⟩
      · exact fun _ => ⟨i1, g1, i2, g2, zb_two2 (zb_op_count hI) (nx m hI)⟩
      · exact fun _ => zb_two1 (zb_op_undo hI) nx
      · exact fun _ => ⟨i1, g1, zb_two1 (zb_op_split hI) nx⟩
      · exact fun _ => ⟨i1, g1, zb_two1 (zb_op_mark hI) nx⟩
      · exact fun _ => ⟨i1, g1, zb_two2 (zb_op_heapOf hI) (nx m hI)⟩
      · exact fun _ => ⟨i1, g1, zb_two1 (zb_op_name hI) nx⟩
      · exact fun _ => ⟨i1, g1, zb_two2 (zb_op_nameAt hI) (nx m hI)⟩
      · exact fun _ => ⟨i1, g1, zb_two2 (zb_op_order hI) (nx m hI)⟩
      · exact fun _ => zb_two2 (zb_op_nodes hI) (nx m hI)
      · exact fun _ => ⟨i1, g1, i2, g2, zb_two1 (zb_op_same hI) nx⟩
      · exact fun _ => ⟨i1, g1, i2, g2, zb_two1 (zb_op_unlike hI) nx⟩
      · exact fun _ => ⟨i1, g1, zb_two2 (zb_op_why hI) (nx m hI)⟩
      · exact fun _ => ⟨i1, g1, (zb_op_turnings hI).mono (fun r m1 h1 => h1.mono (fun r2 m2 h2 => ⟨fun _ => nx m2 h2.2, fun z => absurd (zb_cmp_0.2 h2.1) z⟩))⟩
      · exact fun _ => ⟨i1, g1, i2, g2, zb_two1 (zb_op_chain hI) nx⟩
      · exact fun _ => ⟨i1, g1, i2, g2, i3, g3, zb_two1 (zb_op_where hI) nx⟩
      · exact fun _ => ⟨i1, g1, i2, g2, zb_two1 (zb_op_orbit hI) nx⟩
      · exact fun _ => ⟨i1, g1, zb_two2 (zb_op_by hI) (nx m hI)⟩
      · exact fun _ => ⟨i1, g1, zb_two1 (zb_op_makers hI) nx⟩
      · exact fun _ => ⟨i1, g1, i2, g2, zb_two2 (zb_op_maker hI) (nx m hI)⟩
      · exact fun _ => ⟨i1, g1, zb_two1 (zb_op_then hI) nx⟩
      · exact fun _ => ⟨i1, g1, i2, g2, zb_two1 (zb_op_list hI) nx⟩
      · exact fun _ => ⟨i1, g1, i2, g2, zb_two1 (zb_op_listed hI) nx⟩
  exact go Ln 0 zb_m0 h0 (Int.le_refl _) (by omega) (by omega)
