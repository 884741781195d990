/-! ===== what the tables give at the law's entry; calls out of the law ===== -/
theorem zb_know1 {s : State} {args : Array Value} (hts : ∀ w ∈ zb_all, w.before args s = true) {own : String} {index ci : Nat} (h : zb_mk own index ci) : ∃ (q : vw_C) (cC : ClassId) (iS : Nat → Nat), vwCl[ci]? = some q ∧ u_Kn s q.1 q.2.1 q.2.2 cC iS := by
  obtain ⟨q, hcl, -, hi, -, -⟩ := h
  obtain ⟨cC, iS, hk⟩ := u_known hts hcl.2.1 (hts _ hi)
  exact ⟨q, cC, iS, hcl.1, hk⟩
theorem zb_know {s : State} {args : Array Value} (hts : ∀ w ∈ zb_all, w.before args s = true) : ∃ D : va_G, ∀ (c : Nat) (q : vw_C), vwCl[c]? = some q → u_Kn s q.1 q.2.1 q.2.2 (D.1 c) (D.2 c) := by
  have key : ∀ c : Nat, ∃ x : ClassId × (Nat → Nat), ∀ q : vw_C, vwCl[c]? = some q → u_Kn s q.1 q.2.1 q.2.2 x.1 x.2 := by
    intro c
    by_cases hc : c < 13
    · have h1 : ∃ own index, zb_mk own index c := by
        have : c = 0 ∨ c = 1 ∨ c = 2 ∨ c = 3 ∨ c = 4 ∨ c = 5 ∨ c = 6 ∨ c = 7 ∨ c = 8 ∨ c = 9 ∨ c = 10 ∨ c = 11 ∨ c = 12 := by omega
        rcases this with rfl | rfl | rfl | rfl | rfl | rfl | rfl | rfl | rfl | rfl | rfl | rfl | rfl
        · exact ⟨_, _, mk_X11_52⟩
        · exact ⟨_, _, mk_X11_15⟩
        · exact ⟨_, _, mk_X11_89⟩
        · exact ⟨_, _, mk_X11_71⟩
        · exact ⟨_, _, mk_X11_9⟩
        · exact ⟨_, _, mk_X11_64⟩
        · exact ⟨_, _, mk_X11_22⟩
        · exact ⟨_, _, mk_X11_29⟩
        · exact ⟨_, _, mk_X11_36⟩
        · exact ⟨_, _, mk_X11_45⟩
        · exact ⟨_, _, mk_X11_78⟩
        · exact ⟨_, _, mk_L_7⟩
        · exact ⟨_, _, mk_L_10⟩
      obtain ⟨own, index, h1⟩ := h1
      obtain ⟨q, cC, iS, e, hk⟩ := zb_know1 hts h1
      refine ⟨(cC, iS), fun q' hq' => ?_⟩
      have e2 : q = q' := Option.some.inj (e.symm.trans hq')
      subst e2
      exact hk
    · refine ⟨(default, fun _ => 0), fun q hq => absurd (List.getElem?_eq_some_iff.mp hq).1 (by simpa using hc)⟩
  exact ⟨(fun c => (Classical.choose (key c)).1, fun c => (Classical.choose (key c)).2), fun c q hq => Classical.choose_spec (key c) q hq⟩
theorem zb_over_at {s : State} {args : Array Value} (hts : ∀ w ∈ lw_tbl, w.before args s = true) : ∀ C ∈ zb_over, va_AO C s := by
  intro C hC
  have h : Cond.arrayOver (.object C) ∈ lw_tbl := by
    simp only [zb_over, List.mem_cons, List.not_mem_nil, or_false] at hC
    rcases hC with rfl | rfl | rfl | rfl
    · exact List.mem_of_getElem? (i := 63) (by decide +kernel)
    · exact List.mem_of_getElem? (i := 188) (by decide +kernel)
    · exact List.mem_of_getElem? (i := 400) (by decide +kernel)
    · exact List.mem_of_getElem? (i := 392) (by decide +kernel)
  exact va_AO.of (hts _ h)
theorem zb_tys_know {s : State} {args : Array Value} (hts : ∀ w ∈ zb_all, w.before args s = true) (hov : ∀ C ∈ zb_over, va_AO C s) : ∃ cy : Nat → ClassId, ∀ t, t < 7 → ArrOfT s (cy t) (zb_kt t) ∧ va_RA s (cy t) (zb_kt t) := by
  have prim : ∀ ty : FieldType, (∀ C, ty ≠ .object C) → (Cond.arrayClass ty).before args s = true → ∃ cA : ClassId, ArrOfT s cA ty ∧ va_RA s cA ty := by
    intro ty hno h
    obtain ⟨cA, kA, comp, h1, h2, h3⟩ := Cond.arrayClass_spec h
    refine ⟨cA, fun n z => ⟨(fun k h => by cases h), kA, h2, comp, h3⟩, ?_⟩
    unfold va_RA
    split
    · rename_i C
      exact absurd rfl (hno C)
    · exact h1
  have refs : ∀ C : String, va_AO C s → ∃ cA : ClassId, ArrOfT s cA (.object C) ∧ va_RA s cA (.object C) := by
    intro C h
    obtain ⟨comp, cA, kA, h1, h2, h3, h4, h5⟩ := Cond.arrayOver_spec h
    exact ⟨cA, fun n z => ⟨(fun k h => by cases h), kA, h3, comp, h4⟩, kA, comp, h3, h4, h1, h5⟩
  have key : ∀ t : Nat, ∃ cA : ClassId, t < 7 → ArrOfT s cA (zb_kt t) ∧ va_RA s cA (zb_kt t) := by
    intro t
    have go : ∀ x : FieldType, zb_kt t = x → (∃ cA : ClassId, ArrOfT s cA x ∧ va_RA s cA x) → ∃ cA : ClassId, t < 7 → ArrOfT s cA (zb_kt t) ∧ va_RA s cA (zb_kt t) := by
      intro x hx ⟨cA, h⟩
      exact ⟨cA, fun _ => by rw [hx]; exact h⟩
    by_cases ht : t < 7
    · have : t = 0 ∨ t = 1 ∨ t = 2 ∨ t = 3 ∨ t = 4 ∨ t = 5 ∨ t = 6 := by omega
      rcases this with rfl | rfl | rfl | rfl | rfl | rfl | rfl
      · exact go _ rfl (prim .int (fun C h => by cases h) (hts _ ac_int))
      · exact go _ rfl (prim .long (fun C h => by cases h) (hts _ ac_long))
      · exact go _ rfl (prim .boolean (fun C h => by cases h) (hts _ ac_boolean))
      · exact go _ rfl (refs RX4 (hov _ (by decide +kernel)))
      · exact go _ rfl (refs RX5 (hov _ (by decide +kernel)))
      · exact go _ rfl (refs RX3 (hov _ (by decide +kernel)))
      · exact go _ rfl (refs RX10 (hov _ (by decide +kernel)))
    · exact ⟨default, fun h => absurd h ht⟩
  exact ⟨fun t => Classical.choose (key t), fun t ht => Classical.choose_spec (key t) ht⟩
theorem zb_K_at {s : State} {args : Array Value} (hts : ∀ w ∈ lw_tbl, w.before args s = true) : ∃ (D : va_G) (cy : Nat → ClassId), va_K D vwCl (zb_tys cy) s ∧ zb_tb s := by
  have h1 : ∀ w ∈ zb_all, w.before args s = true := fun w hw => hts w (List.mem_filter.mp hw).1
  have hov := zb_over_at hts
  obtain ⟨D, hD⟩ := zb_know h1
  obtain ⟨cy, hcy⟩ := zb_tys_know h1 hov
  refine ⟨D, cy, ⟨hD, fun k q hk => ?_⟩, fun w hw => ?_, hov⟩
  · have hk7 : k < 7 := by
      have := (List.getElem?_eq_some_iff.mp hk).1
      simpa [zb_tys] using this
    rw [zb_tys_at cy hk7] at hk
    cases hk
    exact hcy k hk7
  · obtain ⟨h2, h3⟩ := List.mem_filter.mp hw
    refine va_Nw.of (by cases w <;> simp [zb_isNest] at h3; rfl) (hts w (List.mem_append_right _ h2))
section ZBLW
variable {C : zb_C} {G : zb_G} {d d' na index K N k n : Nat} {E : zb_E} {F : zb_F} {g : zb_K} {pc : Nat} {L : List (Nat × zb_V)} {st As As' : List zb_V} {m : zb_M} {Q Q' : Int → zb_M → Prop} {Qp : Int → Prop}
theorem zb_cVL {ci : Nat} {a : Int} (hd : decode F.2.2.1 pc = .ok (.invokevirtual index, 3)) (hl : zb_lkV F.1 index g.1) (hg : zb_gd g.1 na) (hn : As.length = na) (hrev : As.reverse = As') (ha : zb_is E.1 a ci) (hci : ∃ q : vw_C, vwCl[ci]? = some q ∧ q.1 = g.1.2.1.cls) (hT : zb_T g d' ((2, a) :: As) E m Q') (hW : zb_WT E) (hF : zb_FIN E m) (hA : zb_args E.1 g.2 ((2, a) :: As)) (hdd : d' + 1 ≤ d) (hcs : zb_cs st ≤ 8) (hkK : k ≤ K) (hnN : n ≤ N)
    (kk : ∀ (r : Int) (m' : zb_M), zb_FIN E m' → Q' r m' → zb_WP (G, C, d, K, N, zb_q E Q) F (pc + 3) L (zb_rv g.1.2.2.2.2 r ++ st) E.1 m' k n) : zb_WP (G, C, d, K, N, zb_q E Q) F pc L (As' ++ (2, a) :: st) E.1 m k n :=
  zb_callV (k' := 0) (n' := 0) hd hl hg hn hrev ha hci (hT hW hF hA) hdd hkK hnN hcs (fun r S' m' q => by
    obtain ⟨rfl, q2, q3⟩ := q
    exact kk r m' q2 q3)
theorem zb_cVLp {ci : Nat} {a : Int} (hd : decode F.2.2.1 pc = .ok (.invokevirtual index, 3)) (hl : zb_lkV F.1 index g.1) (hg : zb_gd g.1 na) (hn : As.length = na) (hrev : As.reverse = As') (ha : zb_is E.1 a ci) (hci : ∃ q : vw_C, vwCl[ci]? = some q ∧ q.1 = g.1.2.1.cls) (hT : zb_Tp g d' ((2, a) :: As) E m Qp) (hW : zb_WT E) (hF : zb_FIN E m) (hA : zb_args E.1 g.2 ((2, a) :: As)) (hdd : d' + 1 ≤ d) (hcs : zb_cs st ≤ 8) (hkK : k ≤ K) (hnN : n ≤ N)
    (kk : ∀ (r : Int), Qp r → zb_WP (G, C, d, K, N, zb_q E Q) F (pc + 3) L (zb_rv g.1.2.2.2.2 r ++ st) E.1 m k n) : zb_WP (G, C, d, K, N, zb_q E Q) F pc L (As' ++ (2, a) :: st) E.1 m k n :=
  zb_cVL hd hl hg hn hrev ha hci hT hW hF hA hdd hcs hkK hnN (fun r m' _ q => by
    obtain ⟨rfl, q2⟩ := q
    exact kk r q2)
theorem zb_rZL {r : Int} (hd : decode F.2.2.1 pc = .ok (.ireturn, 1)) (hr : F.2.2.2.2 = some .boolean) (hF : zb_FIN E m) (hz : r = 0 ∨ r = 1) (hkK : k ≤ K) (hnN : n ≤ N) (hQ : Q r m) : zb_WP (G, C, d, K, N, zb_q E Q) F pc L [(0, r)] E.1 m k n := zb_zreturn hd hr hz hkK hnN ⟨rfl, hF, hQ⟩
end ZBLW
