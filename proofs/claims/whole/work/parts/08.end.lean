/-! ===== returns, Object's constructor, arraycopy, the script ===== -/
section ZBE
variable {C : zb_C} {G : zb_G} {d K N : Nat} {Q Q' : Int → zb_S → zb_M → Prop} {F g : zb_F} {pc : Nat} {L : List (Nat × zb_V)} {st : List zb_V} {S : zb_S} {m : zb_M} {k n k' n' : Nat}
theorem zb_return {ins : Instr} {r : Int} (hd : decode F.2.2.1 pc = .ok (ins, 1)) (hr : zb_ret F.2.2.2.2 ins st r) (hk : k ≤ K) (hn : n ≤ N) (hQ : Q r S m) : zb_WP (G, C, d, K, N, Q) F pc L st S m k n := by
  obtain ⟨p, l, e, R, s, mi, args, below, meth, c, Z⟩ := C
  intro hC H locs ls hH hlo hL hLo hst
  have hC' := hC
  obtain ⟨-, -, -, -, -, -, -, -, -, -, -, -, hret⟩ := hC'
  exact hret S m H locs ls pc ins st r k n hH hlo hr hst hd hk hn hQ
theorem zb_vreturn (hd : decode F.2.2.1 pc = .ok (.return_, 1)) (hr : F.2.2.2.2 = none) (hk : k ≤ K) (hn : n ≤ N) (hQ : Q 0 S m) : zb_WP (G, C, d, K, N, Q) F pc L [] S m k n := zb_return hd (Or.inl ⟨hr, rfl, rfl, rfl⟩) hk hn hQ
theorem zb_ireturn {r : Int} (hd : decode F.2.2.1 pc = .ok (.ireturn, 1)) (hr : F.2.2.2.2 = some .int) (hk : k ≤ K) (hn : n ≤ N) (hQ : Q r S m) : zb_WP (G, C, d, K, N, Q) F pc L [(0, r)] S m k n := zb_return hd (Or.inr (Or.inl ⟨hr, rfl, rfl⟩)) hk hn hQ
theorem zb_zreturn {r : Int} (hd : decode F.2.2.1 pc = .ok (.ireturn, 1)) (hr : F.2.2.2.2 = some .boolean) (hz : r = 0 ∨ r = 1) (hk : k ≤ K) (hn : n ≤ N) (hQ : Q r S m) : zb_WP (G, C, d, K, N, Q) F pc L [(0, r)] S m k n := zb_return hd (Or.inr (Or.inr (Or.inl ⟨hr, rfl, rfl, hz⟩))) hk hn hQ
theorem zb_lreturn {r : Int} (hd : decode F.2.2.1 pc = .ok (.lreturn, 1)) (hr : F.2.2.2.2 = some .long) (hk : k ≤ K) (hn : n ≤ N) (hQ : Q r S m) : zb_WP (G, C, d, K, N, Q) F pc L [(1, r)] S m k n := zb_return hd (Or.inr (Or.inr (Or.inr (Or.inl ⟨hr, rfl, rfl⟩)))) hk hn hQ
theorem zb_areturn {r : Int} (hd : decode F.2.2.1 pc = .ok (.areturn, 1)) (hr : (∃ nm, F.2.2.2.2 = some (.object nm)) ∨ ∃ t, F.2.2.2.2 = some (.array t)) (hz : 1 ≤ r) (hk : k ≤ K) (hn : n ≤ N) (hQ : Q r S m) : zb_WP (G, C, d, K, N, Q) F pc L [(2, r)] S m k n := zb_return hd (Or.inr (Or.inr (Or.inr (Or.inr ⟨hr, rfl, rfl, hz⟩)))) hk hn hQ
def zb_lkO (own : String) (index : Nat) : Prop := Cond.methodLink own index Lib.objectInit ∈ zb_all ∧ Cond.instanceMethod Lib.objectInit ∈ zb_all ∧ Cond.code Lib.objectInit ⟨#[0xb1]⟩ 1 none ∈ zb_all
theorem zb_objI {index : Nat} {a : Int} (hd : decode F.2.2.1 pc = .ok (.invokespecial index, 3)) (hl : zb_lkO F.1 index) (h1 : 1 ≤ a) (hdd : 1 ≤ d) (hcs : zb_cs st ≤ 8) (kk : zb_WP (G, C, d, K, N, Q) F (pc + 3) L st S m k n) : zb_WP (G, C, d, K, N, Q) F pc L ((2, a) :: st) S m k n := by
  obtain ⟨p, l, e, R, s, mi, args, below, meth, c, Z⟩ := C
  intro hC H locs ls hH hlo hL hLo hst
  have hC' := hC
  obtain ⟨hx, hb, hml, hown, hts, hK, htb, hini, hdR, hlR, hKR, hNR, -⟩ := hC'
  rw [List.map_cons, zb_cvr h1]
  exact W.objInit hx hb hown (hts _ hl.1) (hts _ hl.2.1) (hts _ hl.2.2) rfl (hL.1.trans hml.symm) rfl hd (by omega) (by
    show 2 * 0 + _ + 12 ≤ R.locals
    rw [zb_cs_eq]
    omega) (kk hC H locs ls hH hlo hL hLo (zb_okt hst))
def zb_cmp (x y : Int) : Int := if y < x then 1 else if x = y then 0 else -1
theorem zb_ltL {x y : Int} (hx : zb_inL x) (hy : zb_inL y) : Int64.ofInt x < Int64.ofInt y ↔ x < y := by
  rw [Int64.lt_iff_toInt_lt, zb_toI64 hx, zb_toI64 hy]
theorem zb_eqL {x y : Int} (hx : zb_inL x) (hy : zb_inL y) : Int64.ofInt x = Int64.ofInt y ↔ x = y := by
  rw [← Int64.toInt_inj, zb_toI64 hx, zb_toI64 hy]
theorem zb_lcmp {X : zb_X} {x y : Int} (hd : decode F.2.2.1 pc = .ok (.lcmp, 1)) (kk : zb_WP X F (pc + 1) L ((0, zb_cmp x y) :: st) S m k n) : zb_WP X F pc L ((1, y) :: (1, x) :: st) S m k n :=
  zb_pure (fun _ h => zb_oki (by unfold zb_cmp zb_inI; split <;> (try split) <;> omega) (zb_okt (zb_okt h))) (fun G p l e R s mi args below meth c Z H locs ls hx hb _ _ _ _ ho w => W.lcmp (x := Int64.ofInt x) (y := Int64.ofInt y) hx hb hd (by
    have h1 : zb_inL y := zb_okh ho
    have h2 : zb_inL x := zb_okh (zb_okt ho)
    have e : lg_cmp (Int64.ofInt x) (Int64.ofInt y) = Int32.ofInt (zb_cmp x y) := by
      unfold lg_cmp zb_cmp
      by_cases q1 : y < x
      · rw [if_pos q1, if_pos ((zb_ltL h1 h2).mpr q1)]
        rfl
      · rw [if_neg q1, if_neg (fun z => q1 ((zb_ltL h1 h2).mp z))]
        by_cases q2 : x = y
        · rw [if_pos q2, if_pos ((zb_eqL h2 h1).mpr q2)]
          rfl
        · rw [if_neg q2, if_neg (fun z => q2 ((zb_eqL h2 h1).mp z))]
          rfl
    rw [e]
    exact w)) kk
/-- a part of a row is copied -/
def zb_cp (m : zb_M) (a0 sp a dp len : Int) : zb_M := fun b j => if b = a ∧ dp ≤ j ∧ j < dp + len then m a0 (sp + (j - dp)) else m b j
def zb_lkA (own : String) (index : Nat) : Prop := Cond.methodLink own index arraycopyName ∈ zb_all ∧ Cond.native arraycopyName ∈ zb_all ∧ Cond.static arraycopyName ∈ zb_all ∧ Cond.initialized "java/lang/System" ∈ zb_all
theorem zb_arrcopy {index : Nat} {a0 a sp dp len : Int} (hd : decode F.2.2.1 pc = .ok (.invokestatic index, 3)) (hl : zb_lkA F.1 index) (ha0 : zb_is S a0 13) (ha : zb_is S a 13) (h1 : 0 ≤ sp) (h2 : 0 ≤ dp) (h3 : 0 ≤ len) (h4 : sp + len ≤ zb_len S a0) (h5 : dp + len ≤ zb_len S a) (hdd : 1 ≤ d) (hcs : zb_cs st ≤ 8) (kk : zb_WP (G, C, d, K, N, Q) F (pc + 3) L st S (zb_cp m a0 sp a dp len) k n) : zb_WP (G, C, d, K, N, Q) F pc L ((0, len) :: (0, dp) :: (2, a) :: (0, sp) :: (2, a0) :: st) S m k n := by
  obtain ⟨p, l, e, R, s, mi, args, below, meth, c, Z⟩ := C
  intro hC H locs ls hH hlo hL hLo hst
  have hC' := hC
  obtain ⟨hx, hb, hml, hown, hts, hK, htb, hini, hdR, hlR, hKR, hNR, -⟩ := hC'
  obtain ⟨a1, a2, a3⟩ := ha
  obtain ⟨b1, b2, b3⟩ := ha0
  have hc1 := hH.2.1 a a1 a2
  rw [zb_ent_i G a3] at hc1
  have hc0 := hH.2.1 a0 b1 b2
  rw [zb_ent_i G b3] at hc0
  have il : zb_inI len := zb_okh hst
  have id : zb_inI dp := zb_okh (zb_okt hst)
  have is : zb_inI sp := zb_okh (zb_okt (zb_okt (zb_okt hst)))
  obtain ⟨-, k0, hk0, cm0, hkk0⟩ := (hK.2 0 _ (zb_tys_at _ (by omega))).1 (S.2 a0).2 (fun j => .int (Int32.ofInt (m a0 j)))
  obtain ⟨-, k1, hk1, cm1, hkk1⟩ := (hK.2 0 _ (zb_tys_at _ (by omega))).1 (S.2 a).2 (fun j => .int (Int32.ofInt (m a j)))
  have nn : ∀ z : Int, zb_inI z → 0 ≤ z → ¬ Int32.ofInt z < 0 := fun z hz h q => by
    have := (zb_ltI hz zb_in0).mp q
    omega
  have e4 : sp.toNat + len.toNat ≤ (S.2 a0).2 := by unfold zb_len at h4; omega
  have e4' : (Int32.ofInt sp).toNatClampNeg + (Int32.ofInt len).toNatClampNeg ≤ (S.2 a0).2 := by rw [zb_c32 is, zb_c32 il]; exact e4
  have e5 : dp.toNat + len.toNat ≤ (S.2 a).2 := by unfold zb_len at h5; omega
  have hnfw : nativeFrameWords "java/lang/System" "arraycopy" 5 + 11 + 8 ≤ 64 * 2 := by decide +kernel
  simp only [List.map_cons, zb_cvr a1, zb_cvr b1]
  intro T hT Y
  obtain ⟨vm', Y', step⟩ := Y.arraycopy hx hown (hts _ hl.1) (hts _ hl.2.1) (hts _ hl.2.2.1) (hts _ hl.2.2.2) (src := zb_ad G a0) (dst := zb_ad G a) (cs := vp_cell (G.2.2.2.2 0) ((S.2 a0).2, .inl (fun j : Nat => Int32.ofInt (m a0 j)))) (cd := vp_cell (G.2.2.2.2 0) ((S.2 a).2, .inl (fun j : Nat => Int32.ofInt (m a j)))) (srcPos := Int32.ofInt sp) (destPos := Int32.ofInt dp) (n := Int32.ofInt len) (by rw [hT]; exact hc0) (by rw [hT]; exact hc1)
    (fun _ h => by cases h) (fun _ h => by cases h) (fun h => by cases h) (fun h => by cases h) hk0 hk1 hkk0 hkk1 (by rfl) (nn _ is h1) (nn _ id h2) (nn _ il h3)
    (by rw [zb_toI is, zb_toI il]; show ¬ _ > ((arrV _ _ _).slots.size : Int); rw [arrV_size]; unfold zb_len at h4; omega)
    (by rw [zb_toI id, zb_toI il]; show ¬ _ > ((arrV _ _ _).slots.size : Int); rw [arrV_size]; unfold zb_len at h5; omega)
    (fun vm₁ _ i hi => by
      rw [zb_c32 il] at hi
      have e : (vp_cell (G.2.2.2.2 0) ((S.2 a0).2, .inl (fun j : Nat => Int32.ofInt (m a0 j)))).slots.getD ((Int32.ofInt sp).toNatClampNeg + i) .null = .int (Int32.ofInt (m a0 ((sp.toNat + i : Nat) : Int))) := by
        show (arrV (G.2.2.2.2 0) (S.2 a0).2 (fun j => .int (Int32.ofInt (m a0 j)))).slots.getD _ _ = _
        rw [zb_c32 is, Array.getD_eq_getD_getElem?, arrV_read _ _ (by omega)]
        rfl
      refine ⟨?_, ?_⟩
      · rw [e]
        rfl
      · rw [e]
        exact trivial)
    (g := F0 mi pc ls (.int (Int32.ofInt len) :: .int (Int32.ofInt dp) :: .ref (zb_ad G a) :: .int (Int32.ofInt sp) :: .ref (zb_ad G a0) :: st.map (zb_cv G))) rfl (hL.1.trans hml.symm) (rest := st.map (zb_cv G)) rfl (by rw [hb]; exact hd) (by omega) (by
      show 2 * 0 + _ + _ ≤ _
      rw [zb_cs_eq]
      omega)
  have e1 : copied (vp_cell (G.2.2.2.2 0) ((S.2 a0).2, .inl (fun j : Nat => Int32.ofInt (m a0 j)))) (vp_cell (G.2.2.2.2 0) ((S.2 a).2, .inl (fun j : Nat => Int32.ofInt (m a j)))) (Int32.ofInt sp) (Int32.ofInt dp) (Int32.ofInt len) = vp_cell (G.2.2.2.2 0) ((S.2 a).2, .inl (va_cpy (fun j : Nat => Int32.ofInt (m a0 j)) (fun j : Nat => Int32.ofInt (m a j)) (Int32.ofInt sp).toNatClampNeg (Int32.ofInt dp).toNatClampNeg (Int32.ofInt len).toNatClampNeg)) := va_copied (fun z => .int z) (G.2.2.2.2 0) (G.2.2.2.2 0) (fun j : Nat => Int32.ofInt (m a0 j)) (fun j : Nat => Int32.ofInt (m a j)) e4'
  rw [zb_c32 is, zb_c32 id, zb_c32 il] at e1
  have e6 : va_cpy (fun j : Nat => Int32.ofInt (m a0 j)) (fun j : Nat => Int32.ofInt (m a j)) sp.toNat dp.toNat len.toNat = fun j : Nat => Int32.ofInt (zb_cp m a0 sp a dp len a j) := by
    funext j
    unfold va_cpy zb_cp
    by_cases q : dp.toNat ≤ j ∧ j < dp.toNat + len.toNat
    · rw [if_pos q, if_pos ⟨rfl, by omega, by omega⟩]
      have e9 : ((sp.toNat + (j - dp.toNat) : Nat) : Int) = sp + ((j : Int) - dp) := by omega
      show Int32.ofInt (m a0 ((sp.toNat + (j - dp.toNat) : Nat) : Int)) = _
      rw [e9]
    · rw [if_neg q, if_neg (by rintro ⟨-, z1, z2⟩; exact q ⟨by omega, by omega⟩)]
  rw [e6] at e1
  have hlt : zb_ad G a < H.size := (Array.getElem?_eq_some_iff.mp hc1).1
  have hheap : ((T.setVm vm').setCell (zb_ad G a) (copied (vp_cell (G.2.2.2.2 0) ((S.2 a0).2, .inl (fun j : Nat => Int32.ofInt (m a0 j)))) (vp_cell (G.2.2.2.2 0) ((S.2 a).2, .inl (fun j : Nat => Int32.ofInt (m a j)))) (Int32.ofInt sp) (Int32.ofInt dp) (Int32.ofInt len))).heap = H.setIfInBounds (zb_ad G a) (vp_cell (G.2.2.2.2 0) ((S.2 a).2, .inl (fun j : Nat => Int32.ofInt (zb_cp m a0 sp a dp len a j)))) := by rw [← hT, ← e1]; rfl
  have oq : ∀ q : Nat, q ≠ zb_ad G a → (H.setIfInBounds (zb_ad G a) (vp_cell (G.2.2.2.2 0) ((S.2 a).2, .inl (fun j : Nat => Int32.ofInt (zb_cp m a0 sp a dp len a j)))))[q]? = H[q]? := fun q hq => by simp [Array.getElem?_setIfInBounds, Ne.symm hq]
  have hH' : zb_H G S (zb_cp m a0 sp a dp len) (H.setIfInBounds (zb_ad G a) (vp_cell (G.2.2.2.2 0) ((S.2 a).2, .inl (fun j : Nat => Int32.ofInt (zb_cp m a0 sp a dp len a j))))) := by
    refine zb_H_set hH a1 ?_ (by simp) oq (fun b hb => ?_) (fun q => ?_)
    · rw [zb_ent_i G a3]
      show (H.setIfInBounds (zb_ad G a) _)[zb_ad G a]? = some _
      simp [Array.getElem?_setIfInBounds, hlt]
    · funext j
      unfold zb_cp
      rw [if_neg (fun z => hb z.1)]
    · unfold zb_cp
      have ca := hH.2.2.2.1 a q
      have c0 := hH.2.2.2.1 a0 (sp + (q - dp))
      unfold zb_st at ca c0 ⊢
      rw [a3] at ca ⊢
      rw [b3] at c0
      have ca : zb_inI (m a q) := ca
      have c0 : zb_inI (m a0 (sp + (q - dp))) := c0
      show zb_inI _
      split
      · exact c0
      · exact ca
  obtain ⟨t, g1, g2⟩ := kk hC _ _ ls hH' (fun q hq => by
      rcases List.mem_append.mp hq with h | h
      · exact hlo q h
      · obtain ⟨z, -, hz⟩ := List.mem_map.mp h
        rw [← hz]
        exact Nat.le_add_right _ _) hL hLo (zb_okt (zb_okt (zb_okt (zb_okt (zb_okt hst))))) _ hheap Y'
  exact ⟨t, step t g1, g2⟩
/-- the script, where the walk is the law's own -/
def zb_scr (G : zb_G) (C : zb_C) (Ln : Nat) (xs : Nat → Int32) : Prop := va_X G.2.1 Ln xs C.2.2.2.2.1 G.2.2.1 ∧ G.2.1 < G.1
theorem zb_sload {x : Int} {i : Int} {Ln : Nat} {xs : Nat → Int32} (hs : zb_scr G C Ln xs) (hd : decode F.2.2.1 pc = .ok (.iaload, 1)) (h0 : 0 ≤ i) (hi : i < Ln) (kk : zb_WP (G, C, d, K, N, Q) F (pc + 1) L ((0, (xs i.toNat).toInt) :: st) S m k n) : zb_WP (G, C, d, K, N, Q) F pc L ((0, i) :: (3, x) :: st) S m k n := by
  obtain ⟨p, l, e, R, s, mi, args, below, meth, c, Z⟩ := C
  intro hC H locs ls hH hlo hL hLo hst
  have hC' := hC
  obtain ⟨hx, hb, -⟩ := hC'
  obtain ⟨hX, hbl⟩ := hs
  have ii : zb_inI i := zb_okh hst
  have hS : va_S (fun q => G.1 ≤ q) G.2.2.1 H locs := ⟨by have := hH.1; have := hH.2.2.2.2; omega, fun q h1 h2 => hH.2.2.1 q (by have := hH.2.2.2.2; omega), hlo⟩
  have hw := kk hC H locs ls hH hlo hL hLo (zb_oki (zb_inT _) (zb_okt (zb_okt hst)))
  refine va_sld (A := fun q => G.1 ≤ q) (i := Int32.ofInt i) hx hb hX (by have := hH.2.2.2.2; show G.2.1 < G.2.2.1.size; omega) (Nat.not_le.mpr hbl) hS (zb_vpin ii h0 hi) hd ?_
  rw [zb_c32 ii]
  have e2 : xs i.toNat = Int32.ofInt (xs i.toNat).toInt := (Int32.ofInt_toInt _).symm
  rw [e2]
  exact hw
theorem zb_slen {x : Int} {Ln : Nat} {xs : Nat → Int32} (hs : zb_scr G C Ln xs) (hd : decode F.2.2.1 pc = .ok (.arraylength, 1)) (hL4 : Ln ≤ 4096) (kk : zb_WP (G, C, d, K, N, Q) F (pc + 1) L ((0, (Ln : Int)) :: st) S m k n) : zb_WP (G, C, d, K, N, Q) F pc L ((3, x) :: st) S m k n := by
  obtain ⟨p, l, e, R, s, mi, args, below, meth, c, Z⟩ := C
  intro hC H locs ls hH hlo hL hLo hst
  have hC' := hC
  obtain ⟨hx, hb, -⟩ := hC'
  obtain ⟨hX, hbl⟩ := hs
  have hS : va_S (fun q => G.1 ≤ q) G.2.2.1 H locs := ⟨by have := hH.1; have := hH.2.2.2.2; omega, fun q h1 h2 => hH.2.2.1 q (by have := hH.2.2.2.2; omega), hlo⟩
  have hw := kk hC H locs ls hH hlo hL hLo (zb_oki ⟨by omega, by omega⟩ (zb_okt hst))
  refine va_slen (A := fun q => G.1 ≤ q) hx hb hX (by have := hH.2.2.2.2; show G.2.1 < G.2.2.1.size; omega) (Nat.not_le.mpr hbl) hS hd ?_
  rw [zb_n32]
  exact hw
end ZBE
