/-! ===== branches ===== -/
section ZBB
variable {X : zb_X} {F : zb_F} {pc : Nat} {L : List (Nat × zb_V)} {st : List zb_V} {S : zb_S} {m : zb_M} {k n : Nat}
theorem zb_br {cond : Prop} {pt pf : Nat} {st' : List zb_V} (hs : (∀ v ∈ st, zb_ok v.1 v.2) → ∀ v ∈ st', zb_ok v.1 v.2)
    (h : ∀ (G : zb_G) (p : Program) (l : Launch) (e : Env) (R : Room) (s : State) (mi : MethodId) (args : Array Value) (below : List Frame) (meth : Method) (c : Code) (Z : State → Prop) (H : Heap) (locs : List Loc) (ls : Array Slot),
      p.tables.exec = Jvm.exec → c.code = F.2.2.1 → (∀ v ∈ st, zb_ok v.1 v.2) →
      (cond → W p l e R s mi args below meth c H locs k n Z (F0 mi pt ls (st'.map (zb_cv G)))) → (¬ cond → W p l e R s mi args below meth c H locs k n Z (F0 mi pf ls (st'.map (zb_cv G)))) → W p l e R s mi args below meth c H locs k n Z (F0 mi pc ls (st.map (zb_cv G))))
    (kt : cond → zb_WP X F pt L st' S m k n) (kf : ¬ cond → zb_WP X F pf L st' S m k n) : zb_WP X F pc L st S m k n := by
  obtain ⟨G, ⟨p, l, e, R, s, mi, args, below, meth, c, Z⟩, d, K, N, Q⟩ := X
  intro hC H locs ls hH hlo hL hLo hst
  have hC' := hC
  obtain ⟨hx, hb, hml, hown, hts, -⟩ := hC'
  exact h G p l e R s mi args below meth c Z H locs ls hx hb hst (fun q => kt q hC H locs ls hH hlo hL hLo (hs hst)) (fun q => kf q hC H locs ls hH hlo hL hLo (hs hst))
theorem zb_not2 {a b : Prop} (h : a ↔ b) : ¬ a ↔ ¬ b := by rw [h]
section
variable {x y : Int} {off : Int} {tgt : Nat}
theorem zb_icmp_eq (hd : decode F.2.2.1 pc = .ok (.if_icmp .eq off, 3)) (ht : (pc : Int) + off = (tgt : Int)) (kt : x = y → zb_WP X F tgt L st S m k n) (kf : ¬ x = y → zb_WP X F (pc + 3) L st S m k n) : zb_WP X F pc L ((0, y) :: (0, x) :: st) S m k n :=
  zb_br (fun h => zb_okt (zb_okt h)) (fun G p l e R s mi args below meth c Z H locs ls hx hb ho wt wf => lv_icmp_eq (x := Int32.ofInt x) (y := Int32.ofInt y) hx hb hd ht (fun q => wt ((zb_eqI (zb_okh (zb_okt ho)) (zb_okh ho)).mp q)) (fun q => wf (fun z => q ((zb_eqI (zb_okh (zb_okt ho)) (zb_okh ho)).mpr z)))) kt kf
theorem zb_icmp_ne (hd : decode F.2.2.1 pc = .ok (.if_icmp .ne off, 3)) (ht : (pc : Int) + off = (tgt : Int)) (kt : ¬ x = y → zb_WP X F tgt L st S m k n) (kf : x = y → zb_WP X F (pc + 3) L st S m k n) : zb_WP X F pc L ((0, y) :: (0, x) :: st) S m k n :=
  zb_br (cond := x = y) (fun h => zb_okt (zb_okt h)) (fun G p l e R s mi args below meth c Z H locs ls hx hb ho wt wf => lv_icmp_ne (x := Int32.ofInt x) (y := Int32.ofInt y) hx hb hd ht (fun q => wf (fun z => q ((zb_eqI (zb_okh (zb_okt ho)) (zb_okh ho)).mpr z))) (fun q => wt ((zb_eqI (zb_okh (zb_okt ho)) (zb_okh ho)).mp q))) kf kt
theorem zb_icmp_lt (hd : decode F.2.2.1 pc = .ok (.if_icmp .lt off, 3)) (ht : (pc : Int) + off = (tgt : Int)) (kt : x < y → zb_WP X F tgt L st S m k n) (kf : ¬ x < y → zb_WP X F (pc + 3) L st S m k n) : zb_WP X F pc L ((0, y) :: (0, x) :: st) S m k n :=
  zb_br (fun h => zb_okt (zb_okt h)) (fun G p l e R s mi args below meth c Z H locs ls hx hb ho wt wf => lv_icmp_lt (x := Int32.ofInt x) (y := Int32.ofInt y) hx hb hd ht (fun q => wt ((zb_ltI (zb_okh (zb_okt ho)) (zb_okh ho)).mp q)) (fun q => wf (fun z => q ((zb_ltI (zb_okh (zb_okt ho)) (zb_okh ho)).mpr z)))) kt kf
theorem zb_icmp_ge (hd : decode F.2.2.1 pc = .ok (.if_icmp .ge off, 3)) (ht : (pc : Int) + off = (tgt : Int)) (kt : y ≤ x → zb_WP X F tgt L st S m k n) (kf : ¬ y ≤ x → zb_WP X F (pc + 3) L st S m k n) : zb_WP X F pc L ((0, y) :: (0, x) :: st) S m k n :=
  zb_br (fun h => zb_okt (zb_okt h)) (fun G p l e R s mi args below meth c Z H locs ls hx hb ho wt wf => lv_icmp_ge (x := Int32.ofInt x) (y := Int32.ofInt y) hx hb hd ht (fun q => wt ((zb_leI (zb_okh ho) (zb_okh (zb_okt ho))).mp q)) (fun q => wf (fun z => q ((zb_leI (zb_okh ho) (zb_okh (zb_okt ho))).mpr z)))) kt kf
theorem zb_icmp_gt (hd : decode F.2.2.1 pc = .ok (.if_icmp .gt off, 3)) (ht : (pc : Int) + off = (tgt : Int)) (kt : y < x → zb_WP X F tgt L st S m k n) (kf : ¬ y < x → zb_WP X F (pc + 3) L st S m k n) : zb_WP X F pc L ((0, y) :: (0, x) :: st) S m k n :=
  zb_br (fun h => zb_okt (zb_okt h)) (fun G p l e R s mi args below meth c Z H locs ls hx hb ho wt wf => lv_icmp_gt (x := Int32.ofInt x) (y := Int32.ofInt y) hx hb hd ht (fun q => wt ((zb_ltI (zb_okh ho) (zb_okh (zb_okt ho))).mp q)) (fun q => wf (fun z => q ((zb_ltI (zb_okh ho) (zb_okh (zb_okt ho))).mpr z)))) kt kf
theorem zb_icmp_le (hd : decode F.2.2.1 pc = .ok (.if_icmp .le off, 3)) (ht : (pc : Int) + off = (tgt : Int)) (kt : x ≤ y → zb_WP X F tgt L st S m k n) (kf : ¬ x ≤ y → zb_WP X F (pc + 3) L st S m k n) : zb_WP X F pc L ((0, y) :: (0, x) :: st) S m k n :=
  zb_br (fun h => zb_okt (zb_okt h)) (fun G p l e R s mi args below meth c Z H locs ls hx hb ho wt wf => lv_icmp_le (x := Int32.ofInt x) (y := Int32.ofInt y) hx hb hd ht (fun q => wt ((zb_leI (zb_okh (zb_okt ho)) (zb_okh ho)).mp q)) (fun q => wf (fun z => q ((zb_leI (zb_okh (zb_okt ho)) (zb_okh ho)).mpr z)))) kt kf
theorem zb_if_eq (hd : decode F.2.2.1 pc = .ok (.ifCond .eq off, 3)) (ht : (pc : Int) + off = (tgt : Int)) (kt : x = 0 → zb_WP X F tgt L st S m k n) (kf : ¬ x = 0 → zb_WP X F (pc + 3) L st S m k n) : zb_WP X F pc L ((0, x) :: st) S m k n :=
  zb_br (fun h => zb_okt h) (fun G p l e R s mi args below meth c Z H locs ls hx hb ho wt wf => lv_if_eq (x := Int32.ofInt x) hx hb hd ht (fun q => wt ((zb_eqI (zb_okh ho) zb_in0).mp q)) (fun q => wf (fun z => q ((zb_eqI (zb_okh ho) zb_in0).mpr z)))) kt kf
theorem zb_if_ne (hd : decode F.2.2.1 pc = .ok (.ifCond .ne off, 3)) (ht : (pc : Int) + off = (tgt : Int)) (kt : ¬ x = 0 → zb_WP X F tgt L st S m k n) (kf : x = 0 → zb_WP X F (pc + 3) L st S m k n) : zb_WP X F pc L ((0, x) :: st) S m k n :=
  zb_br (cond := x = 0) (fun h => zb_okt h) (fun G p l e R s mi args below meth c Z H locs ls hx hb ho wt wf => lv_if_ne (x := Int32.ofInt x) hx hb hd ht (fun q => wf (fun z => q ((zb_eqI (zb_okh ho) zb_in0).mpr z))) (fun q => wt ((zb_eqI (zb_okh ho) zb_in0).mp q))) kf kt
theorem zb_if_lt (hd : decode F.2.2.1 pc = .ok (.ifCond .lt off, 3)) (ht : (pc : Int) + off = (tgt : Int)) (kt : x < 0 → zb_WP X F tgt L st S m k n) (kf : ¬ x < 0 → zb_WP X F (pc + 3) L st S m k n) : zb_WP X F pc L ((0, x) :: st) S m k n :=
  zb_br (fun h => zb_okt h) (fun G p l e R s mi args below meth c Z H locs ls hx hb ho wt wf => lv_if_lt (x := Int32.ofInt x) hx hb hd ht (fun q => wt ((zb_ltI (zb_okh ho) zb_in0).mp q)) (fun q => wf (fun z => q ((zb_ltI (zb_okh ho) zb_in0).mpr z)))) kt kf
theorem zb_if_ge (hd : decode F.2.2.1 pc = .ok (.ifCond .ge off, 3)) (ht : (pc : Int) + off = (tgt : Int)) (kt : 0 ≤ x → zb_WP X F tgt L st S m k n) (kf : ¬ 0 ≤ x → zb_WP X F (pc + 3) L st S m k n) : zb_WP X F pc L ((0, x) :: st) S m k n :=
  zb_br (fun h => zb_okt h) (fun G p l e R s mi args below meth c Z H locs ls hx hb ho wt wf => lv_if_ge (x := Int32.ofInt x) hx hb hd ht (fun q => wt ((zb_leI zb_in0 (zb_okh ho)).mp q)) (fun q => wf (fun z => q ((zb_leI zb_in0 (zb_okh ho)).mpr z)))) kt kf
theorem zb_if_gt (hd : decode F.2.2.1 pc = .ok (.ifCond .gt off, 3)) (ht : (pc : Int) + off = (tgt : Int)) (kt : 0 < x → zb_WP X F tgt L st S m k n) (kf : ¬ 0 < x → zb_WP X F (pc + 3) L st S m k n) : zb_WP X F pc L ((0, x) :: st) S m k n :=
  zb_br (fun h => zb_okt h) (fun G p l e R s mi args below meth c Z H locs ls hx hb ho wt wf => lv_if_gt (x := Int32.ofInt x) hx hb hd ht (fun q => wt ((zb_ltI zb_in0 (zb_okh ho)).mp q)) (fun q => wf (fun z => q ((zb_ltI zb_in0 (zb_okh ho)).mpr z)))) kt kf
theorem zb_if_le (hd : decode F.2.2.1 pc = .ok (.ifCond .le off, 3)) (ht : (pc : Int) + off = (tgt : Int)) (kt : x ≤ 0 → zb_WP X F tgt L st S m k n) (kf : ¬ x ≤ 0 → zb_WP X F (pc + 3) L st S m k n) : zb_WP X F pc L ((0, x) :: st) S m k n :=
  zb_br (fun h => zb_okt h) (fun G p l e R s mi args below meth c Z H locs ls hx hb ho wt wf => lv_if_le (x := Int32.ofInt x) hx hb hd ht (fun q => wt ((zb_leI (zb_okh ho) zb_in0).mp q)) (fun q => wf (fun z => q ((zb_leI (zb_okh ho) zb_in0).mpr z)))) kt kf
theorem zb_goto (hd : decode F.2.2.1 pc = .ok (.goto off, 3)) (ht : (pc : Int) + off = (tgt : Int)) (kk : zb_WP X F tgt L st S m k n) : zb_WP X F pc L st S m k n :=
  zb_pure (fun _ h => h) (fun G p l e R s mi args below meth c Z H locs ls hx hb _ _ _ _ _ w => lv_goto hx hb hd ht w) kk
theorem zb_tableIn {dflt lo hi : Int} {offs : Array Int} {len : Nat} (hd : decode F.2.2.1 pc = .ok (.tableswitch dflt lo hi offs, len)) (h1 : ¬ x < lo) (h2 : ¬ hi < x) (ho : offs[(x - lo).toNat]? = some off) (ht : (pc : Int) + off = (tgt : Int)) (kk : zb_WP X F tgt L st S m k n) : zb_WP X F pc L ((0, x) :: st) S m k n :=
  zb_pure (fun _ h => zb_okt h) (fun G p l e R s mi args below meth c Z H locs ls hx hb _ _ _ _ hs w => by
    have e := zb_toI (zb_okh hs)
    exact lv_tableIn (x := Int32.ofInt x) hx hb hd (by rw [e]; exact h1) (by rw [e]; exact h2) (by rw [e]; exact ho) ht w) kk
theorem zb_tableOut {dflt lo hi : Int} {offs : Array Int} {len : Nat} (hd : decode F.2.2.1 pc = .ok (.tableswitch dflt lo hi offs, len)) (h : x < lo ∨ hi < x) (ht : (pc : Int) + dflt = (tgt : Int)) (kk : zb_WP X F tgt L st S m k n) : zb_WP X F pc L ((0, x) :: st) S m k n :=
  zb_pure (fun _ h => zb_okt h) (fun G p l e R s mi args below meth c Z H locs ls hx hb _ _ _ _ hs w => by
    have e := zb_toI (zb_okh hs)
    exact lv_tableOut (x := Int32.ofInt x) hx hb hd (by rw [e]; exact h) ht w) kk
end
/-! ===== more of the stack ===== -/
theorem zb_dup {t : Nat} {x : Int} (hd : decode F.2.2.1 pc = .ok (.dup, 1)) (ht : (t == 1) = false) (kk : zb_WP X F (pc + 1) L ((t, x) :: (t, x) :: st) S m k n) : zb_WP X F pc L ((t, x) :: st) S m k n :=
  zb_pure (fun _ h => List.forall_mem_cons.mpr ⟨zb_okh h, h⟩) (fun G p l e R s mi args below meth c Z H locs ls hx hb _ _ _ _ _ w => lv_dup hx hb hd (by
    have h2 := zb_cat G (t, x)
    rw [show ((t, x) : zb_V).1 = t from rfl, ht] at h2
    have h3 : (zb_cv G (t, x)).category ≠ 2 := by simpa using h2
    cases h : zb_cv G (t, x) <;> simp_all [Value.category]) w) kk
theorem zb_pop {t : Nat} {x : Int} (hd : decode F.2.2.1 pc = .ok (.pop, 1)) (ht : (t == 1) = false) (kk : zb_WP X F (pc + 1) L st S m k n) : zb_WP X F pc L ((t, x) :: st) S m k n :=
  zb_pure (fun _ h => zb_okt h) (fun G p l e R s mi args below meth c Z H locs ls hx hb _ _ _ _ _ w => lv_pop hx hb hd (by
    have h2 := zb_cat G (t, x)
    rw [show ((t, x) : zb_V).1 = t from rfl, ht] at h2
    have h3 : (zb_cv G (t, x)).category ≠ 2 := by simpa using h2
    cases h : zb_cv G (t, x) <;> simp_all [Value.category]) w) kk
theorem zb_dup2 {x a : Int} (hd : decode F.2.2.1 pc = .ok (.dup2, 1)) (kk : zb_WP X F (pc + 1) L ((0, x) :: (2, a) :: (0, x) :: (2, a) :: st) S m k n) : zb_WP X F pc L ((0, x) :: (2, a) :: st) S m k n :=
  zb_pure (fun _ h => List.forall_mem_cons.mpr ⟨zb_okh h, List.forall_mem_cons.mpr ⟨zb_okh (zb_okt h), h⟩⟩) (fun G p l e R s mi args below meth c Z H locs ls hx hb _ _ _ _ ho w => by
    have h1 : 1 ≤ a := zb_okh (zb_okt ho)
    simp only [List.map_cons, zb_cvr h1] at w ⊢
    exact lv_dup2_11 hx hb hd rfl rfl w) kk
/-- whole numbers: division of what is not below 0 -/
theorem zb_toI64 {x : Int} (h : zb_inL x) : (Int64.ofInt x).toInt = x := by
  obtain ⟨h1, h2⟩ := h
  rw [Int64.toInt_ofInt]
  unfold Int.bmod
  simp only [Int64.size]
  omega
theorem zb_divI {x y : Int} (hx : zb_inI x) (hy : zb_inI y) (h0 : 0 ≤ x) (h1 : 0 < y) : Int32.ofInt x / Int32.ofInt y = Int32.ofInt (x / y) := by
  apply Int32.toInt_inj.mp
  have hd1 : 0 ≤ x / y := Int.ediv_nonneg h0 (by omega)
  have hd2 : x / y ≤ x := Int.ediv_le_self _ h0
  have hin : zb_inI (x / y) := ⟨by omega, by have := hx.2; omega⟩
  rw [Int32.toInt_div, zb_toI hx, zb_toI hy, zb_toI hin, Int.tdiv_eq_ediv_of_nonneg h0]
  have := hin.2
  unfold Int.bmod
  simp only [Int32.size] at *
  omega
theorem zb_idiv {x y : Int} (hd : decode F.2.2.1 pc = .ok (.idiv, 1)) (h0 : 0 ≤ x) (h1 : 0 < y) (kk : zb_WP X F (pc + 1) L ((0, x / y) :: st) S m k n) : zb_WP X F pc L ((0, y) :: (0, x) :: st) S m k n :=
  zb_pure (fun _ h => zb_oki (by
      have hx : zb_inI x := zb_okh (zb_okt h)
      have hd1 : 0 ≤ x / y := Int.ediv_nonneg h0 (by omega)
      have hd2 : x / y ≤ x := Int.ediv_le_self _ h0
      exact ⟨by omega, by have := hx.2; omega⟩) (zb_okt (zb_okt h))) (fun G p l e R s mi args below meth c Z H locs ls hx hb _ _ _ _ ho w =>
    lv_idiv (x := Int32.ofInt x) (y := Int32.ofInt y) hx hb hd (fun z => by
      have h2 := (zb_eqI (zb_okh ho) zb_in0).mp z
      omega) (by rw [zb_divI (zb_okh (zb_okt ho)) (zb_okh ho) h0 h1]; exact w)) kk
theorem zb_irem {x y : Int} (hd : decode F.2.2.1 pc = .ok (.irem, 1)) (h0 : 0 ≤ x) (h1 : 0 < y) (kk : zb_WP X F (pc + 1) L ((0, x % y) :: st) S m k n) : zb_WP X F pc L ((0, y) :: (0, x) :: st) S m k n :=
  zb_pure (fun _ h => zb_oki (by
      have hy : zb_inI y := zb_okh h
      have hd1 : 0 ≤ x % y := Int.emod_nonneg _ (by omega)
      have hd2 : x % y < y := Int.emod_lt_of_pos _ h1
      exact ⟨by omega, by have := hy.2; omega⟩) (zb_okt (zb_okt h))) (fun G p l e R s mi args below meth c Z H locs ls hx hb _ _ _ _ ho w =>
    lv_irem (x := Int32.ofInt x) (y := Int32.ofInt y) hx hb hd (fun z => by
      have h2 := (zb_eqI (zb_okh ho) zb_in0).mp z
      omega) (by
        rw [zb_divI (zb_okh (zb_okt ho)) (zb_okh ho) h0 h1, ← Int32.ofInt_mul, ← Int32.ofInt_sub]
        have e : x - x / y * y = x % y := by rw [Int.emod_def, Int.mul_comm]
        rw [e]; exact w)) kk
/-- bits: of 32-bit numbers -/
def zb_and (x y : Int) : Int := (Int32.ofInt x &&& Int32.ofInt y).toInt
def zb_or (x y : Int) : Int := (Int32.ofInt x ||| Int32.ofInt y).toInt
def zb_shl (x y : Int) : Int := (Int32.ofInt x <<< (Int32.ofInt y &&& 31)).toInt
def zb_shr (x y : Int) : Int := (Int32.ofInt x >>> (Int32.ofInt y &&& 31)).toInt
def zb_ushr (x y : Int) : Int := ((Int32.ofInt x).toUInt32 >>> ((Int32.ofInt y).toUInt32 &&& Int32.toUInt32 31)).toInt32.toInt
def zb_lshl (x y : Int) : Int := (Int64.ofInt x <<< ((Int32.ofInt y).toInt64 &&& 63)).toInt
theorem zb_inT (x : Int32) : zb_inI x.toInt := ⟨by have := x.le_toInt; omega, by have := x.toInt_lt; omega⟩
theorem zb_inT64 (x : Int64) : zb_inL x.toInt := ⟨by have := x.le_toInt; omega, by have := x.toInt_lt; omega⟩
theorem zb_iand {x y : Int} (hd : decode F.2.2.1 pc = .ok (.iand, 1)) (kk : zb_WP X F (pc + 1) L ((0, zb_and x y) :: st) S m k n) : zb_WP X F pc L ((0, y) :: (0, x) :: st) S m k n :=
  zb_pure (fun _ h => zb_oki (zb_inT _) (zb_okt (zb_okt h))) (fun G p l e R s mi args below meth c Z H locs ls hx hb _ _ _ _ _ w => lv_iand (x := Int32.ofInt x) (y := Int32.ofInt y) hx hb hd (by have e := Int32.ofInt_toInt (Int32.ofInt x &&& Int32.ofInt y); rw [← e]; exact w)) kk
theorem zb_ior {x y : Int} (hd : decode F.2.2.1 pc = .ok (.ior, 1)) (kk : zb_WP X F (pc + 1) L ((0, zb_or x y) :: st) S m k n) : zb_WP X F pc L ((0, y) :: (0, x) :: st) S m k n :=
  zb_pure (fun _ h => zb_oki (zb_inT _) (zb_okt (zb_okt h))) (fun G p l e R s mi args below meth c Z H locs ls hx hb _ _ _ _ _ w => lv_ior (x := Int32.ofInt x) (y := Int32.ofInt y) hx hb hd (by have e := Int32.ofInt_toInt (Int32.ofInt x ||| Int32.ofInt y); rw [← e]; exact w)) kk
theorem zb_ishl {x y : Int} (hd : decode F.2.2.1 pc = .ok (.ishl, 1)) (kk : zb_WP X F (pc + 1) L ((0, zb_shl x y) :: st) S m k n) : zb_WP X F pc L ((0, y) :: (0, x) :: st) S m k n :=
  zb_pure (fun _ h => zb_oki (zb_inT _) (zb_okt (zb_okt h))) (fun G p l e R s mi args below meth c Z H locs ls hx hb _ _ _ _ _ w => lv_ishl (x := Int32.ofInt x) (y := Int32.ofInt y) hx hb hd (by have e := Int32.ofInt_toInt (Int32.ofInt x <<< (Int32.ofInt y &&& 31)); rw [← e]; exact w)) kk
theorem zb_ishr {x y : Int} (hd : decode F.2.2.1 pc = .ok (.ishr, 1)) (kk : zb_WP X F (pc + 1) L ((0, zb_shr x y) :: st) S m k n) : zb_WP X F pc L ((0, y) :: (0, x) :: st) S m k n :=
  zb_pure (fun _ h => zb_oki (zb_inT _) (zb_okt (zb_okt h))) (fun G p l e R s mi args below meth c Z H locs ls hx hb _ _ _ _ _ w => lv_ishr (x := Int32.ofInt x) (y := Int32.ofInt y) hx hb hd (by have e := Int32.ofInt_toInt (Int32.ofInt x >>> (Int32.ofInt y &&& 31)); rw [← e]; exact w)) kk
theorem zb_iushr {x y : Int} (hd : decode F.2.2.1 pc = .ok (.iushr, 1)) (kk : zb_WP X F (pc + 1) L ((0, zb_ushr x y) :: st) S m k n) : zb_WP X F pc L ((0, y) :: (0, x) :: st) S m k n :=
  zb_pure (fun _ h => zb_oki (zb_inT _) (zb_okt (zb_okt h))) (fun G p l e R s mi args below meth c Z H locs ls hx hb _ _ _ _ _ w => lv_iushr (x := Int32.ofInt x) (y := Int32.ofInt y) hx hb hd (Int32.ofInt_toInt _).symm w) kk
theorem zb_ladd {x y : Int} (hd : decode F.2.2.1 pc = .ok (.ladd, 1)) (hi : zb_inL (x + y)) (kk : zb_WP X F (pc + 1) L ((1, x + y) :: st) S m k n) : zb_WP X F pc L ((1, y) :: (1, x) :: st) S m k n :=
  zb_pure (fun _ h => zb_okl hi (zb_okt (zb_okt h))) (fun G p l e R s mi args below meth c Z H locs ls hx hb _ _ _ _ _ w => lv_ladd (x := Int64.ofInt x) (y := Int64.ofInt y) hx hb hd (by rw [← Int64.ofInt_add]; exact w)) kk
theorem zb_lmul {x y : Int} (hd : decode F.2.2.1 pc = .ok (.lmul, 1)) (hi : zb_inL (x * y)) (kk : zb_WP X F (pc + 1) L ((1, x * y) :: st) S m k n) : zb_WP X F pc L ((1, y) :: (1, x) :: st) S m k n :=
  zb_pure (fun _ h => zb_okl hi (zb_okt (zb_okt h))) (fun G p l e R s mi args below meth c Z H locs ls hx hb _ _ _ _ _ w => lv_lmul (x := Int64.ofInt x) (y := Int64.ofInt y) hx hb hd (by rw [← Int64.ofInt_mul]; exact w)) kk
theorem zb_lshlr {x y : Int} (hd : decode F.2.2.1 pc = .ok (.lshl, 1)) (kk : zb_WP X F (pc + 1) L ((1, zb_lshl x y) :: st) S m k n) : zb_WP X F pc L ((0, y) :: (1, x) :: st) S m k n :=
  zb_pure (fun _ h => zb_okl (zb_inT64 _) (zb_okt (zb_okt h))) (fun G p l e R s mi args below meth c Z H locs ls hx hb _ _ _ _ _ w => lv_lshl (x := Int64.ofInt x) (y := Int32.ofInt y) hx hb hd (Int64.ofInt_toInt _).symm w) kk
theorem zb_i2l {x : Int} (hd : decode F.2.2.1 pc = .ok (.i2l, 1)) (kk : zb_WP X F (pc + 1) L ((1, x) :: st) S m k n) : zb_WP X F pc L ((0, x) :: st) S m k n :=
  zb_pure (fun _ h => zb_okl (by have h1 : zb_inI x := zb_okh h; exact ⟨by have := h1.1; omega, by have := h1.2; omega⟩) (zb_okt h)) (fun G p l e R s mi args below meth c Z H locs ls hx hb _ _ _ _ ho w => lv_i2l (x := Int32.ofInt x) hx hb hd (by
    apply Int64.toInt_inj.mp
    have h1 : zb_inI x := zb_okh ho
    rw [Int32.toInt_toInt64, zb_toI h1, zb_toI64 ⟨by have := h1.1; omega, by have := h1.2; omega⟩]) w) kk
theorem zb_lconst {q : Fin 2} {i : Int} (hd : decode F.2.2.1 pc = .ok (.lconst q, 1)) (hi : ((q : Nat) : Int) = i) (kk : zb_WP X F (pc + 1) L ((1, i) :: st) S m k n) : zb_WP X F pc L st S m k n := by
  subst hi
  exact zb_pure (fun _ h => zb_okl (by have := q.isLt; exact ⟨by omega, by omega⟩) h) (fun G p l e R s mi args below meth c Z H locs ls hx hb _ _ _ _ _ w => lv_lconst hx hb hd (by match q with | 0 => rfl | 1 => rfl) w) kk
theorem zb_ldc {index : Nat} {i : Int} (hd : decode F.2.2.1 pc = .ok (.ldc index, 2)) (hc : Jvm.Cond.constant F.1 index (Int32.ofInt i) ∈ zb_all) (hi : zb_inI i) (kk : zb_WP X F (pc + 2) L ((0, i) :: st) S m k n) : zb_WP X F pc L st S m k n :=
  zb_pure (fun _ h => zb_oki hi h) (fun G p l e R s mi args below meth c Z H locs ls hx hb hown hts _ _ _ w => lv_ldc hx hb hown (hts _ hc) hd w) kk
theorem zb_ldcw {index : Nat} {i : Int} (hd : decode F.2.2.1 pc = .ok (.ldc_w index, 3)) (hc : Jvm.Cond.constant F.1 index (Int32.ofInt i) ∈ zb_all) (hi : zb_inI i) (kk : zb_WP X F (pc + 3) L ((0, i) :: st) S m k n) : zb_WP X F pc L st S m k n :=
  zb_pure (fun _ h => zb_oki hi h) (fun G p l e R s mi args below meth c Z H locs ls hx hb hown hts _ _ _ w => lv_ldcw hx hb hown (hts _ hc) hd w) kk
theorem zb_ldc2 {index : Nat} {i : Int} (hd : decode F.2.2.1 pc = .ok (.ldc2_w index, 3)) (hc : Jvm.Cond.constantLong F.1 index (Int64.ofInt i) ∈ zb_all) (hi : zb_inL i) (kk : zb_WP X F (pc + 3) L ((1, i) :: st) S m k n) : zb_WP X F pc L st S m k n :=
  zb_pure (fun _ h => zb_okl hi h) (fun G p l e R s mi args below meth c Z H locs ls hx hb hown hts _ _ _ w => lv_ldc2 hx hb hown (hts _ hc) hd w) kk
end ZBB
