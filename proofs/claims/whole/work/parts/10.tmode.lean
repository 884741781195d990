/-! ===== after the constructors: the shape stands, and what final fields refer to stands ===== -/
/-- the shape, and what final reference fields (and rows of references that are never written) hold -/
abbrev zb_E : Type := zb_S × (Int → Int → Int)
/-- a method with the kinds of its arguments (99: not a reference) -/
abbrev zb_K : Type := zb_F × List Nat
def zb_sta (kind : Nat) (j : Int) : Bool := if kind < 13 then decide (zb_tag kind j.toNat = 2) && (zb_TT kind j.toNat).2.2.2 else kind == 16 || kind == 17 || kind == 19
def zb_FIN (E : zb_E) (m : zb_M) : Prop := ∀ a j : Int, 1 ≤ a → a ≤ E.1.1 → 0 ≤ j → zb_sta (E.1.2 a).1 j = true → m a j = E.2 a j
def zb_WT (E : zb_E) : Prop := (∀ (a : Int) (ci j kind len : Nat), zb_is E.1 a ci → zb_fi ci j = some (kind, len) → zb_is E.1 (E.2 a j) kind ∧ (13 ≤ kind → zb_len E.1 (E.2 a j) = len)) ∧
  (∀ (a : Int) (t : Nat) (i : Int), zb_is E.1 a (13 + t) → (t = 3 ∨ t = 4 ∨ t = 6) → 0 ≤ i → i < zb_len E.1 a → zb_is E.1 (E.2 a i) (zb_comp t))
theorem zb_WT.f {E : zb_E} (h : zb_WT E) {a : Int} {ci : Nat} (j : Nat) {kind len : Nat} (ha : zb_is E.1 a ci) (hj : zb_fi ci j = some (kind, len)) : zb_is E.1 (E.2 a j) kind := (h.1 a ci j kind len ha hj).1
theorem zb_WT.l {E : zb_E} (h : zb_WT E) {a : Int} {ci : Nat} (j : Nat) {kind len : Nat} (ha : zb_is E.1 a ci) (hj : zb_fi ci j = some (kind, len)) (hk : 13 ≤ kind) : zb_len E.1 (E.2 a j) = len := (h.1 a ci j kind len ha hj).2 hk
theorem zb_WT.e {E : zb_E} (h : zb_WT E) {a i : Int} (t : Nat) (ha : zb_is E.1 a (13 + t)) (ht : t = 3 ∨ t = 4 ∨ t = 6) (h0 : 0 ≤ i) (hi : i < zb_len E.1 a) : zb_is E.1 (E.2 a i) (zb_comp t) := h.2 a t i ha ht h0 hi
def zb_args (S : zb_S) : List Nat → List zb_V → Prop
  | [], [] => True
  | k :: ks, v :: vs => (k < 20 → zb_is S v.2 k) ∧ zb_args S ks vs
  | _, _ => False
theorem zb_a0 {S : zb_S} : zb_args S [] [] := trivial
theorem zb_aI {S : zb_S} {ks : List Nat} {vs : List zb_V} {v : zb_V} (h : zb_args S ks vs) : zb_args S (99 :: ks) (v :: vs) := ⟨fun h => absurd h (by decide), h⟩
theorem zb_aR {S : zb_S} {k : Nat} {ks : List Nat} {vs : List zb_V} {x : Int} (hx : zb_is S x k) (h : zb_args S ks vs) : zb_args S (k :: ks) ((2, x) :: vs) := ⟨fun _ => hx, h⟩
theorem zb_aH {S : zb_S} {k : Nat} {ks : List Nat} {vs : List zb_V} {v : zb_V} (h : zb_args S (k :: ks) (v :: vs)) (hk : k < 20) : zb_is S v.2 k := h.1 hk
theorem zb_aT {S : zb_S} {k : Nat} {ks : List Nat} {vs : List zb_V} {v : zb_V} (h : zb_args S (k :: ks) (v :: vs)) : zb_args S ks vs := h.2
def zb_q (E : zb_E) (Q : Int → zb_M → Prop) : Int → zb_S → zb_M → Prop := fun r S' m' => S' = E.1 ∧ zb_FIN E m' ∧ Q r m'
/-- a method's contract in a world that stands -/
def zb_T (g : zb_K) (d : Nat) (av : List zb_V) (E : zb_E) (m : zb_M) (Q : Int → zb_M → Prop) : Prop := zb_WT E → zb_FIN E m → zb_args E.1 g.2 av → zb_Tri g.1 d 0 0 av E.1 m (zb_q E Q)
/-- .. of one that writes nothing -/
def zb_Tp (g : zb_K) (d : Nat) (av : List zb_V) (E : zb_E) (m : zb_M) (Q : Int → Prop) : Prop := zb_T g d av E m (fun r m' => m' = m ∧ Q r)
theorem zb_T.mono {g : zb_K} {d : Nat} {av : List zb_V} {E : zb_E} {m : zb_M} {Q Q' : Int → zb_M → Prop} (h : zb_T g d av E m Q) (hq : ∀ r m', Q r m' → Q' r m') : zb_T g d av E m Q' :=
  fun hW hF ha => (h hW hF ha).mono (fun r S' m' q => ⟨q.1, q.2.1, hq r m' q.2.2⟩)
theorem zb_Tp.mono {g : zb_K} {d : Nat} {av : List zb_V} {E : zb_E} {m : zb_M} {Q Q' : Int → Prop} (h : zb_Tp g d av E m Q) (hq : ∀ r, Q r → Q' r) : zb_Tp g d av E m Q' :=
  zb_T.mono h (fun r m' q => ⟨q.1, hq r q.2⟩)
theorem zb_T_in {g : zb_K} {d na : Nat} {av : List zb_V} {E : zb_E} {m : zb_M} {Q : Int → zb_M → Prop} (hg : zb_gd g.1 na) (hlen : Nat.ble av.length g.1.2.2.2.1 = true) (hno : (av.all fun v => !(Nat.beq v.1 1)) = true)
    (h : zb_WT E → zb_args E.1 g.2 av → ∀ (G : zb_G) (C : zb_C), zb_FIN E m → zb_WP (G, C, d, 0, 0, zb_q E Q) g.1 0 (zb_en 0 av) [] E.1 m 0 0) : zb_T g d av E m Q :=
  fun hW hF ha => zb_tri hg (Nat.le_of_ble_eq_true hlen) (fun v hv q => by
    have h1 := List.all_eq_true.mp hno v hv
    rw [q] at h1
    cases h1) (fun G C _ => h hW ha G C hF)
theorem zb_FIN_up {E : zb_E} {m : zb_M} {a k v : Int} {kind : Nat} (h : zb_FIN E m) (ha : zb_is E.1 a kind) (hs : zb_sta kind k = false) : zb_FIN E (zb_up m a k v) := by
  intro b j h1 h2 h3 h4
  rw [zb_up_ne m]
  · exact h b j h1 h2 h3 h4
  · by_cases hb : b = a
    · refine Or.inr fun hj => ?_
      rw [hb, hj, ha.2.2, hs] at h4
      cases h4
    · exact Or.inl hb
theorem zb_FIN_cp {E : zb_E} {m : zb_M} {a0 sp a dp len : Int} (h : zb_FIN E m) (ha : zb_is E.1 a 13) : zb_FIN E (zb_cp m a0 sp a dp len) := by
  intro b j h1 h2 h3 h4
  unfold zb_cp
  rw [if_neg]
  · exact h b j h1 h2 h3 h4
  · rintro ⟨hb, -⟩
    rw [hb, ha.2.2] at h4
    cases h4
section ZBT
variable {C : zb_C} {G : zb_G} {d d' na index : Nat} {E : zb_E} {F : zb_F} {g : zb_K} {pc : Nat} {L : List (Nat × zb_V)} {st As As' : List zb_V} {m : zb_M} {Q Q' : Int → zb_M → Prop} {Qp : Int → Prop}
theorem zb_gF {ci j kind len : Nat} {a : Int} (hd : decode F.2.2.1 pc = .ok (.getfield index, 3)) (hf : zb_fl F.1 index ci j) (ha : zb_is E.1 a ci) (hW : zb_WT E) (hF : zb_FIN E m) (hfi : zb_fi ci j = some (kind, len)) (hs : zb_sta ci j = true) (ht : zb_tag ci j = 2) (kk : zb_WP (G, C, d, 0, 0, zb_q E Q) F (pc + 3) L ((2, E.2 a j) :: st) E.1 m 0 0) : zb_WP (G, C, d, 0, 0, zb_q E Q) F pc L ((2, a) :: st) E.1 m 0 0 := by
  have e := hF a j ha.1 ha.2.1 (by omega) (by rw [ha.2.2]; exact hs)
  refine zb_getf hd hf ht ha (fun _ => by rw [e]; exact (hW.f j ha hfi).1) ?_
  rw [e]
  exact kk
theorem zb_gA {a i : Int} {t : Nat} (hd : decode F.2.2.1 pc = .ok (.aaload, 1)) (ha : zb_is E.1 a (13 + t)) (hW : zb_WT E) (hF : zb_FIN E m) (ht : t = 3 ∨ t = 4 ∨ t = 6) (h0 : 0 ≤ i) (hi : i < zb_len E.1 a) (kk : zb_WP (G, C, d, 0, 0, zb_q E Q) F (pc + 1) L ((2, E.2 a i) :: st) E.1 m 0 0) : zb_WP (G, C, d, 0, 0, zb_q E Q) F pc L ((0, i) :: (2, a) :: st) E.1 m 0 0 := by
  have e := hF a i ha.1 ha.2.1 h0 (by rw [ha.2.2]; rcases ht with rfl | rfl | rfl <;> rfl)
  refine zb_aald (t := t) hd ha (by omega) h0 hi (by rw [e]; exact (hW.e t ha ht h0 hi).1) ?_
  rw [e]
  exact kk
theorem zb_cV {ci : Nat} {a : Int} (hd : decode F.2.2.1 pc = .ok (.invokevirtual index, 3)) (hl : zb_lkV F.1 index g.1) (hg : zb_gd g.1 na) (hn : As.length = na) (hrev : As.reverse = As') (ha : zb_is E.1 a ci) (hci : ∃ q : vw_C, vwCl[ci]? = some q ∧ q.1 = g.1.2.1.cls) (hT : zb_T g d' ((2, a) :: As) E m Q') (hW : zb_WT E) (hF : zb_FIN E m) (hA : zb_args E.1 g.2 ((2, a) :: As)) (hdd : d' + 1 ≤ d) (hcs : zb_cs st ≤ 8)
    (kk : ∀ (r : Int) (m' : zb_M), zb_FIN E m' → Q' r m' → zb_WP (G, C, d, 0, 0, zb_q E Q) F (pc + 3) L (zb_rv g.1.2.2.2.2 r ++ st) E.1 m' 0 0) : zb_WP (G, C, d, 0, 0, zb_q E Q) F pc L (As' ++ (2, a) :: st) E.1 m 0 0 :=
  zb_callV (k' := 0) (n' := 0) hd hl hg hn hrev ha hci (hT hW hF hA) hdd (Nat.le_refl _) (Nat.le_refl _) hcs (fun r S' m' q => by
    obtain ⟨rfl, q2, q3⟩ := q
    exact kk r m' q2 q3)
theorem zb_cS (hd : decode F.2.2.1 pc = .ok (.invokestatic index, 3)) (hl : zb_lkS F.1 index g.1) (hg : zb_gd g.1 na) (hn : As.length = na) (hrev : As.reverse = As') (hT : zb_T g d' As E m Q') (hW : zb_WT E) (hF : zb_FIN E m) (hA : zb_args E.1 g.2 As) (hdd : d' + 1 ≤ d) (hcs : zb_cs st ≤ 8)
    (kk : ∀ (r : Int) (m' : zb_M), zb_FIN E m' → Q' r m' → zb_WP (G, C, d, 0, 0, zb_q E Q) F (pc + 3) L (zb_rv g.1.2.2.2.2 r ++ st) E.1 m' 0 0) : zb_WP (G, C, d, 0, 0, zb_q E Q) F pc L (As' ++ st) E.1 m 0 0 :=
  zb_callS (k' := 0) (n' := 0) hd hl hg hn hrev (hT hW hF hA) hdd (Nat.le_refl _) (Nat.le_refl _) hcs (fun r S' m' q => by
    obtain ⟨rfl, q2, q3⟩ := q
    exact kk r m' q2 q3)
theorem zb_cN (hd : decode F.2.2.1 pc = .ok (.invokestatic index, 3)) (hl : zb_lkSN F.1 index g.1) (hg : zb_gd g.1 na) (hn : As.length = na) (hrev : As.reverse = As') (hT : zb_T g d' As E m Q') (hW : zb_WT E) (hF : zb_FIN E m) (hA : zb_args E.1 g.2 As) (hdd : d' + 1 ≤ d) (hcs : zb_cs st ≤ 8)
    (kk : ∀ (r : Int) (m' : zb_M), zb_FIN E m' → Q' r m' → zb_WP (G, C, d, 0, 0, zb_q E Q) F (pc + 3) L (zb_rv g.1.2.2.2.2 r ++ st) E.1 m' 0 0) : zb_WP (G, C, d, 0, 0, zb_q E Q) F pc L (As' ++ st) E.1 m 0 0 :=
  zb_callSN (k' := 0) (n' := 0) hd hl hg hn hrev (hT hW hF hA) hdd (Nat.le_refl _) (Nat.le_refl _) hcs (fun r S' m' q => by
    obtain ⟨rfl, q2, q3⟩ := q
    exact kk r m' q2 q3)
theorem zb_cVp {ci : Nat} {a : Int} (hd : decode F.2.2.1 pc = .ok (.invokevirtual index, 3)) (hl : zb_lkV F.1 index g.1) (hg : zb_gd g.1 na) (hn : As.length = na) (hrev : As.reverse = As') (ha : zb_is E.1 a ci) (hci : ∃ q : vw_C, vwCl[ci]? = some q ∧ q.1 = g.1.2.1.cls) (hT : zb_Tp g d' ((2, a) :: As) E m Qp) (hW : zb_WT E) (hF : zb_FIN E m) (hA : zb_args E.1 g.2 ((2, a) :: As)) (hdd : d' + 1 ≤ d) (hcs : zb_cs st ≤ 8)
    (kk : ∀ (r : Int), Qp r → zb_WP (G, C, d, 0, 0, zb_q E Q) F (pc + 3) L (zb_rv g.1.2.2.2.2 r ++ st) E.1 m 0 0) : zb_WP (G, C, d, 0, 0, zb_q E Q) F pc L (As' ++ (2, a) :: st) E.1 m 0 0 :=
  zb_cV hd hl hg hn hrev ha hci hT hW hF hA hdd hcs (fun r m' _ q => by
    obtain ⟨rfl, q2⟩ := q
    exact kk r q2)
theorem zb_cSp (hd : decode F.2.2.1 pc = .ok (.invokestatic index, 3)) (hl : zb_lkS F.1 index g.1) (hg : zb_gd g.1 na) (hn : As.length = na) (hrev : As.reverse = As') (hT : zb_Tp g d' As E m Qp) (hW : zb_WT E) (hF : zb_FIN E m) (hA : zb_args E.1 g.2 As) (hdd : d' + 1 ≤ d) (hcs : zb_cs st ≤ 8)
    (kk : ∀ (r : Int), Qp r → zb_WP (G, C, d, 0, 0, zb_q E Q) F (pc + 3) L (zb_rv g.1.2.2.2.2 r ++ st) E.1 m 0 0) : zb_WP (G, C, d, 0, 0, zb_q E Q) F pc L (As' ++ st) E.1 m 0 0 :=
  zb_cS hd hl hg hn hrev hT hW hF hA hdd hcs (fun r m' _ q => by
    obtain ⟨rfl, q2⟩ := q
    exact kk r q2)
theorem zb_cNp (hd : decode F.2.2.1 pc = .ok (.invokestatic index, 3)) (hl : zb_lkSN F.1 index g.1) (hg : zb_gd g.1 na) (hn : As.length = na) (hrev : As.reverse = As') (hT : zb_Tp g d' As E m Qp) (hW : zb_WT E) (hF : zb_FIN E m) (hA : zb_args E.1 g.2 As) (hdd : d' + 1 ≤ d) (hcs : zb_cs st ≤ 8)
    (kk : ∀ (r : Int), Qp r → zb_WP (G, C, d, 0, 0, zb_q E Q) F (pc + 3) L (zb_rv g.1.2.2.2.2 r ++ st) E.1 m 0 0) : zb_WP (G, C, d, 0, 0, zb_q E Q) F pc L (As' ++ st) E.1 m 0 0 :=
  zb_cN hd hl hg hn hrev hT hW hF hA hdd hcs (fun r m' _ q => by
    obtain ⟨rfl, q2⟩ := q
    exact kk r q2)
theorem zb_rV (hd : decode F.2.2.1 pc = .ok (.return_, 1)) (hr : F.2.2.2.2 = none) (hF : zb_FIN E m) (hQ : Q 0 m) : zb_WP (G, C, d, 0, 0, zb_q E Q) F pc L [] E.1 m 0 0 := zb_vreturn hd hr (Nat.le_refl _) (Nat.le_refl _) ⟨rfl, hF, hQ⟩
theorem zb_rI {r : Int} (hd : decode F.2.2.1 pc = .ok (.ireturn, 1)) (hr : F.2.2.2.2 = some .int) (hF : zb_FIN E m) (hQ : Q r m) : zb_WP (G, C, d, 0, 0, zb_q E Q) F pc L [(0, r)] E.1 m 0 0 := zb_ireturn hd hr (Nat.le_refl _) (Nat.le_refl _) ⟨rfl, hF, hQ⟩
theorem zb_rZ {r : Int} (hd : decode F.2.2.1 pc = .ok (.ireturn, 1)) (hr : F.2.2.2.2 = some .boolean) (hF : zb_FIN E m) (hz : r = 0 ∨ r = 1) (hQ : Q r m) : zb_WP (G, C, d, 0, 0, zb_q E Q) F pc L [(0, r)] E.1 m 0 0 := zb_zreturn hd hr hz (Nat.le_refl _) (Nat.le_refl _) ⟨rfl, hF, hQ⟩
theorem zb_rL {r : Int} (hd : decode F.2.2.1 pc = .ok (.lreturn, 1)) (hr : F.2.2.2.2 = some .long) (hF : zb_FIN E m) (hQ : Q r m) : zb_WP (G, C, d, 0, 0, zb_q E Q) F pc L [(1, r)] E.1 m 0 0 := zb_lreturn hd hr (Nat.le_refl _) (Nat.le_refl _) ⟨rfl, hF, hQ⟩
theorem zb_rA {r : Int} (hd : decode F.2.2.1 pc = .ok (.areturn, 1)) (hr : (∃ nm, F.2.2.2.2 = some (.object nm)) ∨ ∃ t, F.2.2.2.2 = some (.array t)) (hF : zb_FIN E m) (hz : 1 ≤ r) (hQ : Q r m) : zb_WP (G, C, d, 0, 0, zb_q E Q) F pc L [(2, r)] E.1 m 0 0 := zb_areturn hd hr hz (Nat.le_refl _) (Nat.le_refl _) ⟨rfl, hF, hQ⟩
theorem zb_mx {x y : Int} {S : zb_S} {K N k n : Nat} {Q : Int → zb_S → zb_M → Prop} (hd : decode F.2.2.1 pc = .ok (.invokestatic index, 3)) (hl : zb_lkM F.1 index Lib.Math.max.name Lib.Math.max.code) (h1 : 1 ≤ d) (hk : k ≤ K) (hn : n ≤ N) (hcs : zb_cs st ≤ 8) (kk : zb_WP (G, C, d, K, N, Q) F (pc + 3) L ((0, if x < y then y else x) :: st) S m k n) : zb_WP (G, C, d, K, N, Q) F pc L ((0, y) :: (0, x) :: st) S m k n := by
  obtain ⟨p, l, e, R, s, mi, args, below, meth, c, Z⟩ := C
  intro hC H locs ls hH hlo hL hLo hst
  have hC' := hC
  obtain ⟨hx, hb, hml, hown, hts, hK, htb, hini, hdR, hlR, hKR, hNR, -⟩ := hC'
  have iy : zb_inI y := zb_okh hst
  have ix : zb_inI x := zb_okh (zb_okt hst)
  have hw := kk hC H locs ls hH hlo hL hLo (zb_oki (by split <;> assumption) (zb_okt (zb_okt hst)))
  refine va_mmax (x := Int32.ofInt x) (y := Int32.ofInt y) hx hb (hml.trans hL.1.symm) hown (hts _ hl.1) (hts _ hl.2.1) (hts _ hl.2.2.1) (hts _ hl.2.2.2) (by omega) (by rw [zb_cs_eq]; omega) (by omega) (by omega) hd ?_
  by_cases q : x < y
  · rw [if_pos ((zb_ltI ix iy).mpr q)]
    rw [if_pos q] at hw
    exact hw
  · rw [if_neg (fun z => q ((zb_ltI ix iy).mp z))]
    rw [if_neg q] at hw
    exact hw
theorem zb_mn {x y : Int} {S : zb_S} {K N k n : Nat} {Q : Int → zb_S → zb_M → Prop} (hd : decode F.2.2.1 pc = .ok (.invokestatic index, 3)) (hl : zb_lkM F.1 index Lib.Math.min.name Lib.Math.min.code) (h1 : 1 ≤ d) (hk : k ≤ K) (hn : n ≤ N) (hcs : zb_cs st ≤ 8) (kk : zb_WP (G, C, d, K, N, Q) F (pc + 3) L ((0, if y < x then y else x) :: st) S m k n) : zb_WP (G, C, d, K, N, Q) F pc L ((0, y) :: (0, x) :: st) S m k n := by
  obtain ⟨p, l, e, R, s, mi, args, below, meth, c, Z⟩ := C
  intro hC H locs ls hH hlo hL hLo hst
  have hC' := hC
  obtain ⟨hx, hb, hml, hown, hts, hK, htb, hini, hdR, hlR, hKR, hNR, -⟩ := hC'
  have iy : zb_inI y := zb_okh hst
  have ix : zb_inI x := zb_okh (zb_okt hst)
  have hw := kk hC H locs ls hH hlo hL hLo (zb_oki (by split <;> assumption) (zb_okt (zb_okt hst)))
  refine va_mmin (x := Int32.ofInt x) (y := Int32.ofInt y) hx hb (hml.trans hL.1.symm) hown (hts _ hl.1) (hts _ hl.2.1) (hts _ hl.2.2.1) (hts _ hl.2.2.2) (by omega) (by rw [zb_cs_eq]; omega) (by omega) (by omega) hd ?_
  by_cases q : y < x
  · rw [if_pos ((zb_ltI iy ix).mpr q)]
    rw [if_pos q] at hw
    exact hw
  · rw [if_neg (fun z => q ((zb_ltI iy ix).mp z))]
    rw [if_neg q] at hw
    exact hw
end ZBT
theorem zb_inIc {i : Int} (h : (decide (-2147483648 ≤ i) && decide (i ≤ 2147483647)) = true) : zb_inI i := by
  simp only [Bool.and_eq_true, decide_eq_true_eq] at h
  exact h
def zb_cpo (sp dp len l0 l1 : Int) : Prop := 0 ≤ sp ∧ 0 ≤ dp ∧ 0 ≤ len ∧ sp + len ≤ l0 ∧ dp + len ≤ l1
section ZBU
variable {C : zb_C} {G : zb_G} {d d' na index : Nat} {E : zb_E} {F : zb_F} {g : zb_K} {pc : Nat} {L : List (Nat × zb_V)} {st : List zb_V} {m : zb_M} {Q Q' : Int → zb_M → Prop}
/-- a final field that refers to an object, to a row -/
theorem zb_gFo {ci j kind len : Nat} {a : Int} (jj : Int) (hd : decode F.2.2.1 pc = .ok (.getfield index, 3)) (hf : zb_fl F.1 index ci j) (ha : zb_is E.1 a ci) (hW : zb_WT E) (hF : zb_FIN E m) (hfi : zb_fi ci j = some (kind, len)) (hs : zb_sta ci j = true) (ht : zb_tag ci j = 2) (hj : (j : Int) = jj) (kk : zb_is E.1 (E.2 a jj) kind → zb_WP (G, C, d, 0, 0, zb_q E Q) F (pc + 3) L ((2, E.2 a jj) :: st) E.1 m 0 0) : zb_WP (G, C, d, 0, 0, zb_q E Q) F pc L ((2, a) :: st) E.1 m 0 0 := by
  subst hj
  exact zb_gF hd hf ha hW hF hfi hs ht (kk (hW.f j ha hfi))
theorem zb_gFa {ci j kind len : Nat} {a : Int} (jj : Int) (hd : decode F.2.2.1 pc = .ok (.getfield index, 3)) (hf : zb_fl F.1 index ci j) (ha : zb_is E.1 a ci) (hW : zb_WT E) (hF : zb_FIN E m) (hfi : zb_fi ci j = some (kind, len)) (hs : zb_sta ci j = true) (ht : zb_tag ci j = 2) (hk : 13 ≤ kind) (hj : (j : Int) = jj) (ln : Int) (hl : (len : Int) = ln) (kk : zb_is E.1 (E.2 a jj) kind → zb_len E.1 (E.2 a jj) = ln → zb_WP (G, C, d, 0, 0, zb_q E Q) F (pc + 3) L ((2, E.2 a jj) :: st) E.1 m 0 0) : zb_WP (G, C, d, 0, 0, zb_q E Q) F pc L ((2, a) :: st) E.1 m 0 0 := by
  subst hj
  subst hl
  exact zb_gF hd hf ha hW hF hfi hs ht (kk (hW.f j ha hfi) (hW.l j ha hfi hk))
theorem zb_gI {ci j : Nat} {a : Int} (jj : Int) (hd : decode F.2.2.1 pc = .ok (.getfield index, 3)) (hf : zb_fl F.1 index ci j) (ha : zb_is E.1 a ci) (ht : zb_tag ci j = 0) (hj : (j : Int) = jj) (kk : zb_WP (G, C, d, 0, 0, zb_q E Q) F (pc + 3) L ((0, m a jj) :: st) E.1 m 0 0) : zb_WP (G, C, d, 0, 0, zb_q E Q) F pc L ((2, a) :: st) E.1 m 0 0 := by
  subst hj
  exact zb_getf hd hf ht ha (fun h => by cases h) kk
theorem zb_gD {ci j kind : Nat} {a : Int} (jj : Int) (hd : decode F.2.2.1 pc = .ok (.getfield index, 3)) (hf : zb_fl F.1 index ci j) (ha : zb_is E.1 a ci) (ht : zb_tag ci j = 2) (hj : (j : Int) = jj) (hn : zb_is E.1 (m a jj) kind) (kk : zb_WP (G, C, d, 0, 0, zb_q E Q) F (pc + 3) L ((2, m a jj) :: st) E.1 m 0 0) : zb_WP (G, C, d, 0, 0, zb_q E Q) F pc L ((2, a) :: st) E.1 m 0 0 := by
  subst hj
  exact zb_getf hd hf ht ha (fun _ => hn.1) kk
theorem zb_pF {ci j t : Nat} {a v : Int} (jj : Int) (hd : decode F.2.2.1 pc = .ok (.putfield index, 3)) (hf : zb_fl F.1 index ci j) (ht : zb_tag ci j = t) (hfin : (zb_TT ci j).2.2.2 = false) (ha : zb_is E.1 a ci) (hfit : zb_fit (zb_tyX ci j) v) (hF : zb_FIN E m) (hs : zb_sta ci j = false) (hj : (j : Int) = jj) (kk : ∀ m1, m1 = zb_up m a jj v → zb_FIN E m1 → zb_WP (G, C, d, 0, 0, zb_q E Q) F (pc + 3) L st E.1 m1 0 0) : zb_WP (G, C, d, 0, 0, zb_q E Q) F pc L ((t, v) :: (2, a) :: st) E.1 m 0 0 := by
  subst hj
  exact zb_putf hd hf ht (Or.inl hfin) ha hfit (kk _ rfl (zb_FIN_up hF ha hs))
theorem zb_lI {a i ln : Int} (hd : decode F.2.2.1 pc = .ok (.iaload, 1)) (ha : zb_is E.1 a 13) (hl : zb_len E.1 a = ln) (h0 : 0 ≤ i) (hi : i < ln) (kk : zb_WP (G, C, d, 0, 0, zb_q E Q) F (pc + 1) L ((0, m a i) :: st) E.1 m 0 0) : zb_WP (G, C, d, 0, 0, zb_q E Q) F pc L ((0, i) :: (2, a) :: st) E.1 m 0 0 := zb_iald hd ha h0 (by rw [hl]; exact hi) kk
theorem zb_lL {a i ln : Int} (hd : decode F.2.2.1 pc = .ok (.laload, 1)) (ha : zb_is E.1 a 14) (hl : zb_len E.1 a = ln) (h0 : 0 ≤ i) (hi : i < ln) (kk : zb_WP (G, C, d, 0, 0, zb_q E Q) F (pc + 1) L ((1, m a i) :: st) E.1 m 0 0) : zb_WP (G, C, d, 0, 0, zb_q E Q) F pc L ((0, i) :: (2, a) :: st) E.1 m 0 0 := zb_lald hd ha h0 (by rw [hl]; exact hi) kk
theorem zb_lZ {a i ln : Int} (hd : decode F.2.2.1 pc = .ok (.baload, 1)) (ha : zb_is E.1 a 15) (hl : zb_len E.1 a = ln) (h0 : 0 ≤ i) (hi : i < ln) (kk : zb_WP (G, C, d, 0, 0, zb_q E Q) F (pc + 1) L ((0, m a i) :: st) E.1 m 0 0) : zb_WP (G, C, d, 0, 0, zb_q E Q) F pc L ((0, i) :: (2, a) :: st) E.1 m 0 0 := zb_zald hd ha h0 (by rw [hl]; exact hi) kk
theorem zb_lA {a i ln : Int} (t : Nat) (hd : decode F.2.2.1 pc = .ok (.aaload, 1)) (ha : zb_is E.1 a (13 + t)) (ht : t = 3 ∨ t = 4 ∨ t = 6) (hl : zb_len E.1 a = ln) (hW : zb_WT E) (hF : zb_FIN E m) (h0 : 0 ≤ i) (hi : i < ln) (kk : zb_is E.1 (E.2 a i) (zb_comp t) → zb_WP (G, C, d, 0, 0, zb_q E Q) F (pc + 1) L ((2, E.2 a i) :: st) E.1 m 0 0) : zb_WP (G, C, d, 0, 0, zb_q E Q) F pc L ((0, i) :: (2, a) :: st) E.1 m 0 0 :=
  zb_gA hd ha hW hF ht h0 (by rw [hl]; exact hi) (kk (hW.e t ha ht h0 (by rw [hl]; exact hi)))
theorem zb_lD {a i ln : Int} (hd : decode F.2.2.1 pc = .ok (.aaload, 1)) (ha : zb_is E.1 a 18) (hl : zb_len E.1 a = ln) (h0 : 0 ≤ i) (hi : i < ln) (hn : zb_is E.1 (m a i) 3) (kk : zb_WP (G, C, d, 0, 0, zb_q E Q) F (pc + 1) L ((2, m a i) :: st) E.1 m 0 0) : zb_WP (G, C, d, 0, 0, zb_q E Q) F pc L ((0, i) :: (2, a) :: st) E.1 m 0 0 := zb_aald (t := 5) hd ha (by omega) h0 (by rw [hl]; exact hi) hn.1 kk
theorem zb_sI {a i v ln : Int} (hd : decode F.2.2.1 pc = .ok (.iastore, 1)) (ha : zb_is E.1 a 13) (hl : zb_len E.1 a = ln) (h0 : 0 ≤ i) (hi : i < ln) (hF : zb_FIN E m) (kk : ∀ m1, m1 = zb_up m a i v → zb_FIN E m1 → zb_WP (G, C, d, 0, 0, zb_q E Q) F (pc + 1) L st E.1 m1 0 0) : zb_WP (G, C, d, 0, 0, zb_q E Q) F pc L ((0, v) :: (0, i) :: (2, a) :: st) E.1 m 0 0 := zb_iast hd ha h0 (by rw [hl]; exact hi) (kk _ rfl (zb_FIN_up hF ha rfl))
theorem zb_sL {a i v ln : Int} (hd : decode F.2.2.1 pc = .ok (.lastore, 1)) (ha : zb_is E.1 a 14) (hl : zb_len E.1 a = ln) (h0 : 0 ≤ i) (hi : i < ln) (hF : zb_FIN E m) (kk : ∀ m1, m1 = zb_up m a i v → zb_FIN E m1 → zb_WP (G, C, d, 0, 0, zb_q E Q) F (pc + 1) L st E.1 m1 0 0) : zb_WP (G, C, d, 0, 0, zb_q E Q) F pc L ((1, v) :: (0, i) :: (2, a) :: st) E.1 m 0 0 := zb_last hd ha h0 (by rw [hl]; exact hi) (kk _ rfl (zb_FIN_up hF ha rfl))
theorem zb_sZ {a i v ln : Int} (hd : decode F.2.2.1 pc = .ok (.bastore, 1)) (ha : zb_is E.1 a 15) (hl : zb_len E.1 a = ln) (h0 : 0 ≤ i) (hi : i < ln) (hv : v = 0 ∨ v = 1) (hF : zb_FIN E m) (kk : ∀ m1, m1 = zb_up m a i v → zb_FIN E m1 → zb_WP (G, C, d, 0, 0, zb_q E Q) F (pc + 1) L st E.1 m1 0 0) : zb_WP (G, C, d, 0, 0, zb_q E Q) F pc L ((0, v) :: (0, i) :: (2, a) :: st) E.1 m 0 0 := zb_zast hd ha h0 (by rw [hl]; exact hi) hv (kk _ rfl (zb_FIN_up hF ha rfl))
theorem zb_sD {a i v ln : Int} (hd : decode F.2.2.1 pc = .ok (.aastore, 1)) (ha : zb_is E.1 a 18) (hl : zb_len E.1 a = ln) (h0 : 0 ≤ i) (hi : i < ln) (hv : zb_is E.1 v 3) (hF : zb_FIN E m) (kk : ∀ m1, m1 = zb_up m a i v → zb_FIN E m1 → zb_WP (G, C, d, 0, 0, zb_q E Q) F (pc + 1) L st E.1 m1 0 0) : zb_WP (G, C, d, 0, 0, zb_q E Q) F pc L ((2, v) :: (0, i) :: (2, a) :: st) E.1 m 0 0 := zb_aast (t := 5) hd ha (by omega) h0 (by rw [hl]; exact hi) hv (kk _ rfl (zb_FIN_up hF ha rfl))
theorem zb_cpI {a0 a sp dp len l0 l1 : Int} (hd : decode F.2.2.1 pc = .ok (.invokestatic index, 3)) (hl : zb_lkA F.1 index) (ha0 : zb_is E.1 a0 13) (ha : zb_is E.1 a 13) (hl0 : zb_len E.1 a0 = l0) (hl1 : zb_len E.1 a = l1) (ho : zb_cpo sp dp len l0 l1) (hdd : 1 ≤ d) (hcs : zb_cs st ≤ 8) (hF : zb_FIN E m) (kk : ∀ m1, m1 = zb_cp m a0 sp a dp len → zb_FIN E m1 → zb_WP (G, C, d, 0, 0, zb_q E Q) F (pc + 3) L st E.1 m1 0 0) : zb_WP (G, C, d, 0, 0, zb_q E Q) F pc L ((0, len) :: (0, dp) :: (2, a) :: (0, sp) :: (2, a0) :: st) E.1 m 0 0 := by
  obtain ⟨o1, o2, o3, o4, o5⟩ := ho
  exact zb_arrcopy hd hl ha0 ha o1 o2 o3 (by rw [hl0]; exact o4) (by rw [hl1]; exact o5) hdd hcs (kk _ rfl (zb_FIN_cp hF ha))
theorem zb_aL {a ln : Int} {t : Nat} (hd : decode F.2.2.1 pc = .ok (.arraylength, 1)) (ha : zb_is E.1 a (13 + t)) (ht : t < 7) (hl : zb_len E.1 a = ln) (hi : zb_inI ln) (kk : zb_WP (G, C, d, 0, 0, zb_q E Q) F (pc + 1) L ((0, ln) :: st) E.1 m 0 0) : zb_WP (G, C, d, 0, 0, zb_q E Q) F pc L ((2, a) :: st) E.1 m 0 0 := by
  subst hl
  exact zb_alen hd ha ht hi kk
end ZBU
theorem zb_iincw {X : zb_X} {F : zb_F} {pc : Nat} {L L' : List (Nat × zb_V)} {st : List zb_V} {S : zb_S} {m : zb_M} {k n : Nat} {i j : Nat} {d x : Int} (hd : decode F.2.2.1 pc = .ok (.iinc i d, 6)) (hj : L[j]? = some (i, (0, x))) (hi : zb_inI (x + d)) (hn : i < F.2.2.2.1) (hl : zb_set i (0, x + d) L = L') (kk : zb_WP X F (pc + 6) L' st S m k n) : zb_WP X F pc L st S m k n := by
  subst hl
  exact zb_loc (fun hL h => ⟨zb_set_ok (v := (0, x + d)) hi hL, h⟩) (fun G p l e R s mi args below meth c Z H locs ls hx hb hv _ _ w =>
    lv_iincW (x := Int32.ofInt x) (k := j) hx hb hd hv (by simp [zb_lv, List.getElem?_map, hj, zb_cv]) (Int32.ofInt_add x d).symm hn rfl (fun ls' h' => w ls' (by rw [zb_set_lv]; exact h'))) kk
