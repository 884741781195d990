/-! ===== arrays ===== -/
theorem zb_c32 {x : Int} (h : zb_inI x) : (Int32.ofInt x).toNatClampNeg = x.toNat := by
  show (Int32.ofInt x).toInt.toNat = _
  rw [zb_toI h]
theorem zb_vpin {x : Int} {n : Nat} (h : zb_inI x) (h0 : 0 ≤ x) (h1 : x < n) : vp_in (Int32.ofInt x) n := by
  unfold vp_in
  rw [zb_c32 h]
  rintro (q | q)
  · have := (zb_ltI h zb_in0).mp q
    omega
  · omega
theorem zb_ent_i (G : zb_G) {kl : Nat × Nat} (h : kl.1 = 13) (f : Int → Int) : zb_ent G kl f = .inl (G.2.2.2.2 0, kl.2, .inl (fun j : Nat => Int32.ofInt (f j))) := by
  unfold zb_ent
  rw [h]
  rfl
theorem zb_ent_l (G : zb_G) {kl : Nat × Nat} (h : kl.1 = 14) (f : Int → Int) : zb_ent G kl f = .inl (G.2.2.2.2 1, kl.2, .inr (.inl (fun j : Nat => Int64.ofInt (f j)))) := by
  unfold zb_ent
  rw [h]
  rfl
theorem zb_ent_z (G : zb_G) {kl : Nat × Nat} (h : kl.1 = 15) (f : Int → Int) : zb_ent G kl f = .inl (G.2.2.2.2 2, kl.2, .inl (fun j : Nat => Int32.ofInt (f j))) := by
  unfold zb_ent
  rw [h]
  rfl
theorem zb_ent_q (G : zb_G) {kl : Nat × Nat} {t : Nat} (h : kl.1 = 13 + t) (ht : 3 ≤ t) (f : Int → Int) : zb_ent G kl f = .inl (G.2.2.2.2 t, kl.2, .inr (.inr (.inr (.inr (fun j : Nat => zb_rf G.1 (f j)))))) := by
  unfold zb_ent
  rw [if_neg (by omega), if_neg (by omega), if_neg (by omega), show kl.1 - 13 = t by omega]
theorem zb_kt_q {t : Nat} (ht : 3 ≤ t) : ∃ C, zb_kt t = .object C := by
  match t, ht with
  | 3, _ => exact ⟨_, rfl⟩
  | 4, _ => exact ⟨_, rfl⟩
  | 5, _ => exact ⟨_, rfl⟩
  | (t + 6), _ => exact ⟨_, rfl⟩
section ZBA
variable {X : zb_X} {F : zb_F} {pc : Nat} {L : List (Nat × zb_V)} {st : List zb_V} {S : zb_S} {m : zb_M} {k n : Nat}
theorem zb_iald {a i : Int} (hd : decode F.2.2.1 pc = .ok (.iaload, 1)) (ha : zb_is S a 13) (h0 : 0 ≤ i) (hi : i < zb_len S a) (kk : zb_WP X F (pc + 1) L ((0, m a i) :: st) S m k n) : zb_WP X F pc L ((0, i) :: (2, a) :: st) S m k n := by
  obtain ⟨G, ⟨p, l, e, R, s, mi, args, below, meth, c, Z⟩, d, K, N, Q⟩ := X
  intro hC H locs ls hH hlo hL hLo hst
  have hC' := hC
  obtain ⟨hx, hb, hml, hown, hts, hK, -⟩ := hC'
  obtain ⟨h1, h2, h3⟩ := ha
  have hat := hH.2.1 a h1 h2
  rw [zb_ent_i G h3] at hat
  have hini : zb_inI i := zb_okh hst
  have hcan : zb_inI (m a i) := by
    have h := hH.2.2.2.1 a i
    unfold zb_st at h
    rw [h3] at h
    exact h
  simp only [List.map_cons, zb_cvr h1]
  refine va_iald (ws := [(zb_ad G a, _)]) (D := G.2.2.2.1) (tys := zb_tys G.2.2.2.2) (i := Int32.ofInt i) hx hb hK (zb_P1 hat) 0 0 rfl (zb_tys_at _ (t := 0) (by omega)) (zb_vpin hini h0 hi) hd ?_
  rw [zb_c32 hini, Int.toNat_of_nonneg h0]
  exact kk hC H locs ls hH hlo hL hLo (zb_oki hcan (zb_okt (zb_okt hst)))
theorem zb_lald {a i : Int} (hd : decode F.2.2.1 pc = .ok (.laload, 1)) (ha : zb_is S a 14) (h0 : 0 ≤ i) (hi : i < zb_len S a) (kk : zb_WP X F (pc + 1) L ((1, m a i) :: st) S m k n) : zb_WP X F pc L ((0, i) :: (2, a) :: st) S m k n := by
  obtain ⟨G, ⟨p, l, e, R, s, mi, args, below, meth, c, Z⟩, d, K, N, Q⟩ := X
  intro hC H locs ls hH hlo hL hLo hst
  have hC' := hC
  obtain ⟨hx, hb, hml, hown, hts, hK, -⟩ := hC'
  obtain ⟨h1, h2, h3⟩ := ha
  have hat := hH.2.1 a h1 h2
  rw [zb_ent_l G h3] at hat
  have hini : zb_inI i := zb_okh hst
  have hcan : zb_inL (m a i) := by
    have h := hH.2.2.2.1 a i
    unfold zb_st at h
    rw [h3] at h
    exact h
  simp only [List.map_cons, zb_cvr h1]
  refine va_lald (ws := [(zb_ad G a, _)]) (D := G.2.2.2.1) (tys := zb_tys G.2.2.2.2) (i := Int32.ofInt i) hx hb hK (zb_P1 hat) 0 1 rfl (zb_tys_at _ (t := 1) (by omega)) (zb_vpin hini h0 hi) hd ?_
  rw [zb_c32 hini, Int.toNat_of_nonneg h0]
  exact kk hC H locs ls hH hlo hL hLo (zb_okl hcan (zb_okt (zb_okt hst)))
theorem zb_zald {a i : Int} (hd : decode F.2.2.1 pc = .ok (.baload, 1)) (ha : zb_is S a 15) (h0 : 0 ≤ i) (hi : i < zb_len S a) (kk : zb_WP X F (pc + 1) L ((0, m a i) :: st) S m k n) : zb_WP X F pc L ((0, i) :: (2, a) :: st) S m k n := by
  obtain ⟨G, ⟨p, l, e, R, s, mi, args, below, meth, c, Z⟩, d, K, N, Q⟩ := X
  intro hC H locs ls hH hlo hL hLo hst
  have hC' := hC
  obtain ⟨hx, hb, hml, hown, hts, hK, -⟩ := hC'
  obtain ⟨h1, h2, h3⟩ := ha
  have hat := hH.2.1 a h1 h2
  rw [zb_ent_z G h3] at hat
  have hini : zb_inI i := zb_okh hst
  have hcan : zb_inI (m a i) := by
    have h := hH.2.2.2.1 a i
    unfold zb_st at h
    rw [h3] at h
    exact h
  simp only [List.map_cons, zb_cvr h1]
  refine va_zald (ws := [(zb_ad G a, _)]) (D := G.2.2.2.1) (tys := zb_tys G.2.2.2.2) (i := Int32.ofInt i) hx hb hK (zb_P1 hat) 0 2 rfl (zb_tys_at _ (t := 2) (by omega)) (zb_vpin hini h0 hi) hd ?_
  rw [zb_c32 hini, Int.toNat_of_nonneg h0]
  exact kk hC H locs ls hH hlo hL hLo (zb_oki hcan (zb_okt (zb_okt hst)))
theorem zb_aald {a i : Int} {t : Nat} (hd : decode F.2.2.1 pc = .ok (.aaload, 1)) (ha : zb_is S a (13 + t)) (ht : 3 ≤ t ∧ t < 7) (h0 : 0 ≤ i) (hi : i < zb_len S a) (hn : 1 ≤ m a i) (kk : zb_WP X F (pc + 1) L ((2, m a i) :: st) S m k n) : zb_WP X F pc L ((0, i) :: (2, a) :: st) S m k n := by
  obtain ⟨G, ⟨p, l, e, R, s, mi, args, below, meth, c, Z⟩, d, K, N, Q⟩ := X
  intro hC H locs ls hH hlo hL hLo hst
  have hC' := hC
  obtain ⟨hx, hb, hml, hown, hts, hK, -⟩ := hC'
  obtain ⟨h1, h2, h3⟩ := ha
  have hat := hH.2.1 a h1 h2
  rw [zb_ent_q G h3 ht.1] at hat
  have hini : zb_inI i := zb_okh hst
  obtain ⟨C, hCt⟩ := zb_kt_q ht.1
  have hty := zb_tys_at G.2.2.2.2 ht.2
  rw [hCt] at hty
  simp only [List.map_cons, zb_cvr h1]
  refine va_aldq (ws := [(zb_ad G a, _)]) (D := G.2.2.2.1) (tys := zb_tys G.2.2.2.2) (i := Int32.ofInt i) hx hb hK (zb_P1 hat) 0 t rfl hty (zb_vpin hini h0 hi) hd ?_
  rw [zb_c32 hini, Int.toNat_of_nonneg h0]
  exact kk hC H locs ls hH hlo hL hLo (zb_okr hn (zb_okt (zb_okt hst)))
theorem zb_n32 (n : Nat) : Int32.ofNat n = Int32.ofInt (n : Int) := by
  apply Int32.toInt_inj.mp
  rw [Int32.toInt_ofInt, Int32.toInt_ofNat']
theorem zb_alen {a : Int} {t : Nat} (hd : decode F.2.2.1 pc = .ok (.arraylength, 1)) (ha : zb_is S a (13 + t)) (ht : t < 7) (hi : zb_inI (zb_len S a)) (kk : zb_WP X F (pc + 1) L ((0, zb_len S a) :: st) S m k n) : zb_WP X F pc L ((2, a) :: st) S m k n := by
  obtain ⟨G, ⟨p, l, e, R, s, mi, args, below, meth, c, Z⟩, d, K, N, Q⟩ := X
  intro hC H locs ls hH hlo hL hLo hst
  have hC' := hC
  obtain ⟨hx, hb, hml, hown, hts, hK, -⟩ := hC'
  obtain ⟨h1, h2, h3⟩ := ha
  have hat := hH.2.1 a h1 h2
  unfold zb_ent at hat
  rw [if_neg (by omega), show (S.2 a).1 - 13 = t by omega] at hat
  simp only [List.map_cons, zb_cvr h1]
  refine va_alen (ws := [(zb_ad G a, _)]) (D := G.2.2.2.1) (tys := zb_tys G.2.2.2.2) hx hb hK (zb_P1 hat) 0 t rfl (zb_tys_at _ ht) (zb_n32 _) hd ?_
  exact kk hC H locs ls hH hlo hL hLo (zb_oki hi (zb_okt hst))
/-- a place of an array is written: the new heap -/
theorem zb_arr_set {G : zb_G} {H H' : Heap} {a i v : Int} {val : Value} {cA : ClassId} {N j : Nat} {g g' : Nat → Value} {x : vp_A} (hH : zb_H G S m H) (h1 : 1 ≤ a) (hx : zb_ent G (S.2 a) (zb_up m a i v a) = .inl (cA, x)) (hxc : vp_cell cA x = arrV cA N g') (hg : ∀ q, updV g j val q = g' q)
    (e1 : H'[zb_ad G a]? = some ((arrV cA N g).setSlot j val)) (e2 : H'.size = H.size) (e3 : ∀ z, z ≠ zb_ad G a → H'[z]? = H[z]?) (hv : zb_okm (zb_st (S.2 a) i) v) : zb_H G S (zb_up m a i v) H' := by
  refine zb_H_set hH h1 ?_ e2 e3 (fun b hb => zb_up_row m hb) (fun q => ?_)
  · rw [hx]
    show H'[zb_ad G a]? = some (vp_cell cA x)
    rw [e1, hxc, arrV_store]
    congr 2
    funext q
    exact hg q
  · by_cases hq : q = i
    · subst hq
      rw [zb_up_same]
      exact hv
    · rw [zb_up_ne m (Or.inr hq)]
      exact hH.2.2.2.1 a q
theorem zb_lo {G : zb_G} {a : Int} {i : Nat} {locs : List Loc} (hlo : ∀ q ∈ locs, G.1 ≤ q.base) : ∀ z ∈ locs ++ [⟨zb_ad G a, i⟩], G.1 ≤ z.base := by
  intro z hz
  rcases List.mem_append.mp hz with h | h
  · exact hlo z h
  · rw [List.mem_singleton.mp h]
    exact Nat.le_add_right _ _
theorem zb_upn {m : zb_M} {a i v : Int} (h0 : 0 ≤ i) {α : Type} (f : Int → α) (q : Nat) : (if q = i.toNat then f v else f (m a q)) = f (zb_up m a i v a q) := by
  by_cases h : q = i.toNat
  · rw [if_pos h]
    have : (q : Int) = i := by omega
    rw [this, zb_up_same]
  · rw [if_neg h, zb_up_ne m (Or.inr (by omega))]
theorem zb_iast {a i v : Int} (hd : decode F.2.2.1 pc = .ok (.iastore, 1)) (ha : zb_is S a 13) (h0 : 0 ≤ i) (hi : i < zb_len S a) (kk : zb_WP X F (pc + 1) L st S (zb_up m a i v) k n) : zb_WP X F pc L ((0, v) :: (0, i) :: (2, a) :: st) S m k n := by
  obtain ⟨G, ⟨p, l, e, R, s, mi, args, below, meth, c, Z⟩, d, K, N, Q⟩ := X
  intro hC H locs ls hH hlo hL hLo hst
  have hC' := hC
  obtain ⟨hx, hb, hml, hown, hts, hK, -⟩ := hC'
  obtain ⟨h1, h2, h3⟩ := ha
  have hat := hH.2.1 a h1 h2
  rw [zb_ent_i G h3] at hat
  have hini : zb_inI i := zb_okh (zb_okt hst)
  simp only [List.map_cons, zb_cvr h1]
  refine W.iast (x := Int32.ofInt v) (j := Int32.ofInt i) hx hb hat ((hK.2 0 _ (zb_tys_at _ (by omega))).1 _ (fun j => .int (Int32.ofInt (m a j)))) (fun q => by cases q) (by show ¬ (_ ∨ (arrV _ _ _).slots.size ≤ _); rw [arrV_size]; exact zb_vpin hini h0 hi) rfl rfl hd fun H' e1 e2 e3 => ?_
  rw [zb_c32 hini] at e1 ⊢
  refine kk hC H' _ ls (zb_arr_set hH h1 (zb_ent_i G h3 _) rfl (fun q => zb_upn h0 (fun z => Value.int (Int32.ofInt z)) q) e1 e2 e3 ?_) (zb_lo hlo) hL hLo (zb_okt (zb_okt (zb_okt hst)))
  unfold zb_st
  rw [h3]
  exact zb_okh hst
theorem zb_last {a i v : Int} (hd : decode F.2.2.1 pc = .ok (.lastore, 1)) (ha : zb_is S a 14) (h0 : 0 ≤ i) (hi : i < zb_len S a) (kk : zb_WP X F (pc + 1) L st S (zb_up m a i v) k n) : zb_WP X F pc L ((1, v) :: (0, i) :: (2, a) :: st) S m k n := by
  obtain ⟨G, ⟨p, l, e, R, s, mi, args, below, meth, c, Z⟩, d, K, N, Q⟩ := X
  intro hC H locs ls hH hlo hL hLo hst
  have hC' := hC
  obtain ⟨hx, hb, hml, hown, hts, hK, -⟩ := hC'
  obtain ⟨h1, h2, h3⟩ := ha
  have hat := hH.2.1 a h1 h2
  rw [zb_ent_l G h3] at hat
  have hini : zb_inI i := zb_okh (zb_okt hst)
  simp only [List.map_cons, zb_cvr h1]
  refine W.last (x := Int64.ofInt v) (j := Int32.ofInt i) hx hb hat ((hK.2 1 _ (zb_tys_at _ (by omega))).1 _ (fun j => .long (Int64.ofInt (m a j)))) (fun q => by cases q) (by show ¬ (_ ∨ (arrV _ _ _).slots.size ≤ _); rw [arrV_size]; exact zb_vpin hini h0 hi) rfl rfl hd fun H' e1 e2 e3 => ?_
  rw [zb_c32 hini] at e1 ⊢
  refine kk hC H' _ ls (zb_arr_set hH h1 (zb_ent_l G h3 _) rfl (fun q => zb_upn h0 (fun z => Value.long (Int64.ofInt z)) q) e1 e2 e3 ?_) (zb_lo hlo) hL hLo (zb_okt (zb_okt (zb_okt hst)))
  unfold zb_st
  rw [h3]
  exact zb_okh hst
theorem zb_zast {a i v : Int} (hd : decode F.2.2.1 pc = .ok (.bastore, 1)) (ha : zb_is S a 15) (h0 : 0 ≤ i) (hi : i < zb_len S a) (hv : v = 0 ∨ v = 1) (kk : zb_WP X F (pc + 1) L st S (zb_up m a i v) k n) : zb_WP X F pc L ((0, v) :: (0, i) :: (2, a) :: st) S m k n := by
  obtain ⟨G, ⟨p, l, e, R, s, mi, args, below, meth, c, Z⟩, d, K, N, Q⟩ := X
  intro hC H locs ls hH hlo hL hLo hst
  have hC' := hC
  obtain ⟨hx, hb, hml, hown, hts, hK, -⟩ := hC'
  obtain ⟨h1, h2, h3⟩ := ha
  have hat := hH.2.1 a h1 h2
  rw [zb_ent_z G h3] at hat
  have hini : zb_inI i := zb_okh (zb_okt hst)
  have hnr : narrow .boolean (.int (Int32.ofInt v)) = .int (Int32.ofInt v) := by rcases hv with rfl | rfl <;> rfl
  simp only [List.map_cons, zb_cvr h1]
  refine W.zast (x := Int32.ofInt v) (j := Int32.ofInt i) hx hb hat ((hK.2 2 _ (zb_tys_at _ (by omega))).1 _ (fun j => .int (Int32.ofInt (m a j)))) (fun q => by cases q) (by show ¬ (_ ∨ (arrV _ _ _).slots.size ≤ _); rw [arrV_size]; exact zb_vpin hini h0 hi) rfl rfl hd fun H' e1 e2 e3 => ?_
  rw [zb_c32 hini] at e1 ⊢
  rw [hnr] at e1
  refine kk hC H' _ ls (zb_arr_set hH h1 (zb_ent_z G h3 _) rfl (fun q => zb_upn h0 (fun z => Value.int (Int32.ofInt z)) q) e1 e2 e3 ?_) (zb_lo hlo) hL hLo (zb_okt (zb_okt (zb_okt hst)))
  unfold zb_st
  rw [h3]
  exact zb_okh hst
/-- which class an array of references is over, by its kind -/
def zb_comp : Nat → Nat
  | 3 => 4
  | 4 => 5
  | 5 => 3
  | _ => 10
theorem zb_comp_ok {t : Nat} (h : 3 ≤ t ∧ t < 7) : ∃ q : vw_C, vwCl[zb_comp t]? = some q ∧ zb_kt t = .object q.1 := by
  obtain ⟨h1, h2⟩ := h
  have : t = 3 ∨ t = 4 ∨ t = 5 ∨ t = 6 := by omega
  rcases this with rfl | rfl | rfl | rfl
  · exact ⟨_, rfl, rfl⟩
  · exact ⟨_, rfl, rfl⟩
  · exact ⟨_, rfl, rfl⟩
  · exact ⟨_, rfl, rfl⟩
theorem zb_comp_lt {t : Nat} : zb_comp t < 13 := by
  unfold zb_comp
  split <;> omega
theorem zb_aast {a i v : Int} {t : Nat} (hd : decode F.2.2.1 pc = .ok (.aastore, 1)) (ha : zb_is S a (13 + t)) (ht : 3 ≤ t ∧ t < 7) (h0 : 0 ≤ i) (hi : i < zb_len S a) (hv : zb_is S v (zb_comp t)) (kk : zb_WP X F (pc + 1) L st S (zb_up m a i v) k n) : zb_WP X F pc L ((2, v) :: (0, i) :: (2, a) :: st) S m k n := by
  obtain ⟨G, ⟨p, l, e, R, s, mi, args, below, meth, c, Z⟩, d, K, N, Q⟩ := X
  intro hC H locs ls hH hlo hL hLo hst
  have hC' := hC
  obtain ⟨hx, hb, hml, hown, hts, hK, -⟩ := hC'
  obtain ⟨h1, h2, h3⟩ := ha
  obtain ⟨v1, v2, v3⟩ := hv
  have hat := hH.2.1 a h1 h2
  rw [zb_ent_q G h3 ht.1] at hat
  have hav := hH.2.1 v v1 v2
  rw [zb_ent_obj G v3 zb_comp_lt] at hav
  have hini : zb_inI i := zb_okh (zb_okt hst)
  have hlt : i.toNat < (S.2 a).2 := by unfold zb_len at hi; omega
  obtain ⟨r, hc, hkt⟩ := zb_comp_ok ht
  have hty := zb_tys_at G.2.2.2.2 ht.2
  rw [hkt] at hty
  obtain ⟨r', hr', cellV, g1, g2, g3, -⟩ := hav
  have hcls := (hK.1 _ r hc).2
  obtain ⟨kA, comp, k1, k2, k3, -⟩ := (hK.2 t _ hty).2
  have hcomp : comp = G.2.2.2.1.1 (zb_comp t) := Option.some.inj (k3.symm.trans hcls.1)
  subst hcomp
  obtain ⟨kC, hkC, -⟩ := hcls.2
  simp only [List.map_cons, zb_cvr h1, zb_cvr v1]
  refine W.aast (j := Int32.ofInt i) hx hb hat (fun q h => by cases h) (fun h => by cases h) k1 k2 rfl hkC ⟨fun q => (zb_vpin hini h0 hi) (Or.inl q), by show _ < (arrV _ _ _).slots.size; rw [arrV_size]; show (Int32.ofInt i).toNatClampNeg < _; rw [zb_c32 hini]; exact hlt⟩ g1 (fun q h => by rw [g3] at h; cases h) (by rw [g2]; exact hkC) (by rw [g2]; exact va_assign hcls) rfl rfl hd fun H' e1 e2 e3 => ?_
  rw [zb_c32 hini] at e1 ⊢
  have hval : Value.ref (zb_ad G v) = va_rf (zb_rf G.1 v) := (zb_cvr (G := G) v1).symm
  rw [hval] at e1
  refine kk hC H' _ ls (zb_arr_set hH h1 (zb_ent_q G h3 ht.1 _) rfl (fun q => zb_upn h0 (fun z => va_rf (zb_rf G.1 z)) q) e1 e2 e3 ?_) (zb_lo hlo) hL hLo (zb_okt (zb_okt (zb_okt hst)))
  unfold zb_st
  rw [if_neg (by omega), if_neg (by omega), if_neg (by omega)]
  trivial
end ZBA
