/-! ===== cells ===== -/
def zb_is (S : zb_S) (a : Int) (kind : Nat) : Prop := 1 ≤ a ∧ a ≤ S.1 ∧ (S.2 a).1 = kind
def zb_len (S : zb_S) (a : Int) : Int := ((S.2 a).2 : Int)
def zb_up (m : zb_M) (a k v : Int) : zb_M := fun b j => if b = a ∧ j = k then v else m b j
theorem zb_up_same (m : zb_M) (a k v : Int) : zb_up m a k v a k = v := by simp [zb_up]
theorem zb_up_ne (m : zb_M) {a k v b j : Int} (h : b ≠ a ∨ j ≠ k) : zb_up m a k v b j = m b j := by
  unfold zb_up
  rw [if_neg]
  rintro ⟨h1, h2⟩
  rcases h with h | h
  · exact h h1
  · exact h h2
theorem zb_up_row (m : zb_M) {a k v b : Int} (h : b ≠ a) : zb_up m a k v b = m b := by
  funext j
  exact zb_up_ne m (Or.inl h)
def zb_TT (ci k : Nat) : String × String × String × Bool := match vwCl[ci]? with
  | some q => q.2.1 k
  | none => ("", "", "", false)
/-- what the tables say of a class -/
def zb_cl (ci : Nat) (q : vw_C) : Prop := vwCl[ci]? = some q ∧ (∀ w ∈ u_ws q.1 q.2.1 q.2.2, w ∈ zb_all) ∧ (∀ k, k < q.2.2 → parseFieldDescriptor (q.2.1 k).2.2.1 = some (zb_tyX ci k)) ∧ (∀ a, a < q.2.2 → ∀ b, b < q.2.2 → a ≠ b → (q.2.1 a).2.1 ≠ (q.2.1 b).2.1) ∧ ci < 13
/-- what the tables say of a field's link -/
def zb_fl (own : String) (index ci k : Nat) : Prop := ∃ q : vw_C, zb_cl ci q ∧ k < q.2.2 ∧ Cond.fieldLink own index (q.2.1 k).1 (q.2.1 k).2.1 (q.2.1 k).2.2.1 ∈ zb_all
theorem zb_P1 {D : va_G} {cl : List vw_C} {H : Heap} {a : Nat} {e : va_E} (h : va_at D cl (a, e) H) : va_P D cl [(a, e)] H := by
  intro k q hk
  match k with
  | 0 =>
    simp only [List.getElem?_cons_zero, Option.some.injEq] at hk
    subst hk
    exact h
  | k + 1 => simp at hk
theorem zb_nf_of {ci : Nat} {q : vw_C} (h : vwCl[ci]? = some q) : zb_nf ci = q.2.2 := by
  unfold zb_nf
  rw [h]
theorem zb_ent_obj (G : zb_G) {kl : Nat × Nat} {ci : Nat} (h : kl.1 = ci) (hc : ci < 13) (f : Int → Int) : zb_ent G kl f = .inr (ci, (List.range (zb_nf ci)).map (fun (k : Nat) => zb_cv G (zb_tag ci k, f k))) := by
  subst h
  unfold zb_ent
  rw [if_pos hc]
theorem zb_fs_at (G : zb_G) (ci : Nat) (f : Int → Int) {k : Nat} (h : k < zb_nf ci) : ((List.range (zb_nf ci)).map (fun (k : Nat) => zb_cv G (zb_tag ci k, f k)))[k]? = some (zb_cv G (zb_tag ci k, f k)) := by
  rw [List.getElem?_map, List.getElem?_range h]
  rfl
section ZBM
variable {X : zb_X} {F : zb_F} {pc : Nat} {L : List (Nat × zb_V)} {st : List zb_V} {S : zb_S} {m : zb_M} {k n : Nat}
/-- a field is read -/
theorem zb_getf {index ci j t : Nat} {a : Int} (hd : decode F.2.2.1 pc = .ok (.getfield index, 3)) (hf : zb_fl F.1 index ci j) (ht : zb_tag ci j = t) (ha : zb_is S a ci) (hn : t = 2 → 1 ≤ m a j) (kk : zb_WP X F (pc + 3) L ((t, m a j) :: st) S m k n) : zb_WP X F pc L ((2, a) :: st) S m k n := by
  obtain ⟨G, ⟨p, l, e, R, s, mi, args, below, meth, c, Z⟩, d, K, N, Q⟩ := X
  intro hC H locs ls hH hlo hL hLo hst
  have hC' := hC
  obtain ⟨hx, hb, hml, hown, hts, hK, -⟩ := hC'
  obtain ⟨q, ⟨hc, hin, hty, hnm, hci⟩, hk, hlink⟩ := hf
  obtain ⟨h1, h2, h3⟩ := ha
  have hnf := zb_nf_of hc
  have hat := hH.2.1 a h1 h2
  rw [zb_ent_obj G h3 hci] at hat
  have hcan : zb_okm t (m a j) := by
    have h := hH.2.2.2.1 a j
    unfold zb_st at h
    rw [h3, if_pos hci, Int.toNat_natCast, ht] at h
    exact h
  have hok : zb_ok t (m a j) := by
    unfold zb_okm at hcan
    unfold zb_ok
    match t, hcan, hn with
    | 0, h, _ => exact h
    | 1, h, _ => exact h
    | 2, _, h => exact h rfl
    | (t + 3), _, _ => trivial
  rw [List.map_cons, zb_cvr h1]
  refine va_get (ws := [(zb_ad G a, _)]) (D := G.2.2.2.1) (ci := ci) (C := q.1) (T := q.2.1) (N := q.2.2) hx hb hts hin hown hK (zb_P1 hat) 0 rfl hc j hk (hts _ hlink) (fun _ h => h) (zb_fs_at G ci (m a) (by rw [hnf]; exact hk)) hd ?_
  rw [ht]
  exact kk hC H locs ls hH hlo hL hLo (List.forall_mem_cons.mpr ⟨hok, zb_okt hst⟩)
theorem zb_H_set {G : zb_G} {S : zb_S} {m m' : zb_M} {H H' : Heap} {a : Int} (h : zb_H G S m H) (h1 : 1 ≤ a) (he : va_at G.2.2.2.1 vwCl (zb_ad G a, zb_ent G (S.2 a) (m' a)) H') (hz : H'.size = H.size) (ho : ∀ q, q ≠ zb_ad G a → H'[q]? = H[q]?) (hm : ∀ b, b ≠ a → m' b = m b) (hc : ∀ k, zb_okm (zb_st (S.2 a) k) (m' a k)) : zb_H G S m' H' := by
  obtain ⟨g1, g2, g3, g4, g5⟩ := h
  refine ⟨by rw [hz]; exact g1, fun b hb1 hb2 => ?_, fun q hq => ?_, fun b j => ?_, g5⟩
  · by_cases hba : b = a
    · subst hba
      exact he
    · rw [hm b hba]
      refine va_at.kept (g2 b hb1 hb2) (ho _ ?_)
      unfold zb_ad
      omega
  · rw [ho q (by unfold zb_ad; omega)]
    exact g3 q hq
  · by_cases hba : b = a
    · subst hba
      exact hc j
    · rw [hm b hba]
      exact g4 b j
theorem zb_fs_set (G : zb_G) (ci : Nat) (m : zb_M) (a : Int) {j : Nat} {t : Nat} {v : Int} (ht : zb_tag ci j = t) : ((List.range (zb_nf ci)).map (fun (k : Nat) => zb_cv G (zb_tag ci k, m a k))).set j (zb_cv G (t, v)) = (List.range (zb_nf ci)).map (fun (k : Nat) => zb_cv G (zb_tag ci k, zb_up m a j v a k)) := by
  apply List.ext_getElem?
  intro i
  rw [List.getElem?_set]
  by_cases hi : j = i
  · subst hi
    rw [if_pos rfl]
    by_cases hl : j < zb_nf ci
    · rw [if_pos (by simpa using hl), zb_fs_at G ci (zb_up m a j v a) hl, zb_up_same, ht]
    · rw [if_neg (by simpa using hl)]
      symm
      apply List.getElem?_eq_none
      simpa using hl
  · rw [if_neg hi, List.getElem?_map, List.getElem?_map]
    by_cases hl : i < zb_nf ci
    · rw [List.getElem?_range hl]
      simp only [Option.map_some]
      rw [zb_up_ne m (Or.inr (by omega))]
    · rw [List.getElem?_eq_none (by simpa using hl)]
      rfl
/-- what may be put into a field -/
def zb_fit (ty : FieldType) (v : Int) : Prop := ty = .int ∨ (ty = .boolean ∧ (v = 0 ∨ v = 1)) ∨ zb_ft ty = 2
theorem zb_narrow {G : zb_G} {ty : FieldType} {v : Int} (hf : zb_fit ty v) (hv : zb_ft ty = 2 → 1 ≤ v) : narrow ty (zb_cv G (zb_ft ty, v)) = zb_cv G (zb_ft ty, v) ∧ fits ty (zb_cv G (zb_ft ty, v)) = true := by
  rcases hf with rfl | ⟨rfl, rfl | rfl⟩ | h
  · exact ⟨rfl, rfl⟩
  · exact ⟨rfl, rfl⟩
  · exact ⟨rfl, rfl⟩
  · have h1 := hv h
    rw [h, zb_cvr h1]
    cases ty <;> simp_all [zb_ft, narrow, fits]
/-- a field is written -/
theorem zb_putf {index ci j t : Nat} {a v : Int} (hd : decode F.2.2.1 pc = .ok (.putfield index, 3)) (hf : zb_fl F.1 index ci j) (ht : zb_tag ci j = t) (hfin : (zb_TT ci j).2.2.2 = false ∨ ((zb_TT ci j).2.2.2 = true ∧ F.2.1.name = "<init>" ∧ (zb_TT ci j).1 = F.1)) (ha : zb_is S a ci) (hfit : zb_fit (zb_tyX ci j) v) (kk : zb_WP X F (pc + 3) L st S (zb_up m a j v) k n) : zb_WP X F pc L ((t, v) :: (2, a) :: st) S m k n := by
  obtain ⟨G, ⟨p, l, e, R, s, mi, args, below, meth, c, Z⟩, d, K, N, Q⟩ := X
  intro hC H locs ls hH hlo hL hLo hst
  have hC' := hC
  obtain ⟨hx, hb, hml, hown, hts, hK, -, hini, -⟩ := hC'
  obtain ⟨q, ⟨hc, hin, hty, hnm, hci⟩, hk, hlink⟩ := hf
  obtain ⟨h1, h2, h3⟩ := ha
  have hnf := zb_nf_of hc
  have hTT : zb_TT ci j = q.2.1 j := by unfold zb_TT; rw [hc]
  rw [hTT] at hfin
  have hat := hH.2.1 a h1 h2
  rw [zb_ent_obj G h3 hci] at hat
  have hokv : zb_ok t v := zb_okh hst
  have hnv : zb_ft (zb_tyX ci j) = 2 → 1 ≤ v := fun h => by
    have e2 : t = 2 := by rw [← ht]; exact h
    subst e2
    exact hokv
  have hap := va_apart (own := F.1) hts hin (zb_tyX ci) hty hnm hK hc
  have hat0 := hat
  obtain ⟨r, g1, cell, q1, q2, q3, q4⟩ := hat
  have hr : r = q := Option.some.inj (g1.symm.trans hc)
  subst hr
  obtain ⟨hS, hfc, kC, hkC, hkind⟩ := hK.1 ci _ hc
  obtain ⟨cf, kf, fi, f, hi, hsl⟩ := hS j hk
  have hlay := hts _ (hin _ (u_in_lay hk))
  unfold u_lay at hlay
  have hst2 := (u_facts hfc hkC (u_lays hts hin hk) hi).1
  have htt : zb_ft (zb_tyX ci j) = t := ht
  have hnr := zb_narrow (G := G) hfit hnv
  rw [htt] at hnr
  have hfin' : ∀ H' : Heap, H'[zb_ad G a]? = some (cell.setSlot f.slot (zb_cv G (t, v))) → H'.size = H.size → (∀ z, z ≠ zb_ad G a → H'[z]? = H[z]?) → zb_H G S (zb_up m a j v) H' := by
    intro H' e1 e2 e3
    refine zb_H_set hH h1 ?_ e2 e3 (fun b hb => zb_up_row m hb) (fun i => ?_)
    · rw [zb_ent_obj G h3 hci, ← zb_fs_set G ci m a ht]
      rw [hsl] at e1
      exact ⟨_, hc, t_OB.to (V := updV (vp_V _) j (zb_cv G (t, v))) ⟨_, e1, q2, q3, t_set q4 hap hk (zb_cv G (t, v))⟩ (fun i _ => vp_updV_set (by simp [hnf]; exact hk) _ i)⟩
    · by_cases hij : i = (j : Int)
      · subst hij
        rw [zb_up_same]
        unfold zb_st
        rw [h3, if_pos hci, Int.toNat_natCast, ht]
        unfold zb_ok at hokv
        unfold zb_okm
        match t, hokv with
        | 0, h => exact h
        | 1, h => exact h
        | 2, h => trivial
        | (t + 3), _ => trivial
      · rw [zb_up_ne m (Or.inr hij)]
        exact hH.2.2.2.1 a i
  have hlo' : ∀ z ∈ locs ++ [⟨zb_ad G a, f.slot⟩], G.1 ≤ z.base := by
    intro z hz
    rcases List.mem_append.mp hz with h | h
    · exact hlo z h
    · rw [List.mem_singleton.mp h]
      exact Nat.le_add_right _ _
  simp only [List.map_cons, zb_cvr h1]
  rcases hfin with hfin | ⟨hfin, hinit, hdecl⟩
  · rw [if_neg (by rw [hfin]; decide)] at hlay
    have h6 := u_store hfc hkC hkind hlay hi (hty j hk) hnr.1 hnr.2
    refine W.putK hx hb (f := f) ⟨hown, hts _ hlink, ⟨_, _, _, hi⟩, hst2⟩ (by rw [q2]; exact h6) q1 q3 (by rw [hsl]; exact k2_hasslot (q4 j hk)) rfl rfl hd fun H' e1 e2 e3 => ?_
    exact kk hC H' _ ls (hfin' H' e1 e2 e3) hlo' hL hLo (zb_okt (zb_okt hst))
  · rw [if_pos hfin] at hlay
    have hcf : mi.cls = cf := by
      obtain ⟨_, _, c', _, _, _, -, -, hf', -, -, -, hown2, -⟩ := Cond.laysFinal_spec hlay
      have e1 : c' = cf := by have := hi.symm.trans hf'; simp at this; exact this.1.symm
      rw [hdecl] at hown2
      rw [← e1]; exact Option.some.inj (hown.symm.trans hown2)
    have h6 := u_fits hfc hkC hkind (Or.inr hlay) hi (hty j hk) hnr.1 hnr.2
    refine W.putFinK hx hb hown (hts _ hlink) hi hst2 hcf (hini hinit) (by rw [q2]; exact h6) q1 q3 (by rw [hsl]; exact k2_hasslot (q4 j hk)) rfl rfl hd fun H' e1 e2 e3 => ?_
    exact kk hC H' _ ls (hfin' H' e1 e2 e3) hlo' hL hLo (zb_okt (zb_okt hst))
end ZBM
