/-! ===== new cells ===== -/
def zb_pS (S : zb_S) (kind len : Nat) : zb_S := (S.1 + 1, fun b => if b = (S.1 : Int) + 1 then (kind, len) else S.2 b)
def zb_pM (S : zb_S) (m : zb_M) : zb_M := fun b j => if b = (S.1 : Int) + 1 then 0 else m b j
theorem zb_pS_old (S : zb_S) (kind len : Nat) {a : Int} (h : a ≤ S.1) : (zb_pS S kind len).2 a = S.2 a := by
  show (if a = (S.1 : Int) + 1 then _ else _) = _
  rw [if_neg (by omega)]
theorem zb_pS_new (S : zb_S) (kind len : Nat) : (zb_pS S kind len).2 ((S.1 : Int) + 1) = (kind, len) := by
  show (if (S.1 : Int) + 1 = (S.1 : Int) + 1 then _ else _) = _
  rw [if_pos rfl]
theorem zb_pM_old (S : zb_S) (m : zb_M) {a : Int} (h : a ≤ S.1) : zb_pM S m a = m a := by
  funext j
  show (if a = (S.1 : Int) + 1 then _ else _) = _
  rw [if_neg (by omega)]
theorem zb_pM_new (S : zb_S) (m : zb_M) : zb_pM S m ((S.1 : Int) + 1) = fun _ => 0 := by
  funext j
  show (if (S.1 : Int) + 1 = (S.1 : Int) + 1 then _ else _) = _
  rw [if_pos rfl]
theorem zb_okm0 (t : Nat) : zb_okm t 0 := by
  unfold zb_okm
  split
  · exact zb_in0
  · exact ⟨by omega, by omega⟩
  · trivial
theorem zb_H_push {G : zb_G} {S : zb_S} {m : zb_M} {H H' : Heap} {kind len : Nat} (h : zb_H G S m H) (he : va_at G.2.2.2.1 vwCl (H.size, zb_ent G (kind, len) (fun _ => 0)) H') (hz : H'.size = H.size + 1) (ho : ∀ q, q < H.size → H'[q]? = H[q]?) : zb_H G (zb_pS S kind len) (zb_pM S m) H' := by
  obtain ⟨g1, g2, g3, g4, g5⟩ := h
  refine ⟨by rw [hz, g1]; rfl, fun b hb1 hb2 => ?_, fun q hq => ?_, fun b j => ?_, g5⟩
  · by_cases hb : b ≤ S.1
    · rw [zb_pS_old S kind len hb, zb_pM_old S m hb]
      refine va_at.kept (g2 b hb1 hb) (ho _ ?_)
      show G.1 + (b - 1).toNat < H.size
      omega
    · have hb3 : b = (S.1 : Int) + 1 := by
        have : b ≤ ((S.1 + 1 : Nat) : Int) := hb2
        omega
      subst hb3
      rw [zb_pS_new, zb_pM_new]
      have e : zb_ad G ((S.1 : Int) + 1) = H.size := by
        unfold zb_ad
        omega
      rw [e]
      exact he
  · rw [ho q (by omega)]
    exact g3 q hq
  · by_cases hb : b = (S.1 : Int) + 1
    · subst hb
      rw [zb_pM_new]
      exact zb_okm0 _
    · have e1 : (zb_pS S kind len).2 b = S.2 b := by
        show (if b = (S.1 : Int) + 1 then _ else _) = _
        rw [if_neg hb]
      have e2 : zb_pM S m b j = m b j := by
        show (if b = (S.1 : Int) + 1 then _ else _) = _
        rw [if_neg hb]
      rw [e1, e2]
      exact g4 b j
section ZBN
variable {X : zb_X} {F : zb_F} {pc : Nat} {L : List (Nat × zb_V)} {st : List zb_V} {S : zb_S} {m : zb_M} {k n : Nat}
theorem zb_defv (G : zb_G) (ty : FieldType) (h : zb_fit ty 0) : defaultValue ty = zb_cv G (zb_ft ty, 0) := by
  rcases h with rfl | ⟨rfl, -⟩ | h
  · rfl
  · rfl
  · rw [h]
    cases ty <;> simp_all [zb_ft, defaultValue, zb_cv, zb_rf, va_rf]
/-- what the tables say of a class that is made -/
def zb_mk (own : String) (index ci : Nat) : Prop := ∃ q : vw_C, zb_cl ci q ∧ Cond.classLink own index q.1 ∈ zb_all ∧ Cond.instantiable q.1 q.2.2 ∈ zb_all ∧ Cond.initialized q.1 ∈ zb_all ∧ ∀ j, j < q.2.2 → zb_fit (zb_tyX ci j) 0
theorem zb_new {index ci : Nat} {d K N : Nat} {G : zb_G} {C : zb_C} {Q : Int → zb_S → zb_M → Prop} (hd : decode F.2.2.1 pc = .ok (.new index, 3)) (hf : zb_mk F.1 index ci) (hk : k + 1 ≤ K) (hn : n + zb_nf ci ≤ N) (kk : zb_WP (G, C, d, K, N, Q) F (pc + 3) L ((2, (S.1 : Int) + 1) :: st) (zb_pS S ci 0) (zb_pM S m) (k + 1) (n + zb_nf ci)) : zb_WP (G, C, d, K, N, Q) F pc L st S m k n := by
  obtain ⟨p, l, e, R, s, mi, args, below, meth, c, Z⟩ := C
  intro hC H locs ls hH hlo hL hLo hst
  have hC' := hC
  obtain ⟨hx, hb, hml, hown, hts, hK, -, hini, -, -, hKR, hNR, -⟩ := hC'
  obtain ⟨q, ⟨hc, hin, hty, hnm, hci⟩, hcl, hins, hinit, hft⟩ := hf
  have hnf := zb_nf_of hc
  have hKn := hK.1 ci _ hc
  rw [hnf] at hn kk
  refine W.newcK hx hb hown (hts _ hcl) (hts _ hins) (hts _ hinit) rfl hd (by omega) (by omega) hKn.2.1 rfl fun H1 kC hkC e1 z1 o1 => ?_
  have hH1 : zb_H G (zb_pS S ci 0) (zb_pM S m) H1 := by
    refine zb_H_push hH ?_ z1 o1
    rw [zb_ent_obj G rfl hci]
    refine ⟨_, hc, (u_born (zb_tyX ci) hts hin hKn hkC e1 hty).to (fun j hj => ?_)⟩
    show defaultValue (zb_tyX ci j) = vp_V _ j
    have hj2 : j < zb_nf ci := by rw [hnf]; exact hj
    rw [zb_defv G _ (hft j hj)]
    unfold vp_V
    rw [List.getD_eq_getElem?_getD, zb_fs_at G ci (fun _ => 0) hj2]
    rfl
  have hw := kk hC H1 locs ls hH1 hlo hL hLo (zb_okr (by omega) hst)
  rw [List.map_cons, zb_cvr (by omega)] at hw
  have e : zb_ad G ((S.1 : Int) + 1) = H.size := by
    have := hH.1
    unfold zb_ad
    omega
  rw [e] at hw
  exact hw
/-- a row of numbers is made: which kind -/
def zb_ak : ArrayType → Option Nat
  | .int => some 0
  | .long => some 1
  | .boolean => some 2
  | _ => none
theorem zb_newa {at' : ArrayType} {t : Nat} {i : Int} {d K N : Nat} {G : zb_G} {C : zb_C} {Q : Int → zb_S → zb_M → Prop} (hd : decode F.2.2.1 pc = .ok (.newarray at', 2)) (ht : zb_ak at' = some t) (hw0 : Cond.arrayClass (newarray.typeOf at') ∈ zb_all) (h0 : 0 ≤ i) (hi : i ≤ 100000) (hk : k + 1 ≤ K) (hn : n + i.toNat ≤ N) (kk : zb_WP (G, C, d, K, N, Q) F (pc + 2) L ((2, (S.1 : Int) + 1) :: st) (zb_pS S (13 + t) i.toNat) (zb_pM S m) (k + 1) (n + i.toNat)) : zb_WP (G, C, d, K, N, Q) F pc L ((0, i) :: st) S m k n := by
  obtain ⟨p, l, e, R, s, mi, args, below, meth, c, Z⟩ := C
  intro hC H locs ls hH hlo hL hLo hst
  have hC' := hC
  obtain ⟨hx, hb, hml, hown, hts, hK, -, hini, -, -, hKR, hNR, -⟩ := hC'
  have hin : zb_inI i := zb_okh hst
  have hb1 : i.toNat * componentBytes (newarray.typeOf at') ≤ 536870912 := by
    have h1 : componentBytes (newarray.typeOf at') ≤ 8 := by cases at' <;> decide
    have h2 : i.toNat ≤ 100000 := by omega
    exact Nat.le_trans (Nat.mul_le_mul h2 h1) (Nat.le_of_ble_eq_true rfl)
  refine va_newaK (N := i.toNat) hx hb (hts _ hw0) rfl hd rfl (fun q => by have := (zb_ltI hin zb_in0).mp q; omega) (zb_c32 hin) hb1 (by omega) (by omega) rfl fun H1 cA e1 z1 o1 hAr hNm => ?_
  have hH1 : zb_H G (zb_pS S (13 + t) i.toNat) (zb_pM S m) H1 := by
    refine zb_H_push hH ?_ z1 o1
    have hcy : ∀ t, t < 7 → (∀ C, zb_kt t ≠ .object C) → s.vm.findClass ("[" ++ (zb_kt t).toString) = some (G.2.2.2.2 t) := fun t ht hno => by
      have h := (hK.2 t _ (zb_tys_at _ ht)).2
      unfold va_RA at h
      split at h
      · rename_i C heq
        exact absurd heq (hno C)
      · exact h
    cases at' <;> simp only [zb_ak, Option.some.injEq, reduceCtorEq] at ht <;> subst ht
    · rw [zb_ent_z G rfl]
      have e : cA = G.2.2.2.2 2 := Option.some.inj (hNm.symm.trans (hcy 2 (by omega) (fun C h => by cases h)))
      rw [← e]
      exact e1
    · rw [zb_ent_i G rfl]
      have e : cA = G.2.2.2.2 0 := Option.some.inj (hNm.symm.trans (hcy 0 (by omega) (fun C h => by cases h)))
      rw [← e]
      exact e1
    · rw [zb_ent_l G rfl]
      have e : cA = G.2.2.2.2 1 := Option.some.inj (hNm.symm.trans (hcy 1 (by omega) (fun C h => by cases h)))
      rw [← e]
      exact e1
  have hw := kk hC H1 locs ls hH1 hlo hL hLo (zb_okr (by omega) (zb_okt hst))
  rw [List.map_cons, zb_cvr (by omega)] at hw
  have e : zb_ad G ((S.1 : Int) + 1) = H.size := by
    have := hH.1
    unfold zb_ad
    omega
  rw [e] at hw
  exact hw
/-- a row of references is made -/
theorem zb_newq {index t : Nat} {i : Int} {Cn : String} {d K N : Nat} {G : zb_G} {C : zb_C} {Q : Int → zb_S → zb_M → Prop} (hd : decode F.2.2.1 pc = .ok (.anewarray index, 3)) (ht : 3 ≤ t ∧ t < 7) (hkt : zb_kt t = .object Cn) (hcl : Cond.classLink F.1 index Cn ∈ zb_all) (hov : Cn ∈ zb_over) (h0 : 0 ≤ i) (hi : i ≤ 100000) (hk : k + 1 ≤ K) (hn : n + i.toNat ≤ N) (kk : zb_WP (G, C, d, K, N, Q) F (pc + 3) L ((2, (S.1 : Int) + 1) :: st) (zb_pS S (13 + t) i.toNat) (zb_pM S m) (k + 1) (n + i.toNat)) : zb_WP (G, C, d, K, N, Q) F pc L ((0, i) :: st) S m k n := by
  obtain ⟨p, l, e, R, s, mi, args, below, meth, c, Z⟩ := C
  intro hC H locs ls hH hlo hL hLo hst
  have hC' := hC
  obtain ⟨hx, hb, hml, hown, hts, hK, htb, hini, -, -, hKR, hNR, -⟩ := hC'
  have hin : zb_inI i := zb_okh hst
  have hb1 : i.toNat * 4 ≤ 536870912 := by omega
  have e32 := zb_c32 hin
  refine W.anew (n := Int32.ofInt i) hx hb hown (hts _ hcl) (va_AO.use (htb.2 _ hov)) rfl hd rfl (fun q => by have := (zb_ltI hin zb_in0).mp q; omega) (by rw [e32]; exact hb1) (by omega) (by rw [e32]; omega) fun cA kA comp f1 f2 f3 f4 => ?_
  rw [e32]
  generalize hH1 : H.push ({ cls := cA, slots := Array.replicate i.toNat .null, vm := .none } : Cell) = H1
  have z1 : H1.size = H.size + 1 := by rw [← hH1, Array.size_push]
  have e1 : H1[H.size]? = some (arrV cA i.toNat (fun _ => .null)) := by rw [← hH1, Array.getElem?_push_size, ← arrV_new]
  have o1 : ∀ q : Nat, q < H.size → H1[q]? = H[q]? := fun q hq => by rw [← hH1, Array.getElem?_push, if_neg (Nat.ne_of_lt hq)]
  have hHH : zb_H G (zb_pS S (13 + t) i.toNat) (zb_pM S m) H1 := by
    refine zb_H_push hH ?_ z1 o1
    rw [zb_ent_q G rfl ht.1]
    have hty := zb_tys_at G.2.2.2.2 ht.2
    rw [hkt] at hty
    obtain ⟨kA2, comp2, k1, k2, k3, k4⟩ := (hK.2 t _ hty).2
    have e : cA = G.2.2.2.2 t := Option.some.inj (f1.symm.trans k4)
    rw [← e]
    exact e1
  have hw := kk hC H1 locs ls hHH hlo hL hLo (zb_okr (by omega) (zb_okt hst))
  rw [List.map_cons, zb_cvr (by omega)] at hw
  have e : zb_ad G ((S.1 : Int) + 1) = H.size := by
    have := hH.1
    unfold zb_ad
    omega
  rw [e] at hw
  exact hw
end ZBN
/-! ===== methods and calls ===== -/
def zb_room (d k n : Nat) : Room := { frames := d, cells := k, slots := n, locals := 64 * (d + 1) }
def zb_mw (F : zb_F) : List Cond := Cond.code F.2.1 F.2.2.1 F.2.2.2.1 F.2.2.2.2 :: zb_all
def zb_Pc (G : zb_G) (av : List zb_V) (S : zb_S) (m : zb_M) : Array Value → State → Prop := fun v U => v = (av.map (zb_cv G)).toArray ∧ (∀ w ∈ av, zb_ok w.1 w.2) ∧ zb_H G S m U.heap ∧ va_K G.2.2.2.1 vwCl (zb_tys G.2.2.2.2) U ∧ zb_tb U
def zb_rv (ret : Option FieldType) (r : Int) : List zb_V := match ret with
  | none => []
  | some ty => [(zb_ft ty, r)]
def zb_Qc (G : zb_G) (ret : Option FieldType) (Q : Int → zb_S → zb_M → Prop) : Array Value → State → Outcome → State → Prop := fun _ _ o t => ∃ (r : Int) (S' : zb_S) (m' : zb_M), o = .returned ((zb_rv ret r).map (zb_cv G)).head? ∧ (∀ w ∈ zb_rv ret r, zb_ok w.1 w.2) ∧ zb_H G S' m' t.heap ∧ Q r S' m'
/-- a method's contract: from memory m of shape S with these arguments it returns, with Q of its answer and the memory then; it makes k cells of n places, and its calls go d deep -/
def zb_Tri (F : zb_F) (d k n : Nat) (av : List zb_V) (S : zb_S) (m : zb_M) (Q : Int → zb_S → zb_M → Prop) : Prop :=
  ∀ (G : zb_G) (l : Launch), Met l F.2.1 (zb_mw F) (zb_room d k n) (zb_Pc G av S m) (zb_Qc G F.2.2.2.2 Q) k n (fun q => G.1 ≤ q)
theorem zb_Tri.mono {F : zb_F} {d k n : Nat} {av : List zb_V} {S : zb_S} {m : zb_M} {Q Q' : Int → zb_S → zb_M → Prop} (h : zb_Tri F d k n av S m Q) (hq : ∀ r S' m', Q r S' m' → Q' r S' m') : zb_Tri F d k n av S m Q' := by
  intro G l
  have h1 := h G l
  intro p e ha hc hk s mi args below hf hp hP hK
  obtain ⟨t, o, g1, g2, g3, ⟨r, S', m', h2, h3, h4, h5⟩, h6⟩ := h1 p e ha hc hk s mi args below hf hp hP hK
  exact ⟨t, o, g1, g2, g3, ⟨r, S', m', h2, h3, h4, hq _ _ _ h5⟩, h6⟩
