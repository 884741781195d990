/-! ===== the constructors: a world as a list of cells, reckoned out ===== -/
/-- cells, the newest first: of each its kind, its length, what was put into it (the latest first) -/
abbrev zb_Sg : Type := List (Nat × Nat × List (Nat × Int))
def zb_row (σ : zb_Sg) (a : Int) : Option (Nat × Nat × List (Nat × Int)) := if 1 ≤ a ∧ a ≤ σ.length then σ[σ.length - a.toNat]? else none
def zb_lku : List (Nat × Int) → Int → Int
  | [], _ => 0
  | (k, v) :: l, j => if j = (k : Int) then v else zb_lku l j
def zb_dS (σ : zb_Sg) : zb_S := (σ.length, fun a => match zb_row σ a with
  | some c => (c.1, c.2.1)
  | none => (0, 0))
def zb_dM (σ : zb_Sg) : zb_M := fun a j => match zb_row σ a with
  | some c => zb_lku c.2.2 j
  | none => 0
def zb_stv (σ : zb_Sg) (a : Int) (j : Nat) (v : Int) : zb_Sg := match zb_row σ a with
  | some c => σ.set (σ.length - a.toNat) (c.1, c.2.1, (j, v) :: c.2.2)
  | none => σ
def zb_isb (σ : zb_Sg) (a : Int) (kind : Nat) : Bool := match zb_row σ a with
  | some c => Nat.beq c.1 kind
  | none => false
def zb_lnb (σ : zb_Sg) (a : Int) : Nat := match zb_row σ a with
  | some c => c.2.1
  | none => 0
theorem zb_row_lt {σ : zb_Sg} {a : Int} {c : Nat × Nat × List (Nat × Int)} (h : zb_row σ a = some c) : 1 ≤ a ∧ a ≤ σ.length ∧ σ[σ.length - a.toNat]? = some c := by
  unfold zb_row at h
  split at h
  · rename_i q
    exact ⟨q.1, q.2, h⟩
  · cases h
theorem zb_isb_ok {σ : zb_Sg} {a : Int} {kind : Nat} (h : zb_isb σ a kind = true) : zb_is (zb_dS σ) a kind := by
  unfold zb_isb at h
  cases hr : zb_row σ a with
  | none => rw [hr] at h; cases h
  | some c =>
    rw [hr] at h
    obtain ⟨h1, h2, h3⟩ := zb_row_lt hr
    refine ⟨h1, h2, ?_⟩
    show (match zb_row σ a with | some c => (c.1, c.2.1) | none => (0, 0)).1 = kind
    rw [hr]
    exact Nat.eq_of_beq_eq_true h
theorem zb_lnb_ok {σ : zb_Sg} {a : Int} : zb_len (zb_dS σ) a = zb_lnb σ a := by
  unfold zb_len zb_lnb
  show (((match zb_row σ a with | some c => (c.1, c.2.1) | none => (0, 0)).2 : Nat) : Int) = _
  cases zb_row σ a <;> rfl
theorem zb_row_push (σ : zb_Sg) (c : Nat × Nat × List (Nat × Int)) (a : Int) : zb_row (c :: σ) a = if a = (σ.length : Int) + 1 then some c else zb_row σ a := by
  unfold zb_row
  rw [List.length_cons]
  by_cases h1 : a = (σ.length : Int) + 1
  · rw [if_pos h1, if_pos (by omega), show σ.length + 1 - a.toNat = 0 by omega]
    rfl
  · rw [if_neg h1]
    by_cases h2 : 1 ≤ a ∧ a ≤ σ.length
    · rw [if_pos h2, if_pos (by omega), show σ.length + 1 - a.toNat = (σ.length - a.toNat) + 1 by omega]
      rfl
    · rw [if_neg h2, if_neg (by omega)]
theorem zb_dS_push (σ : zb_Sg) (kind len : Nat) : zb_dS ((kind, len, []) :: σ) = zb_pS (zb_dS σ) kind len := by
  unfold zb_dS zb_pS
  refine Prod.ext (by simp) ?_
  funext a
  show (match zb_row ((kind, len, []) :: σ) a with | some c => (c.1, c.2.1) | none => (0, 0)) = if a = (σ.length : Int) + 1 then (kind, len) else _
  rw [zb_row_push]
  by_cases q : a = (σ.length : Int) + 1
  · rw [if_pos q, if_pos q]
  · rw [if_neg q, if_neg q]
theorem zb_dM_push (σ : zb_Sg) (kind len : Nat) : zb_dM ((kind, len, []) :: σ) = zb_pM (zb_dS σ) (zb_dM σ) := by
  unfold zb_dM zb_pM
  funext a j
  show (match zb_row ((kind, len, []) :: σ) a with | some c => zb_lku c.2.2 j | none => 0) = if a = (σ.length : Int) + 1 then 0 else _
  rw [zb_row_push]
  by_cases q : a = (σ.length : Int) + 1
  · rw [if_pos q, if_pos q]
    rfl
  · rw [if_neg q, if_neg q]
theorem zb_row_set {σ : zb_Sg} {a : Int} {c c' : Nat × Nat × List (Nat × Int)} (h : zb_row σ a = some c) (b : Int) : zb_row (σ.set (σ.length - a.toNat) c') b = if b = a then some c' else zb_row σ b := by
  obtain ⟨h1, h2, h3⟩ := zb_row_lt h
  unfold zb_row
  rw [List.length_set]
  by_cases h0 : 1 ≤ b ∧ b ≤ σ.length
  · rw [if_pos h0, if_pos h0, List.getElem?_set]
    by_cases hb : b = a
    · subst hb
      rw [if_pos rfl, if_pos rfl, if_pos (by omega)]
    · rw [if_neg (by omega), if_neg hb]
  · rw [if_neg h0, if_neg h0, if_neg (by omega)]
theorem zb_dM_set {σ : zb_Sg} {a : Int} {kind : Nat} {j : Nat} {v : Int} (h : zb_isb σ a kind = true) : zb_dM (zb_stv σ a j v) = zb_up (zb_dM σ) a j v := by
  unfold zb_isb at h
  cases hr : zb_row σ a with
  | none => rw [hr] at h; cases h
  | some c =>
    unfold zb_stv
    rw [hr]
    funext b i
    unfold zb_dM zb_up
    show (match zb_row (σ.set (σ.length - a.toNat) (c.1, c.2.1, (j, v) :: c.2.2)) b with | some c => zb_lku c.2.2 i | none => 0) = _
    rw [zb_row_set hr]
    by_cases hb : b = a
    · subst hb
      rw [if_pos rfl]
      have e : (match zb_row σ b with | some c => zb_lku c.2.2 i | none => 0) = zb_lku c.2.2 i := by rw [hr]
      show (if i = (j : Int) then v else zb_lku c.2.2 i) = if b = b ∧ i = (j : Int) then v else (match zb_row σ b with | some c => zb_lku c.2.2 i | none => 0)
      rw [e]
      by_cases hi : i = (j : Int)
      · rw [if_pos hi, if_pos ⟨rfl, hi⟩]
      · rw [if_neg hi, if_neg (fun z => hi z.2)]
    · rw [if_neg hb, if_neg (fun z => hb z.1)]
theorem zb_dS_set {σ : zb_Sg} {a : Int} {kind : Nat} {j : Nat} {v : Int} (h : zb_isb σ a kind = true) : zb_dS (zb_stv σ a j v) = zb_dS σ := by
  unfold zb_isb at h
  cases hr : zb_row σ a with
  | none => rw [hr] at h; cases h
  | some c =>
    unfold zb_stv
    rw [hr]
    unfold zb_dS
    refine Prod.ext (by simp) ?_
    funext b
    show (match zb_row (σ.set (σ.length - a.toNat) (c.1, c.2.1, (j, v) :: c.2.2)) b with | some c => (c.1, c.2.1) | none => (0, 0)) = _
    rw [zb_row_set hr]
    by_cases hb : b = a
    · subst hb
      rw [if_pos rfl]
      show (c.1, c.2.1) = (match zb_row σ b with | some c => (c.1, c.2.1) | none => (0, 0))
      rw [hr]
    · rw [if_neg hb]
def zb_let (s : zb_Sg) (f : zb_Sg → Bool) : Bool := f s
theorem zb_letE {s s' : zb_Sg} {f : zb_Sg → Bool} (e : s' = s) (h : zb_let s f = true) : f s' = true := by
  subst e
  exact h
theorem zb_andT {a b : Bool} (h : (a && b) = true) : a = true ∧ b = true := by
  cases a <;> cases b <;> simp_all
/-- a constructor's contract: what follows holds of the cells then -/
def zb_Ct (F : zb_F) (d k n : Nat) (av : List zb_V) (σ : zb_Sg) (Kb : zb_Sg → Bool) : Prop := zb_Tri F d k n av (zb_dS σ) (zb_dM σ) (fun _ S' m' => ∃ σ', S' = zb_dS σ' ∧ m' = zb_dM σ' ∧ Kb σ' = true)
/-- .. of a method that answers a cell -/
def zb_Cr (F : zb_F) (d k n : Nat) (av : List zb_V) (σ : zb_Sg) (Kb : Int → zb_Sg → Bool) : Prop := zb_Tri F d k n av (zb_dS σ) (zb_dM σ) (fun r S' m' => ∃ σ', S' = zb_dS σ' ∧ m' = zb_dM σ' ∧ Kb r σ' = true)
section ZBK
variable {C : zb_C} {G : zb_G} {d d' K N : Nat} {Q : Int → zb_S → zb_M → Prop} {F g : zb_F} {pc : Nat} {L : List (Nat × zb_V)} {st : List zb_V} {σ : zb_Sg} {k n k' n' : Nat}
theorem zb_k_new {index ci : Nat} {sz : Nat} (hd : decode F.2.2.1 pc = .ok (.new index, 3)) (hf : zb_mk F.1 index ci) (hsz : zb_nf ci = sz) (k2 n2 : Nat) (e1 : k + 1 = k2) (e2 : n + sz = n2) (hk : Nat.ble k2 K = true) (hn : Nat.ble n2 N = true) (kk : ∀ σ', σ' = ((ci, 0, []) :: σ) → zb_WP (G, C, d, K, N, Q) F (pc + 3) L ((2, (σ.length : Int) + 1) :: st) (zb_dS σ') (zb_dM σ') k2 n2) : zb_WP (G, C, d, K, N, Q) F pc L st (zb_dS σ) (zb_dM σ) k n := by
  subst hsz
  subst e1
  subst e2
  have kk := kk _ rfl
  rw [zb_dS_push, zb_dM_push] at kk
  exact zb_new hd hf (Nat.le_of_ble_eq_true hk) (Nat.le_of_ble_eq_true hn) kk
theorem zb_k_newa {at' : ArrayType} {t len : Nat} (hd : decode F.2.2.1 pc = .ok (.newarray at', 2)) (ht : zb_ak at' = some t) (hw0 : Cond.arrayClass (newarray.typeOf at') ∈ zb_all) (hi : Nat.ble len 100000 = true) (k2 n2 : Nat) (e1 : k + 1 = k2) (e2 : n + len = n2) (hk : Nat.ble k2 K = true) (hn : Nat.ble n2 N = true) (kk : ∀ σ', σ' = ((13 + t, len, []) :: σ) → zb_WP (G, C, d, K, N, Q) F (pc + 2) L ((2, (σ.length : Int) + 1) :: st) (zb_dS σ') (zb_dM σ') k2 n2) : zb_WP (G, C, d, K, N, Q) F pc L ((0, (len : Int)) :: st) (zb_dS σ) (zb_dM σ) k n := by
  subst e1
  subst e2
  have kk := kk _ rfl
  rw [zb_dS_push, zb_dM_push] at kk
  have h1 := Nat.le_of_ble_eq_true hi
  exact zb_newa (i := (len : Int)) hd ht hw0 (by omega) (by omega) (Nat.le_of_ble_eq_true hk) (Nat.le_of_ble_eq_true hn) kk
theorem zb_k_newq {index t len : Nat} {i : Int} {Cn : String} (hi : i = (len : Int)) (hd : decode F.2.2.1 pc = .ok (.anewarray index, 3)) (ht : 3 ≤ t ∧ t < 7) (hkt : zb_kt t = .object Cn) (hcl : Cond.classLink F.1 index Cn ∈ zb_all) (hov : Cn ∈ zb_over) (hb : Nat.ble len 100000 = true) (k2 n2 : Nat) (e1 : k + 1 = k2) (e2 : n + len = n2) (hk : Nat.ble k2 K = true) (hn : Nat.ble n2 N = true) (kk : ∀ σ', σ' = ((13 + t, len, []) :: σ) → zb_WP (G, C, d, K, N, Q) F (pc + 3) L ((2, (σ.length : Int) + 1) :: st) (zb_dS σ') (zb_dM σ') k2 n2) : zb_WP (G, C, d, K, N, Q) F pc L ((0, i) :: st) (zb_dS σ) (zb_dM σ) k n := by
  subst hi
  subst e1
  subst e2
  have kk := kk _ rfl
  rw [zb_dS_push, zb_dM_push] at kk
  have h1 := Nat.le_of_ble_eq_true hb
  exact zb_newq (i := (len : Int)) hd ht hkt hcl hov (by omega) (by omega) (Nat.le_of_ble_eq_true hk) (Nat.le_of_ble_eq_true hn) kk
theorem zb_k_putf {index ci j t : Nat} {a v : Int} (hd : decode F.2.2.1 pc = .ok (.putfield index, 3)) (hf : zb_fl F.1 index ci j) (ht : zb_tag ci j = t) (hfin : (zb_TT ci j).2.2.2 = false ∨ ((zb_TT ci j).2.2.2 = true ∧ F.2.1.name = "<init>" ∧ (zb_TT ci j).1 = F.1)) (ha : zb_isb σ a ci = true) (hfit : zb_fit (zb_tyX ci j) v) (kk : ∀ σ', σ' = (zb_stv σ a j v) → zb_WP (G, C, d, K, N, Q) F (pc + 3) L st (zb_dS σ') (zb_dM σ') k n) : zb_WP (G, C, d, K, N, Q) F pc L ((t, v) :: (2, a) :: st) (zb_dS σ) (zb_dM σ) k n := by
  have kk := kk _ rfl
  rw [zb_dS_set ha, zb_dM_set ha] at kk
  exact zb_putf hd hf ht hfin (zb_isb_ok ha) hfit kk
theorem zb_k_getf {index ci j : Nat} {a : Int} (hd : decode F.2.2.1 pc = .ok (.getfield index, 3)) (hf : zb_fl F.1 index ci j) (ht : zb_tag ci j = 2) (ha : zb_isb σ a ci = true) (hn : decide (1 ≤ zb_dM σ a j) = true) (kk : zb_WP (G, C, d, K, N, Q) F (pc + 3) L ((2, zb_dM σ a j) :: st) (zb_dS σ) (zb_dM σ) k n) : zb_WP (G, C, d, K, N, Q) F pc L ((2, a) :: st) (zb_dS σ) (zb_dM σ) k n :=
  zb_getf hd hf ht (zb_isb_ok ha) (fun _ => of_decide_eq_true hn) kk
theorem zb_k_aast {a v i : Int} {t j : Nat} (hd : decode F.2.2.1 pc = .ok (.aastore, 1)) (hi : decide (i = (j : Int)) = true) (ha : zb_isb σ a (13 + t) = true) (ht : 3 ≤ t ∧ t < 7) (hl : Nat.blt j (zb_lnb σ a) = true) (hv : zb_isb σ v (zb_comp t) = true) (kk : ∀ σ', σ' = (zb_stv σ a j v) → zb_WP (G, C, d, K, N, Q) F (pc + 1) L st (zb_dS σ') (zb_dM σ') k n) : zb_WP (G, C, d, K, N, Q) F pc L ((2, v) :: (0, i) :: (2, a) :: st) (zb_dS σ) (zb_dM σ) k n := by
  have hi := of_decide_eq_true hi
  subst hi
  have kk := kk _ rfl
  rw [zb_dS_set ha, zb_dM_set ha] at kk
  have h1 := Nat.le_of_ble_eq_true hl
  refine zb_aast hd (zb_isb_ok ha) ht (by omega) (by rw [zb_lnb_ok]; omega) (zb_isb_ok hv) kk
theorem zb_k_alen {a : Int} {t : Nat} (hd : decode F.2.2.1 pc = .ok (.arraylength, 1)) (ha : zb_isb σ a (13 + t) = true) (ht : t < 7) (hb : Nat.ble (zb_lnb σ a) 100000 = true) (kk : zb_WP (G, C, d, K, N, Q) F (pc + 1) L ((0, (zb_lnb σ a : Int)) :: st) (zb_dS σ) (zb_dM σ) k n) : zb_WP (G, C, d, K, N, Q) F pc L ((2, a) :: st) (zb_dS σ) (zb_dM σ) k n := by
  have h1 := Nat.le_of_ble_eq_true hb
  refine zb_alen hd (zb_isb_ok ha) ht ?_ ?_
  · rw [zb_lnb_ok]
    exact ⟨by omega, by omega⟩
  · rw [zb_lnb_ok]
    exact kk
theorem zb_k_tri {na : Nat} {av : List zb_V} {Kb : zb_Sg → Bool} (hg : zb_gd F na) (hlen : Nat.ble av.length F.2.2.2.1 = true) (hno : (av.all fun v => !(Nat.beq v.1 1)) = true)
    (h : ∀ (G : zb_G) (C : zb_C), (∀ v ∈ av, zb_ok v.1 v.2) → zb_WP (G, C, d, K, N, fun _ S' m' => ∃ σ', S' = zb_dS σ' ∧ m' = zb_dM σ' ∧ Kb σ' = true) F 0 (zb_en 0 av) [] (zb_dS σ) (zb_dM σ) 0 0) : zb_Ct F d K N av σ Kb :=
  zb_tri hg (Nat.le_of_ble_eq_true hlen) (fun v hv q => by
    have h1 := List.all_eq_true.mp hno v hv
    rw [q] at h1
    cases h1) h
theorem zb_k_trr {na : Nat} {av : List zb_V} {Kb : Int → zb_Sg → Bool} (hg : zb_gd F na) (hlen : Nat.ble av.length F.2.2.2.1 = true) (hno : (av.all fun v => !(Nat.beq v.1 1)) = true)
    (h : ∀ (G : zb_G) (C : zb_C), (∀ v ∈ av, zb_ok v.1 v.2) → zb_WP (G, C, d, K, N, fun r S' m' => ∃ σ', S' = zb_dS σ' ∧ m' = zb_dM σ' ∧ Kb r σ' = true) F 0 (zb_en 0 av) [] (zb_dS σ) (zb_dM σ) 0 0) : zb_Cr F d K N av σ Kb :=
  zb_tri hg (Nat.le_of_ble_eq_true hlen) (fun v hv q => by
    have h1 := List.all_eq_true.mp hno v hv
    rw [q] at h1
    cases h1) h
theorem zb_k_I {index na : Nat} {a : Int} {As As' : List zb_V} {Kb : zb_Sg → Bool} (hd : decode F.2.2.1 pc = .ok (.invokespecial index, 3)) (hl : zb_lkI F.1 index g) (hret : g.2.2.2.2 = none) (hg : zb_gd g na) (hn : As.length = na) (hrev : As.reverse = As') (h1 : 1 ≤ a) (hT : zb_Ct g d' k' n' ((2, a) :: As) σ Kb) (hdd : d' + 1 ≤ d) (k2 n2 : Nat) (e1 : k + k' = k2) (e2 : n + n' = n2) (hk : Nat.ble k2 K = true) (hN : Nat.ble n2 N = true) (hcs : zb_cs st ≤ 8)
    (kk : ∀ σ', Kb σ' = true → zb_WP (G, C, d, K, N, Q) F (pc + 3) L st (zb_dS σ') (zb_dM σ') k2 n2) : zb_WP (G, C, d, K, N, Q) F pc L (As' ++ (2, a) :: st) (zb_dS σ) (zb_dM σ) k n := by
  subst e1
  subst e2
  exact zb_callI hd hl hret hg hn hrev h1 hT hdd (Nat.le_of_ble_eq_true hk) (Nat.le_of_ble_eq_true hN) hcs (fun r S' m' q => by
    obtain ⟨σ', rfl, rfl, q⟩ := q
    rw [hret]
    exact kk σ' q)
theorem zb_k_IN {index na : Nat} {a : Int} {As As' : List zb_V} {Kb : zb_Sg → Bool} (hd : decode F.2.2.1 pc = .ok (.invokespecial index, 3)) (hl : zb_lkIN F.1 index g) (hret : g.2.2.2.2 = none) (hg : zb_gd g na) (hn : As.length = na) (hrev : As.reverse = As') (h1 : 1 ≤ a) (hT : zb_Ct g d' k' n' ((2, a) :: As) σ Kb) (hdd : d' + 1 ≤ d) (k2 n2 : Nat) (e1 : k + k' = k2) (e2 : n + n' = n2) (hk : Nat.ble k2 K = true) (hN : Nat.ble n2 N = true) (hcs : zb_cs st ≤ 8)
    (kk : ∀ σ', Kb σ' = true → zb_WP (G, C, d, K, N, Q) F (pc + 3) L st (zb_dS σ') (zb_dM σ') k2 n2) : zb_WP (G, C, d, K, N, Q) F pc L (As' ++ (2, a) :: st) (zb_dS σ) (zb_dM σ) k n := by
  subst e1
  subst e2
  exact zb_callIN hd hl hret hg hn hrev h1 hT hdd (Nat.le_of_ble_eq_true hk) (Nat.le_of_ble_eq_true hN) hcs (fun r S' m' q => by
    obtain ⟨σ', rfl, rfl, q⟩ := q
    rw [hret]
    exact kk σ' q)
theorem zb_k_S {index na : Nat} {rt : FieldType} {As As' : List zb_V} {Kb : Int → zb_Sg → Bool} (hd : decode F.2.2.1 pc = .ok (.invokestatic index, 3)) (hl : zb_lkS F.1 index g ∨ zb_lkSN F.1 index g) (hret : g.2.2.2.2 = some rt) (hrt : zb_ft rt = 2) (hg : zb_gd g na) (hn : As.length = na) (hrev : As.reverse = As') (hT : zb_Cr g d' k' n' As σ Kb) (hdd : d' + 1 ≤ d) (k2 n2 : Nat) (e1 : k + k' = k2) (e2 : n + n' = n2) (hk : Nat.ble k2 K = true) (hN : Nat.ble n2 N = true) (hcs : zb_cs st ≤ 8)
    (kk : ∀ r σ', Kb r σ' = true → zb_WP (G, C, d, K, N, Q) F (pc + 3) L ((2, r) :: st) (zb_dS σ') (zb_dM σ') k2 n2) : zb_WP (G, C, d, K, N, Q) F pc L (As' ++ st) (zb_dS σ) (zb_dM σ) k n := by
  subst e1
  subst e2
  rcases hl with hl | hl
  · exact zb_callS hd hl hg hn hrev hT hdd (Nat.le_of_ble_eq_true hk) (Nat.le_of_ble_eq_true hN) hcs (fun r S' m' q => by
      obtain ⟨σ', rfl, rfl, q⟩ := q
      rw [hret]
      show zb_WP _ _ _ _ ((zb_ft rt, r) :: ([] ++ st)) _ _ _ _
      rw [hrt]
      exact kk r σ' q)
  · exact zb_callSN hd hl hg hn hrev hT hdd (Nat.le_of_ble_eq_true hk) (Nat.le_of_ble_eq_true hN) hcs (fun r S' m' q => by
      obtain ⟨σ', rfl, rfl, q⟩ := q
      rw [hret]
      show zb_WP _ _ _ _ ((zb_ft rt, r) :: ([] ++ st)) _ _ _ _
      rw [hrt]
      exact kk r σ' q)
end ZBK
