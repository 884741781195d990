/-! ===== the core: a plain memory (a number for each cell and place), and the machine's instructions over it ===== -/
/-- a method: its class, its name, its code, how many locals, what it answers -/
abbrev zb_F : Type := String × MethodName × ByteArray × Nat × Option FieldType
/-- a value: 0 an int, 1 a long, 2 a cell's number (0: none), 3 the script -/
abbrev zb_V : Type := Nat × Int
/-- how many cells there are; of each its kind (0 .. 12 a class, 13 ints, 14 longs, 15 booleans, 16 .. 19 references) and its length -/
abbrev zb_S : Type := Nat × (Int → Nat × Nat)
/-- what the cells hold -/
abbrev zb_M : Type := Int → Int → Int
/-- what stays through the whole run: the base, the script's cell, the heap at the start, the classes' numbers, the arrays' classes -/
abbrev zb_G : Type := Nat × Nat × Heap × va_G × (Nat → ClassId)
def zb_kt : Nat → FieldType
  | 0 => .int
  | 1 => .long
  | 2 => .boolean
  | 3 => .object RX4
  | 4 => .object RX5
  | 5 => .object RX3
  | _ => .object RX10
def zb_tys (cy : Nat → ClassId) : List (ClassId × FieldType) := (List.range 7).map (fun t => (cy t, zb_kt t))
theorem zb_tys_at (cy : Nat → ClassId) {t : Nat} (h : t < 7) : (zb_tys cy)[t]? = some (cy t, zb_kt t) := by
  simp [zb_tys, List.getElem?_map, List.getElem?_range h]
def zb_rf (B : Nat) (i : Int) : Option Nat := if i ≤ 0 then none else some (B + (i - 1).toNat)
def zb_cv (G : zb_G) (v : zb_V) : Value := match v.1 with
  | 0 => .int (Int32.ofInt v.2)
  | 1 => .long (Int64.ofInt v.2)
  | 2 => va_rf (zb_rf G.1 v.2)
  | _ => .ref G.2.1
def zb_ft : FieldType → Nat
  | .object _ => 2
  | .array _ => 2
  | .long => 1
  | _ => 0
def zb_tyX : Nat → Nat → FieldType
  | 0 => tyX0
  | 1 => tyX1
  | 2 => tyX2
  | 3 => tyX3
  | 4 => tyX4
  | 5 => tyX5
  | 6 => tyX6
  | 7 => tyX7
  | 8 => tyX8
  | 9 => tyX9
  | 10 => tyX10
  | 11 => tyX11
  | _ => tyX12
def zb_tag (ci k : Nat) : Nat := zb_ft (zb_tyX ci k)
def zb_nf (ci : Nat) : Nat := match vwCl[ci]? with
  | some q => q.2.2
  | none => 0
def zb_ent (G : zb_G) (kl : Nat × Nat) (f : Int → Int) : va_E :=
  if kl.1 < 13 then .inr (kl.1, (List.range (zb_nf kl.1)).map (fun (k : Nat) => zb_cv G (zb_tag kl.1 k, f k)))
  else .inl (G.2.2.2.2 (kl.1 - 13), kl.2,
    if kl.1 = 14 then .inr (.inl (fun j : Nat => Int64.ofInt (f j)))
    else if kl.1 < 16 then .inl (fun j : Nat => Int32.ofInt (f j))
    else .inr (.inr (.inr (.inr (fun j : Nat => zb_rf G.1 (f j))))))
/-- where a cell lies -/
def zb_ad (G : zb_G) (a : Int) : Nat := G.1 + (a - 1).toNat
def zb_inI (x : Int) : Prop := -2147483648 ≤ x ∧ x ≤ 2147483647
def zb_inL (x : Int) : Prop := -9223372036854775808 ≤ x ∧ x ≤ 9223372036854775807
def zb_ok (t : Nat) (x : Int) : Prop := match t with
  | 0 => zb_inI x
  | 1 => zb_inL x
  | 2 => 1 ≤ x
  | _ => True
/-- what a place of a cell may hold -/
def zb_okm (t : Nat) (x : Int) : Prop := match t with
  | 0 => zb_inI x
  | 1 => zb_inL x
  | _ => True
def zb_st (kl : Nat × Nat) (k : Int) : Nat := if kl.1 < 13 then zb_tag kl.1 k.toNat else if kl.1 = 14 then 1 else if kl.1 < 16 then 0 else 2
def zb_can (S : zb_S) (m : zb_M) : Prop := ∀ a k : Int, zb_okm (zb_st (S.2 a) k) (m a k)
/-- the heap holds what the memory says, and below the base what was there at the start -/
def zb_H (G : zb_G) (S : zb_S) (m : zb_M) (H : Heap) : Prop :=
  H.size = G.1 + S.1 ∧ (∀ a : Int, 1 ≤ a → a ≤ S.1 → va_at G.2.2.2.1 vwCl (zb_ad G a, zb_ent G (S.2 a) (m a)) H) ∧ (∀ q : Nat, q < G.1 → H[q]? = G.2.2.1[q]?) ∧ zb_can S m ∧ G.2.2.1.size = G.1
abbrev zb_C : Type := Program × Launch × Env × Room × State × MethodId × Array Value × List Frame × Method × Code × (State → Prop)
/-- where a walk stands: what stays, the machine's frame, how deep calls may go, how many cells and slots may be new, what is to hold at the end -/
abbrev zb_X : Type := zb_G × zb_C × Nat × Nat × Nat × (Int → zb_S → zb_M → Prop)
def zb_ret (ret : Option FieldType) (ins : Instr) (st : List zb_V) (r : Int) : Prop :=
  (ret = none ∧ ins = .return_ ∧ st = [] ∧ r = 0) ∨ (ret = some .int ∧ ins = .ireturn ∧ st = [(0, r)]) ∨ (ret = some .boolean ∧ ins = .ireturn ∧ st = [(0, r)] ∧ (r = 0 ∨ r = 1)) ∨
  (ret = some .long ∧ ins = .lreturn ∧ st = [(1, r)]) ∨ (((∃ nm, ret = some (.object nm)) ∨ ∃ t, ret = some (.array t)) ∧ ins = .areturn ∧ st = [(2, r)] ∧ 1 ≤ r)
/-- the words that every method may lean on -/
def zb_all : List Cond := lw_tbl.filter goodWord
theorem zb_in {w : Cond} (i : Nat) (h : lw_tbl[i]? = some w) (g : goodWord w = true) : w ∈ zb_all := List.mem_filter.mpr ⟨List.mem_of_getElem? h, g⟩
def zb_isNest : Cond → Bool
  | .methodLinkNest .. => true
  | _ => false
def zb_nest : List Cond := tables_1.filter zb_isNest
theorem zb_inN {w : Cond} (i : Nat) (h : tables_1[i]? = some w) (g : zb_isNest w = true) : w ∈ zb_nest := List.mem_filter.mpr ⟨List.mem_of_getElem? h, g⟩
/-- the classes over which there are arrays of references -/
def zb_over : List String := [RX4, RX5, RX3, RX10]
def zb_tb (U : State) : Prop := (∀ w ∈ zb_nest, va_Nw w U) ∧ ∀ C ∈ zb_over, va_AO C U
def zb_ctx (F : zb_F) (X : zb_X) : Prop := match X with
  | (G, (p, l, e, R, s, mi, args, below, meth, c, Z), d, K, N, Q) =>
    p.tables.exec = Jvm.exec ∧ c.code = F.2.2.1 ∧ c.maxLocals = F.2.2.2.1 ∧ s.vm.findClass F.1 = some mi.cls ∧ (∀ w ∈ zb_all, w.before args s = true) ∧ va_K G.2.2.2.1 vwCl (zb_tys G.2.2.2.2) s ∧ zb_tb s ∧
    (F.2.1.name = "<init>" → meth.name = "<init>") ∧ d ≤ R.frames ∧ 64 * (d + 1) ≤ R.locals ∧ K ≤ R.cells ∧ N ≤ R.slots ∧
    (∀ (S : zb_S) (m : zb_M) (H : Heap) (locs : List Loc) (ls : Array Slot) (pc : Nat) (ins : Instr) (st : List zb_V) (r : Int) (k n : Nat), zb_H G S m H → (∀ q ∈ locs, G.1 ≤ q.base) → zb_ret F.2.2.2.2 ins st r → (∀ v ∈ st, zb_ok v.1 v.2) →
      decode F.2.2.1 pc = .ok (ins, 1) → k ≤ K → n ≤ N → Q r S m → W p l e R s mi args below meth c H locs k n Z (F0 mi pc ls (st.map (zb_cv G))))
def zb_lv (G : zb_G) (L : List (Nat × zb_V)) : List (Nat × Value) := L.map (fun q => (q.1, zb_cv G q.2))
/-- from here the walk comes to its end, with what is to hold there -/
def zb_WP (X : zb_X) (F : zb_F) (pc : Nat) (L : List (Nat × zb_V)) (st : List zb_V) (S : zb_S) (m : zb_M) (k n : Nat) : Prop := match X with
  | (G, (p, l, e, R, s, mi, args, below, meth, c, Z), d, K, N, Q) => zb_ctx F (G, (p, l, e, R, s, mi, args, below, meth, c, Z), d, K, N, Q) →
    ∀ (H : Heap) (locs : List Loc) (ls : Array Slot), zb_H G S m H → (∀ q ∈ locs, G.1 ≤ q.base) → lv_has ls F.2.2.2.1 (zb_lv G L) → (∀ q ∈ L, zb_ok q.2.1 q.2.2) → (∀ v ∈ st, zb_ok v.1 v.2) →
      W p l e R s mi args below meth c H locs k n Z (F0 mi pc ls (st.map (zb_cv G)))
/-- instructions that touch the stack alone -/
theorem zb_pure {X : zb_X} {F : zb_F} {pc pc' : Nat} {L : List (Nat × zb_V)} {st st' : List zb_V} {S : zb_S} {m : zb_M} {k n : Nat}
    (ho : (∀ q ∈ L, zb_ok q.2.1 q.2.2) → (∀ v ∈ st, zb_ok v.1 v.2) → ∀ v ∈ st', zb_ok v.1 v.2)
    (h : ∀ (G : zb_G) (p : Program) (l : Launch) (e : Env) (R : Room) (s : State) (mi : MethodId) (args : Array Value) (below : List Frame) (meth : Method) (c : Code) (Z : State → Prop) (H : Heap) (locs : List Loc) (ls : Array Slot),
      p.tables.exec = Jvm.exec → c.code = F.2.2.1 → s.vm.findClass F.1 = some mi.cls → (∀ w ∈ zb_all, w.before args s = true) → lv_has ls F.2.2.2.1 (zb_lv G L) → (∀ q ∈ L, zb_ok q.2.1 q.2.2) → (∀ v ∈ st, zb_ok v.1 v.2) →
      W p l e R s mi args below meth c H locs k n Z (F0 mi pc' ls (st'.map (zb_cv G))) → W p l e R s mi args below meth c H locs k n Z (F0 mi pc ls (st.map (zb_cv G))))
    (kk : zb_WP X F pc' L st' S m k n) : zb_WP X F pc L st S m k n := by
  obtain ⟨G, ⟨p, l, e, R, s, mi, args, below, meth, c, Z⟩, d, K, N, Q⟩ := X
  intro hC H locs ls hH hlo hL hLo hst
  have hC' := hC
  obtain ⟨hx, hb, hml, hown, hts, -⟩ := hC'
  exact h G p l e R s mi args below meth c Z H locs ls hx hb hown hts hL hLo hst (kk hC H locs ls hH hlo hL hLo (ho hLo hst))
section SBR
variable {X : zb_X} {F : zb_F} {pc : Nat} {L : List (Nat × zb_V)} {st : List zb_V} {S : zb_S} {m : zb_M} {k n : Nat}
theorem zb_ok_cons {v : zb_V} {st : List zb_V} (h1 : zb_ok v.1 v.2) (h2 : ∀ w ∈ st, zb_ok w.1 w.2) : ∀ w ∈ v :: st, zb_ok w.1 w.2 := List.forall_mem_cons.mpr ⟨h1, h2⟩
theorem zb_oki {x : Int} {st : List zb_V} (h1 : zb_inI x) (h2 : ∀ w ∈ st, zb_ok w.1 w.2) : ∀ w ∈ ((0, x) : zb_V) :: st, zb_ok w.1 w.2 := List.forall_mem_cons.mpr ⟨h1, h2⟩
theorem zb_okl {x : Int} {st : List zb_V} (h1 : zb_inL x) (h2 : ∀ w ∈ st, zb_ok w.1 w.2) : ∀ w ∈ ((1, x) : zb_V) :: st, zb_ok w.1 w.2 := List.forall_mem_cons.mpr ⟨h1, h2⟩
theorem zb_okt {v : zb_V} {st : List zb_V} (h : ∀ w ∈ v :: st, zb_ok w.1 w.2) : ∀ w ∈ st, zb_ok w.1 w.2 := (List.forall_mem_cons.mp h).2
theorem zb_okh {v : zb_V} {st : List zb_V} (h : ∀ w ∈ v :: st, zb_ok w.1 w.2) : zb_ok v.1 v.2 := (List.forall_mem_cons.mp h).1
theorem zb_iconst {i : Int} (hd : decode F.2.2.1 pc = .ok (.iconst i, 1)) (hi : zb_inI i) (kk : zb_WP X F (pc + 1) L ((0, i) :: st) S m k n) : zb_WP X F pc L st S m k n :=
  zb_pure (fun _ h => zb_oki hi h) (fun G p l e R s mi args below meth c Z H locs ls hx hb _ _ _ _ _ w => lv_iconst hx hb hd rfl w) kk
theorem zb_bipush {i : Int} (hd : decode F.2.2.1 pc = .ok (.bipush i, 2)) (hv : (Int8.ofInt i).toInt32 = Int32.ofInt i) (hi : zb_inI i) (kk : zb_WP X F (pc + 2) L ((0, i) :: st) S m k n) : zb_WP X F pc L st S m k n :=
  zb_pure (fun _ h => zb_oki hi h) (fun G p l e R s mi args below meth c Z H locs ls hx hb _ _ _ _ _ w => lv_bipush hx hb hd hv w) kk
theorem zb_sipush {i : Int} (hd : decode F.2.2.1 pc = .ok (.sipush i, 3)) (hv : (Int16.ofInt i).toInt32 = Int32.ofInt i) (hi : zb_inI i) (kk : zb_WP X F (pc + 3) L ((0, i) :: st) S m k n) : zb_WP X F pc L st S m k n :=
  zb_pure (fun _ h => zb_oki hi h) (fun G p l e R s mi args below meth c Z H locs ls hx hb _ _ _ _ _ w => lv_sipush hx hb hd hv w) kk
theorem zb_iadd {x y : Int} (hd : decode F.2.2.1 pc = .ok (.iadd, 1)) (hi : zb_inI (x + y)) (kk : zb_WP X F (pc + 1) L ((0, x + y) :: st) S m k n) : zb_WP X F pc L ((0, y) :: (0, x) :: st) S m k n :=
  zb_pure (fun _ h => zb_oki hi (zb_okt (zb_okt h))) (fun G p l e R s mi args below meth c Z H locs ls hx hb _ _ _ _ _ w => lv_iadd (x := Int32.ofInt x) (y := Int32.ofInt y) hx hb hd (by rw [← Int32.ofInt_add]; exact w)) kk
theorem zb_isub {x y : Int} (hd : decode F.2.2.1 pc = .ok (.isub, 1)) (hi : zb_inI (x - y)) (kk : zb_WP X F (pc + 1) L ((0, x - y) :: st) S m k n) : zb_WP X F pc L ((0, y) :: (0, x) :: st) S m k n :=
  zb_pure (fun _ h => zb_oki hi (zb_okt (zb_okt h))) (fun G p l e R s mi args below meth c Z H locs ls hx hb _ _ _ _ _ w => lv_isub (x := Int32.ofInt x) (y := Int32.ofInt y) hx hb hd (by rw [← Int32.ofInt_sub]; exact w)) kk
theorem zb_imul {x y : Int} (hd : decode F.2.2.1 pc = .ok (.imul, 1)) (hi : zb_inI (x * y)) (kk : zb_WP X F (pc + 1) L ((0, x * y) :: st) S m k n) : zb_WP X F pc L ((0, y) :: (0, x) :: st) S m k n :=
  zb_pure (fun _ h => zb_oki hi (zb_okt (zb_okt h))) (fun G p l e R s mi args below meth c Z H locs ls hx hb _ _ _ _ _ w => lv_imul (x := Int32.ofInt x) (y := Int32.ofInt y) hx hb hd (by rw [← Int32.ofInt_mul]; exact w)) kk
theorem zb_toI {x : Int} (h : zb_inI x) : (Int32.ofInt x).toInt = x := by
  obtain ⟨h1, h2⟩ := h
  rw [Int32.toInt_ofInt]
  unfold Int.bmod
  simp only [Int32.size]
  omega
theorem zb_eqI {x y : Int} (hx : zb_inI x) (hy : zb_inI y) : Int32.ofInt x = Int32.ofInt y ↔ x = y := by
  constructor
  · intro h
    rw [← zb_toI hx, ← zb_toI hy, h]
  · intro h
    rw [h]
theorem zb_leI {x y : Int} (hx : zb_inI x) (hy : zb_inI y) : Int32.ofInt x ≤ Int32.ofInt y ↔ x ≤ y := by
  rw [Int32.le_iff_toInt_le, zb_toI hx, zb_toI hy]
theorem zb_ltI {x y : Int} (hx : zb_inI x) (hy : zb_inI y) : Int32.ofInt x < Int32.ofInt y ↔ x < y := by
  rw [Int32.lt_iff_toInt_lt, zb_toI hx, zb_toI hy]
theorem zb_in0 : zb_inI 0 := by unfold zb_inI; omega
end SBR
section SBL
variable {X : zb_X} {F : zb_F} {pc : Nat} {L : List (Nat × zb_V)} {st : List zb_V} {S : zb_S} {m : zb_M} {k n : Nat}
theorem zb_okr {x : Int} {st : List zb_V} (h1 : 1 ≤ x) (h2 : ∀ w ∈ st, zb_ok w.1 w.2) : ∀ w ∈ ((2, x) : zb_V) :: st, zb_ok w.1 w.2 := List.forall_mem_cons.mpr ⟨h1, h2⟩
theorem zb_oks {x : Int} {st : List zb_V} (h2 : ∀ w ∈ st, zb_ok w.1 w.2) : ∀ w ∈ ((3, x) : zb_V) :: st, zb_ok w.1 w.2 := List.forall_mem_cons.mpr ⟨trivial, h2⟩
theorem zb_lv_at {G : zb_G} {ls : Array Slot} {nL j i : Nat} {v : zb_V} (h : lv_has ls nL (zb_lv G L)) (hl : L[j]? = some (i, v)) : ls[i]? = some (.val (zb_cv G v)) :=
  lv_at h j (by simp [zb_lv, List.getElem?_map, hl])
theorem zb_cvr {G : zb_G} {x : Int} (h : 1 ≤ x) : zb_cv G (2, x) = .ref (zb_ad G x) := by
  show va_rf (zb_rf G.1 x) = _
  unfold zb_rf
  rw [if_neg (by omega)]
  rfl
theorem zb_iload {i j : Nat} {x : Int} (hd : decode F.2.2.1 pc = .ok (.iload i, 2)) (hl : L[j]? = some (i, (0, x))) (kk : zb_WP X F (pc + 2) L ((0, x) :: st) S m k n) : zb_WP X F pc L st S m k n :=
  zb_pure (fun hL h => zb_oki (hL _ (List.mem_of_getElem? hl)) h) (fun G p l e R s mi args below meth c Z H locs ls hx hb _ _ hv _ _ w => lv_iload hx hb hd (zb_lv_at hv hl) w) kk
theorem zb_iload_n {q : Fin 4} {i j : Nat} {x : Int} (hd : decode F.2.2.1 pc = .ok (.iload_n q, 1)) (hq : (q : Nat) = i) (hl : L[j]? = some (i, (0, x))) (kk : zb_WP X F (pc + 1) L ((0, x) :: st) S m k n) : zb_WP X F pc L st S m k n :=
  zb_pure (fun hL h => zb_oki (hL _ (List.mem_of_getElem? hl)) h) (fun G p l e R s mi args below meth c Z H locs ls hx hb _ _ hv _ _ w => lv_iload_n hx hb hd hq (zb_lv_at hv hl) w) kk
theorem zb_lload {i j : Nat} {x : Int} (hd : decode F.2.2.1 pc = .ok (.lload i, 2)) (hl : L[j]? = some (i, (1, x))) (kk : zb_WP X F (pc + 2) L ((1, x) :: st) S m k n) : zb_WP X F pc L st S m k n :=
  zb_pure (fun hL h => zb_okl (hL _ (List.mem_of_getElem? hl)) h) (fun G p l e R s mi args below meth c Z H locs ls hx hb _ _ hv _ _ w => lv_lload hx hb hd (zb_lv_at hv hl) w) kk
theorem zb_lload_n {q : Fin 4} {i j : Nat} {x : Int} (hd : decode F.2.2.1 pc = .ok (.lload_n q, 1)) (hq : (q : Nat) = i) (hl : L[j]? = some (i, (1, x))) (kk : zb_WP X F (pc + 1) L ((1, x) :: st) S m k n) : zb_WP X F pc L st S m k n :=
  zb_pure (fun hL h => zb_okl (hL _ (List.mem_of_getElem? hl)) h) (fun G p l e R s mi args below meth c Z H locs ls hx hb _ _ hv _ _ w => lv_lload_n hx hb hd hq (zb_lv_at hv hl) w) kk
theorem zb_aload {i j : Nat} {x : Int} (hd : decode F.2.2.1 pc = .ok (.aload i, 2)) (hl : L[j]? = some (i, (2, x))) (kk : zb_WP X F (pc + 2) L ((2, x) :: st) S m k n) : zb_WP X F pc L st S m k n :=
  zb_pure (fun hL h => zb_okr (hL _ (List.mem_of_getElem? hl)) h) (fun G p l e R s mi args below meth c Z H locs ls hx hb _ _ hv hL _ w => by
    have h1 : 1 ≤ x := hL _ (List.mem_of_getElem? hl)
    have e := zb_cvr (G := G) h1
    rw [List.map_cons, e] at w
    exact lv_aload hx hb hd (e ▸ zb_lv_at hv hl) w) kk
theorem zb_aload_n {q : Fin 4} {i j : Nat} {x : Int} (hd : decode F.2.2.1 pc = .ok (.aload_n q, 1)) (hq : (q : Nat) = i) (hl : L[j]? = some (i, (2, x))) (kk : zb_WP X F (pc + 1) L ((2, x) :: st) S m k n) : zb_WP X F pc L st S m k n :=
  zb_pure (fun hL h => zb_okr (hL _ (List.mem_of_getElem? hl)) h) (fun G p l e R s mi args below meth c Z H locs ls hx hb _ _ hv hL _ w => by
    have h1 : 1 ≤ x := hL _ (List.mem_of_getElem? hl)
    have e := zb_cvr (G := G) h1
    rw [List.map_cons, e] at w
    exact lv_aload_n hx hb hd hq (e ▸ zb_lv_at hv hl) w) kk
theorem zb_aload_s {q : Fin 4} {i j : Nat} {x : Int} (hd : decode F.2.2.1 pc = .ok (.aload_n q, 1)) (hq : (q : Nat) = i) (hl : L[j]? = some (i, (3, x))) (kk : zb_WP X F (pc + 1) L ((3, x) :: st) S m k n) : zb_WP X F pc L st S m k n :=
  zb_pure (fun hL h => zb_oks h) (fun G p l e R s mi args below meth c Z H locs ls hx hb _ _ hv hL _ w => lv_aload_n hx hb hd hq (zb_lv_at hv hl) w) kk
/-- a local is written: what the locals are then -/
def zb_set (i : Nat) (v : zb_V) (L : List (Nat × zb_V)) : List (Nat × zb_V) := (i, v) :: L.filter (fun q => !(q.1 == i) && !(q.1 + 1 == i && q.2.1 == 1))
def zb_set2 (i : Nat) (v : zb_V) (L : List (Nat × zb_V)) : List (Nat × zb_V) := (i, v) :: L.filter (fun q => !(q.1 == i) && (!(q.1 == i + 1) && !(q.1 + 1 == i && q.2.1 == 1)))
theorem zb_cat (G : zb_G) (v : zb_V) : ((zb_cv G v).category == 2) = (v.1 == 1) := by
  obtain ⟨t, x⟩ := v
  match t with
  | 0 => rfl
  | 1 => rfl
  | 2 =>
    show ((va_rf (zb_rf G.1 x)).category == 2) = _
    cases zb_rf G.1 x <;> rfl
  | (t + 3) =>
    show ((Value.ref _).category == 2) = (t + 3 == 1)
    rfl
theorem zb_set_lv (G : zb_G) (i : Nat) (v : zb_V) (L : List (Nat × zb_V)) : zb_lv G (zb_set i v L) = (i, zb_cv G v) :: (zb_lv G L).filter (fun q => !(q.1 == i) && !(q.1 + 1 == i && q.2.category == 2)) := by
  unfold zb_lv zb_set
  rw [List.map_cons, List.filter_map]
  congr 2
  apply List.filter_congr
  intro q _
  simp only [Function.comp]
  rw [zb_cat]
theorem zb_set2_lv (G : zb_G) (i : Nat) (v : zb_V) (L : List (Nat × zb_V)) : zb_lv G (zb_set2 i v L) = (i, zb_cv G v) :: (zb_lv G L).filter (fun q => !(q.1 == i) && (!(q.1 == i + 1) && !(q.1 + 1 == i && q.2.category == 2))) := by
  unfold zb_lv zb_set2
  rw [List.map_cons, List.filter_map]
  congr 2
  apply List.filter_congr
  intro q _
  simp only [Function.comp]
  rw [zb_cat]
theorem zb_set_ok {i : Nat} {v : zb_V} (hv : zb_ok v.1 v.2) (hL : ∀ q ∈ L, zb_ok q.2.1 q.2.2) : ∀ q ∈ zb_set i v L, zb_ok q.2.1 q.2.2 := by
  intro q hq
  rcases List.mem_cons.mp hq with rfl | h
  · exact hv
  · exact hL q ((List.mem_filter.mp h).1)
theorem zb_set2_ok {i : Nat} {v : zb_V} (hv : zb_ok v.1 v.2) (hL : ∀ q ∈ L, zb_ok q.2.1 q.2.2) : ∀ q ∈ zb_set2 i v L, zb_ok q.2.1 q.2.2 := by
  intro q hq
  rcases List.mem_cons.mp hq with rfl | h
  · exact hv
  · exact hL q ((List.mem_filter.mp h).1)
/-- instructions that write a local -/
theorem zb_loc {pc' : Nat} {L' : List (Nat × zb_V)} {st' : List zb_V} (ho : (∀ q ∈ L, zb_ok q.2.1 q.2.2) → (∀ v ∈ st, zb_ok v.1 v.2) → (∀ q ∈ L', zb_ok q.2.1 q.2.2) ∧ ∀ v ∈ st', zb_ok v.1 v.2)
    (h : ∀ (G : zb_G) (p : Program) (l : Launch) (e : Env) (R : Room) (s : State) (mi : MethodId) (args : Array Value) (below : List Frame) (meth : Method) (c : Code) (Z : State → Prop) (H : Heap) (locs : List Loc) (ls : Array Slot),
      p.tables.exec = Jvm.exec → c.code = F.2.2.1 → lv_has ls F.2.2.2.1 (zb_lv G L) → (∀ q ∈ L, zb_ok q.2.1 q.2.2) → (∀ v ∈ st, zb_ok v.1 v.2) →
      (∀ ls' : Array Slot, lv_has ls' F.2.2.2.1 (zb_lv G L') → W p l e R s mi args below meth c H locs k n Z (F0 mi pc' ls' (st'.map (zb_cv G)))) → W p l e R s mi args below meth c H locs k n Z (F0 mi pc ls (st.map (zb_cv G))))
    (kk : zb_WP X F pc' L' st' S m k n) : zb_WP X F pc L st S m k n := by
  obtain ⟨G, ⟨p, l, e, R, s, mi, args, below, meth, c, Z⟩, d, K, N, Q⟩ := X
  intro hC H locs ls hH hlo hL hLo hst
  have hC' := hC
  obtain ⟨hx, hb, hml, hown, hts, -⟩ := hC'
  exact h G p l e R s mi args below meth c Z H locs ls hx hb hL hLo hst (fun ls' hL' => kk hC H locs ls' hH hlo hL' (ho hLo hst).1 (ho hLo hst).2)
variable {L' : List (Nat × zb_V)}
theorem zb_istore {i : Nat} {x : Int} (hd : decode F.2.2.1 pc = .ok (.istore i, 2)) (hn : i < F.2.2.2.1) (hl : zb_set i (0, x) L = L') (kk : zb_WP X F (pc + 2) L' st S m k n) : zb_WP X F pc L ((0, x) :: st) S m k n := by
  subst hl
  exact zb_loc (fun hL h => ⟨zb_set_ok (zb_okh h) hL, zb_okt h⟩) (fun G p l e R s mi args below meth c Z H locs ls hx hb hv _ _ w => lv_istore hx hb hd hv hn rfl (fun ls' h' => w ls' (by rw [zb_set_lv]; exact h'))) kk
theorem zb_istore_n {q : Fin 4} {i : Nat} {x : Int} (hd : decode F.2.2.1 pc = .ok (.istore_n q, 1)) (hq : (q : Nat) = i) (hn : i < F.2.2.2.1) (hl : zb_set i (0, x) L = L') (kk : zb_WP X F (pc + 1) L' st S m k n) : zb_WP X F pc L ((0, x) :: st) S m k n := by
  subst hl
  exact zb_loc (fun hL h => ⟨zb_set_ok (zb_okh h) hL, zb_okt h⟩) (fun G p l e R s mi args below meth c Z H locs ls hx hb hv _ _ w => lv_istore_n hx hb hd hq hv hn rfl (fun ls' h' => w ls' (by rw [zb_set_lv]; exact h'))) kk
theorem zb_lstore {i : Nat} {x : Int} (hd : decode F.2.2.1 pc = .ok (.lstore i, 2)) (hn : i + 1 < F.2.2.2.1) (hl : zb_set2 i (1, x) L = L') (kk : zb_WP X F (pc + 2) L' st S m k n) : zb_WP X F pc L ((1, x) :: st) S m k n := by
  subst hl
  exact zb_loc (fun hL h => ⟨zb_set2_ok (zb_okh h) hL, zb_okt h⟩) (fun G p l e R s mi args below meth c Z H locs ls hx hb hv _ _ w => lv_lstore hx hb hd hv hn rfl (fun ls' h' => w ls' (by rw [zb_set2_lv]; exact h'))) kk
theorem zb_lstore_n {q : Fin 4} {i : Nat} {x : Int} (hd : decode F.2.2.1 pc = .ok (.lstore_n q, 1)) (hq : (q : Nat) = i) (hn : i + 1 < F.2.2.2.1) (hl : zb_set2 i (1, x) L = L') (kk : zb_WP X F (pc + 1) L' st S m k n) : zb_WP X F pc L ((1, x) :: st) S m k n := by
  subst hl
  exact zb_loc (fun hL h => ⟨zb_set2_ok (zb_okh h) hL, zb_okt h⟩) (fun G p l e R s mi args below meth c Z H locs ls hx hb hv _ _ w => lv_lstore_n hx hb hd hq hv hn rfl (fun ls' h' => w ls' (by rw [zb_set2_lv]; exact h'))) kk
theorem zb_astore {i : Nat} {x : Int} (hd : decode F.2.2.1 pc = .ok (.astore i, 2)) (hn : i < F.2.2.2.1) (hl : zb_set i (2, x) L = L') (kk : zb_WP X F (pc + 2) L' st S m k n) : zb_WP X F pc L ((2, x) :: st) S m k n := by
  subst hl
  exact zb_loc (fun hL h => ⟨zb_set_ok (zb_okh h) hL, zb_okt h⟩) (fun G p l e R s mi args below meth c Z H locs ls hx hb hv _ ho w => by
    have h1 : 1 ≤ x := zb_okh ho
    rw [List.map_cons, zb_cvr h1]
    exact lv_astore hx hb hd hv hn rfl (fun ls' h' => w ls' (by rw [zb_set_lv, zb_cvr h1]; exact h'))) kk
theorem zb_astore_n {q : Fin 4} {i : Nat} {x : Int} (hd : decode F.2.2.1 pc = .ok (.astore_n q, 1)) (hq : (q : Nat) = i) (hn : i < F.2.2.2.1) (hl : zb_set i (2, x) L = L') (kk : zb_WP X F (pc + 1) L' st S m k n) : zb_WP X F pc L ((2, x) :: st) S m k n := by
  subst hl
  exact zb_loc (fun hL h => ⟨zb_set_ok (zb_okh h) hL, zb_okt h⟩) (fun G p l e R s mi args below meth c Z H locs ls hx hb hv _ ho w => by
    have h1 : 1 ≤ x := zb_okh ho
    rw [List.map_cons, zb_cvr h1]
    exact lv_astore_n hx hb hd hq hv hn rfl (fun ls' h' => w ls' (by rw [zb_set_lv, zb_cvr h1]; exact h'))) kk
theorem zb_iinc {i j : Nat} {d x : Int} (hd : decode F.2.2.1 pc = .ok (.iinc i d, 3)) (hj : L[j]? = some (i, (0, x))) (hi : zb_inI (x + d)) (hn : i < F.2.2.2.1) (hl : zb_set i (0, x + d) L = L') (kk : zb_WP X F (pc + 3) L' st S m k n) : zb_WP X F pc L st S m k n := by
  subst hl
  exact zb_loc (fun hL h => ⟨zb_set_ok (v := (0, x + d)) hi hL, h⟩) (fun G p l e R s mi args below meth c Z H locs ls hx hb hv _ _ w =>
    lv_iinc (x := Int32.ofInt x) (k := j) hx hb hd hv (by simp [zb_lv, List.getElem?_map, hj, zb_cv]) (Int32.ofInt_add x d).symm hn rfl (fun ls' h' => w ls' (by rw [zb_set_lv]; exact h'))) kk
/-- fewer locals, in another order -/
theorem zb_sub (ks : List Nat) (h : ks.filterMap (fun i => L[i]?) = L') (kk : zb_WP X F pc L' st S m k n) : zb_WP X F pc L st S m k n := by
  have hsub : ∀ q ∈ L', q ∈ L := by
    intro q hq
    rw [← h] at hq
    obtain ⟨i, -, hi⟩ := List.mem_filterMap.mp hq
    exact List.mem_of_getElem? hi
  obtain ⟨G, ⟨p, l, e, R, s, mi, args, below, meth, c, Z⟩, d, K, N, Q⟩ := X
  intro hC H locs ls hH hlo hL hLo hst
  exact kk hC H locs ls hH hlo ⟨hL.1, hL.2.1, fun q hq => by
    obtain ⟨z, hz, rfl⟩ := List.mem_map.mp hq
    exact hL.2.2 _ (List.mem_map.mpr ⟨z, hsub z hz, rfl⟩)⟩ (fun q hq => hLo q (hsub q hq)) hst
end SBL
