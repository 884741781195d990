/-! ===== a method's contract out of a walk; calls ===== -/
def zb_en : Nat → List zb_V → List (Nat × zb_V)
  | _, [] => []
  | i, v :: vs => (i, v) :: zb_en (i + 1) vs
theorem zb_cat1 (G : zb_G) (v : zb_V) : (zb_cv G v).category = if v.1 = 1 then 2 else 1 := by
  obtain ⟨t, x⟩ := v
  match t with
  | 0 => rfl
  | 1 => rfl
  | 2 =>
    show (va_rf (zb_rf G.1 x)).category = _
    cases zb_rf G.1 x <;> rfl
  | (t + 3) =>
    show (Value.ref _).category = if t + 3 = 1 then 2 else 1
    rw [if_neg (by omega)]
    rfl
theorem zb_en_lv (G : zb_G) (av : List zb_V) (h : ∀ v ∈ av, v.1 ≠ 1) (i : Nat) : lv_args i (av.map (zb_cv G)) = zb_lv G (zb_en i av) := by
  induction av generalizing i with
  | nil => rfl
  | cons v vs ih =>
    have h1 := h v List.mem_cons_self
    show (i, zb_cv G v) :: lv_args (if (zb_cv G v).category = 2 then i + 2 else i + 1) (vs.map (zb_cv G)) = (i, zb_cv G v) :: zb_lv G (zb_en (i + 1) vs)
    rw [zb_cat1, if_neg h1, if_neg (by omega), ih (fun w hw => h w (List.mem_cons_of_mem _ hw))]
theorem zb_en_sl (G : zb_G) (av : List zb_V) (h : ∀ v ∈ av, v.1 ≠ 1) : (lg_sl (av.map (zb_cv G))).length = av.length := by
  induction av with
  | nil => rfl
  | cons v vs ih =>
    have h1 := h v List.mem_cons_self
    have ih := ih (fun w hw => h w (List.mem_cons_of_mem _ hw))
    simp only [lg_sl, List.map_cons, List.flatMap_cons, List.length_append] at ih ⊢
    rw [ih, zb_cat1, if_neg h1, if_neg (by omega)]
    simp
    omega
theorem zb_en_ok {av : List zb_V} {i : Nat} (h : ∀ v ∈ av, zb_ok v.1 v.2) : ∀ q ∈ zb_en i av, zb_ok q.2.1 q.2.2 := by
  induction av generalizing i with
  | nil => intro q hq; cases hq
  | cons v vs ih =>
    intro q hq
    rcases List.mem_cons.mp hq with rfl | hq
    · exact h v List.mem_cons_self
    · exact ih (fun w hw => h w (List.mem_cons_of_mem _ hw)) q hq
/-- what is known of a method: its class, its code's word, how many arguments -/
def zb_gd (g : zb_F) (n : Nat) : Prop := (g.2.1.cls ≠ "java/lang/invoke/MethodHandle" ∧ g.2.1.cls ≠ "java/lang/invoke/VarHandle" ∧ (parseMethodDescriptor g.2.1.desc).map (fun d => d.parameters.length) = some n) ∧ Cond.code g.2.1 g.2.2.1 g.2.2.2.1 g.2.2.2.2 ∈ zb_all ∧ Cond.initialized g.2.1.cls ∈ zb_all ∧ plainName g.2.1.cls = true ∧ g.2.1.cls = g.1 ∧ g.2.2.2.1 ≤ 40
theorem zb_tri {F : zb_F} {d k n na : Nat} {av : List zb_V} {S : zb_S} {m : zb_M} {Q : Int → zb_S → zb_M → Prop} (hg : zb_gd F na) (hlen : av.length ≤ F.2.2.2.1) (hno : ∀ v ∈ av, v.1 ≠ 1)
    (h : ∀ (G : zb_G) (C : zb_C), (∀ v ∈ av, zb_ok v.1 v.2) → zb_WP (G, C, d, k, n, Q) F 0 (zb_en 0 av) [] S m 0 0) : zb_Tri F d k n av S m Q := by
  obtain ⟨-, -, -, hy, hcls, -⟩ := hg
  intro G l
  refine Met.ofW (cc := F.2.2.1) (maxL := F.2.2.2.1) (ret := F.2.2.2.2) hy rfl ?_
  intro p e s mi args below meth c s₁ B hml hv
  obtain ⟨rfl, hok, hH, hK, htb⟩ := hv
  have hx := B.exec
  have hb := B.bytes
  have hr := B.returns
  have hts := atoms_spec (ws := zb_mw F) B.pre
  have hown : s.vm.findClass F.1 = some mi.cls := by rw [← hcls]; exact findClass_of_methodNamed B.named
  have hlocks := B.notSynchronized
  have hin : meth.name = F.2.1.name := (name_of_methodNamed B.named B.method).1
  have hw := h G (p, l, e, (headSpec (zb_mw F) (zb_room d k n)).room, s, mi, (av.map (zb_cv G)).toArray, below, meth, c, MQ below (zb_Qc G F.2.2.2.2 Q) (av.map (zb_cv G)).toArray s k n (fun q => G.1 ≤ q)) hok
  rw [lg_entry_eq]
  refine hw ⟨hx, hb, hml, hown, fun w hw => hts w (List.mem_cons_of_mem _ hw), hK, htb, fun q => by rw [hin]; exact q, Nat.le_refl _, Nat.le_refl _, Nat.le_refl _, Nat.le_refl _, ?_⟩ s.heap [] _ hH (fun q hq => by cases hq) ?_ (zb_en_ok hok) (fun v hv => by cases hv)
  · intro S' m' H locs ls pc ins st r k' n' hH' hlo hret hst hd hk hn hQ
    have post : ∀ (v : Option Value), v = ((zb_rv F.2.2.2.2 r).map (zb_cv G)).head? → (∀ w ∈ zb_rv F.2.2.2.2 r, zb_ok w.1 w.2) → ∀ t : State, t.heap = H → s.WarmedH t.vm → zb_Qc G F.2.2.2.2 Q (av.map (zb_cv G)).toArray s (.returned v) t := by
      intro v hv ho t ht _
      exact ⟨r, S', m', by rw [hv], ho, by rw [ht]; exact hH', hQ⟩
    refine W.widen hk hn ?_
    rcases hret with ⟨h1, rfl, rfl, rfl⟩ | ⟨h1, rfl, rfl⟩ | ⟨h1, rfl, rfl, h2⟩ | ⟨h1, rfl, rfl⟩ | ⟨h1, rfl, rfl, h2⟩
    · exact W.vret hx hb (by rw [hr]; exact h1) (post _ (by rw [h1]; rfl) (by rw [h1]; intro w hw; cases hw)) hlo hd
    · exact W.iret hx hb (by rw [hr]; exact h1) (post _ (by rw [h1]; rfl) (by rw [h1]; exact hst)) hlo hd
    · exact W.zret hx hb (by rw [hr]; exact h1) (by rcases h2 with rfl | rfl <;> rfl) (post _ (by rw [h1]; rfl) (by rw [h1]; exact hst)) hlo hd
    · exact W.lret hx hb (by rw [hr]; exact h1) (post _ (by rw [h1]; rfl) (by rw [h1]; exact hst)) hlo hd
    · have e2 := zb_cvr (G := G) h2
      simp only [List.map_cons, List.map_nil, e2]
      rcases h1 with ⟨nm, h1⟩ | ⟨ty, h1⟩
      · exact W.aret hx hb (by rw [hr]; exact h1) (Or.inl ⟨_, rfl⟩) (Or.inr ⟨_, rfl⟩) (post _ (by rw [h1]; exact congrArg some e2.symm) (by rw [h1]; exact hst)) hlo hd
      · exact W.aret hx hb (by rw [hr]; exact h1) (Or.inr ⟨_, rfl⟩) (Or.inr ⟨_, rfl⟩) (post _ (by rw [h1]; exact congrArg some e2.symm) (by rw [h1]; exact hst)) hlo hd
  · rw [← zb_en_lv G av hno 0]
    exact lv_entry (av.map (zb_cv G)) (by rw [zb_en_sl G av hno]; exact hlen)
theorem zb_blind (G : zb_G) (av : List zb_V) (S : zb_S) (m : zb_M) : FrameBlind (zb_Pc G av S m) := by
  intro a U g mk h
  obtain ⟨h1, h2, h3, h4, h5, h6⟩ := h
  exact ⟨h1, h2, h3, va_K.moved (u := U) (U := U.calling g mk a) (Vm.Alike.refl U.vm) h4, fun w hw => va_Nw.same (u := U) (U := U.calling g mk a) (by
    have h7 := (List.mem_filter.mp hw).2
    cases w <;> simp [zb_isNest] at h7
    rfl) rfl (h5 w hw), fun C hC => va_AO.moved (u := U) (U := U.calling g mk a) (Vm.Alike.refl U.vm) (h6 C hC)⟩
theorem zb_tb_warm {s U : State} (hW : s.WarmedH U.vm) (h : zb_tb s) : zb_tb U := by
  refine ⟨fun w hw => ?_, fun C hC => va_AO.moved hW.alike (h.2 C hC)⟩
  have h1 := h.1 w hw
  have h7 := (List.mem_filter.mp hw).2
  cases w <;> simp [zb_isNest] at h7
  exact va_Nw.warmM hW h1
def zb_cs (st : List zb_V) : Nat := (st.map (fun v => if v.1 = 1 then 2 else 1)).sum
theorem zb_cs_eq (G : zb_G) (st : List zb_V) : ((st.map (zb_cv G)).map fun v => v.category).sum = zb_cs st := by
  unfold zb_cs
  rw [List.map_map]
  congr 1
  apply List.map_congr_left
  intro v _
  exact zb_cat1 G v
theorem zb_good {w : Cond} (h : w ∈ zb_all) : w ∈ zb_all ∧ ((w.onTables && w.keeps) = true ∨ ∃ ty, w = .arrayClass ty) := ⟨h, good_of_word (List.mem_filter.mp h).2⟩
theorem zb_good_mw {g : zb_F} {na : Nat} (hg : zb_gd g na) : GoodIn zb_all (zb_mw g) := by
  intro w hw
  rcases List.mem_cons.mp hw with rfl | h
  · exact zb_good hg.2.1
  · exact zb_good h
section ZBC
variable {p : Program} {l : Launch} {e : Env} {R : Room} {s : State} {mi : MethodId} {args : Array Value} {below : List Frame} {meth : Method} {c : Code} {Z : State → Prop} {G : zb_G} {d K N : Nat} {Q Q' : Int → zb_S → zb_M → Prop} {F g : zb_F} {pc : Nat} {L : List (Nat × zb_V)} {st0 st : List zb_V} {S : zb_S} {m : zb_M} {k n k' n' : Nat}
/-- behind a call -/
theorem zb_after {H : Heap} {locs : List Loc} {ls : Array Slot} {a : Array Value} (hr : va_Run p l e R s mi args below meth c H locs k n k' n' (F0 mi pc ls (st0.map (zb_cv G))) (st.map (zb_cv G)) (zb_Qc G g.2.2.2.2 Q' a) (fun q => G.1 ≤ q))
    (hC : zb_ctx F (G, (p, l, e, R, s, mi, args, below, meth, c, Z), d, K, N, Q)) (hlo : ∀ q ∈ locs, G.1 ≤ q.base) (hL : lv_has ls F.2.2.2.1 (zb_lv G L)) (hLo : ∀ q ∈ L, zb_ok q.2.1 q.2.2) (hst : ∀ v ∈ st, zb_ok v.1 v.2)
    (kk : ∀ (r : Int) (S' : zb_S) (m' : zb_M), Q' r S' m' → zb_WP (G, (p, l, e, R, s, mi, args, below, meth, c, Z), d, K, N, Q) F (pc + 3) L (zb_rv g.2.2.2.2 r ++ st) S' m' (k + k') (n + n')) :
    W p l e R s mi args below meth c H locs k n Z (F0 mi pc ls (st0.map (zb_cv G))) := by
  intro T hT Y
  obtain ⟨v, st₀, t, T', L', h0, Y', hL', e1, e2, ⟨r, S', m', hv, ho, hH', hq⟩, step⟩ := hr T hT Y
  have hv' : v = ((zb_rv g.2.2.2.2 r).map (zb_cv G)).head? := by
    cases hv
    rfl
  have hvl : v.toList ++ st.map (zb_cv G) = (zb_rv g.2.2.2.2 r ++ st).map (zb_cv G) := by
    rw [hv', List.map_append]
    congr 1
    cases g.2.2.2.2 <;> rfl
  rw [hvl] at step
  obtain ⟨t2, a1, b1⟩ := kk r S' m' hq hC T'.heap (locs ++ L') ls (by rw [e1]; exact hH') (fun q h => by
    rcases List.mem_append.mp h with h | h
    · exact hlo q h
    · exact hL' q h) hL hLo (fun v hv => by
    rcases List.mem_append.mp hv with h | h
    · exact ho v h
    · exact hst v h) T' rfl Y'
  exact ⟨t2, step t2 a1, b1⟩
def zb_lkV (own : String) (index : Nat) (g : zb_F) : Prop := Cond.methodLink own index g.2.1 ∈ zb_all ∧ Cond.instanceMethod g.2.1 ∈ zb_all ∧ Cond.selects g.2.1.cls g.2.1 g.2.1 ∈ zb_all
def zb_lkS (own : String) (index : Nat) (g : zb_F) : Prop := Cond.methodLink own index g.2.1 ∈ zb_all ∧ Cond.static g.2.1 ∈ zb_all
def zb_lkI (own : String) (index : Nat) (g : zb_F) : Prop := Cond.methodLink own index g.2.1 ∈ zb_all ∧ Cond.instanceMethod g.2.1 ∈ zb_all ∧ g.2.1.name = "<init>"
def zb_lkSN (own : String) (index : Nat) (g : zb_F) : Prop := ∃ host, Cond.methodLinkNest own index g.2.1 host ∈ zb_nest ∧ Cond.static g.2.1 ∈ zb_all
def zb_lkIN (own : String) (index : Nat) (g : zb_F) : Prop := ∃ host, Cond.methodLinkNest own index g.2.1 host ∈ zb_nest ∧ Cond.instanceMethod g.2.1 ∈ zb_all ∧ g.2.1.name = "<init>"
theorem zb_rooms {d' : Nat} (hdR : d ≤ R.frames) (hlR : 64 * (d + 1) ≤ R.locals) (hd : d' + 1 ≤ d) (hm : g.2.2.2.1 ≤ 40) : (zb_room d' k' n').frames + 1 ≤ R.frames ∧ 8 + (g.2.2.2.1 + 11) + (zb_room d' k' n').locals ≤ R.locals := by
  refine ⟨Nat.le_trans hd hdR, ?_⟩
  show 8 + (g.2.2.2.1 + 11) + 64 * (d' + 1) ≤ R.locals
  omega
end ZBC
section ZBD
variable {C : zb_C} {G : zb_G} {d K N : Nat} {Q Q' : Int → zb_S → zb_M → Prop} {F g : zb_F} {pc : Nat} {L : List (Nat × zb_V)} {st : List zb_V} {S : zb_S} {m : zb_M} {k n k' n' : Nat}
theorem zb_pre {s U : State} {H : Heap} {av : List zb_V} (hK : va_K G.2.2.2.1 vwCl (zb_tys G.2.2.2.2) s) (htb : zb_tb s) (hH : zb_H G S m H) (ho : ∀ w ∈ av, zb_ok w.1 w.2) (hU : U.heap = H) (hW : s.WarmedH U.vm) : zb_Pc G av S m (av.map (zb_cv G)).toArray U :=
  ⟨rfl, ho, by rw [hU]; exact hH, va_K.moved hW.alike hK, zb_tb_warm hW htb⟩
/-- a call of a static method -/
theorem zb_callS {index na d' : Nat} {As As' : List zb_V} (hd : decode F.2.2.1 pc = .ok (.invokestatic index, 3)) (hl : zb_lkS F.1 index g) (hg : zb_gd g na) (hn : As.length = na) (hrev : As.reverse = As') (hT : zb_Tri g d' k' n' As S m Q') (hdd : d' + 1 ≤ d) (hk : k + k' ≤ K) (hN : n + n' ≤ N) (hcs : zb_cs st ≤ 8)
    (kk : ∀ (r : Int) (S' : zb_S) (m' : zb_M), Q' r S' m' → zb_WP (G, C, d, K, N, Q) F (pc + 3) L (zb_rv g.2.2.2.2 r ++ st) S' m' (k + k') (n + n')) : zb_WP (G, C, d, K, N, Q) F pc L (As' ++ st) S m k n := by
  subst hrev
  obtain ⟨p, l, e, R, s, mi, args, below, meth, c, Z⟩ := C
  intro hC H locs ls hH hlo hL hLo hst
  have hC' := hC
  obtain ⟨hx, hb, hml, hown, hts, hK, htb, hini, hdR, hlR, hKR, hNR, -⟩ := hC'
  obtain ⟨l1, l2⟩ := hl
  have hoA : ∀ w ∈ As, zb_ok w.1 w.2 := fun w hw => hst w (List.mem_append_left _ (List.mem_reverse.mpr hw))
  have hrm := zb_rooms (R := R) (k' := k') (n' := n') hdR hlR hdd hg.2.2.2.2.2
  refine zb_after (Z := Z) (G := G) (g := g) (st0 := As.reverse ++ st) (st := st) (k' := k') (n' := n') (Q' := Q') (va_runS (As := As.map (zb_cv G)) (rest := st.map (zb_cv G)) (Ts := zb_all) ⟨hx, hb, hml, hown, hts⟩ (hT G l)
    (va_cwS na hts (fun w hw => ?_) rfl rfl rfl hg.1 hrm) ⟨zb_blind G As S m, fun U hU hW => zb_pre hK htb hH hoA hU hW⟩ rfl (by simpa using hn) hL.1 (by rw [List.map_append, List.map_reverse]) ?_ hd ⟨by omega, by omega⟩) hC hlo hL hLo (fun v hv => hst v (List.mem_append_right _ hv)) kk
  · rcases List.mem_append.mp hw with h | h
    · rcases List.mem_cons.mp h with rfl | h
      · exact zb_good l1
      · rcases List.mem_cons.mp h with rfl | h
        · exact zb_good l2
        · rw [List.mem_singleton.mp h]
          exact zb_good hg.2.2.1
    · exact zb_good_mw hg w h
  · show 2 * 0 + _ ≤ 8
    rw [zb_cs_eq]
    omega
theorem zb_callSN {index na d' : Nat} {As As' : List zb_V} (hd : decode F.2.2.1 pc = .ok (.invokestatic index, 3)) (hl : zb_lkSN F.1 index g) (hg : zb_gd g na) (hn : As.length = na) (hrev : As.reverse = As') (hT : zb_Tri g d' k' n' As S m Q') (hdd : d' + 1 ≤ d) (hk : k + k' ≤ K) (hN : n + n' ≤ N) (hcs : zb_cs st ≤ 8)
    (kk : ∀ (r : Int) (S' : zb_S) (m' : zb_M), Q' r S' m' → zb_WP (G, C, d, K, N, Q) F (pc + 3) L (zb_rv g.2.2.2.2 r ++ st) S' m' (k + k') (n + n')) : zb_WP (G, C, d, K, N, Q) F pc L (As' ++ st) S m k n := by
  subst hrev
  obtain ⟨p, l, e, R, s, mi, args, below, meth, c, Z⟩ := C
  intro hC H locs ls hH hlo hL hLo hst
  have hC' := hC
  obtain ⟨hx, hb, hml, hown, hts, hK, htb, hini, hdR, hlR, hKR, hNR, -⟩ := hC'
  obtain ⟨host, l1, l2⟩ := hl
  have hoA : ∀ w ∈ As, zb_ok w.1 w.2 := fun w hw => hst w (List.mem_append_left _ (List.mem_reverse.mpr hw))
  have hrm := zb_rooms (R := R) (k' := k') (n' := n') hdR hlR hdd hg.2.2.2.2.2
  refine zb_after (Z := Z) (G := G) (g := g) (st0 := As.reverse ++ st) (st := st) (k' := k') (n' := n') (Q' := Q') (va_runSN (As := As.map (zb_cv G)) (rest := st.map (zb_cv G)) (Ts := zb_all) ⟨hx, hb, hml, hown, hts⟩ (hT G l)
    ⟨va_cnB na hts (zb_good_mw hg) rfl rfl rfl (htb.1 _ l1) (hts _ hg.2.2.1) hg.1 hrm, hts _ l2, trivial⟩ ⟨zb_blind G As S m, fun U hU hW => zb_pre hK htb hH hoA hU hW⟩ rfl (by simpa using hn) hL.1 (by rw [List.map_append, List.map_reverse]) ?_ hd ⟨by omega, by omega⟩) hC hlo hL hLo (fun v hv => hst v (List.mem_append_right _ hv)) kk
  show 2 * 0 + _ ≤ 8
  rw [zb_cs_eq]
  omega
/-- a call of an object's method -/
theorem zb_callV {index na d' ci : Nat} {a : Int} {As As' : List zb_V} (hd : decode F.2.2.1 pc = .ok (.invokevirtual index, 3)) (hl : zb_lkV F.1 index g) (hg : zb_gd g na) (hn : As.length = na) (hrev : As.reverse = As') (ha : zb_is S a ci) (hci : ∃ q : vw_C, vwCl[ci]? = some q ∧ q.1 = g.2.1.cls) (hT : zb_Tri g d' k' n' ((2, a) :: As) S m Q') (hdd : d' + 1 ≤ d) (hk : k + k' ≤ K) (hN : n + n' ≤ N) (hcs : zb_cs st ≤ 8)
    (kk : ∀ (r : Int) (S' : zb_S) (m' : zb_M), Q' r S' m' → zb_WP (G, C, d, K, N, Q) F (pc + 3) L (zb_rv g.2.2.2.2 r ++ st) S' m' (k + k') (n + n')) : zb_WP (G, C, d, K, N, Q) F pc L (As' ++ (2, a) :: st) S m k n := by
  subst hrev
  obtain ⟨p, l, e, R, s, mi, args, below, meth, c, Z⟩ := C
  intro hC H locs ls hH hlo hL hLo hst
  have hC' := hC
  obtain ⟨hx, hb, hml, hown, hts, hK, htb, hini, hdR, hlR, hKR, hNR, -⟩ := hC'
  obtain ⟨l1, l2, l3⟩ := hl
  obtain ⟨h1, h2, h3⟩ := ha
  obtain ⟨q, hc, hqc⟩ := hci
  have hci : ci < 13 := (List.getElem?_eq_some_iff.mp hc).1
  have hat := hH.2.1 a h1 h2
  rw [zb_ent_obj G h3 hci] at hat
  have hoA : ∀ w ∈ (2, a) :: As, zb_ok w.1 w.2 := fun w hw => by
    rcases List.mem_cons.mp hw with rfl | hw
    · exact h1
    · exact hst w (List.mem_append_left _ (List.mem_reverse.mpr hw))
  have hrm := zb_rooms (R := R) (k' := k') (n' := n') hdR hlR hdd hg.2.2.2.2.2
  have hpre : ∀ U : State, U.heap = H → s.WarmedH U.vm → zb_Pc G ((2, a) :: As) S m (Value.ref (zb_ad G a) :: As.map (zb_cv G)).toArray U := fun U hU hW => by
    have h := zb_pre hK htb hH hoA hU hW
    rw [List.map_cons, zb_cvr h1] at h
    exact h
  have hTG := hT G l
  refine zb_after (Z := Z) (G := G) (g := g) (st0 := As.reverse ++ (2, a) :: st) (st := st) (k' := k') (n' := n') (Q' := Q') (va_runV (C := q.1) (b := zb_ad G a) (As := As.map (zb_cv G)) (rest := st.map (zb_cv G)) (Ts := zb_all) ⟨hx, hb, hml, hown, hts⟩ hTG
    (cwV na hts (fun w hw => ?_) rfl rfl rfl ⟨hqc.symm, hg.1⟩ hrm) ⟨zb_blind G _ S m, va_recv hK (zb_P1 hat) (q0 := 0) hc rfl, hpre⟩ rfl (by simpa using hn) hL.1 (by rw [List.map_append, List.map_reverse, List.map_cons, zb_cvr h1]) ?_ hd ⟨by omega, by omega⟩) hC hlo hL hLo (fun v hv => hst v (List.mem_append_right _ (List.mem_cons_of_mem _ hv))) kk
  · rw [hqc] at hw
    rcases List.mem_append.mp hw with h | h
    · rcases List.mem_cons.mp h with rfl | h
      · exact zb_good l1
      · rcases List.mem_cons.mp h with rfl | h
        · exact zb_good l2
        · rcases List.mem_cons.mp h with rfl | h
          · exact zb_good l3
          · rw [List.mem_singleton.mp h]
            exact zb_good hg.2.2.1
    · exact zb_good_mw hg w h
  · show 2 * 0 + _ ≤ 8
    rw [zb_cs_eq]
    omega
/-- a call of a constructor -/
theorem zb_callI {index na d' : Nat} {a : Int} {As As' : List zb_V} (hd : decode F.2.2.1 pc = .ok (.invokespecial index, 3)) (hl : zb_lkI F.1 index g) (hret : g.2.2.2.2 = none) (hg : zb_gd g na) (hn : As.length = na) (hrev : As.reverse = As') (h1 : 1 ≤ a) (hT : zb_Tri g d' k' n' ((2, a) :: As) S m Q') (hdd : d' + 1 ≤ d) (hk : k + k' ≤ K) (hN : n + n' ≤ N) (hcs : zb_cs st ≤ 8)
    (kk : ∀ (r : Int) (S' : zb_S) (m' : zb_M), Q' r S' m' → zb_WP (G, C, d, K, N, Q) F (pc + 3) L (zb_rv g.2.2.2.2 r ++ st) S' m' (k + k') (n + n')) : zb_WP (G, C, d, K, N, Q) F pc L (As' ++ (2, a) :: st) S m k n := by
  subst hrev
  obtain ⟨p, l, e, R, s, mi, args, below, meth, c, Z⟩ := C
  intro hC H locs ls hH hlo hL hLo hst
  have hC' := hC
  obtain ⟨hx, hb, hml, hown, hts, hK, htb, hini, hdR, hlR, hKR, hNR, -⟩ := hC'
  obtain ⟨l1, l2, l3⟩ := hl
  have hoA : ∀ w ∈ (2, a) :: As, zb_ok w.1 w.2 := fun w hw => by
    rcases List.mem_cons.mp hw with rfl | hw
    · exact h1
    · exact hst w (List.mem_append_left _ (List.mem_reverse.mpr hw))
  have hrm := zb_rooms (R := R) (k' := k') (n' := n') hdR hlR hdd hg.2.2.2.2.2
  have hpre : ∀ U : State, U.heap = H → s.WarmedH U.vm → zb_Pc G ((2, a) :: As) S m (Value.ref (zb_ad G a) :: As.map (zb_cv G)).toArray U := fun U hU hW => by
    have h := zb_pre hK htb hH hoA hU hW
    rw [List.map_cons, zb_cvr h1] at h
    exact h
  have hTG := hT G l
  refine zb_after (Z := Z) (G := G) (g := g) (st0 := As.reverse ++ (2, a) :: st) (st := st) (k' := k') (n' := n') (Q' := Q') (va_runI (b := zb_ad G a) (bytes := g.2.2.1) (maxL := g.2.2.2.1) (As := As.map (zb_cv G)) (rest := st.map (zb_cv G)) (Ts := zb_all) ⟨hx, hb, hml, hown, hts⟩ hTG
    (cwI na hts (zb_good_mw hg) (by unfold zb_mw; rw [hret]) rfl rfl (hts _ hg.2.2.1) (hts _ l1) (hts _ l2) l3 hg.1 hrm) ⟨zb_blind G _ S m, hpre⟩ rfl (by simpa using hn) hL.1 (by rw [List.map_append, List.map_reverse, List.map_cons, zb_cvr h1]) ?_ hd ⟨by omega, by omega⟩) hC hlo hL hLo (fun v hv => hst v (List.mem_append_right _ (List.mem_cons_of_mem _ hv))) kk
  show 2 * 0 + _ ≤ 8
  rw [zb_cs_eq]
  omega
theorem zb_callIN {index na d' : Nat} {a : Int} {As As' : List zb_V} (hd : decode F.2.2.1 pc = .ok (.invokespecial index, 3)) (hl : zb_lkIN F.1 index g) (hret : g.2.2.2.2 = none) (hg : zb_gd g na) (hn : As.length = na) (hrev : As.reverse = As') (h1 : 1 ≤ a) (hT : zb_Tri g d' k' n' ((2, a) :: As) S m Q') (hdd : d' + 1 ≤ d) (hk : k + k' ≤ K) (hN : n + n' ≤ N) (hcs : zb_cs st ≤ 8)
    (kk : ∀ (r : Int) (S' : zb_S) (m' : zb_M), Q' r S' m' → zb_WP (G, C, d, K, N, Q) F (pc + 3) L (zb_rv g.2.2.2.2 r ++ st) S' m' (k + k') (n + n')) : zb_WP (G, C, d, K, N, Q) F pc L (As' ++ (2, a) :: st) S m k n := by
  subst hrev
  obtain ⟨p, l, e, R, s, mi, args, below, meth, c, Z⟩ := C
  intro hC H locs ls hH hlo hL hLo hst
  have hC' := hC
  obtain ⟨hx, hb, hml, hown, hts, hK, htb, hini, hdR, hlR, hKR, hNR, -⟩ := hC'
  obtain ⟨host, l1, l2, l3⟩ := hl
  have hoA : ∀ w ∈ (2, a) :: As, zb_ok w.1 w.2 := fun w hw => by
    rcases List.mem_cons.mp hw with rfl | hw
    · exact h1
    · exact hst w (List.mem_append_left _ (List.mem_reverse.mpr hw))
  have hrm := zb_rooms (R := R) (k' := k') (n' := n') hdR hlR hdd hg.2.2.2.2.2
  have hpre : ∀ U : State, U.heap = H → s.WarmedH U.vm → zb_Pc G ((2, a) :: As) S m (Value.ref (zb_ad G a) :: As.map (zb_cv G)).toArray U := fun U hU hW => by
    have h := zb_pre hK htb hH hoA hU hW
    rw [List.map_cons, zb_cvr h1] at h
    exact h
  have hTG := hT G l
  refine zb_after (Z := Z) (G := G) (g := g) (st0 := As.reverse ++ (2, a) :: st) (st := st) (k' := k') (n' := n') (Q' := Q') (va_runIN (b := zb_ad G a) (bytes := g.2.2.1) (maxL := g.2.2.2.1) (As := As.map (zb_cv G)) (rest := st.map (zb_cv G)) (Ts := zb_all) ⟨hx, hb, hml, hown, hts⟩ hTG
    ⟨va_cnB na hts (zb_good_mw hg) (by unfold zb_mw; rw [hret]) rfl rfl (htb.1 _ l1) (hts _ hg.2.2.1) hg.1 hrm, l3, hts _ l2⟩ ⟨zb_blind G _ S m, hpre⟩ rfl (by simpa using hn) hL.1 (by rw [List.map_append, List.map_reverse, List.map_cons, zb_cvr h1]) ?_ hd ⟨by omega, by omega⟩) hC hlo hL hLo (fun v hv => hst v (List.mem_append_right _ (List.mem_cons_of_mem _ hv))) kk
  show 2 * 0 + _ ≤ 8
  rw [zb_cs_eq]
  omega
end ZBD
