/-! THE CLAIM OUT OF ONE WALK OF THE LAW'S BODY. Your part is whole_start (and what it stands on); all else here is the same for every law, but numbers. -/
def R_law : String := "SameBenchLaw"
def lw_P (b : Addr) (xs : List Int32) (args : Array Value) (s : State) : Prop := args = #[.ref b] ∧ s.IntsAt b xs ∧ xs.length ≤ 4096 ∧ (Jvm.Cond.and given_1 narrow_1).before args s = true
def lw_Q (_ : Array Value) (s : State) (o : Outcome) (t : State) : Prop := o = .returned (some (.int 1)) ∧ Framed s o t [] 600000 7302250
def lw_Z (below : List Frame) (a : Array Value) (s : State) : State → Prop := fun t => ∃ o, t.status = .running ∧ Ended t below o ∧ lw_Q a s o t
/-- the law's own end, with 1 on the stack, nothing written that was there before, its room as the claim has it -/
theorem lw_ret {p : Program} {l : Launch} {e : Env} {s : State} {m : MethodId} {below : List Frame} {meth : Method} {c : Code} {b : Nat} (hx : p.tables.exec = Jvm.exec) (hb : c.code = code) (hr : meth.sig.returnType = ret) (hlocks : meth.locks = false) {pc : Nat} {H : Heap} {ls : Array Slot} (hdg : decode code pc = .ok (.ireturn, 1)) : W p l e room_1 s m #[Value.ref b] below meth c H [] 600000 7302250 (lw_Z below #[Value.ref b] s) (F0 m pc ls [.int 1]) := by
  intro T hT X
  obtain ⟨fs, hret, hrun, hended, hW, hframe⟩ := X.leave (v := some (.int 1)) (hlocks := hlocks) (fun h => by rw [hr] at h; cases h)
  have hmeth' : T.vm.method? m = some meth := X.method'
  refine ⟨T.setFrames fs, ?_, .returned (some (.int 1)), hrun, hended, rfl, ⟨_, rfl⟩, hW, hframe⟩
  jvm_step X.here [X.here.top, hx, hb, hdg, hmeth', hr, ret, narrow_b1]
  (try refine ⟨rfl, ?_⟩); (try refine ⟨rfl, ?_⟩)
  first | (intro acts; rw [hret _ acts rfl rfl rfl]) | rw [hret _ _ rfl rfl rfl]
  exact Steps.refl _
/-- what holds at the law's entry: the machine, the code, the tables' words (any of lw_tbl by 'hts w (by decide +kernel)'), the script of L ints xs at the cell b, what the Statement gives of the start (any of its parts by flat_of_before) -/
def lw_At (p : Program) (s : State) (m : MethodId) (meth : Method) (c : Code) (b L : Nat) (xs : Nat → Int32) : Prop :=
  p.tables.exec = Jvm.exec ∧ c.code = code ∧ meth.sig.returnType = ret ∧ c.maxLocals = 4 ∧ s.vm.findClass R_law = some m.cls ∧ (∀ w ∈ lw_tbl, w.before #[Value.ref b] s = true) ∧ va_X b L xs s s.heap ∧ b < s.heap.size ∧ meth.locks = false ∧ (Jvm.Cond.and given_1 narrow_1).before #[Value.ref b] s = true
/-- what is left to show: from the world as it stands the law's loop comes to its end with true -/
def zb_Pure : Prop := ∀ (Ln : Nat) (xs : Nat → Int32), Ln ≤ 4096 → PL_L_law_18 199 zb_E0 1 500 Ln xs (fun r _ => r = 1) 0 zb_m0
theorem whole_start_of (hP : zb_Pure) {p : Program} {e : Env} {s : State} {m : MethodId} {below : List Frame} {meth : Method} {c : Code} (l : Launch) (hflags : l.flags = flags0) {b L : Nat} {xs : Nat → Int32} (hL : L ≤ 4096) (C0 : lw_At p s m meth c b L xs) : W p l e room_1 s m #[Value.ref b] below meth c s.heap [] 0 0 (lw_Z below #[Value.ref b] s) (entryFrame m ([Value.ref b] : List Value).toArray 4) := by
  obtain ⟨hx, hb, hr, hml, hown, hts, hX, hbl, hlocks, hgv⟩ := C0
  obtain ⟨D, cy, hK, htb⟩ := zb_K_at hts
  have h1 : ∀ w ∈ zb_all, w.before #[Value.ref b] s = true := fun w hw => hts w (List.mem_filter.mp hw).1
  have hscr : zb_scr ((s.heap.size, b, s.heap, D, cy) : zb_G) ((p, l, e, room_1, s, m, #[Value.ref b], below, meth, c, lw_Z below #[Value.ref b] s) : zb_C) L xs := ⟨hX, hbl⟩
  have hctx : zb_ctx F_L_law (((s.heap.size, b, s.heap, D, cy) : zb_G), ((p, l, e, room_1, s, m, #[Value.ref b], below, meth, c, lw_Z below #[Value.ref b] s) : zb_C), 200, 600000, 7302250, zb_q zb_E0 (fun r _ => r = 1)) := by
    refine ⟨hx, hb, hml, hown, h1, hK, htb, fun q => absurd q (by decide), Nat.le_of_ble_eq_true rfl, Nat.le_of_ble_eq_true rfl, Nat.le_refl _, Nat.le_refl _, ?_⟩
    intro S' m' H locs ls pc ins st r k n hH hlo hret hst hd hk hn hQ
    have hr1 : r = 1 := hQ.2.2
    subst hr1
    rcases hret with ⟨q, -⟩ | ⟨q, -⟩ | ⟨-, rfl, rfl, -⟩ | ⟨q, -⟩ | ⟨q, -⟩
    · cases q
    · cases q
    · exact va_forget hlo (W.widen hk hn (lw_ret hx hb hr hlocks hd))
    · cases q
    · rcases q with ⟨_, q⟩ | ⟨_, q⟩ <;> cases q
  have hWP : zb_WP (((s.heap.size, b, s.heap, D, cy) : zb_G), ((p, l, e, room_1, s, m, #[Value.ref b], below, meth, c, lw_Z below #[Value.ref b] s) : zb_C), 200, 600000, 7302250, zb_q zb_E0 (fun r _ => r = 1)) F_L_law 0 [(0, (3, 0))] [] (zb_dS []) (zb_dM []) 0 0 := by
    refine zb_k_new (sz := 15) dL_law_0 mk_L_7 rfl 1 15 rfl rfl rfl rfl (fun s0 e0 => ?_)
    refine zb_dup dL_law_3 rfl ?_
    refine zb_k_I (g := F_X11_init) (d' := 4) (k' := 498) (n' := 14239) (As := []) (As' := []) (st := [(2, 1)]) dL_law_4 lk_L_9 rfl gd_X11_init rfl rfl (by decide) (cw_X11_init (d := 0) (by rw [e0]; exact zb_ctor)) (by omega) 499 14254 rfl rfl rfl rfl (Nat.le_of_ble_eq_true rfl) (fun s1 h => ?_)
    obtain ⟨hlen, h⟩ := zb_andT h
    have hlen := of_decide_eq_true hlen
    refine zb_astore_n (L' := [(1, (2, 1)), (0, (3, 0))]) dL_law_7 rfl (by decide) rfl ?_
    refine zb_k_new (sz := 55) dL_law_8 mk_L_10 rfl 500 14309 rfl rfl rfl rfl (fun s2 e2 => ?_)
    rw [← e2] at h
    rw [hlen] at h ⊢
    refine zb_dup dL_law_11 rfl ?_
    refine zb_k_I (g := F_X12_init) (d' := 4) (k' := 41) (n' := 12317) (As := []) (As' := []) (st := [(2, 500)]) dL_law_12 lk_L_12 rfl gd_X12_init rfl rfl (by decide) (cw_X12_init (d := 3) h) (by omega) 541 26626 rfl rfl rfl rfl (Nat.le_of_ble_eq_true rfl) (fun s3 h => ?_)
    have h := of_decide_eq_true h
    subst h
    refine zb_astore_n (L' := [(2, (2, 500)), (1, (2, 1)), (0, (3, 0))]) dL_law_15 rfl (by decide) rfl ?_
    refine zb_iconst dL_law_16 (zb_inIc rfl) ?_
    refine zb_istore_n (L' := [(3, (0, 0)), (2, (2, 500)), (1, (2, 1)), (0, (3, 0))]) dL_law_17 rfl (by decide) rfl ?_
    refine zb_sub (L' := [(0, (3, 0)), (1, (2, 1)), (2, (2, 500)), (3, (0, 0))]) [3, 2, 1, 0] rfl ?_
    exact w_law (d := 199) (E := zb_E0) zb_W0 zb_F0 (zb_isb_ok (by decide +kernel)) (zb_isb_ok (by decide +kernel)) hscr hL (by decide) (by decide) (hP L xs hL)
  rw [lg_entry_eq]
  refine hWP hctx s.heap [] _ ⟨rfl, fun a h1 h2 => ?_, fun q _ => rfl, fun a k => ?_, rfl⟩ (fun q hq => by cases hq) (lv_entry [Value.ref b] (Nat.le_of_ble_eq_true rfl)) (fun q hq => ?_) (fun v hv => by cases hv)
  · have h2 : a ≤ ((0 : Nat) : Int) := h2
    omega
  · have e : zb_dM [] a k = 0 := by simp [zb_dM, zb_row]
    rw [e]
    exact zb_okm0 _
  · rw [List.mem_singleton.mp hq]
    trivial
