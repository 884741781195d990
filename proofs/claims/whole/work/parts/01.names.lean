-- ===== PART A: goes FIRST, ahead of the names: the tables' words, and 'selects' of the private methods out of them =====
/-- a private method of a class that the tables say can be made, by its rows of tables_1 -/
def lw_okq (q : MethodName × Nat) : Prop := (q.1.cls ≠ "java/lang/invoke/MethodHandle" ∧ q.1.cls ≠ "java/lang/invoke/VarHandle") ∧ Cond.instantiable q.1.cls q.2 ∈ tables_1 ∧ Cond.privateMethod q.1 ∈ tables_1 ∧ Cond.instanceMethod q.1 ∈ tables_1
theorem lw_p0 : lw_okq (⟨"SameBench", "keep", "(I)V"⟩, 15) := ⟨⟨by decide +kernel, by decide +kernel⟩, List.mem_of_getElem? (i := 18) (by decide +kernel), List.mem_of_getElem? (i := 441) (by decide +kernel), List.mem_of_getElem? (i := 442) (by decide +kernel)⟩
theorem lw_p1 : lw_okq (⟨"SameBench", "isThing", "(II)Z"⟩, 15) := ⟨⟨by decide +kernel, by decide +kernel⟩, List.mem_of_getElem? (i := 18) (by decide +kernel), List.mem_of_getElem? (i := 472) (by decide +kernel), List.mem_of_getElem? (i := 473) (by decide +kernel)⟩
theorem lw_p2 : lw_okq (⟨"SameBench", "refusalOfTurnings", "(I)I"⟩, 15) := ⟨⟨by decide +kernel, by decide +kernel⟩, List.mem_of_getElem? (i := 18) (by decide +kernel), List.mem_of_getElem? (i := 791) (by decide +kernel), List.mem_of_getElem? (i := 792) (by decide +kernel)⟩
theorem lw_p3 : lw_okq (⟨"SameBenchModel", "isGraph", "(I)Z"⟩, 55) := ⟨⟨by decide +kernel, by decide +kernel⟩, List.mem_of_getElem? (i := 951) (by decide +kernel), List.mem_of_getElem? (i := 1131) (by decide +kernel), List.mem_of_getElem? (i := 1132) (by decide +kernel)⟩
theorem lw_p4 : lw_okq (⟨"SameBenchModel", "note", "(I)V"⟩, 55) := ⟨⟨by decide +kernel, by decide +kernel⟩, List.mem_of_getElem? (i := 951) (by decide +kernel), List.mem_of_getElem? (i := 1141) (by decide +kernel), List.mem_of_getElem? (i := 1142) (by decide +kernel)⟩
theorem lw_p5 : lw_okq (⟨"SameBenchModel", "isThing", "(II)Z"⟩, 55) := ⟨⟨by decide +kernel, by decide +kernel⟩, List.mem_of_getElem? (i := 951) (by decide +kernel), List.mem_of_getElem? (i := 1149) (by decide +kernel), List.mem_of_getElem? (i := 1150) (by decide +kernel)⟩
theorem lw_p6 : lw_okq (⟨"SameBenchModel", "lineOf", "(III)I"⟩, 55) := ⟨⟨by decide +kernel, by decide +kernel⟩, List.mem_of_getElem? (i := 951) (by decide +kernel), List.mem_of_getElem? (i := 1173) (by decide +kernel), List.mem_of_getElem? (i := 1174) (by decide +kernel)⟩
theorem lw_p7 : lw_okq (⟨"SameBenchModel", "keyOf", "(II)I"⟩, 55) := ⟨⟨by decide +kernel, by decide +kernel⟩, List.mem_of_getElem? (i := 951) (by decide +kernel), List.mem_of_getElem? (i := 1200) (by decide +kernel), List.mem_of_getElem? (i := 1201) (by decide +kernel)⟩
theorem lw_p8 : lw_okq (⟨"SameBenchModel", "shownOf", "(I)I"⟩, 55) := ⟨⟨by decide +kernel, by decide +kernel⟩, List.mem_of_getElem? (i := 951) (by decide +kernel), List.mem_of_getElem? (i := 1208) (by decide +kernel), List.mem_of_getElem? (i := 1209) (by decide +kernel)⟩
theorem lw_p9 : lw_okq (⟨"SameBenchModel", "isRight", "(I)Z"⟩, 55) := ⟨⟨by decide +kernel, by decide +kernel⟩, List.mem_of_getElem? (i := 951) (by decide +kernel), List.mem_of_getElem? (i := 1212) (by decide +kernel), List.mem_of_getElem? (i := 1213) (by decide +kernel)⟩
theorem lw_p10 : lw_okq (⟨"SameBenchModel", "layOut", "(I)V"⟩, 55) := ⟨⟨by decide +kernel, by decide +kernel⟩, List.mem_of_getElem? (i := 951) (by decide +kernel), List.mem_of_getElem? (i := 1220) (by decide +kernel), List.mem_of_getElem? (i := 1221) (by decide +kernel)⟩
theorem lw_p11 : lw_okq (⟨"SameBenchModel", "start", "(I)V"⟩, 55) := ⟨⟨by decide +kernel, by decide +kernel⟩, List.mem_of_getElem? (i := 951) (by decide +kernel), List.mem_of_getElem? (i := 1224) (by decide +kernel), List.mem_of_getElem? (i := 1225) (by decide +kernel)⟩
theorem lw_p12 : lw_okq (⟨"SameBenchModel", "gather", "(II)V"⟩, 55) := ⟨⟨by decide +kernel, by decide +kernel⟩, List.mem_of_getElem? (i := 951) (by decide +kernel), List.mem_of_getElem? (i := 1228) (by decide +kernel), List.mem_of_getElem? (i := 1229) (by decide +kernel)⟩
theorem lw_p13 : lw_okq (⟨"SameBenchModel", "orderSights", "(III)I"⟩, 55) := ⟨⟨by decide +kernel, by decide +kernel⟩, List.mem_of_getElem? (i := 951) (by decide +kernel), List.mem_of_getElem? (i := 1232) (by decide +kernel), List.mem_of_getElem? (i := 1233) (by decide +kernel)⟩
theorem lw_p14 : lw_okq (⟨"SameBenchModel", "splitIn", "(I)V"⟩, 55) := ⟨⟨by decide +kernel, by decide +kernel⟩, List.mem_of_getElem? (i := 951) (by decide +kernel), List.mem_of_getElem? (i := 1236) (by decide +kernel), List.mem_of_getElem? (i := 1237) (by decide +kernel)⟩
theorem lw_p15 : lw_okq (⟨"SameBenchModel", "see", "(II)V"⟩, 55) := ⟨⟨by decide +kernel, by decide +kernel⟩, List.mem_of_getElem? (i := 951) (by decide +kernel), List.mem_of_getElem? (i := 1240) (by decide +kernel), List.mem_of_getElem? (i := 1241) (by decide +kernel)⟩
def lw_privs_1 : List (MethodName × Nat) := [(⟨"SameBench", "keep", "(I)V"⟩, 15), (⟨"SameBench", "isThing", "(II)Z"⟩, 15), (⟨"SameBench", "refusalOfTurnings", "(I)I"⟩, 15), (⟨"SameBenchModel", "isGraph", "(I)Z"⟩, 55), (⟨"SameBenchModel", "note", "(I)V"⟩, 55), (⟨"SameBenchModel", "isThing", "(II)Z"⟩, 55), (⟨"SameBenchModel", "lineOf", "(III)I"⟩, 55), (⟨"SameBenchModel", "keyOf", "(II)I"⟩, 55), (⟨"SameBenchModel", "shownOf", "(I)I"⟩, 55), (⟨"SameBenchModel", "isRight", "(I)Z"⟩, 55), (⟨"SameBenchModel", "layOut", "(I)V"⟩, 55), (⟨"SameBenchModel", "start", "(I)V"⟩, 55), (⟨"SameBenchModel", "gather", "(II)V"⟩, 55), (⟨"SameBenchModel", "orderSights", "(III)I"⟩, 55), (⟨"SameBenchModel", "splitIn", "(I)V"⟩, 55), (⟨"SameBenchModel", "see", "(II)V"⟩, 55)]
theorem lw_r1 : ∀ q ∈ lw_privs_1, lw_okq q := List.forall_mem_cons.mpr ⟨lw_p0, List.forall_mem_cons.mpr ⟨lw_p1, List.forall_mem_cons.mpr ⟨lw_p2, List.forall_mem_cons.mpr ⟨lw_p3, List.forall_mem_cons.mpr ⟨lw_p4, List.forall_mem_cons.mpr ⟨lw_p5, List.forall_mem_cons.mpr ⟨lw_p6, List.forall_mem_cons.mpr ⟨lw_p7, List.forall_mem_cons.mpr ⟨lw_p8, List.forall_mem_cons.mpr ⟨lw_p9, List.forall_mem_cons.mpr ⟨lw_p10, List.forall_mem_cons.mpr ⟨lw_p11, List.forall_mem_cons.mpr ⟨lw_p12, List.forall_mem_cons.mpr ⟨lw_p13, List.forall_mem_cons.mpr ⟨lw_p14, List.forall_mem_cons.mpr ⟨lw_p15, fun _ h => absurd h List.not_mem_nil⟩⟩⟩⟩⟩⟩⟩⟩⟩⟩⟩⟩⟩⟩⟩⟩
theorem lw_p16 : lw_okq (⟨"SameBenchModel", "handOf", "(I)I"⟩, 55) := ⟨⟨by decide +kernel, by decide +kernel⟩, List.mem_of_getElem? (i := 951) (by decide +kernel), List.mem_of_getElem? (i := 1248) (by decide +kernel), List.mem_of_getElem? (i := 1249) (by decide +kernel)⟩
theorem lw_p17 : lw_okq (⟨"SameBenchModel", "markIn", "(II)V"⟩, 55) := ⟨⟨by decide +kernel, by decide +kernel⟩, List.mem_of_getElem? (i := 951) (by decide +kernel), List.mem_of_getElem? (i := 1252) (by decide +kernel), List.mem_of_getElem? (i := 1253) (by decide +kernel)⟩
theorem lw_p18 : lw_okq (⟨"SameBenchModel", "isAlone", "(II)Z"⟩, 55) := ⟨⟨by decide +kernel, by decide +kernel⟩, List.mem_of_getElem? (i := 951) (by decide +kernel), List.mem_of_getElem? (i := 1256) (by decide +kernel), List.mem_of_getElem? (i := 1257) (by decide +kernel)⟩
theorem lw_p19 : lw_okq (⟨"SameBenchModel", "grow", "()Z"⟩, 55) := ⟨⟨by decide +kernel, by decide +kernel⟩, List.mem_of_getElem? (i := 951) (by decide +kernel), List.mem_of_getElem? (i := 1268) (by decide +kernel), List.mem_of_getElem? (i := 1269) (by decide +kernel)⟩
theorem lw_p20 : lw_okq (⟨"SameBenchModel", "leaf", "(I)V"⟩, 55) := ⟨⟨by decide +kernel, by decide +kernel⟩, List.mem_of_getElem? (i := 951) (by decide +kernel), List.mem_of_getElem? (i := 1272) (by decide +kernel), List.mem_of_getElem? (i := 1273) (by decide +kernel)⟩
theorem lw_p21 : lw_okq (⟨"SameBenchModel", "targetOf", "(I)I"⟩, 55) := ⟨⟨by decide +kernel, by decide +kernel⟩, List.mem_of_getElem? (i := 951) (by decide +kernel), List.mem_of_getElem? (i := 1279) (by decide +kernel), List.mem_of_getElem? (i := 1280) (by decide +kernel)⟩
theorem lw_p22 : lw_okq (⟨"SameBenchModel", "follows", "(III)Z"⟩, 55) := ⟨⟨by decide +kernel, by decide +kernel⟩, List.mem_of_getElem? (i := 951) (by decide +kernel), List.mem_of_getElem? (i := 1283) (by decide +kernel), List.mem_of_getElem? (i := 1284) (by decide +kernel)⟩
theorem lw_p23 : lw_okq (⟨"SameBenchModel", "areTwins", "(II)Z"⟩, 55) := ⟨⟨by decide +kernel, by decide +kernel⟩, List.mem_of_getElem? (i := 951) (by decide +kernel), List.mem_of_getElem? (i := 1287) (by decide +kernel), List.mem_of_getElem? (i := 1288) (by decide +kernel)⟩
theorem lw_p24 : lw_okq (⟨"SameBenchModel", "growBoth", "(II)Z"⟩, 55) := ⟨⟨by decide +kernel, by decide +kernel⟩, List.mem_of_getElem? (i := 951) (by decide +kernel), List.mem_of_getElem? (i := 1307) (by decide +kernel), List.mem_of_getElem? (i := 1308) (by decide +kernel)⟩
theorem lw_p25 : lw_okq (⟨"SameBenchModel", "keepOther", "()V"⟩, 55) := ⟨⟨by decide +kernel, by decide +kernel⟩, List.mem_of_getElem? (i := 951) (by decide +kernel), List.mem_of_getElem? (i := 1311) (by decide +kernel), List.mem_of_getElem? (i := 1312) (by decide +kernel)⟩
theorem lw_p26 : lw_okq (⟨"SameBenchModel", "differsAt", "(I)I"⟩, 55) := ⟨⟨by decide +kernel, by decide +kernel⟩, List.mem_of_getElem? (i := 951) (by decide +kernel), List.mem_of_getElem? (i := 1315) (by decide +kernel), List.mem_of_getElem? (i := 1316) (by decide +kernel)⟩
theorem lw_p27 : lw_okq (⟨"SameBenchModel", "clearTurning", "()V"⟩, 55) := ⟨⟨by decide +kernel, by decide +kernel⟩, List.mem_of_getElem? (i := 951) (by decide +kernel), List.mem_of_getElem? (i := 1319) (by decide +kernel), List.mem_of_getElem? (i := 1320) (by decide +kernel)⟩
theorem lw_p28 : lw_okq (⟨"SameBenchModel", "unlikeBy", "(IIII)I"⟩, 55) := ⟨⟨by decide +kernel, by decide +kernel⟩, List.mem_of_getElem? (i := 951) (by decide +kernel), List.mem_of_getElem? (i := 1327) (by decide +kernel), List.mem_of_getElem? (i := 1328) (by decide +kernel)⟩
theorem lw_p29 : lw_okq (⟨"SameBenchModel", "sumUp", "([I[I)V"⟩, 55) := ⟨⟨by decide +kernel, by decide +kernel⟩, List.mem_of_getElem? (i := 951) (by decide +kernel), List.mem_of_getElem? (i := 1331) (by decide +kernel), List.mem_of_getElem? (i := 1332) (by decide +kernel)⟩
theorem lw_p30 : lw_okq (⟨"SameBenchModel", "chainOf", "(I)I"⟩, 55) := ⟨⟨by decide +kernel, by decide +kernel⟩, List.mem_of_getElem? (i := 951) (by decide +kernel), List.mem_of_getElem? (i := 1345) (by decide +kernel), List.mem_of_getElem? (i := 1346) (by decide +kernel)⟩
theorem lw_p31 : lw_okq (⟨"SameBenchModel", "find", "(III)Z"⟩, 55) := ⟨⟨by decide +kernel, by decide +kernel⟩, List.mem_of_getElem? (i := 951) (by decide +kernel), List.mem_of_getElem? (i := 1349) (by decide +kernel), List.mem_of_getElem? (i := 1350) (by decide +kernel)⟩
def lw_privs_2 : List (MethodName × Nat) := [(⟨"SameBenchModel", "handOf", "(I)I"⟩, 55), (⟨"SameBenchModel", "markIn", "(II)V"⟩, 55), (⟨"SameBenchModel", "isAlone", "(II)Z"⟩, 55), (⟨"SameBenchModel", "grow", "()Z"⟩, 55), (⟨"SameBenchModel", "leaf", "(I)V"⟩, 55), (⟨"SameBenchModel", "targetOf", "(I)I"⟩, 55), (⟨"SameBenchModel", "follows", "(III)Z"⟩, 55), (⟨"SameBenchModel", "areTwins", "(II)Z"⟩, 55), (⟨"SameBenchModel", "growBoth", "(II)Z"⟩, 55), (⟨"SameBenchModel", "keepOther", "()V"⟩, 55), (⟨"SameBenchModel", "differsAt", "(I)I"⟩, 55), (⟨"SameBenchModel", "clearTurning", "()V"⟩, 55), (⟨"SameBenchModel", "unlikeBy", "(IIII)I"⟩, 55), (⟨"SameBenchModel", "sumUp", "([I[I)V"⟩, 55), (⟨"SameBenchModel", "chainOf", "(I)I"⟩, 55), (⟨"SameBenchModel", "find", "(III)Z"⟩, 55)]
theorem lw_r2 : ∀ q ∈ lw_privs_2, lw_okq q := List.forall_mem_cons.mpr ⟨lw_p16, List.forall_mem_cons.mpr ⟨lw_p17, List.forall_mem_cons.mpr ⟨lw_p18, List.forall_mem_cons.mpr ⟨lw_p19, List.forall_mem_cons.mpr ⟨lw_p20, List.forall_mem_cons.mpr ⟨lw_p21, List.forall_mem_cons.mpr ⟨lw_p22, List.forall_mem_cons.mpr ⟨lw_p23, List.forall_mem_cons.mpr ⟨lw_p24, List.forall_mem_cons.mpr ⟨lw_p25, List.forall_mem_cons.mpr ⟨lw_p26, List.forall_mem_cons.mpr ⟨lw_p27, List.forall_mem_cons.mpr ⟨lw_p28, List.forall_mem_cons.mpr ⟨lw_p29, List.forall_mem_cons.mpr ⟨lw_p30, List.forall_mem_cons.mpr ⟨lw_p31, fun _ h => absurd h List.not_mem_nil⟩⟩⟩⟩⟩⟩⟩⟩⟩⟩⟩⟩⟩⟩⟩⟩
theorem lw_p32 : lw_okq (⟨"SameBenchModel", "mayGo", "(II)Z"⟩, 55) := ⟨⟨by decide +kernel, by decide +kernel⟩, List.mem_of_getElem? (i := 951) (by decide +kernel), List.mem_of_getElem? (i := 1353) (by decide +kernel), List.mem_of_getElem? (i := 1354) (by decide +kernel)⟩
theorem lw_p33 : lw_okq (⟨"SameBenchModel", "shownPlace", "(I)I"⟩, 55) := ⟨⟨by decide +kernel, by decide +kernel⟩, List.mem_of_getElem? (i := 951) (by decide +kernel), List.mem_of_getElem? (i := 1365) (by decide +kernel), List.mem_of_getElem? (i := 1366) (by decide +kernel)⟩
theorem lw_p34 : lw_okq (⟨"SameBenchModel", "leads", "(II)Z"⟩, 55) := ⟨⟨by decide +kernel, by decide +kernel⟩, List.mem_of_getElem? (i := 951) (by decide +kernel), List.mem_of_getElem? (i := 1381) (by decide +kernel), List.mem_of_getElem? (i := 1382) (by decide +kernel)⟩
theorem lw_p35 : lw_okq (⟨"SameBenchModel", "enter", "(I)V"⟩, 55) := ⟨⟨by decide +kernel, by decide +kernel⟩, List.mem_of_getElem? (i := 951) (by decide +kernel), List.mem_of_getElem? (i := 1400) (by decide +kernel), List.mem_of_getElem? (i := 1401) (by decide +kernel)⟩
theorem lw_p36 : lw_okq (⟨"SameBenchModel", "orderName", "(II)I"⟩, 55) := ⟨⟨by decide +kernel, by decide +kernel⟩, List.mem_of_getElem? (i := 951) (by decide +kernel), List.mem_of_getElem? (i := 1404) (by decide +kernel), List.mem_of_getElem? (i := 1405) (by decide +kernel)⟩
def lw_privs_3 : List (MethodName × Nat) := [(⟨"SameBenchModel", "mayGo", "(II)Z"⟩, 55), (⟨"SameBenchModel", "shownPlace", "(I)I"⟩, 55), (⟨"SameBenchModel", "leads", "(II)Z"⟩, 55), (⟨"SameBenchModel", "enter", "(I)V"⟩, 55), (⟨"SameBenchModel", "orderName", "(II)I"⟩, 55)]
theorem lw_r3 : ∀ q ∈ lw_privs_3, lw_okq q := List.forall_mem_cons.mpr ⟨lw_p32, List.forall_mem_cons.mpr ⟨lw_p33, List.forall_mem_cons.mpr ⟨lw_p34, List.forall_mem_cons.mpr ⟨lw_p35, List.forall_mem_cons.mpr ⟨lw_p36, fun _ h => absurd h List.not_mem_nil⟩⟩⟩⟩⟩
def lw_privs : List (MethodName × Nat) := lw_privs_1 ++ (lw_privs_2 ++ (lw_privs_3))
def lw_tbl : List Cond := k2_sels lw_privs ++ tables_1
theorem lw_privs_ok : ∀ q ∈ lw_privs, lw_okq q := by
  show ∀ q ∈ lw_privs_1 ++ (lw_privs_2 ++ (lw_privs_3)), lw_okq q
  exact List.forall_mem_append.mpr ⟨lw_r1, List.forall_mem_append.mpr ⟨lw_r2, lw_r3⟩⟩
def RX0 : String := "SameBench$Comparer"
def TX0 : u_T := fun k => match k with
  | 0 => ("SameBench$Comparer", "splitter", "LSameBench$Splitter;", true)
  | 1 => ("SameBench$Comparer", "tree", "LSameBench$Tree;", true)
  | 2 => ("SameBench$Comparer", "first", "LSameBench$Shown;", true)
  | 3 => ("SameBench$Comparer", "second", "LSameBench$Shown;", true)
  | 4 => ("SameBench$Comparer", "firstParting", "LSameBench$Parting;", true)
  | 5 => ("SameBench$Comparer", "secondParting", "LSameBench$Parting;", true)
  | 6 => ("SameBench$Comparer", "firstName", "LSameBench$Name;", true)
  | 7 => ("SameBench$Comparer", "secondName", "LSameBench$Name;", true)
  | 8 => ("SameBench$Comparer", "difference", "[I", true)
  | _ => ("SameBench$Comparer", "isToldApart", "Z", false)
def tyX0 : Nat → FieldType := fun k => match k with
  | 0 => .object "SameBench$Splitter"
  | 1 => .object "SameBench$Tree"
  | 2 => .object "SameBench$Shown"
  | 3 => .object "SameBench$Shown"
  | 4 => .object "SameBench$Parting"
  | 5 => .object "SameBench$Parting"
  | 6 => .object "SameBench$Name"
  | 7 => .object "SameBench$Name"
  | 8 => .array .int
  | _ => .boolean
abbrev wsX00 : List Cond := u_ws RX0 TX0 10
theorem nmX0 : ∀ a, a < 10 → ∀ b, b < 10 → a ≠ b → (TX0 a).2.1 ≠ (TX0 b).2.1 := by decide +kernel
theorem tyX0_ok : ∀ k, k < 10 → parseFieldDescriptor (TX0 k).2.2.1 = some (tyX0 k) := by decide +kernel
abbrev cX0_init : ByteArray := prog_2_method_1_code
def yX0_init : MethodName := ⟨RX0, "<init>", "(LSameBench$Splitter;LSameBench$Tree;)V"⟩
abbrev cX0_take : ByteArray := prog_2_method_2_code
def yX0_take : MethodName := ⟨RX0, "take", "(LSameBench$Net;LSameBench$Net;)V"⟩
abbrev cX0_findNames : ByteArray := prog_2_method_3_code
def yX0_findNames : MethodName := ⟨RX0, "findNames", "()Z"⟩
abbrev cX0_isOneName : ByteArray := prog_2_method_4_code
def yX0_isOneName : MethodName := ⟨RX0, "isOneName", "()Z"⟩
abbrev cX0_tellApart : ByteArray := prog_2_method_5_code
def yX0_tellApart : MethodName := ⟨RX0, "tellApart", "()I"⟩
abbrev cX0_keepDifference : ByteArray := prog_2_method_6_code
def yX0_keepDifference : MethodName := ⟨RX0, "keepDifference", "(III)V"⟩
abbrev cX0_isToldByKeys : ByteArray := prog_2_method_7_code
def yX0_isToldByKeys : MethodName := ⟨RX0, "isToldByKeys", "()Z"⟩
abbrev cX0_isToldByHeaps : ByteArray := prog_2_method_8_code
def yX0_isToldByHeaps : MethodName := ⟨RX0, "isToldByHeaps", "()Z"⟩
abbrev cX0_isToldByNames : ByteArray := prog_2_method_9_code
def yX0_isToldByNames : MethodName := ⟨RX0, "isToldByNames", "()Z"⟩
def RX1 : String := "SameBench$History"
def TX1 : u_T := fun k => match k with
  | 0 => ("SameBench$History", "nets", "[LSameBench$Net;", true)
  | 1 => ("SameBench$History", "graphs", "[I", true)
  | 2 => ("SameBench$History", "next", "I", false)
  | _ => ("SameBench$History", "kept", "I", false)
def tyX1 : Nat → FieldType := fun k => match k with
  | 0 => .array (.object "SameBench$Net")
  | 1 => .array .int
  | 2 => .int
  | _ => .int
abbrev wsX10 : List Cond := u_ws RX1 TX1 4
theorem nmX1 : ∀ a, a < 4 → ∀ b, b < 4 → a ≠ b → (TX1 a).2.1 ≠ (TX1 b).2.1 := by decide +kernel
theorem tyX1_ok : ∀ k, k < 4 → parseFieldDescriptor (TX1 k).2.2.1 = some (tyX1 k) := by decide +kernel
abbrev cX1_init : ByteArray := prog_3_method_1_code
def yX1_init : MethodName := ⟨RX1, "<init>", "()V"⟩
abbrev cX1_keep : ByteArray := prog_3_method_2_code
def yX1_keep : MethodName := ⟨RX1, "keep", "(ILSameBench$Net;)V"⟩
abbrev cX1_latest : ByteArray := prog_3_method_3_code
def yX1_latest : MethodName := ⟨RX1, "latest", "()I"⟩
abbrev cX1_latestGraph : ByteArray := prog_3_method_4_code
def yX1_latestGraph : MethodName := ⟨RX1, "latestGraph", "()I"⟩
abbrev cX1_latestNet : ByteArray := prog_3_method_5_code
def yX1_latestNet : MethodName := ⟨RX1, "latestNet", "()LSameBench$Net;"⟩
abbrev cX1_forgetLatest : ByteArray := prog_3_method_6_code
def yX1_forgetLatest : MethodName := ⟨RX1, "forgetLatest", "()V"⟩
def RX2 : String := "SameBench$Lister"
def TX2 : u_T := fun k => match k with
  | 0 => ("SameBench$Lister", "names", "[LSameBench$Name;", true)
  | 1 => ("SameBench$Lister", "count", "I", false)
  | 2 => ("SameBench$Lister", "isMet", "[Z", true)
  | _ => ("SameBench$Lister", "sort", "[I", true)
def tyX2 : Nat → FieldType := fun k => match k with
  | 0 => .array (.object "SameBench$Name")
  | 1 => .int
  | 2 => .array .boolean
  | _ => .array .int
abbrev wsX20 : List Cond := u_ws RX2 TX2 4
theorem nmX2 : ∀ a, a < 4 → ∀ b, b < 4 → a ≠ b → (TX2 a).2.1 ≠ (TX2 b).2.1 := by decide +kernel
theorem tyX2_ok : ∀ k, k < 4 → parseFieldDescriptor (TX2 k).2.2.1 = some (tyX2 k) := by decide +kernel
abbrev cX2_init : ByteArray := prog_4_method_1_code
def yX2_init : MethodName := ⟨RX2, "<init>", "()V"⟩
abbrev cX2_bitOf : ByteArray := prog_4_method_2_code
def yX2_bitOf : MethodName := ⟨RX2, "bitOf", "(II)I"⟩
abbrev cX2_make : ByteArray := prog_4_method_3_code
def yX2_make : MethodName := ⟨RX2, "make", "(IILSameBench$Tree;LSameBench$Shown;)V"⟩
abbrev cX2_meetAllOfSort : ByteArray := prog_4_method_4_code
def yX2_meetAllOfSort : MethodName := ⟨RX2, "meetAllOfSort", "(II)V"⟩
abbrev cX2_exchanged : ByteArray := prog_4_method_5_code
def yX2_exchanged : MethodName := ⟨RX2, "exchanged", "(III)I"⟩
abbrev cX2_neighbourOf : ByteArray := prog_4_method_6_code
def yX2_neighbourOf : MethodName := ⟨RX2, "neighbourOf", "(II)I"⟩
abbrev cX2_putInPlace : ByteArray := prog_4_method_7_code
def yX2_putInPlace : MethodName := ⟨RX2, "putInPlace", "()V"⟩
def RX3 : String := "SameBench$Name"
def TX3 : u_T := fun k => match k with
  | 0 => ("SameBench$Name", "isThere", "Z", false)
  | 1 => ("SameBench$Name", "things", "I", false)
  | 2 => ("SameBench$Name", "length", "I", false)
  | 3 => ("SameBench$Name", "leaves", "I", false)
  | 4 => ("SameBench$Name", "nodes", "I", false)
  | 5 => ("SameBench$Name", "row", "[I", true)
  | _ => ("SameBench$Name", "order", "[I", true)
def tyX3 : Nat → FieldType := fun k => match k with
  | 0 => .boolean
  | 1 => .int
  | 2 => .int
  | 3 => .int
  | 4 => .int
  | 5 => .array .int
  | _ => .array .int
abbrev wsX30 : List Cond := u_ws RX3 TX3 7
theorem nmX3 : ∀ a, a < 7 → ∀ b, b < 7 → a ≠ b → (TX3 a).2.1 ≠ (TX3 b).2.1 := by decide +kernel
theorem tyX3_ok : ∀ k, k < 7 → parseFieldDescriptor (TX3 k).2.2.1 = some (tyX3 k) := by decide +kernel
abbrev cX3_init : ByteArray := prog_5_method_1_code
def yX3_init : MethodName := ⟨RX3, "<init>", "()V"⟩
abbrev cX3_differsAt : ByteArray := prog_5_method_2_code
def yX3_differsAt : MethodName := ⟨RX3, "differsAt", "(LSameBench$Name;)I"⟩
abbrev cX3_isLessThan : ByteArray := prog_5_method_3_code
def yX3_isLessThan : MethodName := ⟨RX3, "isLessThan", "(LSameBench$Name;)Z"⟩
def RX4 : String := "SameBench$Net"
def TX4 : u_T := fun k => match k with
  | 0 => ("SameBench$Net", "things", "I", false)
  | 1 => ("SameBench$Net", "kind", "[I", true)
  | 2 => ("SameBench$Net", "colour", "[I", true)
  | 3 => ("SameBench$Net", "word", "[I", true)
  | 4 => ("SameBench$Net", "places", "[I", true)
  | _ => ("SameBench$Net", "lines", "[I", true)
def tyX4 : Nat → FieldType := fun k => match k with
  | 0 => .int
  | 1 => .array .int
  | 2 => .array .int
  | 3 => .array .int
  | 4 => .array .int
  | _ => .array .int
abbrev wsX40 : List Cond := u_ws RX4 TX4 6
theorem nmX4 : ∀ a, a < 6 → ∀ b, b < 6 → a ≠ b → (TX4 a).2.1 ≠ (TX4 b).2.1 := by decide +kernel
theorem tyX4_ok : ∀ k, k < 6 → parseFieldDescriptor (TX4 k).2.2.1 = some (tyX4 k) := by decide +kernel
abbrev cX4_init : ByteArray := prog_6_method_1_code
def yX4_init : MethodName := ⟨RX4, "<init>", "()V"⟩
abbrev cX4_add : ByteArray := prog_6_method_2_code
def yX4_add : MethodName := ⟨RX4, "add", "(III)I"⟩
abbrev cX4_clearRow : ByteArray := prog_6_method_3_code
def yX4_clearRow : MethodName := ⟨RX4, "clearRow", "(II)V"⟩
abbrev cX4_hasRow : ByteArray := prog_6_method_4_code
def yX4_hasRow : MethodName := ⟨RX4, "hasRow", "(I)Z"⟩
abbrev cX4_isNamed : ByteArray := prog_6_method_5_code
def yX4_isNamed : MethodName := ⟨RX4, "isNamed", "(I)Z"⟩
abbrev cX4_lineFrom : ByteArray := prog_6_method_6_code
def yX4_lineFrom : MethodName := ⟨RX4, "lineFrom", "(II)I"⟩
abbrev cX4_keyOf : ByteArray := prog_6_method_7_code
def yX4_keyOf : MethodName := ⟨RX4, "keyOf", "(I)I"⟩
abbrev cX4_countShown : ByteArray := prog_6_method_8_code
def yX4_countShown : MethodName := ⟨RX4, "countShown", "()I"⟩
abbrev cX4_isRight : ByteArray := prog_6_method_9_code
def yX4_isRight : MethodName := ⟨RX4, "isRight", "()Z"⟩
abbrev cX4_countNamesakes : ByteArray := prog_6_method_10_code
def yX4_countNamesakes : MethodName := ⟨RX4, "countNamesakes", "(I)I"⟩
abbrev cX4_lengthenRows : ByteArray := prog_6_method_11_code
def yX4_lengthenRows : MethodName := ⟨RX4, "lengthenRows", "()V"⟩
abbrev cX4_exchange : ByteArray := prog_6_method_12_code
def yX4_exchange : MethodName := ⟨RX4, "exchange", "(II)V"⟩
abbrev cX4_exchangeIn : ByteArray := prog_6_method_13_code
def yX4_exchangeIn : MethodName := ⟨RX4, "exchangeIn", "([III)V"⟩
abbrev cX4_become : ByteArray := prog_6_method_14_code
def yX4_become : MethodName := ⟨RX4, "become", "(LSameBench$Net;)V"⟩
abbrev cX4_becomeNamed : ByteArray := prog_6_method_15_code
def yX4_becomeNamed : MethodName := ⟨RX4, "becomeNamed", "(LSameBench$Name;)V"⟩
def RX5 : String := "SameBench$Parting"
def TX5 : u_T := fun k => match k with
  | 0 => ("SameBench$Parting", "things", "I", false)
  | 1 => ("SameBench$Parting", "heaps", "I", false)
  | 2 => ("SameBench$Parting", "heap", "[I", true)
  | 3 => ("SameBench$Parting", "size", "[I", true)
  | _ => ("SameBench$Parting", "order", "[I", true)
def tyX5 : Nat → FieldType := fun k => match k with
  | 0 => .int
  | 1 => .int
  | 2 => .array .int
  | 3 => .array .int
  | _ => .array .int
abbrev wsX50 : List Cond := u_ws RX5 TX5 5
theorem nmX5 : ∀ a, a < 5 → ∀ b, b < 5 → a ≠ b → (TX5 a).2.1 ≠ (TX5 b).2.1 := by decide +kernel
theorem tyX5_ok : ∀ k, k < 5 → parseFieldDescriptor (TX5 k).2.2.1 = some (tyX5 k) := by decide +kernel
abbrev cX5_init : ByteArray := prog_7_method_1_code
def yX5_init : MethodName := ⟨RX5, "<init>", "()V"⟩
abbrev cX5_gather : ByteArray := prog_7_method_2_code
def yX5_gather : MethodName := ⟨RX5, "gather", "(I)V"⟩
abbrev cX5_become : ByteArray := prog_7_method_3_code
def yX5_become : MethodName := ⟨RX5, "become", "(LSameBench$Parting;)V"⟩
abbrev cX5_isAlone : ByteArray := prog_7_method_4_code
def yX5_isAlone : MethodName := ⟨RX5, "isAlone", "(I)Z"⟩
abbrev cX5_isAllAlone : ByteArray := prog_7_method_5_code
def yX5_isAllAlone : MethodName := ⟨RX5, "isAllAlone", "()Z"⟩
abbrev cX5_firstBigHeap : ByteArray := prog_7_method_6_code
def yX5_firstBigHeap : MethodName := ⟨RX5, "firstBigHeap", "()I"⟩
abbrev cX5_firstNotAlone : ByteArray := prog_7_method_7_code
def yX5_firstNotAlone : MethodName := ⟨RX5, "firstNotAlone", "()I"⟩
abbrev cX5_setApart : ByteArray := prog_7_method_8_code
def yX5_setApart : MethodName := ⟨RX5, "setApart", "(I)V"⟩
abbrev cX5_moveAhead : ByteArray := prog_7_method_9_code
def yX5_moveAhead : MethodName := ⟨RX5, "moveAhead", "(I)V"⟩
abbrev cX5_hasHeapsLike : ByteArray := prog_7_method_10_code
def yX5_hasHeapsLike : MethodName := ⟨RX5, "hasHeapsLike", "(LSameBench$Parting;)Z"⟩
def RX6 : String := "SameBench$Shown"
def TX6 : u_T := fun k => match k with
  | 0 => ("SameBench$Shown", "things", "I", false)
  | 1 => ("SameBench$Shown", "number", "[I", true)
  | 2 => ("SameBench$Shown", "index", "[I", true)
  | 3 => ("SameBench$Shown", "keys", "[I", true)
  | 4 => ("SameBench$Shown", "lines", "[I", true)
  | _ => ("SameBench$Shown", "weights", "[J", true)
def tyX6 : Nat → FieldType := fun k => match k with
  | 0 => .int
  | 1 => .array .int
  | 2 => .array .int
  | 3 => .array .int
  | 4 => .array .int
  | _ => .array .long
abbrev wsX60 : List Cond := u_ws RX6 TX6 6
theorem nmX6 : ∀ a, a < 6 → ∀ b, b < 6 → a ≠ b → (TX6 a).2.1 ≠ (TX6 b).2.1 := by decide +kernel
theorem tyX6_ok : ∀ k, k < 6 → parseFieldDescriptor (TX6 k).2.2.1 = some (tyX6 k) := by decide +kernel
abbrev cX6_init : ByteArray := prog_8_method_1_code
def yX6_init : MethodName := ⟨RX6, "<init>", "()V"⟩
abbrev cX6_take : ByteArray := prog_8_method_2_code
def yX6_take : MethodName := ⟨RX6, "take", "(LSameBench$Net;)V"⟩
abbrev cX6_takePairs : ByteArray := prog_8_method_3_code
def yX6_takePairs : MethodName := ⟨RX6, "takePairs", "(II)V"⟩
abbrev cX6_addThing : ByteArray := prog_8_method_4_code
def yX6_addThing : MethodName := ⟨RX6, "addThing", "(II)V"⟩
abbrev cX6_setLine : ByteArray := prog_8_method_5_code
def yX6_setLine : MethodName := ⟨RX6, "setLine", "(III)V"⟩
abbrev cX6_lineFrom : ByteArray := prog_8_method_6_code
def yX6_lineFrom : MethodName := ⟨RX6, "lineFrom", "(II)I"⟩
abbrev cX6_indexOf : ByteArray := prog_8_method_7_code
def yX6_indexOf : MethodName := ⟨RX6, "indexOf", "(I)I"⟩
abbrev cX6_areTwins : ByteArray := prog_8_method_8_code
def yX6_areTwins : MethodName := ⟨RX6, "areTwins", "(II)Z"⟩
abbrev cX6_isTurning : ByteArray := prog_8_method_9_code
def yX6_isTurning : MethodName := ⟨RX6, "isTurning", "([I)Z"⟩
def RX7 : String := "SameBench$Splitter"
def TX7 : u_T := fun k => match k with
  | 0 => ("SameBench$Splitter", "sights", "[J", true)
  | 1 => ("SameBench$Splitter", "width", "I", false)
  | 2 => ("SameBench$Splitter", "newHeap", "[I", true)
  | _ => ("SameBench$Splitter", "newSize", "[I", true)
def tyX7 : Nat → FieldType := fun k => match k with
  | 0 => .array .long
  | 1 => .int
  | 2 => .array .int
  | _ => .array .int
abbrev wsX70 : List Cond := u_ws RX7 TX7 4
theorem nmX7 : ∀ a, a < 4 → ∀ b, b < 4 → a ≠ b → (TX7 a).2.1 ≠ (TX7 b).2.1 := by decide +kernel
theorem tyX7_ok : ∀ k, k < 4 → parseFieldDescriptor (TX7 k).2.2.1 = some (tyX7 k) := by decide +kernel
abbrev cX7_init : ByteArray := prog_9_method_1_code
def yX7_init : MethodName := ⟨RX7, "<init>", "()V"⟩
abbrev cX7_begin : ByteArray := prog_9_method_2_code
def yX7_begin : MethodName := ⟨RX7, "begin", "(LSameBench$Parting;LSameBench$Shown;)V"⟩
abbrev cX7_settle : ByteArray := prog_9_method_3_code
def yX7_settle : MethodName := ⟨RX7, "settle", "(LSameBench$Parting;LSameBench$Shown;)V"⟩
abbrev cX7_look : ByteArray := prog_9_method_4_code
def yX7_look : MethodName := ⟨RX7, "look", "(LSameBench$Parting;LSameBench$Shown;)V"⟩
abbrev cX7_divide : ByteArray := prog_9_method_5_code
def yX7_divide : MethodName := ⟨RX7, "divide", "(LSameBench$Parting;)V"⟩
abbrev cX7_compare : ByteArray := prog_9_method_6_code
def yX7_compare : MethodName := ⟨RX7, "compare", "(II)I"⟩
def RX8 : String := "SameBench$Tree"
def TX8 : u_T := fun k => match k with
  | 0 => ("SameBench$Tree", "splitter", "LSameBench$Splitter;", true)
  | 1 => ("SameBench$Tree", "levels", "[LSameBench$Parting;", true)
  | 2 => ("SameBench$Tree", "twins", "[Z", true)
  | 3 => ("SameBench$Tree", "row", "[I", true)
  | 4 => ("SameBench$Tree", "shown", "LSameBench$Shown;", false)
  | _ => ("SameBench$Tree", "name", "LSameBench$Name;", false)
def tyX8 : Nat → FieldType := fun k => match k with
  | 0 => .object "SameBench$Splitter"
  | 1 => .array (.object "SameBench$Parting")
  | 2 => .array .boolean
  | 3 => .array .int
  | 4 => .object "SameBench$Shown"
  | _ => .object "SameBench$Name"
abbrev wsX80 : List Cond := u_ws RX8 TX8 6
theorem nmX8 : ∀ a, a < 6 → ∀ b, b < 6 → a ≠ b → (TX8 a).2.1 ≠ (TX8 b).2.1 := by decide +kernel
theorem tyX8_ok : ∀ k, k < 6 → parseFieldDescriptor (TX8 k).2.2.1 = some (tyX8 k) := by decide +kernel
abbrev cX8_init : ByteArray := prog_10_method_1_code
def yX8_init : MethodName := ⟨RX8, "<init>", "(LSameBench$Splitter;)V"⟩
abbrev cX8_findName : ByteArray := prog_10_method_2_code
def yX8_findName : MethodName := ⟨RX8, "findName", "(LSameBench$Shown;LSameBench$Name;)Z"⟩
abbrev cX8_findTwins : ByteArray := prog_10_method_3_code
def yX8_findTwins : MethodName := ⟨RX8, "findTwins", "()V"⟩
abbrev cX8_grow : ByteArray := prog_10_method_4_code
def yX8_grow : MethodName := ⟨RX8, "grow", "(LSameBench$Tree;I)V"⟩
abbrev cX8_hasLesserTwin : ByteArray := prog_10_method_5_code
def yX8_hasLesserTwin : MethodName := ⟨RX8, "hasLesserTwin", "(LSameBench$Parting;I)Z"⟩
abbrev cX8_addLeaf : ByteArray := prog_10_method_6_code
def yX8_addLeaf : MethodName := ⟨RX8, "addLeaf", "(LSameBench$Parting;)V"⟩
abbrev cX8_writeRow : ByteArray := prog_10_method_7_code
def yX8_writeRow : MethodName := ⟨RX8, "writeRow", "(LSameBench$Parting;)V"⟩
abbrev cX8_isRowLess : ByteArray := prog_10_method_8_code
def yX8_isRowLess : MethodName := ⟨RX8, "isRowLess", "()Z"⟩
def RX9 : String := "SameBench$Turner"
def TX9 : u_T := fun k => match k with
  | 0 => ("SameBench$Turner", "splitter", "LSameBench$Splitter;", true)
  | 1 => ("SameBench$Turner", "ahead", "[LSameBench$Parting;", true)
  | 2 => ("SameBench$Turner", "here", "[LSameBench$Parting;", true)
  | 3 => ("SameBench$Turner", "there", "[LSameBench$Parting;", true)
  | 4 => ("SameBench$Turner", "image", "[I", true)
  | 5 => ("SameBench$Turner", "makers", "[I", true)
  | 6 => ("SameBench$Turner", "makerCount", "I", false)
  | 7 => ("SameBench$Turner", "group", "[I", true)
  | 8 => ("SameBench$Turner", "chain", "[I", true)
  | _ => ("SameBench$Turner", "shown", "LSameBench$Shown;", false)
def tyX9 : Nat → FieldType := fun k => match k with
  | 0 => .object "SameBench$Splitter"
  | 1 => .array (.object "SameBench$Parting")
  | 2 => .array (.object "SameBench$Parting")
  | 3 => .array (.object "SameBench$Parting")
  | 4 => .array .int
  | 5 => .array .int
  | 6 => .int
  | 7 => .array .int
  | 8 => .array .int
  | _ => .object "SameBench$Shown"
abbrev wsX90 : List Cond := u_ws RX9 TX9 10
theorem nmX9 : ∀ a, a < 10 → ∀ b, b < 10 → a ≠ b → (TX9 a).2.1 ≠ (TX9 b).2.1 := by decide +kernel
theorem tyX9_ok : ∀ k, k < 10 → parseFieldDescriptor (TX9 k).2.2.1 = some (tyX9 k) := by decide +kernel
abbrev cX9_init : ByteArray := prog_11_method_1_code
def yX9_init : MethodName := ⟨RX9, "<init>", "(LSameBench$Splitter;)V"⟩
abbrev cX9_findLeast : ByteArray := prog_11_method_2_code
def yX9_findLeast : MethodName := ⟨RX9, "findLeast", "(LSameBench$Shown;II)Z"⟩
abbrev cX9_findMakers : ByteArray := prog_11_method_3_code
def yX9_findMakers : MethodName := ⟨RX9, "findMakers", "(LSameBench$Shown;)V"⟩
abbrev cX9_markAhead : ByteArray := prog_11_method_4_code
def yX9_markAhead : MethodName := ⟨RX9, "markAhead", "()V"⟩
abbrev cX9_addMaker : ByteArray := prog_11_method_5_code
def yX9_addMaker : MethodName := ⟨RX9, "addMaker", "()V"⟩
abbrev cX9_joinGroups : ByteArray := prog_11_method_6_code
def yX9_joinGroups : MethodName := ⟨RX9, "joinGroups", "(II)V"⟩
abbrev cX9_countReached : ByteArray := prog_11_method_7_code
def yX9_countReached : MethodName := ⟨RX9, "countReached", "(I)I"⟩
abbrev cX9_isLed : ByteArray := prog_11_method_8_code
def yX9_isLed : MethodName := ⟨RX9, "isLed", "(LSameBench$Parting;II)Z"⟩
abbrev cX9_markInto : ByteArray := prog_11_method_9_code
def yX9_markInto : MethodName := ⟨RX9, "markInto", "(LSameBench$Parting;LSameBench$Parting;I)V"⟩
abbrev cX9_extend : ByteArray := prog_11_method_10_code
def yX9_extend : MethodName := ⟨RX9, "extend", "(LSameBench$Turner;I)Z"⟩
abbrev cX9_readImage : ByteArray := prog_11_method_11_code
def yX9_readImage : MethodName := ⟨RX9, "readImage", "(LSameBench$Parting;LSameBench$Parting;)Z"⟩
def RX10 : String := "SameBench$Turning"
def TX10 : u_T := fun k => match k with
  | 0 => ("SameBench$Turning", "isThere", "Z", false)
  | _ => ("SameBench$Turning", "to", "[I", true)
def tyX10 : Nat → FieldType := fun k => match k with
  | 0 => .boolean
  | _ => .array .int
abbrev wsX100 : List Cond := u_ws RX10 TX10 2
theorem nmX10 : ∀ a, a < 2 → ∀ b, b < 2 → a ≠ b → (TX10 a).2.1 ≠ (TX10 b).2.1 := by decide +kernel
theorem tyX10_ok : ∀ k, k < 2 → parseFieldDescriptor (TX10 k).2.2.1 = some (tyX10 k) := by decide +kernel
abbrev cX10_init : ByteArray := prog_12_method_1_code
def yX10_init : MethodName := ⟨RX10, "<init>", "()V"⟩
abbrev cX10_begin : ByteArray := prog_12_method_2_code
def yX10_begin : MethodName := ⟨RX10, "begin", "()V"⟩
abbrev cX10_takeOrders : ByteArray := prog_12_method_3_code
def yX10_takeOrders : MethodName := ⟨RX10, "takeOrders", "(LSameBench$Name;LSameBench$Name;)V"⟩
abbrev cX10_take : ByteArray := prog_12_method_4_code
def yX10_take : MethodName := ⟨RX10, "take", "(LSameBench$Shown;[II)V"⟩
abbrev cX10_leadsFrom : ByteArray := prog_12_method_5_code
def yX10_leadsFrom : MethodName := ⟨RX10, "leadsFrom", "(I)Z"⟩
abbrev cX10_isWithin : ByteArray := prog_12_method_6_code
def yX10_isWithin : MethodName := ⟨RX10, "isWithin", "(LSameBench$Turning;)Z"⟩
abbrev cX10_goOnBy : ByteArray := prog_12_method_7_code
def yX10_goOnBy : MethodName := ⟨RX10, "goOnBy", "(LSameBench$Turning;)V"⟩
def RX11 : String := "SameBench"
def TX11 : u_T := fun k => match k with
  | 0 => ("SameBench", "nets", "[LSameBench$Net;", true)
  | 1 => ("SameBench", "history", "LSameBench$History;", true)
  | 2 => ("SameBench", "shown", "LSameBench$Shown;", true)
  | 3 => ("SameBench", "splitter", "LSameBench$Splitter;", true)
  | 4 => ("SameBench", "tree", "LSameBench$Tree;", true)
  | 5 => ("SameBench", "turner", "LSameBench$Turner;", true)
  | 6 => ("SameBench", "comparer", "LSameBench$Comparer;", true)
  | 7 => ("SameBench", "isParted", "Z", false)
  | 8 => ("SameBench", "partedThings", "LSameBench$Shown;", true)
  | 9 => ("SameBench", "parting", "LSameBench$Parting;", true)
  | 10 => ("SameBench", "nameAtHand", "LSameBench$Name;", true)
  | 11 => ("SameBench", "turning", "LSameBench$Turning;", true)
  | 12 => ("SameBench", "makersFound", "[LSameBench$Turning;", true)
  | 13 => ("SameBench", "makerCount", "I", false)
  | _ => ("SameBench", "lister", "LSameBench$Lister;", true)
def tyX11 : Nat → FieldType := fun k => match k with
  | 0 => .array (.object "SameBench$Net")
  | 1 => .object "SameBench$History"
  | 2 => .object "SameBench$Shown"
  | 3 => .object "SameBench$Splitter"
  | 4 => .object "SameBench$Tree"
  | 5 => .object "SameBench$Turner"
  | 6 => .object "SameBench$Comparer"
  | 7 => .boolean
  | 8 => .object "SameBench$Shown"
  | 9 => .object "SameBench$Parting"
  | 10 => .object "SameBench$Name"
  | 11 => .object "SameBench$Turning"
  | 12 => .array (.object "SameBench$Turning")
  | 13 => .int
  | _ => .object "SameBench$Lister"
abbrev wsX110 : List Cond := u_ws RX11 TX11 15
theorem nmX11 : ∀ a, a < 15 → ∀ b, b < 15 → a ≠ b → (TX11 a).2.1 ≠ (TX11 b).2.1 := by decide +kernel
theorem tyX11_ok : ∀ k, k < 15 → parseFieldDescriptor (TX11 k).2.2.1 = some (tyX11 k) := by decide +kernel
abbrev cX11_init : ByteArray := prog_1_method_1_code
def yX11_init : MethodName := ⟨RX11, "<init>", "()V"⟩
abbrev cX11_thing : ByteArray := prog_1_method_2_code
def yX11_thing : MethodName := ⟨RX11, "thing", "(IIII)I"⟩
abbrev cX11_colour : ByteArray := prog_1_method_3_code
def yX11_colour : MethodName := ⟨RX11, "colour", "(III)I"⟩
abbrev cX11_word : ByteArray := prog_1_method_4_code
def yX11_word : MethodName := ⟨RX11, "word", "(III)I"⟩
abbrev cX11_row : ByteArray := prog_1_method_5_code
def yX11_row : MethodName := ⟨RX11, "row", "(III)I"⟩
abbrev cX11_unrow : ByteArray := prog_1_method_6_code
def yX11_unrow : MethodName := ⟨RX11, "unrow", "(II)I"⟩
abbrev cX11_place : ByteArray := prog_1_method_7_code
def yX11_place : MethodName := ⟨RX11, "place", "(IIII)I"⟩
abbrev cX11_line : ByteArray := prog_1_method_8_code
def yX11_line : MethodName := ⟨RX11, "line", "(III)I"⟩
abbrev cX11_copy : ByteArray := prog_1_method_9_code
def yX11_copy : MethodName := ⟨RX11, "copy", "(IIIIIII)I"⟩
abbrev cX11_swap : ByteArray := prog_1_method_10_code
def yX11_swap : MethodName := ⟨RX11, "swap", "(III)I"⟩
abbrev cX11_twin : ByteArray := prog_1_method_11_code
def yX11_twin : MethodName := ⟨RX11, "twin", "(II)I"⟩
abbrev cX11_drop : ByteArray := prog_1_method_12_code
def yX11_drop : MethodName := ⟨RX11, "drop", "(I)I"⟩
abbrev cX11_told : ByteArray := prog_1_method_13_code
def yX11_told : MethodName := ⟨RX11, "told", "(III)I"⟩
abbrev cX11_count : ByteArray := prog_1_method_14_code
def yX11_count : MethodName := ⟨RX11, "count", "(II)I"⟩
abbrev cX11_undo : ByteArray := prog_1_method_15_code
def yX11_undo : MethodName := ⟨RX11, "undo", "()I"⟩
abbrev cX11_split : ByteArray := prog_1_method_16_code
def yX11_split : MethodName := ⟨RX11, "split", "(I)I"⟩
abbrev cX11_mark : ByteArray := prog_1_method_17_code
def yX11_mark : MethodName := ⟨RX11, "mark", "(I)I"⟩
abbrev cX11_heapOf : ByteArray := prog_1_method_18_code
def yX11_heapOf : MethodName := ⟨RX11, "heapOf", "(I)I"⟩
abbrev cX11_name : ByteArray := prog_1_method_19_code
def yX11_name : MethodName := ⟨RX11, "name", "(I)I"⟩
abbrev cX11_nameAt : ByteArray := prog_1_method_20_code
def yX11_nameAt : MethodName := ⟨RX11, "nameAt", "(I)I"⟩
abbrev cX11_order : ByteArray := prog_1_method_21_code
def yX11_order : MethodName := ⟨RX11, "order", "(I)I"⟩
abbrev cX11_nodes : ByteArray := prog_1_method_22_code
def yX11_nodes : MethodName := ⟨RX11, "nodes", "()I"⟩
abbrev cX11_same : ByteArray := prog_1_method_23_code
def yX11_same : MethodName := ⟨RX11, "same", "(II)I"⟩
abbrev cX11_unlike : ByteArray := prog_1_method_24_code
def yX11_unlike : MethodName := ⟨RX11, "unlike", "(II)I"⟩
abbrev cX11_why : ByteArray := prog_1_method_25_code
def yX11_why : MethodName := ⟨RX11, "why", "(I)I"⟩
abbrev cX11_turnings : ByteArray := prog_1_method_26_code
def yX11_turnings : MethodName := ⟨RX11, "turnings", "(I)J"⟩
abbrev cX11_chain : ByteArray := prog_1_method_27_code
def yX11_chain : MethodName := ⟨RX11, "chain", "(II)I"⟩
abbrev cX11_where : ByteArray := prog_1_method_28_code
def yX11_where : MethodName := ⟨RX11, "where", "(III)I"⟩
abbrev cX11_orbit : ByteArray := prog_1_method_29_code
def yX11_orbit : MethodName := ⟨RX11, "orbit", "(II)I"⟩
abbrev cX11_by : ByteArray := prog_1_method_30_code
def yX11_by : MethodName := ⟨RX11, "by", "(I)I"⟩
abbrev cX11_makers : ByteArray := prog_1_method_31_code
def yX11_makers : MethodName := ⟨RX11, "makers", "(I)I"⟩
abbrev cX11_maker : ByteArray := prog_1_method_32_code
def yX11_maker : MethodName := ⟨RX11, "maker", "(II)I"⟩
abbrev cX11_then : ByteArray := prog_1_method_33_code
def yX11_then : MethodName := ⟨RX11, "then", "(I)I"⟩
abbrev cX11_list : ByteArray := prog_1_method_34_code
def yX11_list : MethodName := ⟨RX11, "list", "(II)I"⟩
abbrev cX11_listed : ByteArray := prog_1_method_35_code
def yX11_listed : MethodName := ⟨RX11, "listed", "(II)I"⟩
abbrev cX11_isBelow : ByteArray := prog_1_method_36_code
def yX11_isBelow : MethodName := ⟨RX11, "isBelow", "(II)Z"⟩
abbrev cX11_isNamedKind : ByteArray := prog_1_method_37_code
def yX11_isNamedKind : MethodName := ⟨RX11, "isNamedKind", "(I)Z"⟩
abbrev cX11_isGraph : ByteArray := prog_1_method_38_code
def yX11_isGraph : MethodName := ⟨RX11, "isGraph", "(I)Z"⟩
abbrev cX11_isThing : ByteArray := prog_1_method_39_code
def yX11_isThing : MethodName := ⟨RX11, "isThing", "(II)Z"⟩
abbrev cX11_keep : ByteArray := prog_1_method_40_code
def yX11_keep : MethodName := ⟨RX11, "keep", "(I)V"⟩
abbrev cX11_refusalOfTurnings : ByteArray := prog_1_method_41_code
def yX11_refusalOfTurnings : MethodName := ⟨RX11, "refusalOfTurnings", "(I)I"⟩
abbrev cX11_makePartings : ByteArray := prog_1_method_42_code
def yX11_makePartings : MethodName := ⟨RX11, "makePartings", "(I)[LSameBench$Parting;"⟩
def RX12 : String := "SameBenchModel"
def TX12 : u_T := fun k => match k with
  | 0 => ("SameBenchModel", "many", "[I", true)
  | 1 => ("SameBenchModel", "kinds", "[I", true)
  | 2 => ("SameBenchModel", "colours", "[I", true)
  | 3 => ("SameBenchModel", "words", "[I", true)
  | 4 => ("SameBenchModel", "lengths", "[I", true)
  | 5 => ("SameBenchModel", "rows", "[I", true)
  | 6 => ("SameBenchModel", "oldGraph", "[I", true)
  | 7 => ("SameBenchModel", "oldMany", "[I", true)
  | 8 => ("SameBenchModel", "oldKinds", "[I", true)
  | 9 => ("SameBenchModel", "oldColours", "[I", true)
  | 10 => ("SameBenchModel", "oldWords", "[I", true)
  | 11 => ("SameBenchModel", "oldLengths", "[I", true)
  | 12 => ("SameBenchModel", "oldRows", "[I", true)
  | 13 => ("SameBenchModel", "olds", "I", false)
  | 14 => ("SameBenchModel", "taken", "[I", true)
  | 15 => ("SameBenchModel", "n", "I", false)
  | 16 => ("SameBenchModel", "at", "[I", true)
  | 17 => ("SameBenchModel", "key", "[I", true)
  | 18 => ("SameBenchModel", "lines", "[I", true)
  | 19 => ("SameBenchModel", "heap", "[I", true)
  | 20 => ("SameBenchModel", "heaps", "[I", true)
  | 21 => ("SameBenchModel", "sights", "[I", true)
  | 22 => ("SameBenchModel", "sorted", "[I", true)
  | 23 => ("SameBenchModel", "hasParting", "Z", false)
  | 24 => ("SameBenchModel", "handN", "I", false)
  | 25 => ("SameBenchModel", "handAt", "[I", true)
  | 26 => ("SameBenchModel", "handLines", "[I", true)
  | 27 => ("SameBenchModel", "next", "[I", true)
  | 28 => ("SameBenchModel", "leaves", "I", false)
  | 29 => ("SameBenchModel", "treeNodes", "I", false)
  | 30 => ("SameBenchModel", "best", "[I", true)
  | 31 => ("SameBenchModel", "bestOrder", "[I", true)
  | 32 => ("SameBenchModel", "candidate", "[I", true)
  | 33 => ("SameBenchModel", "byHeap", "[I", true)
  | 34 => ("SameBenchModel", "hasName", "Z", false)
  | 35 => ("SameBenchModel", "name", "[I", true)
  | 36 => ("SameBenchModel", "nameOrder", "[I", true)
  | 37 => ("SameBenchModel", "nameNodes", "I", false)
  | 38 => ("SameBenchModel", "other", "[I", true)
  | 39 => ("SameBenchModel", "otherOrder", "[I", true)
  | 40 => ("SameBenchModel", "hasTurning", "Z", false)
  | 41 => ("SameBenchModel", "turning", "[I", true)
  | 42 => ("SameBenchModel", "hasWhy", "Z", false)
  | 43 => ("SameBenchModel", "why", "[I", true)
  | 44 => ("SameBenchModel", "firstKeys", "[I", true)
  | 45 => ("SameBenchModel", "firstSizes", "[I", true)
  | 46 => ("SameBenchModel", "theseKeys", "[I", true)
  | 47 => ("SameBenchModel", "theseSizes", "[I", true)
  | 48 => ("SameBenchModel", "image", "[I", true)
  | 49 => ("SameBenchModel", "makers", "I", false)
  | 50 => ("SameBenchModel", "maker", "[I", true)
  | 51 => ("SameBenchModel", "makerThings", "I", false)
  | 52 => ("SameBenchModel", "listed", "I", false)
  | 53 => ("SameBenchModel", "listThings", "I", false)
  | _ => ("SameBenchModel", "list", "[I", true)
def tyX12 : Nat → FieldType := fun k => match k with
  | 0 => .array .int
  | 1 => .array .int
  | 2 => .array .int
  | 3 => .array .int
  | 4 => .array .int
  | 5 => .array .int
  | 6 => .array .int
  | 7 => .array .int
  | 8 => .array .int
  | 9 => .array .int
  | 10 => .array .int
  | 11 => .array .int
  | 12 => .array .int
  | 13 => .int
  | 14 => .array .int
  | 15 => .int
  | 16 => .array .int
  | 17 => .array .int
  | 18 => .array .int
  | 19 => .array .int
  | 20 => .array .int
  | 21 => .array .int
  | 22 => .array .int
  | 23 => .boolean
  | 24 => .int
  | 25 => .array .int
  | 26 => .array .int
  | 27 => .array .int
  | 28 => .int
  | 29 => .int
  | 30 => .array .int
  | 31 => .array .int
  | 32 => .array .int
  | 33 => .array .int
  | 34 => .boolean
  | 35 => .array .int
  | 36 => .array .int
  | 37 => .int
  | 38 => .array .int
  | 39 => .array .int
  | 40 => .boolean
  | 41 => .array .int
  | 42 => .boolean
  | 43 => .array .int
  | 44 => .array .int
  | 45 => .array .int
  | 46 => .array .int
  | 47 => .array .int
  | 48 => .array .int
  | 49 => .int
  | 50 => .array .int
  | 51 => .int
  | 52 => .int
  | 53 => .int
  | _ => .array .int
abbrev wsX120 : List Cond := u_ws RX12 TX12 55
theorem nmX12 : ∀ a, a < 55 → ∀ b, b < 55 → a ≠ b → (TX12 a).2.1 ≠ (TX12 b).2.1 := by decide +kernel
theorem tyX12_ok : ∀ k, k < 55 → parseFieldDescriptor (TX12 k).2.2.1 = some (tyX12 k) := by decide +kernel
abbrev cX12_init : ByteArray := prog_14_method_1_code
def yX12_init : MethodName := ⟨RX12, "<init>", "()V"⟩
abbrev cX12_in : ByteArray := prog_14_method_2_code
def yX12_in : MethodName := ⟨RX12, "in", "(III)Z"⟩
abbrev cX12_isGraph : ByteArray := prog_14_method_3_code
def yX12_isGraph : MethodName := ⟨RX12, "isGraph", "(I)Z"⟩
abbrev cX12_isThing : ByteArray := prog_14_method_4_code
def yX12_isThing : MethodName := ⟨RX12, "isThing", "(II)Z"⟩
abbrev cX12_note : ByteArray := prog_14_method_5_code
def yX12_note : MethodName := ⟨RX12, "note", "(I)V"⟩
abbrev cX12_undo : ByteArray := prog_14_method_6_code
def yX12_undo : MethodName := ⟨RX12, "undo", "()I"⟩
abbrev cX12_isNamed : ByteArray := prog_14_method_7_code
def yX12_isNamed : MethodName := ⟨RX12, "isNamed", "(I)Z"⟩
abbrev cX12_thing : ByteArray := prog_14_method_8_code
def yX12_thing : MethodName := ⟨RX12, "thing", "(IIII)I"⟩
abbrev cX12_colour : ByteArray := prog_14_method_9_code
def yX12_colour : MethodName := ⟨RX12, "colour", "(III)I"⟩
abbrev cX12_word : ByteArray := prog_14_method_10_code
def yX12_word : MethodName := ⟨RX12, "word", "(III)I"⟩
abbrev cX12_row : ByteArray := prog_14_method_11_code
def yX12_row : MethodName := ⟨RX12, "row", "(III)I"⟩
abbrev cX12_unrow : ByteArray := prog_14_method_12_code
def yX12_unrow : MethodName := ⟨RX12, "unrow", "(II)I"⟩
abbrev cX12_place : ByteArray := prog_14_method_13_code
def yX12_place : MethodName := ⟨RX12, "place", "(IIII)I"⟩
abbrev cX12_lineOf : ByteArray := prog_14_method_14_code
def yX12_lineOf : MethodName := ⟨RX12, "lineOf", "(III)I"⟩
abbrev cX12_line : ByteArray := prog_14_method_15_code
def yX12_line : MethodName := ⟨RX12, "line", "(III)I"⟩
abbrev cX12_copy : ByteArray := prog_14_method_16_code
def yX12_copy : MethodName := ⟨RX12, "copy", "(IIIIIII)I"⟩
abbrev cX12_swap : ByteArray := prog_14_method_17_code
def yX12_swap : MethodName := ⟨RX12, "swap", "(III)I"⟩
abbrev cX12_exchange : ByteArray := prog_14_method_18_code
def yX12_exchange : MethodName := ⟨RX12, "exchange", "([III)V"⟩
abbrev cX12_twin : ByteArray := prog_14_method_19_code
def yX12_twin : MethodName := ⟨RX12, "twin", "(II)I"⟩
abbrev cX12_drop : ByteArray := prog_14_method_20_code
def yX12_drop : MethodName := ⟨RX12, "drop", "(I)I"⟩
abbrev cX12_keyOf : ByteArray := prog_14_method_21_code
def yX12_keyOf : MethodName := ⟨RX12, "keyOf", "(II)I"⟩
abbrev cX12_told : ByteArray := prog_14_method_22_code
def yX12_told : MethodName := ⟨RX12, "told", "(III)I"⟩
abbrev cX12_isRight : ByteArray := prog_14_method_23_code
def yX12_isRight : MethodName := ⟨RX12, "isRight", "(I)Z"⟩
abbrev cX12_shownOf : ByteArray := prog_14_method_24_code
def yX12_shownOf : MethodName := ⟨RX12, "shownOf", "(I)I"⟩
abbrev cX12_count : ByteArray := prog_14_method_25_code
def yX12_count : MethodName := ⟨RX12, "count", "(II)I"⟩
abbrev cX12_layOut : ByteArray := prog_14_method_26_code
def yX12_layOut : MethodName := ⟨RX12, "layOut", "(I)V"⟩
abbrev cX12_orderSights : ByteArray := prog_14_method_27_code
def yX12_orderSights : MethodName := ⟨RX12, "orderSights", "(III)I"⟩
abbrev cX12_gather : ByteArray := prog_14_method_28_code
def yX12_gather : MethodName := ⟨RX12, "gather", "(II)V"⟩
abbrev cX12_start : ByteArray := prog_14_method_29_code
def yX12_start : MethodName := ⟨RX12, "start", "(I)V"⟩
abbrev cX12_see : ByteArray := prog_14_method_30_code
def yX12_see : MethodName := ⟨RX12, "see", "(II)V"⟩
abbrev cX12_splitIn : ByteArray := prog_14_method_31_code
def yX12_splitIn : MethodName := ⟨RX12, "splitIn", "(I)V"⟩
abbrev cX12_isAlone : ByteArray := prog_14_method_32_code
def yX12_isAlone : MethodName := ⟨RX12, "isAlone", "(II)Z"⟩
abbrev cX12_markIn : ByteArray := prog_14_method_33_code
def yX12_markIn : MethodName := ⟨RX12, "markIn", "(II)V"⟩
abbrev cX12_split : ByteArray := prog_14_method_34_code
def yX12_split : MethodName := ⟨RX12, "split", "(I)I"⟩
abbrev cX12_handOf : ByteArray := prog_14_method_35_code
def yX12_handOf : MethodName := ⟨RX12, "handOf", "(I)I"⟩
abbrev cX12_mark : ByteArray := prog_14_method_36_code
def yX12_mark : MethodName := ⟨RX12, "mark", "(I)I"⟩
abbrev cX12_heapOf : ByteArray := prog_14_method_37_code
def yX12_heapOf : MethodName := ⟨RX12, "heapOf", "(I)I"⟩
abbrev cX12_areTwins : ByteArray := prog_14_method_38_code
def yX12_areTwins : MethodName := ⟨RX12, "areTwins", "(II)Z"⟩
abbrev cX12_targetOf : ByteArray := prog_14_method_39_code
def yX12_targetOf : MethodName := ⟨RX12, "targetOf", "(I)I"⟩
abbrev cX12_follows : ByteArray := prog_14_method_40_code
def yX12_follows : MethodName := ⟨RX12, "follows", "(III)Z"⟩
abbrev cX12_sizeOf : ByteArray := prog_14_method_41_code
def yX12_sizeOf : MethodName := ⟨RX12, "sizeOf", "(I)I"⟩
abbrev cX12_leaf : ByteArray := prog_14_method_42_code
def yX12_leaf : MethodName := ⟨RX12, "leaf", "(I)V"⟩
abbrev cX12_grow : ByteArray := prog_14_method_43_code
def yX12_grow : MethodName := ⟨RX12, "grow", "()Z"⟩
abbrev cX12_keepOther : ByteArray := prog_14_method_44_code
def yX12_keepOther : MethodName := ⟨RX12, "keepOther", "()V"⟩
abbrev cX12_name : ByteArray := prog_14_method_45_code
def yX12_name : MethodName := ⟨RX12, "name", "(I)I"⟩
abbrev cX12_nameAt : ByteArray := prog_14_method_46_code
def yX12_nameAt : MethodName := ⟨RX12, "nameAt", "(I)I"⟩
abbrev cX12_order : ByteArray := prog_14_method_47_code
def yX12_order : MethodName := ⟨RX12, "order", "(I)I"⟩
abbrev cX12_nodes : ByteArray := prog_14_method_48_code
def yX12_nodes : MethodName := ⟨RX12, "nodes", "()I"⟩
abbrev cX12_clearTurning : ByteArray := prog_14_method_49_code
def yX12_clearTurning : MethodName := ⟨RX12, "clearTurning", "()V"⟩
abbrev cX12_differsAt : ByteArray := prog_14_method_50_code
def yX12_differsAt : MethodName := ⟨RX12, "differsAt", "(I)I"⟩
abbrev cX12_growBoth : ByteArray := prog_14_method_51_code
def yX12_growBoth : MethodName := ⟨RX12, "growBoth", "(II)Z"⟩
abbrev cX12_same : ByteArray := prog_14_method_52_code
def yX12_same : MethodName := ⟨RX12, "same", "(II)I"⟩
abbrev cX12_unlikeBy : ByteArray := prog_14_method_53_code
def yX12_unlikeBy : MethodName := ⟨RX12, "unlikeBy", "(IIII)I"⟩
abbrev cX12_sumUp : ByteArray := prog_14_method_54_code
def yX12_sumUp : MethodName := ⟨RX12, "sumUp", "([I[I)V"⟩
abbrev cX12_unlike : ByteArray := prog_14_method_55_code
def yX12_unlike : MethodName := ⟨RX12, "unlike", "(II)I"⟩
abbrev cX12_why : ByteArray := prog_14_method_56_code
def yX12_why : MethodName := ⟨RX12, "why", "(I)I"⟩
abbrev cX12_mayGo : ByteArray := prog_14_method_57_code
def yX12_mayGo : MethodName := ⟨RX12, "mayGo", "(II)Z"⟩
abbrev cX12_find : ByteArray := prog_14_method_58_code
def yX12_find : MethodName := ⟨RX12, "find", "(III)Z"⟩
abbrev cX12_chainOf : ByteArray := prog_14_method_59_code
def yX12_chainOf : MethodName := ⟨RX12, "chainOf", "(I)I"⟩
abbrev cX12_turnings : ByteArray := prog_14_method_60_code
def yX12_turnings : MethodName := ⟨RX12, "turnings", "(I)J"⟩
abbrev cX12_chain : ByteArray := prog_14_method_61_code
def yX12_chain : MethodName := ⟨RX12, "chain", "(II)I"⟩
abbrev cX12_shownPlace : ByteArray := prog_14_method_62_code
def yX12_shownPlace : MethodName := ⟨RX12, "shownPlace", "(I)I"⟩
abbrev cX12_where : ByteArray := prog_14_method_63_code
def yX12_where : MethodName := ⟨RX12, "where", "(III)I"⟩
abbrev cX12_orbit : ByteArray := prog_14_method_64_code
def yX12_orbit : MethodName := ⟨RX12, "orbit", "(II)I"⟩
abbrev cX12_by : ByteArray := prog_14_method_65_code
def yX12_by : MethodName := ⟨RX12, "by", "(I)I"⟩
abbrev cX12_leads : ByteArray := prog_14_method_66_code
def yX12_leads : MethodName := ⟨RX12, "leads", "(II)Z"⟩
abbrev cX12_makers : ByteArray := prog_14_method_67_code
def yX12_makers : MethodName := ⟨RX12, "makers", "(I)I"⟩
abbrev cX12_maker : ByteArray := prog_14_method_68_code
def yX12_maker : MethodName := ⟨RX12, "maker", "(II)I"⟩
abbrev cX12_then : ByteArray := prog_14_method_69_code
def yX12_then : MethodName := ⟨RX12, "then", "(I)I"⟩
abbrev cX12_bitsOf : ByteArray := prog_14_method_70_code
def yX12_bitsOf : MethodName := ⟨RX12, "bitsOf", "(I)I"⟩
abbrev cX12_orderName : ByteArray := prog_14_method_71_code
def yX12_orderName : MethodName := ⟨RX12, "orderName", "(II)I"⟩
abbrev cX12_enter : ByteArray := prog_14_method_72_code
def yX12_enter : MethodName := ⟨RX12, "enter", "(I)V"⟩
abbrev cX12_list : ByteArray := prog_14_method_73_code
def yX12_list : MethodName := ⟨RX12, "list", "(II)I"⟩
abbrev cX12_listed : ByteArray := prog_14_method_74_code
def yX12_listed : MethodName := ⟨RX12, "listed", "(II)I"⟩
def RJ6 : String := "java/lang/Integer"
def TJ6 : u_T := fun k => match k with
  | _ => ("", "", "", false)
def tyJ6 : Nat → FieldType := fun k => match k with
  | _ => .int
abbrev wsJ60 : List Cond := u_ws RJ6 TJ6 0
theorem nmJ6 : ∀ a, a < 0 → ∀ b, b < 0 → a ≠ b → (TJ6 a).2.1 ≠ (TJ6 b).2.1 := by decide +kernel
theorem tyJ6_ok : ∀ k, k < 0 → parseFieldDescriptor (TJ6 k).2.2.1 = some (tyJ6 k) := by decide +kernel
abbrev cJ6_bitCount_0f7a4 : ByteArray := prog_15_method_49_code
def yJ6_bitCount_0f7a4 : MethodName := ⟨RJ6, "bitCount", "(I)I"⟩
def RJ9 : String := "java/lang/Math"
def TJ9 : u_T := fun k => match k with
  | _ => ("", "", "", false)
def tyJ9 : Nat → FieldType := fun k => match k with
  | _ => .int
abbrev wsJ90 : List Cond := u_ws RJ9 TJ9 0
theorem nmJ9 : ∀ a, a < 0 → ∀ b, b < 0 → a ≠ b → (TJ9 a).2.1 ≠ (TJ9 b).2.1 := by decide +kernel
theorem tyJ9_ok : ∀ k, k < 0 → parseFieldDescriptor (TJ9 k).2.2.1 = some (tyJ9 k) := by decide +kernel
abbrev cJ9_max_7cf53 : ByteArray := prog_16_method_65_code
def yJ9_max_7cf53 : MethodName := ⟨RJ9, "max", "(II)I"⟩
abbrev cJ9_min_7cf53 : ByteArray := prog_16_method_69_code
def yJ9_min_7cf53 : MethodName := ⟨RJ9, "min", "(II)I"⟩
def RJ10 : String := "java/lang/System"
def TJ10 : u_T := fun k => match k with
  | _ => ("", "", "", false)
def tyJ10 : Nat → FieldType := fun k => match k with
  | _ => .int
abbrev wsJ100 : List Cond := u_ws RJ10 TJ10 0
theorem nmJ10 : ∀ a, a < 0 → ∀ b, b < 0 → a ≠ b → (TJ10 a).2.1 ≠ (TJ10 b).2.1 := by decide +kernel
theorem tyJ10_ok : ∀ k, k < 0 → parseFieldDescriptor (TJ10 k).2.2.1 = some (tyJ10 k) := by decide +kernel
def RL : String := "SameBenchLaw"
abbrev cL_law : ByteArray := code
def yL_law : MethodName := ⟨RL, "law", "([I)Z"⟩
abbrev vwCl : List vw_C := [(RX0, TX0, 10), (RX1, TX1, 4), (RX2, TX2, 4), (RX3, TX3, 7), (RX4, TX4, 6), (RX5, TX5, 5), (RX6, TX6, 6), (RX7, TX7, 4), (RX8, TX8, 6), (RX9, TX9, 10), (RX10, TX10, 2), (RX11, TX11, 15), (RX12, TX12, 55)]
