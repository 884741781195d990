section
-- ===== PART A: goes FIRST, ahead of the names: the tables' words, and 'selects' of the private methods out of them =====
/-- a private method of a class that the tables say can be made, by its rows of tables_1 -/
def lw_okq (q : MethodName × Nat) : Prop := (q.1.cls ≠ "java/lang/invoke/MethodHandle" ∧ q.1.cls ≠ "java/lang/invoke/VarHandle") ∧ Cond.instantiable q.1.cls q.2 ∈ tables_1 ∧ Cond.privateMethod q.1 ∈ tables_1 ∧ Cond.instanceMethod q.1 ∈ tables_1
theorem lw_p0 : lw_okq (⟨"SameBench", "keep", "(I)V"⟩, 15) := ⟨⟨by decide +kernel, by decide +kernel⟩, List.mem_of_getElem? (i := 18) (by decide +kernel), List.mem_of_getElem? (i := 441) (by decide +kernel), List.mem_of_getElem? (i := 442) (by decide +kernel)⟩
theorem lw_p1 : lw_okq (⟨"SameBench", "isThing", "(II)Z"⟩, 15) := ⟨⟨by decide +kernel, by decide +kernel⟩, List.mem_of_getElem? (i := 18) (by decide +kernel), List.mem_of_getElem? (i := 472) (by decide +kernel), List.mem_of_getElem? (i := 473) (by decide +kernel)⟩
theorem lw_p2 : lw_okq (⟨"SameBench", "refusalOfTurnings", "(I)I"⟩, 15) := ⟨⟨by decide +kernel, by decide +kernel⟩, List.mem_of_getElem? (i := 18) (by decide +kernel), List.mem_of_getElem? (i := 791) (by decide +kernel), List.mem_of_getElem? (i := 792) (by decide +kernel)⟩
theorem lw_p3 : lw_okq (⟨"SameBenchModel", "isGraph", "(I)Z"⟩, 55) := ⟨⟨by decide +kernel, by decide +kernel⟩, List.mem_of_getElem? (i := 951) (by decide +kernel), List.mem_of_getElem? (i := 1131) (by decide +kernel), List.mem_of_getElem? (i := 1132) (by decide +kernel)⟩
theorem lw_p4 : lw_okq (⟨"SameBenchModel", "note", "(I)V"⟩, 55) := ⟨⟨by decide +kernel, by decide +kernel⟩, List.mem_of_getElem? (i := 951) (by decide +kernel), List.mem_of_getElem? (i := 1141) (by decide +kernel), List.mem_of_getElem? (i := 1142) (by decide +kernel)⟩
theorem lw_p5 : lw_okq (⟨"SameBenchModel", "isThing", "(II)Z"⟩, 55) := ⟨⟨by decide +kernel, by decide +kernel⟩, List.mem_of_getElem? (i := 951) (by decide +kernel), List.mem_of_getElem? (i := 1149) (by decide +kernel), List.mem_of_getElem? (i := 1150) (by decide +kernel)⟩
theorem lw_p6 : lw_okq (⟨"SameBenchModel", "lineOf", "(III)I"⟩, 55) := ⟨⟨by decide +kernel, by decide +kernel⟩, List.mem_of_getElem? (i := 951) (by decide +kernel), List.mem_of_getElem? (i := 1173) (by decide +kernel), List.mem_of_getElem? (i := 1174) (by decide +kernel)⟩
theorem lw_p7 : lw_okq (⟨"SameBenchModel", "keyOf", "(II)I"⟩, 55) := ⟨⟨by decide +kernel, by decide +kernel⟩, List.mem_of_getElem? (i := 951) (by decide +kernel), List.mem_of_getElem? (i := 1200) (by decide +kernel), List.mem_of_getElem? (i := 1201) (by decide +kernel)⟩
theorem lw_p8 : lw_okq (⟨"SameBenchModel", "shownOf", "(I)I"⟩, 55) := ⟨⟨by decide +kernel, by decide +kernel⟩, List.mem_of_getElem? (i := 951) (by decide +kernel), List.mem_of_getElem? (i := 1208) (by decide +kernel), List.mem_of_getElem? (i := 1209) (by decide +kernel)⟩
theorem lw_p9 : lw_okq (⟨"SameBenchModel", "isRight", "(I)Z"⟩, 55) := ⟨⟨by decide +kernel, by decide +kernel⟩, List.mem_of_getElem? (i := 951) (by decide +kernel), List.mem_of_getElem? (i := 1212) (by decide +kernel), List.mem_of_getElem? (i := 1213) (by decide +kernel)⟩
theorem lw_p10 : lw_okq (⟨"SameBenchModel", "layOut", "(I)V"⟩, 55) := ⟨⟨by decide +kernel, by decide +kernel⟩, List.mem_of_getElem? (i := 951) (by decide +kernel), List.mem_of_getElem? (i := 1220) (by decide +kernel), List.mem_of_getElem? (i := 1221) (by decide +kernel)⟩
theorem lw_p11 : lw_okq (⟨"SameBenchModel", "start", "(I)V"⟩, 55) := ⟨⟨by decide +kernel, by decide +kernel⟩, List.mem_of_getElem? (i := 951) (by decide +kernel), List.mem_of_getElem? (i := 1224) (by decide +kernel), List.mem_of_getElem? (i := 1225) (by decide +kernel)⟩
theorem lw_p12 : lw_okq (⟨"SameBenchModel", "gather", "(II)V"⟩, 55) := ⟨⟨by decide +kernel, by decide +kernel⟩, List.mem_of_getElem? (i := 951) (by decide +kernel), List.mem_of_getElem? (i := 1228) (by decide +kernel), List.mem_of_getElem? (i := 1229) (by decide +kernel)⟩
theorem lw_p13 : lw_okq (⟨"SameBenchModel", "orderSights", "(III)I"⟩, 55) := ⟨⟨by decide +kernel, by decide +kernel⟩, List.mem_of_getElem? (i := 951) (by decide +kernel), List.mem_of_getElem? (i := 1232) (by decide +kernel), List.mem_of_getElem? (i := 1233) (by decide +kernel)⟩
theorem lw_p14 : lw_okq (⟨"SameBenchModel", "splitIn", "(I)V"⟩, 55) := ⟨⟨by decide +kernel, by decide +kernel⟩, List.mem_of_getElem? (i := 951) (by decide +kernel), List.mem_of_getElem? (i := 1236) (by decide +kernel), List.mem_of_getElem? (i := 1237) (by decide +kernel)⟩
theorem lw_p15 : lw_okq (⟨"SameBenchModel", "see", "(II)V"⟩, 55) := ⟨⟨by decide +kernel, by decide +kernel⟩, List.mem_of_getElem? (i := 951) (by decide +kernel), List.mem_of_getElem? (i := 1240) (by decide +kernel), List.mem_of_getElem? (i := 1241) (by decide +kernel)⟩
def lw_privs_1 : List (MethodName × Nat) := [(⟨"SameBench", "keep", "(I)V"⟩, 15), (⟨"SameBench", "isThing", "(II)Z"⟩, 15), (⟨"SameBench", "refusalOfTurnings", "(I)I"⟩, 15), (⟨"SameBenchModel", "isGraph", "(I)Z"⟩, 55), (⟨"SameBenchModel", "note", "(I)V"⟩, 55), (⟨"SameBenchModel", "isThing", "(II)Z"⟩, 55), (⟨"SameBenchModel", "lineOf", "(III)I"⟩, 55), (⟨"SameBenchModel", "keyOf", "(II)I"⟩, 55), (⟨"SameBenchModel", "shownOf", "(I)I"⟩, 55), (⟨"SameBenchModel", "isRight", "(I)Z"⟩, 55), (⟨"SameBenchModel", "layOut", "(I)V"⟩, 55), (⟨"SameBenchModel", "start", "(I)V"⟩, 55), (⟨"SameBenchModel", "gather", "(II)V"⟩, 55), (⟨"SameBenchModel", "orderSights", "(III)I"⟩, 55), (⟨"SameBenchModel", "splitIn", "(I)V"⟩, 55), (⟨"SameBenchModel", "see", "(II)V"⟩, 55)]
theorem lw_r1 : ∀ q ∈ lw_privs_1, lw_okq q := List.forall_mem_cons.mpr ⟨lw_p0, List.forall_mem_cons.mpr ⟨lw_p1, List.forall_mem_cons.mpr ⟨lw_p2, List.forall_mem_cons.mpr ⟨lw_p3, List.forall_mem_cons.mpr ⟨lw_p4, List.forall_mem_cons.mpr ⟨lw_p5, List.forall_mem_cons.mpr ⟨lw_p6, List.forall_mem_cons.mpr ⟨lw_p7, List.forall_mem_cons.mpr ⟨lw_p8, List.forall_mem_cons.mpr ⟨lw_p9, List.forall_mem_cons.mpr ⟨lw_p10, List.forall_mem_cons.mpr ⟨lw_p11, List.forall_mem_cons.mpr ⟨lw_p12, List.forall_mem_cons.mpr ⟨lw_p13, List.forall_mem_cons.mpr ⟨lw_p14, List.forall_mem_cons.mpr ⟨lw_p15, fun _ h => absurd h List.not_mem_nil⟩⟩⟩⟩⟩⟩⟩⟩⟩⟩⟩⟩⟩⟩⟩⟩
theorem lw_p16 : lw_okq (⟨"SameBenchModel", "handOf", "(I)I"⟩, 55) := ⟨⟨by decide +kernel, by decide +kernel⟩, List.mem_of_getElem? (i := 951) (by decide +kernel), List.mem_of_getElem? (i := 1248) (by decide +kernel), List.mem_of_getElem? (i := 1249) (by decide +kernel)⟩
theorem lw_p17 : lw_okq (⟨"SameBenchModel", "markIn", "(II)V"⟩, 55) := ⟨⟨by decide +kernel, by decide +kernel⟩, List.mem_of_getElem? (i := 951) (by decide +kernel), List.mem_of_getElem? (i := 1252) (by decide +kernel), List.mem_of_getElem? (i := 1253) (by decide +kernel)⟩
theorem lw_p18 : lw_okq (⟨"SameBenchModel", "isAlone", "(II)Z"⟩, 55) := ⟨⟨by decide +kernel, by decide +kernel⟩, List.mem_of_getElem? (i := 951) (by decide +kernel), List.mem_of_getElem? (i := 1256) (by decide +kernel), List.mem_of_getElem? (i := 1257) (by decide +kernel)⟩
theorem lw_p19 : lw_okq (⟨"SameBenchModel", "grow", "()Z"⟩, 55) := ⟨⟨by decide +kernel, by decide +kernel⟩, List.mem_of_getElem? (i := 951) (by decide +kernel), List.mem_of_getElem? (i := 1268) (by decide +kernel), List.mem_of_getElem? (i := 1269) (by decide +kernel)⟩
theorem lw_p20 : lw_okq (⟨"SameBenchModel", "leaf", "(I)V"⟩, 55) := ⟨⟨by decide +kernel, by decide +kernel⟩, List.mem_of_getElem? (i := 951) (by decide +kernel), List.mem_of_getElem? (i := 1272) (by decide +kernel), List.mem_of_getElem? (i := 1273) (by decide +kernel)⟩
theorem lw_p21 : lw_okq (⟨"SameBenchModel", "targetOf", "(I)I"⟩, 55) := ⟨⟨by decide +kernel, by decide +kernel⟩, List.mem_of_getElem? (i := 951) (by decide +kernel), List.mem_of_getElem? (i := 1279) (by decide +kernel), List.mem_of_getElem? (i := 1280) (by decide +kernel)⟩
theorem lw_p22 : lw_okq (⟨"SameBenchModel", "follows", "(III)Z"⟩, 55) := ⟨⟨by decide +kernel, by decide +kernel⟩, List.mem_of_getElem? (i := 951) (by decide +kernel), List.mem_of_getElem? (i := 1283) (by decide +kernel), List.mem_of_getElem? (i := 1284) (by decide +kernel)⟩
theorem lw_p23 : lw_okq (⟨"SameBenchModel", "areTwins", "(II)Z"⟩, 55) := ⟨⟨by decide +kernel, by decide +kernel⟩, List.mem_of_getElem? (i := 951) (by decide +kernel), List.mem_of_getElem? (i := 1287) (by decide +kernel), List.mem_of_getElem? (i := 1288) (by decide +kernel)⟩
theorem lw_p24 : lw_okq (⟨"SameBenchModel", "growBoth", "(II)Z"⟩, 55) := ⟨⟨by decide +kernel, by decide +kernel⟩, List.mem_of_getElem? (i := 951) (by decide +kernel), List.mem_of_getElem? (i := 1307) (by decide +kernel), List.mem_of_getElem? (i := 1308) (by decide +kernel)⟩
theorem lw_p25 : lw_okq (⟨"SameBenchModel", "keepOther", "()V"⟩, 55) := ⟨⟨by decide +kernel, by decide +kernel⟩, List.mem_of_getElem? (i := 951) (by decide +kernel), List.mem_of_getElem? (i := 1311) (by decide +kernel), List.mem_of_getElem? (i := 1312) (by decide +kernel)⟩
theorem lw_p26 : lw_okq (⟨"SameBenchModel", "differsAt", "(I)I"⟩, 55) := ⟨⟨by decide +kernel, by decide +kernel⟩, List.mem_of_getElem? (i := 951) (by decide +kernel), List.mem_of_getElem? (i := 1315) (by decide +kernel), List.mem_of_getElem? (i := 1316) (by decide +kernel)⟩
theorem lw_p27 : lw_okq (⟨"SameBenchModel", "clearTurning", "()V"⟩, 55) := ⟨⟨by decide +kernel, by decide +kernel⟩, List.mem_of_getElem? (i := 951) (by decide +kernel), List.mem_of_getElem? (i := 1319) (by decide +kernel), List.mem_of_getElem? (i := 1320) (by decide +kernel)⟩
theorem lw_p28 : lw_okq (⟨"SameBenchModel", "unlikeBy", "(IIII)I"⟩, 55) := ⟨⟨by decide +kernel, by decide +kernel⟩, List.mem_of_getElem? (i := 951) (by decide +kernel), List.mem_of_getElem? (i := 1327) (by decide +kernel), List.mem_of_getElem? (i := 1328) (by decide +kernel)⟩
theorem lw_p29 : lw_okq (⟨"SameBenchModel", "sumUp", "([I[I)V"⟩, 55) := ⟨⟨by decide +kernel, by decide +kernel⟩, List.mem_of_getElem? (i := 951) (by decide +kernel), List.mem_of_getElem? (i := 1331) (by decide +kernel), List.mem_of_getElem? (i := 1332) (by decide +kernel)⟩
theorem lw_p30 : lw_okq (⟨"SameBenchModel", "chainOf", "(I)I"⟩, 55) := ⟨⟨by decide +kernel, by decide +kernel⟩, List.mem_of_getElem? (i := 951) (by decide +kernel), List.mem_of_getElem? (i := 1345) (by decide +kernel), List.mem_of_getElem? (i := 1346) (by decide +kernel)⟩
theorem lw_p31 : lw_okq (⟨"SameBenchModel", "find", "(III)Z"⟩, 55) := ⟨⟨by decide +kernel, by decide +kernel⟩, List.mem_of_getElem? (i := 951) (by decide +kernel), List.mem_of_getElem? (i := 1349) (by decide +kernel), List.mem_of_getElem? (i := 1350) (by decide +kernel)⟩
def lw_privs_2 : List (MethodName × Nat) := [(⟨"SameBenchModel", "handOf", "(I)I"⟩, 55), (⟨"SameBenchModel", "markIn", "(II)V"⟩, 55), (⟨"SameBenchModel", "isAlone", "(II)Z"⟩, 55), (⟨"SameBenchModel", "grow", "()Z"⟩, 55), (⟨"SameBenchModel", "leaf", "(I)V"⟩, 55), (⟨"SameBenchModel", "targetOf", "(I)I"⟩, 55), (⟨"SameBenchModel", "follows", "(III)Z"⟩, 55), (⟨"SameBenchModel", "areTwins", "(II)Z"⟩, 55), (⟨"SameBenchModel", "growBoth", "(II)Z"⟩, 55), (⟨"SameBenchModel", "keepOther", "()V"⟩, 55), (⟨"SameBenchModel", "differsAt", "(I)I"⟩, 55), (⟨"SameBenchModel", "clearTurning", "()V"⟩, 55), (⟨"SameBenchModel", "unlikeBy", "(IIII)I"⟩, 55), (⟨"SameBenchModel", "sumUp", "([I[I)V"⟩, 55), (⟨"SameBenchModel", "chainOf", "(I)I"⟩, 55), (⟨"SameBenchModel", "find", "(III)Z"⟩, 55)]
theorem lw_r2 : ∀ q ∈ lw_privs_2, lw_okq q := List.forall_mem_cons.mpr ⟨lw_p16, List.forall_mem_cons.mpr ⟨lw_p17, List.forall_mem_cons.mpr ⟨lw_p18, List.forall_mem_cons.mpr ⟨lw_p19, List.forall_mem_cons.mpr ⟨lw_p20, List.forall_mem_cons.mpr ⟨lw_p21, List.forall_mem_cons.mpr ⟨lw_p22, List.forall_mem_cons.mpr ⟨lw_p23, List.forall_mem_cons.mpr ⟨lw_p24, List.forall_mem_cons.mpr ⟨lw_p25, List.forall_mem_cons.mpr ⟨lw_p26, List.forall_mem_cons.mpr ⟨lw_p27, List.forall_mem_cons.mpr ⟨lw_p28, List.forall_mem_cons.mpr ⟨lw_p29, List.forall_mem_cons.mpr ⟨lw_p30, List.forall_mem_cons.mpr ⟨lw_p31, fun _ h => absurd h List.not_mem_nil⟩⟩⟩⟩⟩⟩⟩⟩⟩⟩⟩⟩⟩⟩⟩⟩
theorem lw_p32 : lw_okq (⟨"SameBenchModel", "mayGo", "(II)Z"⟩, 55) := ⟨⟨by decide +kernel, by decide +kernel⟩, List.mem_of_getElem? (i := 951) (by decide +kernel), List.mem_of_getElem? (i := 1353) (by decide +kernel), List.mem_of_getElem? (i := 1354) (by decide +kernel)⟩
theorem lw_p33 : lw_okq (⟨"SameBenchModel", "shownPlace", "(I)I"⟩, 55) := ⟨⟨by decide +kernel, by decide +kernel⟩, List.mem_of_getElem? (i := 951) (by decide +kernel), List.mem_of_getElem? (i := 1365) (by decide +kernel), List.mem_of_getElem? (i := 1366) (by decide +kernel)⟩
theorem lw_p34 : lw_okq (⟨"SameBenchModel", "leads", "(II)Z"⟩, 55) := ⟨⟨by decide +kernel, by decide +kernel⟩, List.mem_of_getElem? (i := 951) (by decide +kernel), List.mem_of_getElem? (i := 1381) (by decide +kernel), List.mem_of_getElem? (i := 1382) (by decide +kernel)⟩
theorem lw_p35 : lw_okq (⟨"SameBenchModel", "enter", "(I)V"⟩, 55) := ⟨⟨by decide +kernel, by decide +kernel⟩, List.mem_of_getElem? (i := 951) (by decide +kernel), List.mem_of_getElem? (i := 1400) (by decide +kernel), List.mem_of_getElem? (i := 1401) (by decide +kernel)⟩
theorem lw_p36 : lw_okq (⟨"SameBenchModel", "orderName", "(II)I"⟩, 55) := ⟨⟨by decide +kernel, by decide +kernel⟩, List.mem_of_getElem? (i := 951) (by decide +kernel), List.mem_of_getElem? (i := 1404) (by decide +kernel), List.mem_of_getElem? (i := 1405) (by decide +kernel)⟩
def lw_privs_3 : List (MethodName × Nat) := [(⟨"SameBenchModel", "mayGo", "(II)Z"⟩, 55), (⟨"SameBenchModel", "shownPlace", "(I)I"⟩, 55), (⟨"SameBenchModel", "leads", "(II)Z"⟩, 55), (⟨"SameBenchModel", "enter", "(I)V"⟩, 55), (⟨"SameBenchModel", "orderName", "(II)I"⟩, 55)]
theorem lw_r3 : ∀ q ∈ lw_privs_3, lw_okq q := List.forall_mem_cons.mpr ⟨lw_p32, List.forall_mem_cons.mpr ⟨lw_p33, List.forall_mem_cons.mpr ⟨lw_p34, List.forall_mem_cons.mpr ⟨lw_p35, List.forall_mem_cons.mpr ⟨lw_p36, fun _ h => absurd h List.not_mem_nil⟩⟩⟩⟩⟩
def lw_privs : List (MethodName × Nat) := lw_privs_1 ++ (lw_privs_2 ++ (lw_privs_3))
def lw_tbl : List Cond := k2_sels lw_privs ++ tables_1
theorem lw_privs_ok : ∀ q ∈ lw_privs, lw_okq q := by
  show ∀ q ∈ lw_privs_1 ++ (lw_privs_2 ++ (lw_privs_3)), lw_okq q
  exact List.forall_mem_append.mpr ⟨lw_r1, List.forall_mem_append.mpr ⟨lw_r2, lw_r3⟩⟩
def RX0 : String := "SameBench$Comparer"
def TX0 : u_T := fun k => match k with
  | 0 => ("SameBench$Comparer", "splitter", "LSameBench$Splitter;", true)
  | 1 => ("SameBench$Comparer", "tree", "LSameBench$Tree;", true)
  | 2 => ("SameBench$Comparer", "first", "LSameBench$Shown;", true)
  | 3 => ("SameBench$Comparer", "second", "LSameBench$Shown;", true)
  | 4 => ("SameBench$Comparer", "firstParting", "LSameBench$Parting;", true)
  | 5 => ("SameBench$Comparer", "secondParting", "LSameBench$Parting;", true)
  | 6 => ("SameBench$Comparer", "firstName", "LSameBench$Name;", true)
  | 7 => ("SameBench$Comparer", "secondName", "LSameBench$Name;", true)
  | 8 => ("SameBench$Comparer", "difference", "[I", true)
  | _ => ("SameBench$Comparer", "isToldApart", "Z", false)
def tyX0 : Nat → FieldType := fun k => match k with
  | 0 => .object "SameBench$Splitter"
  | 1 => .object "SameBench$Tree"
  | 2 => .object "SameBench$Shown"
  | 3 => .object "SameBench$Shown"
  | 4 => .object "SameBench$Parting"
  | 5 => .object "SameBench$Parting"
  | 6 => .object "SameBench$Name"
  | 7 => .object "SameBench$Name"
  | 8 => .array .int
  | _ => .boolean
abbrev wsX00 : List Cond := u_ws RX0 TX0 10
theorem nmX0 : ∀ a, a < 10 → ∀ b, b < 10 → a ≠ b → (TX0 a).2.1 ≠ (TX0 b).2.1 := by decide +kernel
theorem tyX0_ok : ∀ k, k < 10 → parseFieldDescriptor (TX0 k).2.2.1 = some (tyX0 k) := by decide +kernel
abbrev cX0_init : ByteArray := prog_2_method_1_code
def yX0_init : MethodName := ⟨RX0, "<init>", "(LSameBench$Splitter;LSameBench$Tree;)V"⟩
abbrev cX0_take : ByteArray := prog_2_method_2_code
def yX0_take : MethodName := ⟨RX0, "take", "(LSameBench$Net;LSameBench$Net;)V"⟩
abbrev cX0_findNames : ByteArray := prog_2_method_3_code
def yX0_findNames : MethodName := ⟨RX0, "findNames", "()Z"⟩
abbrev cX0_isOneName : ByteArray := prog_2_method_4_code
def yX0_isOneName : MethodName := ⟨RX0, "isOneName", "()Z"⟩
abbrev cX0_tellApart : ByteArray := prog_2_method_5_code
def yX0_tellApart : MethodName := ⟨RX0, "tellApart", "()I"⟩
abbrev cX0_keepDifference : ByteArray := prog_2_method_6_code
def yX0_keepDifference : MethodName := ⟨RX0, "keepDifference", "(III)V"⟩
abbrev cX0_isToldByKeys : ByteArray := prog_2_method_7_code
def yX0_isToldByKeys : MethodName := ⟨RX0, "isToldByKeys", "()Z"⟩
abbrev cX0_isToldByHeaps : ByteArray := prog_2_method_8_code
def yX0_isToldByHeaps : MethodName := ⟨RX0, "isToldByHeaps", "()Z"⟩
abbrev cX0_isToldByNames : ByteArray := prog_2_method_9_code
def yX0_isToldByNames : MethodName := ⟨RX0, "isToldByNames", "()Z"⟩
def RX1 : String := "SameBench$History"
def TX1 : u_T := fun k => match k with
  | 0 => ("SameBench$History", "nets", "[LSameBench$Net;", true)
  | 1 => ("SameBench$History", "graphs", "[I", true)
  | 2 => ("SameBench$History", "next", "I", false)
  | _ => ("SameBench$History", "kept", "I", false)
def tyX1 : Nat → FieldType := fun k => match k with
  | 0 => .array (.object "SameBench$Net")
  | 1 => .array .int
  | 2 => .int
  | _ => .int
abbrev wsX10 : List Cond := u_ws RX1 TX1 4
theorem nmX1 : ∀ a, a < 4 → ∀ b, b < 4 → a ≠ b → (TX1 a).2.1 ≠ (TX1 b).2.1 := by decide +kernel
theorem tyX1_ok : ∀ k, k < 4 → parseFieldDescriptor (TX1 k).2.2.1 = some (tyX1 k) := by decide +kernel
abbrev cX1_init : ByteArray := prog_3_method_1_code
def yX1_init : MethodName := ⟨RX1, "<init>", "()V"⟩
abbrev cX1_keep : ByteArray := prog_3_method_2_code
def yX1_keep : MethodName := ⟨RX1, "keep", "(ILSameBench$Net;)V"⟩
abbrev cX1_latest : ByteArray := prog_3_method_3_code
def yX1_latest : MethodName := ⟨RX1, "latest", "()I"⟩
abbrev cX1_latestGraph : ByteArray := prog_3_method_4_code
def yX1_latestGraph : MethodName := ⟨RX1, "latestGraph", "()I"⟩
abbrev cX1_latestNet : ByteArray := prog_3_method_5_code
def yX1_latestNet : MethodName := ⟨RX1, "latestNet", "()LSameBench$Net;"⟩
abbrev cX1_forgetLatest : ByteArray := prog_3_method_6_code
def yX1_forgetLatest : MethodName := ⟨RX1, "forgetLatest", "()V"⟩
def RX2 : String := "SameBench$Lister"
def TX2 : u_T := fun k => match k with
  | 0 => ("SameBench$Lister", "names", "[LSameBench$Name;", true)
  | 1 => ("SameBench$Lister", "count", "I", false)
  | 2 => ("SameBench$Lister", "isMet", "[Z", true)
  | _ => ("SameBench$Lister", "sort", "[I", true)
def tyX2 : Nat → FieldType := fun k => match k with
  | 0 => .array (.object "SameBench$Name")
  | 1 => .int
  | 2 => .array .boolean
  | _ => .array .int
abbrev wsX20 : List Cond := u_ws RX2 TX2 4
theorem nmX2 : ∀ a, a < 4 → ∀ b, b < 4 → a ≠ b → (TX2 a).2.1 ≠ (TX2 b).2.1 := by decide +kernel
theorem tyX2_ok : ∀ k, k < 4 → parseFieldDescriptor (TX2 k).2.2.1 = some (tyX2 k) := by decide +kernel
abbrev cX2_init : ByteArray := prog_4_method_1_code
def yX2_init : MethodName := ⟨RX2, "<init>", "()V"⟩
abbrev cX2_bitOf : ByteArray := prog_4_method_2_code
def yX2_bitOf : MethodName := ⟨RX2, "bitOf", "(II)I"⟩
abbrev cX2_make : ByteArray := prog_4_method_3_code
def yX2_make : MethodName := ⟨RX2, "make", "(IILSameBench$Tree;LSameBench$Shown;)V"⟩
abbrev cX2_meetAllOfSort : ByteArray := prog_4_method_4_code
def yX2_meetAllOfSort : MethodName := ⟨RX2, "meetAllOfSort", "(II)V"⟩
abbrev cX2_exchanged : ByteArray := prog_4_method_5_code
def yX2_exchanged : MethodName := ⟨RX2, "exchanged", "(III)I"⟩
abbrev cX2_neighbourOf : ByteArray := prog_4_method_6_code
def yX2_neighbourOf : MethodName := ⟨RX2, "neighbourOf", "(II)I"⟩
abbrev cX2_putInPlace : ByteArray := prog_4_method_7_code
def yX2_putInPlace : MethodName := ⟨RX2, "putInPlace", "()V"⟩
def RX3 : String := "SameBench$Name"
def TX3 : u_T := fun k => match k with
  | 0 => ("SameBench$Name", "isThere", "Z", false)
  | 1 => ("SameBench$Name", "things", "I", false)
  | 2 => ("SameBench$Name", "length", "I", false)
  | 3 => ("SameBench$Name", "leaves", "I", false)
  | 4 => ("SameBench$Name", "nodes", "I", false)
  | 5 => ("SameBench$Name", "row", "[I", true)
  | _ => ("SameBench$Name", "order", "[I", true)
def tyX3 : Nat → FieldType := fun k => match k with
  | 0 => .boolean
  | 1 => .int
  | 2 => .int
  | 3 => .int
  | 4 => .int
  | 5 => .array .int
  | _ => .array .int
abbrev wsX30 : List Cond := u_ws RX3 TX3 7
theorem nmX3 : ∀ a, a < 7 → ∀ b, b < 7 → a ≠ b → (TX3 a).2.1 ≠ (TX3 b).2.1 := by decide +kernel
theorem tyX3_ok : ∀ k, k < 7 → parseFieldDescriptor (TX3 k).2.2.1 = some (tyX3 k) := by decide +kernel
abbrev cX3_init : ByteArray := prog_5_method_1_code
def yX3_init : MethodName := ⟨RX3, "<init>", "()V"⟩
abbrev cX3_differsAt : ByteArray := prog_5_method_2_code
def yX3_differsAt : MethodName := ⟨RX3, "differsAt", "(LSameBench$Name;)I"⟩
abbrev cX3_isLessThan : ByteArray := prog_5_method_3_code
def yX3_isLessThan : MethodName := ⟨RX3, "isLessThan", "(LSameBench$Name;)Z"⟩
def RX4 : String := "SameBench$Net"
def TX4 : u_T := fun k => match k with
  | 0 => ("SameBench$Net", "things", "I", false)
  | 1 => ("SameBench$Net", "kind", "[I", true)
  | 2 => ("SameBench$Net", "colour", "[I", true)
  | 3 => ("SameBench$Net", "word", "[I", true)
  | 4 => ("SameBench$Net", "places", "[I", true)
  | _ => ("SameBench$Net", "lines", "[I", true)
def tyX4 : Nat → FieldType := fun k => match k with
  | 0 => .int
  | 1 => .array .int
  | 2 => .array .int
  | 3 => .array .int
  | 4 => .array .int
  | _ => .array .int
abbrev wsX40 : List Cond := u_ws RX4 TX4 6
theorem nmX4 : ∀ a, a < 6 → ∀ b, b < 6 → a ≠ b → (TX4 a).2.1 ≠ (TX4 b).2.1 := by decide +kernel
theorem tyX4_ok : ∀ k, k < 6 → parseFieldDescriptor (TX4 k).2.2.1 = some (tyX4 k) := by decide +kernel
abbrev cX4_init : ByteArray := prog_6_method_1_code
def yX4_init : MethodName := ⟨RX4, "<init>", "()V"⟩
abbrev cX4_add : ByteArray := prog_6_method_2_code
def yX4_add : MethodName := ⟨RX4, "add", "(III)I"⟩
abbrev cX4_clearRow : ByteArray := prog_6_method_3_code
def yX4_clearRow : MethodName := ⟨RX4, "clearRow", "(II)V"⟩
abbrev cX4_hasRow : ByteArray := prog_6_method_4_code
def yX4_hasRow : MethodName := ⟨RX4, "hasRow", "(I)Z"⟩
abbrev cX4_isNamed : ByteArray := prog_6_method_5_code
def yX4_isNamed : MethodName := ⟨RX4, "isNamed", "(I)Z"⟩
abbrev cX4_lineFrom : ByteArray := prog_6_method_6_code
def yX4_lineFrom : MethodName := ⟨RX4, "lineFrom", "(II)I"⟩
abbrev cX4_keyOf : ByteArray := prog_6_method_7_code
def yX4_keyOf : MethodName := ⟨RX4, "keyOf", "(I)I"⟩
abbrev cX4_countShown : ByteArray := prog_6_method_8_code
def yX4_countShown : MethodName := ⟨RX4, "countShown", "()I"⟩
abbrev cX4_isRight : ByteArray := prog_6_method_9_code
def yX4_isRight : MethodName := ⟨RX4, "isRight", "()Z"⟩
abbrev cX4_countNamesakes : ByteArray := prog_6_method_10_code
def yX4_countNamesakes : MethodName := ⟨RX4, "countNamesakes", "(I)I"⟩
abbrev cX4_lengthenRows : ByteArray := prog_6_method_11_code
def yX4_lengthenRows : MethodName := ⟨RX4, "lengthenRows", "()V"⟩
abbrev cX4_exchange : ByteArray := prog_6_method_12_code
def yX4_exchange : MethodName := ⟨RX4, "exchange", "(II)V"⟩
abbrev cX4_exchangeIn : ByteArray := prog_6_method_13_code
def yX4_exchangeIn : MethodName := ⟨RX4, "exchangeIn", "([III)V"⟩
abbrev cX4_become : ByteArray := prog_6_method_14_code
def yX4_become : MethodName := ⟨RX4, "become", "(LSameBench$Net;)V"⟩
abbrev cX4_becomeNamed : ByteArray := prog_6_method_15_code
def yX4_becomeNamed : MethodName := ⟨RX4, "becomeNamed", "(LSameBench$Name;)V"⟩
def RX5 : String := "SameBench$Parting"
def TX5 : u_T := fun k => match k with
  | 0 => ("SameBench$Parting", "things", "I", false)
  | 1 => ("SameBench$Parting", "heaps", "I", false)
  | 2 => ("SameBench$Parting", "heap", "[I", true)
  | 3 => ("SameBench$Parting", "size", "[I", true)
  | _ => ("SameBench$Parting", "order", "[I", true)
def tyX5 : Nat → FieldType := fun k => match k with
  | 0 => .int
  | 1 => .int
  | 2 => .array .int
  | 3 => .array .int
  | _ => .array .int
abbrev wsX50 : List Cond := u_ws RX5 TX5 5
theorem nmX5 : ∀ a, a < 5 → ∀ b, b < 5 → a ≠ b → (TX5 a).2.1 ≠ (TX5 b).2.1 := by decide +kernel
theorem tyX5_ok : ∀ k, k < 5 → parseFieldDescriptor (TX5 k).2.2.1 = some (tyX5 k) := by decide +kernel
abbrev cX5_init : ByteArray := prog_7_method_1_code
def yX5_init : MethodName := ⟨RX5, "<init>", "()V"⟩
abbrev cX5_gather : ByteArray := prog_7_method_2_code
def yX5_gather : MethodName := ⟨RX5, "gather", "(I)V"⟩
abbrev cX5_become : ByteArray := prog_7_method_3_code
def yX5_become : MethodName := ⟨RX5, "become", "(LSameBench$Parting;)V"⟩
abbrev cX5_isAlone : ByteArray := prog_7_method_4_code
def yX5_isAlone : MethodName := ⟨RX5, "isAlone", "(I)Z"⟩
abbrev cX5_isAllAlone : ByteArray := prog_7_method_5_code
def yX5_isAllAlone : MethodName := ⟨RX5, "isAllAlone", "()Z"⟩
abbrev cX5_firstBigHeap : ByteArray := prog_7_method_6_code
def yX5_firstBigHeap : MethodName := ⟨RX5, "firstBigHeap", "()I"⟩
abbrev cX5_firstNotAlone : ByteArray := prog_7_method_7_code
def yX5_firstNotAlone : MethodName := ⟨RX5, "firstNotAlone", "()I"⟩
abbrev cX5_setApart : ByteArray := prog_7_method_8_code
def yX5_setApart : MethodName := ⟨RX5, "setApart", "(I)V"⟩
abbrev cX5_moveAhead : ByteArray := prog_7_method_9_code
def yX5_moveAhead : MethodName := ⟨RX5, "moveAhead", "(I)V"⟩
abbrev cX5_hasHeapsLike : ByteArray := prog_7_method_10_code
def yX5_hasHeapsLike : MethodName := ⟨RX5, "hasHeapsLike", "(LSameBench$Parting;)Z"⟩
def RX6 : String := "SameBench$Shown"
def TX6 : u_T := fun k => match k with
  | 0 => ("SameBench$Shown", "things", "I", false)
  | 1 => ("SameBench$Shown", "number", "[I", true)
  | 2 => ("SameBench$Shown", "index", "[I", true)
  | 3 => ("SameBench$Shown", "keys", "[I", true)
  | 4 => ("SameBench$Shown", "lines", "[I", true)
  | _ => ("SameBench$Shown", "weights", "[J", true)
def tyX6 : Nat → FieldType := fun k => match k with
  | 0 => .int
  | 1 => .array .int
  | 2 => .array .int
  | 3 => .array .int
  | 4 => .array .int
  | _ => .array .long
abbrev wsX60 : List Cond := u_ws RX6 TX6 6
theorem nmX6 : ∀ a, a < 6 → ∀ b, b < 6 → a ≠ b → (TX6 a).2.1 ≠ (TX6 b).2.1 := by decide +kernel
theorem tyX6_ok : ∀ k, k < 6 → parseFieldDescriptor (TX6 k).2.2.1 = some (tyX6 k) := by decide +kernel
abbrev cX6_init : ByteArray := prog_8_method_1_code
def yX6_init : MethodName := ⟨RX6, "<init>", "()V"⟩
abbrev cX6_take : ByteArray := prog_8_method_2_code
def yX6_take : MethodName := ⟨RX6, "take", "(LSameBench$Net;)V"⟩
abbrev cX6_takePairs : ByteArray := prog_8_method_3_code
def yX6_takePairs : MethodName := ⟨RX6, "takePairs", "(II)V"⟩
abbrev cX6_addThing : ByteArray := prog_8_method_4_code
def yX6_addThing : MethodName := ⟨RX6, "addThing", "(II)V"⟩
abbrev cX6_setLine : ByteArray := prog_8_method_5_code
def yX6_setLine : MethodName := ⟨RX6, "setLine", "(III)V"⟩
abbrev cX6_lineFrom : ByteArray := prog_8_method_6_code
def yX6_lineFrom : MethodName := ⟨RX6, "lineFrom", "(II)I"⟩
abbrev cX6_indexOf : ByteArray := prog_8_method_7_code
def yX6_indexOf : MethodName := ⟨RX6, "indexOf", "(I)I"⟩
abbrev cX6_areTwins : ByteArray := prog_8_method_8_code
def yX6_areTwins : MethodName := ⟨RX6, "areTwins", "(II)Z"⟩
abbrev cX6_isTurning : ByteArray := prog_8_method_9_code
def yX6_isTurning : MethodName := ⟨RX6, "isTurning", "([I)Z"⟩
def RX7 : String := "SameBench$Splitter"
def TX7 : u_T := fun k => match k with
  | 0 => ("SameBench$Splitter", "sights", "[J", true)
  | 1 => ("SameBench$Splitter", "width", "I", false)
  | 2 => ("SameBench$Splitter", "newHeap", "[I", true)
  | _ => ("SameBench$Splitter", "newSize", "[I", true)
def tyX7 : Nat → FieldType := fun k => match k with
  | 0 => .array .long
  | 1 => .int
  | 2 => .array .int
  | _ => .array .int
abbrev wsX70 : List Cond := u_ws RX7 TX7 4
theorem nmX7 : ∀ a, a < 4 → ∀ b, b < 4 → a ≠ b → (TX7 a).2.1 ≠ (TX7 b).2.1 := by decide +kernel
theorem tyX7_ok : ∀ k, k < 4 → parseFieldDescriptor (TX7 k).2.2.1 = some (tyX7 k) := by decide +kernel
abbrev cX7_init : ByteArray := prog_9_method_1_code
def yX7_init : MethodName := ⟨RX7, "<init>", "()V"⟩
abbrev cX7_begin : ByteArray := prog_9_method_2_code
def yX7_begin : MethodName := ⟨RX7, "begin", "(LSameBench$Parting;LSameBench$Shown;)V"⟩
abbrev cX7_settle : ByteArray := prog_9_method_3_code
def yX7_settle : MethodName := ⟨RX7, "settle", "(LSameBench$Parting;LSameBench$Shown;)V"⟩
abbrev cX7_look : ByteArray := prog_9_method_4_code
def yX7_look : MethodName := ⟨RX7, "look", "(LSameBench$Parting;LSameBench$Shown;)V"⟩
abbrev cX7_divide : ByteArray := prog_9_method_5_code
def yX7_divide : MethodName := ⟨RX7, "divide", "(LSameBench$Parting;)V"⟩
abbrev cX7_compare : ByteArray := prog_9_method_6_code
def yX7_compare : MethodName := ⟨RX7, "compare", "(II)I"⟩
def RX8 : String := "SameBench$Tree"
def TX8 : u_T := fun k => match k with
  | 0 => ("SameBench$Tree", "splitter", "LSameBench$Splitter;", true)
  | 1 => ("SameBench$Tree", "levels", "[LSameBench$Parting;", true)
  | 2 => ("SameBench$Tree", "twins", "[Z", true)
  | 3 => ("SameBench$Tree", "row", "[I", true)
  | 4 => ("SameBench$Tree", "shown", "LSameBench$Shown;", false)
  | _ => ("SameBench$Tree", "name", "LSameBench$Name;", false)
def tyX8 : Nat → FieldType := fun k => match k with
  | 0 => .object "SameBench$Splitter"
  | 1 => .array (.object "SameBench$Parting")
  | 2 => .array .boolean
  | 3 => .array .int
  | 4 => .object "SameBench$Shown"
  | _ => .object "SameBench$Name"
abbrev wsX80 : List Cond := u_ws RX8 TX8 6
theorem nmX8 : ∀ a, a < 6 → ∀ b, b < 6 → a ≠ b → (TX8 a).2.1 ≠ (TX8 b).2.1 := by decide +kernel
theorem tyX8_ok : ∀ k, k < 6 → parseFieldDescriptor (TX8 k).2.2.1 = some (tyX8 k) := by decide +kernel
abbrev cX8_init : ByteArray := prog_10_method_1_code
def yX8_init : MethodName := ⟨RX8, "<init>", "(LSameBench$Splitter;)V"⟩
abbrev cX8_findName : ByteArray := prog_10_method_2_code
def yX8_findName : MethodName := ⟨RX8, "findName", "(LSameBench$Shown;LSameBench$Name;)Z"⟩
abbrev cX8_findTwins : ByteArray := prog_10_method_3_code
def yX8_findTwins : MethodName := ⟨RX8, "findTwins", "()V"⟩
abbrev cX8_grow : ByteArray := prog_10_method_4_code
def yX8_grow : MethodName := ⟨RX8, "grow", "(LSameBench$Tree;I)V"⟩
abbrev cX8_hasLesserTwin : ByteArray := prog_10_method_5_code
def yX8_hasLesserTwin : MethodName := ⟨RX8, "hasLesserTwin", "(LSameBench$Parting;I)Z"⟩
abbrev cX8_addLeaf : ByteArray := prog_10_method_6_code
def yX8_addLeaf : MethodName := ⟨RX8, "addLeaf", "(LSameBench$Parting;)V"⟩
abbrev cX8_writeRow : ByteArray := prog_10_method_7_code
def yX8_writeRow : MethodName := ⟨RX8, "writeRow", "(LSameBench$Parting;)V"⟩
abbrev cX8_isRowLess : ByteArray := prog_10_method_8_code
def yX8_isRowLess : MethodName := ⟨RX8, "isRowLess", "()Z"⟩
def RX9 : String := "SameBench$Turner"
def TX9 : u_T := fun k => match k with
  | 0 => ("SameBench$Turner", "splitter", "LSameBench$Splitter;", true)
  | 1 => ("SameBench$Turner", "ahead", "[LSameBench$Parting;", true)
  | 2 => ("SameBench$Turner", "here", "[LSameBench$Parting;", true)
  | 3 => ("SameBench$Turner", "there", "[LSameBench$Parting;", true)
  | 4 => ("SameBench$Turner", "image", "[I", true)
  | 5 => ("SameBench$Turner", "makers", "[I", true)
  | 6 => ("SameBench$Turner", "makerCount", "I", false)
  | 7 => ("SameBench$Turner", "group", "[I", true)
  | 8 => ("SameBench$Turner", "chain", "[I", true)
  | _ => ("SameBench$Turner", "shown", "LSameBench$Shown;", false)
def tyX9 : Nat → FieldType := fun k => match k with
  | 0 => .object "SameBench$Splitter"
  | 1 => .array (.object "SameBench$Parting")
  | 2 => .array (.object "SameBench$Parting")
  | 3 => .array (.object "SameBench$Parting")
  | 4 => .array .int
  | 5 => .array .int
  | 6 => .int
  | 7 => .array .int
  | 8 => .array .int
  | _ => .object "SameBench$Shown"
abbrev wsX90 : List Cond := u_ws RX9 TX9 10
theorem nmX9 : ∀ a, a < 10 → ∀ b, b < 10 → a ≠ b → (TX9 a).2.1 ≠ (TX9 b).2.1 := by decide +kernel
theorem tyX9_ok : ∀ k, k < 10 → parseFieldDescriptor (TX9 k).2.2.1 = some (tyX9 k) := by decide +kernel
abbrev cX9_init : ByteArray := prog_11_method_1_code
def yX9_init : MethodName := ⟨RX9, "<init>", "(LSameBench$Splitter;)V"⟩
abbrev cX9_findLeast : ByteArray := prog_11_method_2_code
def yX9_findLeast : MethodName := ⟨RX9, "findLeast", "(LSameBench$Shown;II)Z"⟩
abbrev cX9_findMakers : ByteArray := prog_11_method_3_code
def yX9_findMakers : MethodName := ⟨RX9, "findMakers", "(LSameBench$Shown;)V"⟩
abbrev cX9_markAhead : ByteArray := prog_11_method_4_code
def yX9_markAhead : MethodName := ⟨RX9, "markAhead", "()V"⟩
abbrev cX9_addMaker : ByteArray := prog_11_method_5_code
def yX9_addMaker : MethodName := ⟨RX9, "addMaker", "()V"⟩
abbrev cX9_joinGroups : ByteArray := prog_11_method_6_code
def yX9_joinGroups : MethodName := ⟨RX9, "joinGroups", "(II)V"⟩
abbrev cX9_countReached : ByteArray := prog_11_method_7_code
def yX9_countReached : MethodName := ⟨RX9, "countReached", "(I)I"⟩
abbrev cX9_isLed : ByteArray := prog_11_method_8_code
def yX9_isLed : MethodName := ⟨RX9, "isLed", "(LSameBench$Parting;II)Z"⟩
abbrev cX9_markInto : ByteArray := prog_11_method_9_code
def yX9_markInto : MethodName := ⟨RX9, "markInto", "(LSameBench$Parting;LSameBench$Parting;I)V"⟩
abbrev cX9_extend : ByteArray := prog_11_method_10_code
def yX9_extend : MethodName := ⟨RX9, "extend", "(LSameBench$Turner;I)Z"⟩
abbrev cX9_readImage : ByteArray := prog_11_method_11_code
def yX9_readImage : MethodName := ⟨RX9, "readImage", "(LSameBench$Parting;LSameBench$Parting;)Z"⟩
def RX10 : String := "SameBench$Turning"
def TX10 : u_T := fun k => match k with
  | 0 => ("SameBench$Turning", "isThere", "Z", false)
  | _ => ("SameBench$Turning", "to", "[I", true)
def tyX10 : Nat → FieldType := fun k => match k with
  | 0 => .boolean
  | _ => .array .int
abbrev wsX100 : List Cond := u_ws RX10 TX10 2
theorem nmX10 : ∀ a, a < 2 → ∀ b, b < 2 → a ≠ b → (TX10 a).2.1 ≠ (TX10 b).2.1 := by decide +kernel
theorem tyX10_ok : ∀ k, k < 2 → parseFieldDescriptor (TX10 k).2.2.1 = some (tyX10 k) := by decide +kernel
abbrev cX10_init : ByteArray := prog_12_method_1_code
def yX10_init : MethodName := ⟨RX10, "<init>", "()V"⟩
abbrev cX10_begin : ByteArray := prog_12_method_2_code
def yX10_begin : MethodName := ⟨RX10, "begin", "()V"⟩
abbrev cX10_takeOrders : ByteArray := prog_12_method_3_code
def yX10_takeOrders : MethodName := ⟨RX10, "takeOrders", "(LSameBench$Name;LSameBench$Name;)V"⟩
abbrev cX10_take : ByteArray := prog_12_method_4_code
def yX10_take : MethodName := ⟨RX10, "take", "(LSameBench$Shown;[II)V"⟩
abbrev cX10_leadsFrom : ByteArray := prog_12_method_5_code
def yX10_leadsFrom : MethodName := ⟨RX10, "leadsFrom", "(I)Z"⟩
abbrev cX10_isWithin : ByteArray := prog_12_method_6_code
def yX10_isWithin : MethodName := ⟨RX10, "isWithin", "(LSameBench$Turning;)Z"⟩
abbrev cX10_goOnBy : ByteArray := prog_12_method_7_code
def yX10_goOnBy : MethodName := ⟨RX10, "goOnBy", "(LSameBench$Turning;)V"⟩
def RX11 : String := "SameBench"
def TX11 : u_T := fun k => match k with
  | 0 => ("SameBench", "nets", "[LSameBench$Net;", true)
  | 1 => ("SameBench", "history", "LSameBench$History;", true)
  | 2 => ("SameBench", "shown", "LSameBench$Shown;", true)
  | 3 => ("SameBench", "splitter", "LSameBench$Splitter;", true)
  | 4 => ("SameBench", "tree", "LSameBench$Tree;", true)
  | 5 => ("SameBench", "turner", "LSameBench$Turner;", true)
  | 6 => ("SameBench", "comparer", "LSameBench$Comparer;", true)
  | 7 => ("SameBench", "isParted", "Z", false)
  | 8 => ("SameBench", "partedThings", "LSameBench$Shown;", true)
  | 9 => ("SameBench", "parting", "LSameBench$Parting;", true)
  | 10 => ("SameBench", "nameAtHand", "LSameBench$Name;", true)
  | 11 => ("SameBench", "turning", "LSameBench$Turning;", true)
  | 12 => ("SameBench", "makersFound", "[LSameBench$Turning;", true)
  | 13 => ("SameBench", "makerCount", "I", false)
  | _ => ("SameBench", "lister", "LSameBench$Lister;", true)
def tyX11 : Nat → FieldType := fun k => match k with
  | 0 => .array (.object "SameBench$Net")
  | 1 => .object "SameBench$History"
  | 2 => .object "SameBench$Shown"
  | 3 => .object "SameBench$Splitter"
  | 4 => .object "SameBench$Tree"
  | 5 => .object "SameBench$Turner"
  | 6 => .object "SameBench$Comparer"
  | 7 => .boolean
  | 8 => .object "SameBench$Shown"
  | 9 => .object "SameBench$Parting"
  | 10 => .object "SameBench$Name"
  | 11 => .object "SameBench$Turning"
  | 12 => .array (.object "SameBench$Turning")
  | 13 => .int
  | _ => .object "SameBench$Lister"
abbrev wsX110 : List Cond := u_ws RX11 TX11 15
theorem nmX11 : ∀ a, a < 15 → ∀ b, b < 15 → a ≠ b → (TX11 a).2.1 ≠ (TX11 b).2.1 := by decide +kernel
theorem tyX11_ok : ∀ k, k < 15 → parseFieldDescriptor (TX11 k).2.2.1 = some (tyX11 k) := by decide +kernel
abbrev cX11_init : ByteArray := prog_1_method_1_code
def yX11_init : MethodName := ⟨RX11, "<init>", "()V"⟩
abbrev cX11_thing : ByteArray := prog_1_method_2_code
def yX11_thing : MethodName := ⟨RX11, "thing", "(IIII)I"⟩
abbrev cX11_colour : ByteArray := prog_1_method_3_code
def yX11_colour : MethodName := ⟨RX11, "colour", "(III)I"⟩
abbrev cX11_word : ByteArray := prog_1_method_4_code
def yX11_word : MethodName := ⟨RX11, "word", "(III)I"⟩
abbrev cX11_row : ByteArray := prog_1_method_5_code
def yX11_row : MethodName := ⟨RX11, "row", "(III)I"⟩
abbrev cX11_unrow : ByteArray := prog_1_method_6_code
def yX11_unrow : MethodName := ⟨RX11, "unrow", "(II)I"⟩
abbrev cX11_place : ByteArray := prog_1_method_7_code
def yX11_place : MethodName := ⟨RX11, "place", "(IIII)I"⟩
abbrev cX11_line : ByteArray := prog_1_method_8_code
def yX11_line : MethodName := ⟨RX11, "line", "(III)I"⟩
abbrev cX11_copy : ByteArray := prog_1_method_9_code
def yX11_copy : MethodName := ⟨RX11, "copy", "(IIIIIII)I"⟩
abbrev cX11_swap : ByteArray := prog_1_method_10_code
def yX11_swap : MethodName := ⟨RX11, "swap", "(III)I"⟩
abbrev cX11_twin : ByteArray := prog_1_method_11_code
def yX11_twin : MethodName := ⟨RX11, "twin", "(II)I"⟩
abbrev cX11_drop : ByteArray := prog_1_method_12_code
def yX11_drop : MethodName := ⟨RX11, "drop", "(I)I"⟩
abbrev cX11_told : ByteArray := prog_1_method_13_code
def yX11_told : MethodName := ⟨RX11, "told", "(III)I"⟩
abbrev cX11_count : ByteArray := prog_1_method_14_code
def yX11_count : MethodName := ⟨RX11, "count", "(II)I"⟩
abbrev cX11_undo : ByteArray := prog_1_method_15_code
def yX11_undo : MethodName := ⟨RX11, "undo", "()I"⟩
abbrev cX11_split : ByteArray := prog_1_method_16_code
def yX11_split : MethodName := ⟨RX11, "split", "(I)I"⟩
abbrev cX11_mark : ByteArray := prog_1_method_17_code
def yX11_mark : MethodName := ⟨RX11, "mark", "(I)I"⟩
abbrev cX11_heapOf : ByteArray := prog_1_method_18_code
def yX11_heapOf : MethodName := ⟨RX11, "heapOf", "(I)I"⟩
abbrev cX11_name : ByteArray := prog_1_method_19_code
def yX11_name : MethodName := ⟨RX11, "name", "(I)I"⟩
abbrev cX11_nameAt : ByteArray := prog_1_method_20_code
def yX11_nameAt : MethodName := ⟨RX11, "nameAt", "(I)I"⟩
abbrev cX11_order : ByteArray := prog_1_method_21_code
def yX11_order : MethodName := ⟨RX11, "order", "(I)I"⟩
abbrev cX11_nodes : ByteArray := prog_1_method_22_code
def yX11_nodes : MethodName := ⟨RX11, "nodes", "()I"⟩
abbrev cX11_same : ByteArray := prog_1_method_23_code
def yX11_same : MethodName := ⟨RX11, "same", "(II)I"⟩
abbrev cX11_unlike : ByteArray := prog_1_method_24_code
def yX11_unlike : MethodName := ⟨RX11, "unlike", "(II)I"⟩
abbrev cX11_why : ByteArray := prog_1_method_25_code
def yX11_why : MethodName := ⟨RX11, "why", "(I)I"⟩
abbrev cX11_turnings : ByteArray := prog_1_method_26_code
def yX11_turnings : MethodName := ⟨RX11, "turnings", "(I)J"⟩
abbrev cX11_chain : ByteArray := prog_1_method_27_code
def yX11_chain : MethodName := ⟨RX11, "chain", "(II)I"⟩
abbrev cX11_where : ByteArray := prog_1_method_28_code
def yX11_where : MethodName := ⟨RX11, "where", "(III)I"⟩
abbrev cX11_orbit : ByteArray := prog_1_method_29_code
def yX11_orbit : MethodName := ⟨RX11, "orbit", "(II)I"⟩
abbrev cX11_by : ByteArray := prog_1_method_30_code
def yX11_by : MethodName := ⟨RX11, "by", "(I)I"⟩
abbrev cX11_makers : ByteArray := prog_1_method_31_code
def yX11_makers : MethodName := ⟨RX11, "makers", "(I)I"⟩
abbrev cX11_maker : ByteArray := prog_1_method_32_code
def yX11_maker : MethodName := ⟨RX11, "maker", "(II)I"⟩
abbrev cX11_then : ByteArray := prog_1_method_33_code
def yX11_then : MethodName := ⟨RX11, "then", "(I)I"⟩
abbrev cX11_list : ByteArray := prog_1_method_34_code
def yX11_list : MethodName := ⟨RX11, "list", "(II)I"⟩
abbrev cX11_listed : ByteArray := prog_1_method_35_code
def yX11_listed : MethodName := ⟨RX11, "listed", "(II)I"⟩
abbrev cX11_isBelow : ByteArray := prog_1_method_36_code
def yX11_isBelow : MethodName := ⟨RX11, "isBelow", "(II)Z"⟩
abbrev cX11_isNamedKind : ByteArray := prog_1_method_37_code
def yX11_isNamedKind : MethodName := ⟨RX11, "isNamedKind", "(I)Z"⟩
abbrev cX11_isGraph : ByteArray := prog_1_method_38_code
def yX11_isGraph : MethodName := ⟨RX11, "isGraph", "(I)Z"⟩
abbrev cX11_isThing : ByteArray := prog_1_method_39_code
def yX11_isThing : MethodName := ⟨RX11, "isThing", "(II)Z"⟩
abbrev cX11_keep : ByteArray := prog_1_method_40_code
def yX11_keep : MethodName := ⟨RX11, "keep", "(I)V"⟩
abbrev cX11_refusalOfTurnings : ByteArray := prog_1_method_41_code
def yX11_refusalOfTurnings : MethodName := ⟨RX11, "refusalOfTurnings", "(I)I"⟩
abbrev cX11_makePartings : ByteArray := prog_1_method_42_code
def yX11_makePartings : MethodName := ⟨RX11, "makePartings", "(I)[LSameBench$Parting;"⟩
def RX12 : String := "SameBenchModel"
def TX12 : u_T := fun k => match k with
  | 0 => ("SameBenchModel", "many", "[I", true)
  | 1 => ("SameBenchModel", "kinds", "[I", true)
  | 2 => ("SameBenchModel", "colours", "[I", true)
  | 3 => ("SameBenchModel", "words", "[I", true)
  | 4 => ("SameBenchModel", "lengths", "[I", true)
  | 5 => ("SameBenchModel", "rows", "[I", true)
  | 6 => ("SameBenchModel", "oldGraph", "[I", true)
  | 7 => ("SameBenchModel", "oldMany", "[I", true)
  | 8 => ("SameBenchModel", "oldKinds", "[I", true)
  | 9 => ("SameBenchModel", "oldColours", "[I", true)
  | 10 => ("SameBenchModel", "oldWords", "[I", true)
  | 11 => ("SameBenchModel", "oldLengths", "[I", true)
  | 12 => ("SameBenchModel", "oldRows", "[I", true)
  | 13 => ("SameBenchModel", "olds", "I", false)
  | 14 => ("SameBenchModel", "taken", "[I", true)
  | 15 => ("SameBenchModel", "n", "I", false)
  | 16 => ("SameBenchModel", "at", "[I", true)
  | 17 => ("SameBenchModel", "key", "[I", true)
  | 18 => ("SameBenchModel", "lines", "[I", true)
  | 19 => ("SameBenchModel", "heap", "[I", true)
  | 20 => ("SameBenchModel", "heaps", "[I", true)
  | 21 => ("SameBenchModel", "sights", "[I", true)
  | 22 => ("SameBenchModel", "sorted", "[I", true)
  | 23 => ("SameBenchModel", "hasParting", "Z", false)
  | 24 => ("SameBenchModel", "handN", "I", false)
  | 25 => ("SameBenchModel", "handAt", "[I", true)
  | 26 => ("SameBenchModel", "handLines", "[I", true)
  | 27 => ("SameBenchModel", "next", "[I", true)
  | 28 => ("SameBenchModel", "leaves", "I", false)
  | 29 => ("SameBenchModel", "treeNodes", "I", false)
  | 30 => ("SameBenchModel", "best", "[I", true)
  | 31 => ("SameBenchModel", "bestOrder", "[I", true)
  | 32 => ("SameBenchModel", "candidate", "[I", true)
  | 33 => ("SameBenchModel", "byHeap", "[I", true)
  | 34 => ("SameBenchModel", "hasName", "Z", false)
  | 35 => ("SameBenchModel", "name", "[I", true)
  | 36 => ("SameBenchModel", "nameOrder", "[I", true)
  | 37 => ("SameBenchModel", "nameNodes", "I", false)
  | 38 => ("SameBenchModel", "other", "[I", true)
  | 39 => ("SameBenchModel", "otherOrder", "[I", true)
  | 40 => ("SameBenchModel", "hasTurning", "Z", false)
  | 41 => ("SameBenchModel", "turning", "[I", true)
  | 42 => ("SameBenchModel", "hasWhy", "Z", false)
  | 43 => ("SameBenchModel", "why", "[I", true)
  | 44 => ("SameBenchModel", "firstKeys", "[I", true)
  | 45 => ("SameBenchModel", "firstSizes", "[I", true)
  | 46 => ("SameBenchModel", "theseKeys", "[I", true)
  | 47 => ("SameBenchModel", "theseSizes", "[I", true)
  | 48 => ("SameBenchModel", "image", "[I", true)
  | 49 => ("SameBenchModel", "makers", "I", false)
  | 50 => ("SameBenchModel", "maker", "[I", true)
  | 51 => ("SameBenchModel", "makerThings", "I", false)
  | 52 => ("SameBenchModel", "listed", "I", false)
  | 53 => ("SameBenchModel", "listThings", "I", false)
  | _ => ("SameBenchModel", "list", "[I", true)
def tyX12 : Nat → FieldType := fun k => match k with
  | 0 => .array .int
  | 1 => .array .int
  | 2 => .array .int
  | 3 => .array .int
  | 4 => .array .int
  | 5 => .array .int
  | 6 => .array .int
  | 7 => .array .int
  | 8 => .array .int
  | 9 => .array .int
  | 10 => .array .int
  | 11 => .array .int
  | 12 => .array .int
  | 13 => .int
  | 14 => .array .int
  | 15 => .int
  | 16 => .array .int
  | 17 => .array .int
  | 18 => .array .int
  | 19 => .array .int
  | 20 => .array .int
  | 21 => .array .int
  | 22 => .array .int
  | 23 => .boolean
  | 24 => .int
  | 25 => .array .int
  | 26 => .array .int
  | 27 => .array .int
  | 28 => .int
  | 29 => .int
  | 30 => .array .int
  | 31 => .array .int
  | 32 => .array .int
  | 33 => .array .int
  | 34 => .boolean
  | 35 => .array .int
  | 36 => .array .int
  | 37 => .int
  | 38 => .array .int
  | 39 => .array .int
  | 40 => .boolean
  | 41 => .array .int
  | 42 => .boolean
  | 43 => .array .int
  | 44 => .array .int
  | 45 => .array .int
  | 46 => .array .int
  | 47 => .array .int
  | 48 => .array .int
  | 49 => .int
  | 50 => .array .int
  | 51 => .int
  | 52 => .int
  | 53 => .int
  | _ => .array .int
abbrev wsX120 : List Cond := u_ws RX12 TX12 55
theorem nmX12 : ∀ a, a < 55 → ∀ b, b < 55 → a ≠ b → (TX12 a).2.1 ≠ (TX12 b).2.1 := by decide +kernel
theorem tyX12_ok : ∀ k, k < 55 → parseFieldDescriptor (TX12 k).2.2.1 = some (tyX12 k) := by decide +kernel
abbrev cX12_init : ByteArray := prog_14_method_1_code
def yX12_init : MethodName := ⟨RX12, "<init>", "()V"⟩
abbrev cX12_in : ByteArray := prog_14_method_2_code
def yX12_in : MethodName := ⟨RX12, "in", "(III)Z"⟩
abbrev cX12_isGraph : ByteArray := prog_14_method_3_code
def yX12_isGraph : MethodName := ⟨RX12, "isGraph", "(I)Z"⟩
abbrev cX12_isThing : ByteArray := prog_14_method_4_code
def yX12_isThing : MethodName := ⟨RX12, "isThing", "(II)Z"⟩
abbrev cX12_note : ByteArray := prog_14_method_5_code
def yX12_note : MethodName := ⟨RX12, "note", "(I)V"⟩
abbrev cX12_undo : ByteArray := prog_14_method_6_code
def yX12_undo : MethodName := ⟨RX12, "undo", "()I"⟩
abbrev cX12_isNamed : ByteArray := prog_14_method_7_code
def yX12_isNamed : MethodName := ⟨RX12, "isNamed", "(I)Z"⟩
abbrev cX12_thing : ByteArray := prog_14_method_8_code
def yX12_thing : MethodName := ⟨RX12, "thing", "(IIII)I"⟩
abbrev cX12_colour : ByteArray := prog_14_method_9_code
def yX12_colour : MethodName := ⟨RX12, "colour", "(III)I"⟩
abbrev cX12_word : ByteArray := prog_14_method_10_code
def yX12_word : MethodName := ⟨RX12, "word", "(III)I"⟩
abbrev cX12_row : ByteArray := prog_14_method_11_code
def yX12_row : MethodName := ⟨RX12, "row", "(III)I"⟩
abbrev cX12_unrow : ByteArray := prog_14_method_12_code
def yX12_unrow : MethodName := ⟨RX12, "unrow", "(II)I"⟩
abbrev cX12_place : ByteArray := prog_14_method_13_code
def yX12_place : MethodName := ⟨RX12, "place", "(IIII)I"⟩
abbrev cX12_lineOf : ByteArray := prog_14_method_14_code
def yX12_lineOf : MethodName := ⟨RX12, "lineOf", "(III)I"⟩
abbrev cX12_line : ByteArray := prog_14_method_15_code
def yX12_line : MethodName := ⟨RX12, "line", "(III)I"⟩
abbrev cX12_copy : ByteArray := prog_14_method_16_code
def yX12_copy : MethodName := ⟨RX12, "copy", "(IIIIIII)I"⟩
abbrev cX12_swap : ByteArray := prog_14_method_17_code
def yX12_swap : MethodName := ⟨RX12, "swap", "(III)I"⟩
abbrev cX12_exchange : ByteArray := prog_14_method_18_code
def yX12_exchange : MethodName := ⟨RX12, "exchange", "([III)V"⟩
abbrev cX12_twin : ByteArray := prog_14_method_19_code
def yX12_twin : MethodName := ⟨RX12, "twin", "(II)I"⟩
abbrev cX12_drop : ByteArray := prog_14_method_20_code
def yX12_drop : MethodName := ⟨RX12, "drop", "(I)I"⟩
abbrev cX12_keyOf : ByteArray := prog_14_method_21_code
def yX12_keyOf : MethodName := ⟨RX12, "keyOf", "(II)I"⟩
abbrev cX12_told : ByteArray := prog_14_method_22_code
def yX12_told : MethodName := ⟨RX12, "told", "(III)I"⟩
abbrev cX12_isRight : ByteArray := prog_14_method_23_code
def yX12_isRight : MethodName := ⟨RX12, "isRight", "(I)Z"⟩
abbrev cX12_shownOf : ByteArray := prog_14_method_24_code
def yX12_shownOf : MethodName := ⟨RX12, "shownOf", "(I)I"⟩
abbrev cX12_count : ByteArray := prog_14_method_25_code
def yX12_count : MethodName := ⟨RX12, "count", "(II)I"⟩
abbrev cX12_layOut : ByteArray := prog_14_method_26_code
def yX12_layOut : MethodName := ⟨RX12, "layOut", "(I)V"⟩
abbrev cX12_orderSights : ByteArray := prog_14_method_27_code
def yX12_orderSights : MethodName := ⟨RX12, "orderSights", "(III)I"⟩
abbrev cX12_gather : ByteArray := prog_14_method_28_code
def yX12_gather : MethodName := ⟨RX12, "gather", "(II)V"⟩
abbrev cX12_start : ByteArray := prog_14_method_29_code
def yX12_start : MethodName := ⟨RX12, "start", "(I)V"⟩
abbrev cX12_see : ByteArray := prog_14_method_30_code
def yX12_see : MethodName := ⟨RX12, "see", "(II)V"⟩
abbrev cX12_splitIn : ByteArray := prog_14_method_31_code
def yX12_splitIn : MethodName := ⟨RX12, "splitIn", "(I)V"⟩
abbrev cX12_isAlone : ByteArray := prog_14_method_32_code
def yX12_isAlone : MethodName := ⟨RX12, "isAlone", "(II)Z"⟩
abbrev cX12_markIn : ByteArray := prog_14_method_33_code
def yX12_markIn : MethodName := ⟨RX12, "markIn", "(II)V"⟩
abbrev cX12_split : ByteArray := prog_14_method_34_code
def yX12_split : MethodName := ⟨RX12, "split", "(I)I"⟩
abbrev cX12_handOf : ByteArray := prog_14_method_35_code
def yX12_handOf : MethodName := ⟨RX12, "handOf", "(I)I"⟩
abbrev cX12_mark : ByteArray := prog_14_method_36_code
def yX12_mark : MethodName := ⟨RX12, "mark", "(I)I"⟩
abbrev cX12_heapOf : ByteArray := prog_14_method_37_code
def yX12_heapOf : MethodName := ⟨RX12, "heapOf", "(I)I"⟩
abbrev cX12_areTwins : ByteArray := prog_14_method_38_code
def yX12_areTwins : MethodName := ⟨RX12, "areTwins", "(II)Z"⟩
abbrev cX12_targetOf : ByteArray := prog_14_method_39_code
def yX12_targetOf : MethodName := ⟨RX12, "targetOf", "(I)I"⟩
abbrev cX12_follows : ByteArray := prog_14_method_40_code
def yX12_follows : MethodName := ⟨RX12, "follows", "(III)Z"⟩
abbrev cX12_sizeOf : ByteArray := prog_14_method_41_code
def yX12_sizeOf : MethodName := ⟨RX12, "sizeOf", "(I)I"⟩
abbrev cX12_leaf : ByteArray := prog_14_method_42_code
def yX12_leaf : MethodName := ⟨RX12, "leaf", "(I)V"⟩
abbrev cX12_grow : ByteArray := prog_14_method_43_code
def yX12_grow : MethodName := ⟨RX12, "grow", "()Z"⟩
abbrev cX12_keepOther : ByteArray := prog_14_method_44_code
def yX12_keepOther : MethodName := ⟨RX12, "keepOther", "()V"⟩
abbrev cX12_name : ByteArray := prog_14_method_45_code
def yX12_name : MethodName := ⟨RX12, "name", "(I)I"⟩
abbrev cX12_nameAt : ByteArray := prog_14_method_46_code
def yX12_nameAt : MethodName := ⟨RX12, "nameAt", "(I)I"⟩
abbrev cX12_order : ByteArray := prog_14_method_47_code
def yX12_order : MethodName := ⟨RX12, "order", "(I)I"⟩
abbrev cX12_nodes : ByteArray := prog_14_method_48_code
def yX12_nodes : MethodName := ⟨RX12, "nodes", "()I"⟩
abbrev cX12_clearTurning : ByteArray := prog_14_method_49_code
def yX12_clearTurning : MethodName := ⟨RX12, "clearTurning", "()V"⟩
abbrev cX12_differsAt : ByteArray := prog_14_method_50_code
def yX12_differsAt : MethodName := ⟨RX12, "differsAt", "(I)I"⟩
abbrev cX12_growBoth : ByteArray := prog_14_method_51_code
def yX12_growBoth : MethodName := ⟨RX12, "growBoth", "(II)Z"⟩
abbrev cX12_same : ByteArray := prog_14_method_52_code
def yX12_same : MethodName := ⟨RX12, "same", "(II)I"⟩
abbrev cX12_unlikeBy : ByteArray := prog_14_method_53_code
def yX12_unlikeBy : MethodName := ⟨RX12, "unlikeBy", "(IIII)I"⟩
abbrev cX12_sumUp : ByteArray := prog_14_method_54_code
def yX12_sumUp : MethodName := ⟨RX12, "sumUp", "([I[I)V"⟩
abbrev cX12_unlike : ByteArray := prog_14_method_55_code
def yX12_unlike : MethodName := ⟨RX12, "unlike", "(II)I"⟩
abbrev cX12_why : ByteArray := prog_14_method_56_code
def yX12_why : MethodName := ⟨RX12, "why", "(I)I"⟩
abbrev cX12_mayGo : ByteArray := prog_14_method_57_code
def yX12_mayGo : MethodName := ⟨RX12, "mayGo", "(II)Z"⟩
abbrev cX12_find : ByteArray := prog_14_method_58_code
def yX12_find : MethodName := ⟨RX12, "find", "(III)Z"⟩
abbrev cX12_chainOf : ByteArray := prog_14_method_59_code
def yX12_chainOf : MethodName := ⟨RX12, "chainOf", "(I)I"⟩
abbrev cX12_turnings : ByteArray := prog_14_method_60_code
def yX12_turnings : MethodName := ⟨RX12, "turnings", "(I)J"⟩
abbrev cX12_chain : ByteArray := prog_14_method_61_code
def yX12_chain : MethodName := ⟨RX12, "chain", "(II)I"⟩
abbrev cX12_shownPlace : ByteArray := prog_14_method_62_code
def yX12_shownPlace : MethodName := ⟨RX12, "shownPlace", "(I)I"⟩
abbrev cX12_where : ByteArray := prog_14_method_63_code
def yX12_where : MethodName := ⟨RX12, "where", "(III)I"⟩
abbrev cX12_orbit : ByteArray := prog_14_method_64_code
def yX12_orbit : MethodName := ⟨RX12, "orbit", "(II)I"⟩
abbrev cX12_by : ByteArray := prog_14_method_65_code
def yX12_by : MethodName := ⟨RX12, "by", "(I)I"⟩
abbrev cX12_leads : ByteArray := prog_14_method_66_code
def yX12_leads : MethodName := ⟨RX12, "leads", "(II)Z"⟩
abbrev cX12_makers : ByteArray := prog_14_method_67_code
def yX12_makers : MethodName := ⟨RX12, "makers", "(I)I"⟩
abbrev cX12_maker : ByteArray := prog_14_method_68_code
def yX12_maker : MethodName := ⟨RX12, "maker", "(II)I"⟩
abbrev cX12_then : ByteArray := prog_14_method_69_code
def yX12_then : MethodName := ⟨RX12, "then", "(I)I"⟩
abbrev cX12_bitsOf : ByteArray := prog_14_method_70_code
def yX12_bitsOf : MethodName := ⟨RX12, "bitsOf", "(I)I"⟩
abbrev cX12_orderName : ByteArray := prog_14_method_71_code
def yX12_orderName : MethodName := ⟨RX12, "orderName", "(II)I"⟩
abbrev cX12_enter : ByteArray := prog_14_method_72_code
def yX12_enter : MethodName := ⟨RX12, "enter", "(I)V"⟩
abbrev cX12_list : ByteArray := prog_14_method_73_code
def yX12_list : MethodName := ⟨RX12, "list", "(II)I"⟩
abbrev cX12_listed : ByteArray := prog_14_method_74_code
def yX12_listed : MethodName := ⟨RX12, "listed", "(II)I"⟩
def RJ6 : String := "java/lang/Integer"
def TJ6 : u_T := fun k => match k with
  | _ => ("", "", "", false)
def tyJ6 : Nat → FieldType := fun k => match k with
  | _ => .int
abbrev wsJ60 : List Cond := u_ws RJ6 TJ6 0
theorem nmJ6 : ∀ a, a < 0 → ∀ b, b < 0 → a ≠ b → (TJ6 a).2.1 ≠ (TJ6 b).2.1 := by decide +kernel
theorem tyJ6_ok : ∀ k, k < 0 → parseFieldDescriptor (TJ6 k).2.2.1 = some (tyJ6 k) := by decide +kernel
abbrev cJ6_bitCount_0f7a4 : ByteArray := prog_15_method_49_code
def yJ6_bitCount_0f7a4 : MethodName := ⟨RJ6, "bitCount", "(I)I"⟩
def RJ9 : String := "java/lang/Math"
def TJ9 : u_T := fun k => match k with
  | _ => ("", "", "", false)
def tyJ9 : Nat → FieldType := fun k => match k with
  | _ => .int
abbrev wsJ90 : List Cond := u_ws RJ9 TJ9 0
theorem nmJ9 : ∀ a, a < 0 → ∀ b, b < 0 → a ≠ b → (TJ9 a).2.1 ≠ (TJ9 b).2.1 := by decide +kernel
theorem tyJ9_ok : ∀ k, k < 0 → parseFieldDescriptor (TJ9 k).2.2.1 = some (tyJ9 k) := by decide +kernel
abbrev cJ9_max_7cf53 : ByteArray := prog_16_method_65_code
def yJ9_max_7cf53 : MethodName := ⟨RJ9, "max", "(II)I"⟩
abbrev cJ9_min_7cf53 : ByteArray := prog_16_method_69_code
def yJ9_min_7cf53 : MethodName := ⟨RJ9, "min", "(II)I"⟩
def RJ10 : String := "java/lang/System"
def TJ10 : u_T := fun k => match k with
  | _ => ("", "", "", false)
def tyJ10 : Nat → FieldType := fun k => match k with
  | _ => .int
abbrev wsJ100 : List Cond := u_ws RJ10 TJ10 0
theorem nmJ10 : ∀ a, a < 0 → ∀ b, b < 0 → a ≠ b → (TJ10 a).2.1 ≠ (TJ10 b).2.1 := by decide +kernel
theorem tyJ10_ok : ∀ k, k < 0 → parseFieldDescriptor (TJ10 k).2.2.1 = some (tyJ10 k) := by decide +kernel
def RL : String := "SameBenchLaw"
abbrev cL_law : ByteArray := code
def yL_law : MethodName := ⟨RL, "law", "([I)Z"⟩
abbrev vwCl : List vw_C := [(RX0, TX0, 10), (RX1, TX1, 4), (RX2, TX2, 4), (RX3, TX3, 7), (RX4, TX4, 6), (RX5, TX5, 5), (RX6, TX6, 6), (RX7, TX7, 4), (RX8, TX8, 6), (RX9, TX9, 10), (RX10, TX10, 2), (RX11, TX11, 15), (RX12, TX12, 55)]
end
section
/-! ===== the core: a plain memory (a number for each cell and place), and the machine's instructions over it ===== -/
/-- a method: its class, its name, its code, how many locals, what it answers -/
abbrev zb_F : Type := String × MethodName × ByteArray × Nat × Option FieldType
/-- a value: 0 an int, 1 a long, 2 a cell's number (0: none), 3 the script -/
abbrev zb_V : Type := Nat × Int
/-- how many cells there are; of each its kind (0 .. 12 a class, 13 ints, 14 longs, 15 booleans, 16 .. 19 references) and its length -/
abbrev zb_S : Type := Nat × (Int → Nat × Nat)
/-- what the cells hold -/
abbrev zb_M : Type := Int → Int → Int
/-- what stays through the whole run: the base, the script's cell, the heap at the start, the classes' numbers, the arrays' classes -/
abbrev zb_G : Type := Nat × Nat × Heap × va_G × (Nat → ClassId)
def zb_kt : Nat → FieldType
  | 0 => .int
  | 1 => .long
  | 2 => .boolean
  | 3 => .object RX4
  | 4 => .object RX5
  | 5 => .object RX3
  | _ => .object RX10
def zb_tys (cy : Nat → ClassId) : List (ClassId × FieldType) := (List.range 7).map (fun t => (cy t, zb_kt t))
theorem zb_tys_at (cy : Nat → ClassId) {t : Nat} (h : t < 7) : (zb_tys cy)[t]? = some (cy t, zb_kt t) := by
  simp [zb_tys, List.getElem?_map, List.getElem?_range h]
def zb_rf (B : Nat) (i : Int) : Option Nat := if i ≤ 0 then none else some (B + (i - 1).toNat)
def zb_cv (G : zb_G) (v : zb_V) : Value := match v.1 with
  | 0 => .int (Int32.ofInt v.2)
  | 1 => .long (Int64.ofInt v.2)
  | 2 => va_rf (zb_rf G.1 v.2)
  | _ => .ref G.2.1
def zb_ft : FieldType → Nat
  | .object _ => 2
  | .array _ => 2
  | .long => 1
  | _ => 0
def zb_tyX : Nat → Nat → FieldType
  | 0 => tyX0
  | 1 => tyX1
  | 2 => tyX2
  | 3 => tyX3
  | 4 => tyX4
  | 5 => tyX5
  | 6 => tyX6
  | 7 => tyX7
  | 8 => tyX8
  | 9 => tyX9
  | 10 => tyX10
  | 11 => tyX11
  | _ => tyX12
def zb_tag (ci k : Nat) : Nat := zb_ft (zb_tyX ci k)
def zb_nf (ci : Nat) : Nat := match vwCl[ci]? with
  | some q => q.2.2
  | none => 0
def zb_ent (G : zb_G) (kl : Nat × Nat) (f : Int → Int) : va_E :=
  if kl.1 < 13 then .inr (kl.1, (List.range (zb_nf kl.1)).map (fun (k : Nat) => zb_cv G (zb_tag kl.1 k, f k)))
  else .inl (G.2.2.2.2 (kl.1 - 13), kl.2,
    if kl.1 = 14 then .inr (.inl (fun j : Nat => Int64.ofInt (f j)))
    else if kl.1 < 16 then .inl (fun j : Nat => Int32.ofInt (f j))
    else .inr (.inr (.inr (.inr (fun j : Nat => zb_rf G.1 (f j))))))
/-- where a cell lies -/
def zb_ad (G : zb_G) (a : Int) : Nat := G.1 + (a - 1).toNat
def zb_inI (x : Int) : Prop := -2147483648 ≤ x ∧ x ≤ 2147483647
def zb_inL (x : Int) : Prop := -9223372036854775808 ≤ x ∧ x ≤ 9223372036854775807
def zb_ok (t : Nat) (x : Int) : Prop := match t with
  | 0 => zb_inI x
  | 1 => zb_inL x
  | 2 => 1 ≤ x
  | _ => True
/-- what a place of a cell may hold -/
def zb_okm (t : Nat) (x : Int) : Prop := match t with
  | 0 => zb_inI x
  | 1 => zb_inL x
  | _ => True
def zb_st (kl : Nat × Nat) (k : Int) : Nat := if kl.1 < 13 then zb_tag kl.1 k.toNat else if kl.1 = 14 then 1 else if kl.1 < 16 then 0 else 2
def zb_can (S : zb_S) (m : zb_M) : Prop := ∀ a k : Int, zb_okm (zb_st (S.2 a) k) (m a k)
/-- the heap holds what the memory says, and below the base what was there at the start -/
def zb_H (G : zb_G) (S : zb_S) (m : zb_M) (H : Heap) : Prop :=
  H.size = G.1 + S.1 ∧ (∀ a : Int, 1 ≤ a → a ≤ S.1 → va_at G.2.2.2.1 vwCl (zb_ad G a, zb_ent G (S.2 a) (m a)) H) ∧ (∀ q : Nat, q < G.1 → H[q]? = G.2.2.1[q]?) ∧ zb_can S m ∧ G.2.2.1.size = G.1
abbrev zb_C : Type := Program × Launch × Env × Room × State × MethodId × Array Value × List Frame × Method × Code × (State → Prop)
/-- where a walk stands: what stays, the machine's frame, how deep calls may go, how many cells and slots may be new, what is to hold at the end -/
abbrev zb_X : Type := zb_G × zb_C × Nat × Nat × Nat × (Int → zb_S → zb_M → Prop)
def zb_ret (ret : Option FieldType) (ins : Instr) (st : List zb_V) (r : Int) : Prop :=
  (ret = none ∧ ins = .return_ ∧ st = [] ∧ r = 0) ∨ (ret = some .int ∧ ins = .ireturn ∧ st = [(0, r)]) ∨ (ret = some .boolean ∧ ins = .ireturn ∧ st = [(0, r)] ∧ (r = 0 ∨ r = 1)) ∨
  (ret = some .long ∧ ins = .lreturn ∧ st = [(1, r)]) ∨ (((∃ nm, ret = some (.object nm)) ∨ ∃ t, ret = some (.array t)) ∧ ins = .areturn ∧ st = [(2, r)] ∧ 1 ≤ r)
/-- the words that every method may lean on -/
def zb_all : List Cond := lw_tbl.filter goodWord
theorem zb_in {w : Cond} (i : Nat) (h : lw_tbl[i]? = some w) (g : goodWord w = true) : w ∈ zb_all := List.mem_filter.mpr ⟨List.mem_of_getElem? h, g⟩
def zb_isNest : Cond → Bool
  | .methodLinkNest .. => true
  | _ => false
def zb_nest : List Cond := tables_1.filter zb_isNest
theorem zb_inN {w : Cond} (i : Nat) (h : tables_1[i]? = some w) (g : zb_isNest w = true) : w ∈ zb_nest := List.mem_filter.mpr ⟨List.mem_of_getElem? h, g⟩
/-- the classes over which there are arrays of references -/
def zb_over : List String := [RX4, RX5, RX3, RX10]
def zb_tb (U : State) : Prop := (∀ w ∈ zb_nest, va_Nw w U) ∧ ∀ C ∈ zb_over, va_AO C U
def zb_ctx (F : zb_F) (X : zb_X) : Prop := match X with
  | (G, (p, l, e, R, s, mi, args, below, meth, c, Z), d, K, N, Q) =>
    p.tables.exec = Jvm.exec ∧ c.code = F.2.2.1 ∧ c.maxLocals = F.2.2.2.1 ∧ s.vm.findClass F.1 = some mi.cls ∧ (∀ w ∈ zb_all, w.before args s = true) ∧ va_K G.2.2.2.1 vwCl (zb_tys G.2.2.2.2) s ∧ zb_tb s ∧
    (F.2.1.name = "<init>" → meth.name = "<init>") ∧ d ≤ R.frames ∧ 64 * (d + 1) ≤ R.locals ∧ K ≤ R.cells ∧ N ≤ R.slots ∧
    (∀ (S : zb_S) (m : zb_M) (H : Heap) (locs : List Loc) (ls : Array Slot) (pc : Nat) (ins : Instr) (st : List zb_V) (r : Int) (k n : Nat), zb_H G S m H → (∀ q ∈ locs, G.1 ≤ q.base) → zb_ret F.2.2.2.2 ins st r → (∀ v ∈ st, zb_ok v.1 v.2) →
      decode F.2.2.1 pc = .ok (ins, 1) → k ≤ K → n ≤ N → Q r S m → W p l e R s mi args below meth c H locs k n Z (F0 mi pc ls (st.map (zb_cv G))))
def zb_lv (G : zb_G) (L : List (Nat × zb_V)) : List (Nat × Value) := L.map (fun q => (q.1, zb_cv G q.2))
/-- from here the walk comes to its end, with what is to hold there -/
def zb_WP (X : zb_X) (F : zb_F) (pc : Nat) (L : List (Nat × zb_V)) (st : List zb_V) (S : zb_S) (m : zb_M) (k n : Nat) : Prop := match X with
  | (G, (p, l, e, R, s, mi, args, below, meth, c, Z), d, K, N, Q) => zb_ctx F (G, (p, l, e, R, s, mi, args, below, meth, c, Z), d, K, N, Q) →
    ∀ (H : Heap) (locs : List Loc) (ls : Array Slot), zb_H G S m H → (∀ q ∈ locs, G.1 ≤ q.base) → lv_has ls F.2.2.2.1 (zb_lv G L) → (∀ q ∈ L, zb_ok q.2.1 q.2.2) → (∀ v ∈ st, zb_ok v.1 v.2) →
      W p l e R s mi args below meth c H locs k n Z (F0 mi pc ls (st.map (zb_cv G)))
/-- instructions that touch the stack alone -/
theorem zb_pure {X : zb_X} {F : zb_F} {pc pc' : Nat} {L : List (Nat × zb_V)} {st st' : List zb_V} {S : zb_S} {m : zb_M} {k n : Nat}
    (ho : (∀ q ∈ L, zb_ok q.2.1 q.2.2) → (∀ v ∈ st, zb_ok v.1 v.2) → ∀ v ∈ st', zb_ok v.1 v.2)
    (h : ∀ (G : zb_G) (p : Program) (l : Launch) (e : Env) (R : Room) (s : State) (mi : MethodId) (args : Array Value) (below : List Frame) (meth : Method) (c : Code) (Z : State → Prop) (H : Heap) (locs : List Loc) (ls : Array Slot),
      p.tables.exec = Jvm.exec → c.code = F.2.2.1 → s.vm.findClass F.1 = some mi.cls → (∀ w ∈ zb_all, w.before args s = true) → lv_has ls F.2.2.2.1 (zb_lv G L) → (∀ q ∈ L, zb_ok q.2.1 q.2.2) → (∀ v ∈ st, zb_ok v.1 v.2) →
      W p l e R s mi args below meth c H locs k n Z (F0 mi pc' ls (st'.map (zb_cv G))) → W p l e R s mi args below meth c H locs k n Z (F0 mi pc ls (st.map (zb_cv G))))
    (kk : zb_WP X F pc' L st' S m k n) : zb_WP X F pc L st S m k n := by
  obtain ⟨G, ⟨p, l, e, R, s, mi, args, below, meth, c, Z⟩, d, K, N, Q⟩ := X
  intro hC H locs ls hH hlo hL hLo hst
  have hC' := hC
  obtain ⟨hx, hb, hml, hown, hts, -⟩ := hC'
  exact h G p l e R s mi args below meth c Z H locs ls hx hb hown hts hL hLo hst (kk hC H locs ls hH hlo hL hLo (ho hLo hst))
section SBR
variable {X : zb_X} {F : zb_F} {pc : Nat} {L : List (Nat × zb_V)} {st : List zb_V} {S : zb_S} {m : zb_M} {k n : Nat}
theorem zb_ok_cons {v : zb_V} {st : List zb_V} (h1 : zb_ok v.1 v.2) (h2 : ∀ w ∈ st, zb_ok w.1 w.2) : ∀ w ∈ v :: st, zb_ok w.1 w.2 := List.forall_mem_cons.mpr ⟨h1, h2⟩
theorem zb_oki {x : Int} {st : List zb_V} (h1 : zb_inI x) (h2 : ∀ w ∈ st, zb_ok w.1 w.2) : ∀ w ∈ ((0, x) : zb_V) :: st, zb_ok w.1 w.2 := List.forall_mem_cons.mpr ⟨h1, h2⟩
theorem zb_okl {x : Int} {st : List zb_V} (h1 : zb_inL x) (h2 : ∀ w ∈ st, zb_ok w.1 w.2) : ∀ w ∈ ((1, x) : zb_V) :: st, zb_ok w.1 w.2 := List.forall_mem_cons.mpr ⟨h1, h2⟩
theorem zb_okt {v : zb_V} {st : List zb_V} (h : ∀ w ∈ v :: st, zb_ok w.1 w.2) : ∀ w ∈ st, zb_ok w.1 w.2 := (List.forall_mem_cons.mp h).2
theorem zb_okh {v : zb_V} {st : List zb_V} (h : ∀ w ∈ v :: st, zb_ok w.1 w.2) : zb_ok v.1 v.2 := (List.forall_mem_cons.mp h).1
theorem zb_iconst {i : Int} (hd : decode F.2.2.1 pc = .ok (.iconst i, 1)) (hi : zb_inI i) (kk : zb_WP X F (pc + 1) L ((0, i) :: st) S m k n) : zb_WP X F pc L st S m k n :=
  zb_pure (fun _ h => zb_oki hi h) (fun G p l e R s mi args below meth c Z H locs ls hx hb _ _ _ _ _ w => lv_iconst hx hb hd rfl w) kk
theorem zb_bipush {i : Int} (hd : decode F.2.2.1 pc = .ok (.bipush i, 2)) (hv : (Int8.ofInt i).toInt32 = Int32.ofInt i) (hi : zb_inI i) (kk : zb_WP X F (pc + 2) L ((0, i) :: st) S m k n) : zb_WP X F pc L st S m k n :=
  zb_pure (fun _ h => zb_oki hi h) (fun G p l e R s mi args below meth c Z H locs ls hx hb _ _ _ _ _ w => lv_bipush hx hb hd hv w) kk
theorem zb_sipush {i : Int} (hd : decode F.2.2.1 pc = .ok (.sipush i, 3)) (hv : (Int16.ofInt i).toInt32 = Int32.ofInt i) (hi : zb_inI i) (kk : zb_WP X F (pc + 3) L ((0, i) :: st) S m k n) : zb_WP X F pc L st S m k n :=
  zb_pure (fun _ h => zb_oki hi h) (fun G p l e R s mi args below meth c Z H locs ls hx hb _ _ _ _ _ w => lv_sipush hx hb hd hv w) kk
theorem zb_iadd {x y : Int} (hd : decode F.2.2.1 pc = .ok (.iadd, 1)) (hi : zb_inI (x + y)) (kk : zb_WP X F (pc + 1) L ((0, x + y) :: st) S m k n) : zb_WP X F pc L ((0, y) :: (0, x) :: st) S m k n :=
  zb_pure (fun _ h => zb_oki hi (zb_okt (zb_okt h))) (fun G p l e R s mi args below meth c Z H locs ls hx hb _ _ _ _ _ w => lv_iadd (x := Int32.ofInt x) (y := Int32.ofInt y) hx hb hd (by rw [← Int32.ofInt_add]; exact w)) kk
theorem zb_isub {x y : Int} (hd : decode F.2.2.1 pc = .ok (.isub, 1)) (hi : zb_inI (x - y)) (kk : zb_WP X F (pc + 1) L ((0, x - y) :: st) S m k n) : zb_WP X F pc L ((0, y) :: (0, x) :: st) S m k n :=
  zb_pure (fun _ h => zb_oki hi (zb_okt (zb_okt h))) (fun G p l e R s mi args below meth c Z H locs ls hx hb _ _ _ _ _ w => lv_isub (x := Int32.ofInt x) (y := Int32.ofInt y) hx hb hd (by rw [← Int32.ofInt_sub]; exact w)) kk
theorem zb_imul {x y : Int} (hd : decode F.2.2.1 pc = .ok (.imul, 1)) (hi : zb_inI (x * y)) (kk : zb_WP X F (pc + 1) L ((0, x * y) :: st) S m k n) : zb_WP X F pc L ((0, y) :: (0, x) :: st) S m k n :=
  zb_pure (fun _ h => zb_oki hi (zb_okt (zb_okt h))) (fun G p l e R s mi args below meth c Z H locs ls hx hb _ _ _ _ _ w => lv_imul (x := Int32.ofInt x) (y := Int32.ofInt y) hx hb hd (by rw [← Int32.ofInt_mul]; exact w)) kk
theorem zb_toI {x : Int} (h : zb_inI x) : (Int32.ofInt x).toInt = x := by
  obtain ⟨h1, h2⟩ := h
  rw [Int32.toInt_ofInt]
  unfold Int.bmod
  simp only [Int32.size]
  omega
theorem zb_eqI {x y : Int} (hx : zb_inI x) (hy : zb_inI y) : Int32.ofInt x = Int32.ofInt y ↔ x = y := by
  constructor
  · intro h
    rw [← zb_toI hx, ← zb_toI hy, h]
  · intro h
    rw [h]
theorem zb_leI {x y : Int} (hx : zb_inI x) (hy : zb_inI y) : Int32.ofInt x ≤ Int32.ofInt y ↔ x ≤ y := by
  rw [Int32.le_iff_toInt_le, zb_toI hx, zb_toI hy]
theorem zb_ltI {x y : Int} (hx : zb_inI x) (hy : zb_inI y) : Int32.ofInt x < Int32.ofInt y ↔ x < y := by
  rw [Int32.lt_iff_toInt_lt, zb_toI hx, zb_toI hy]
theorem zb_in0 : zb_inI 0 := by unfold zb_inI; omega
end SBR
section SBL
variable {X : zb_X} {F : zb_F} {pc : Nat} {L : List (Nat × zb_V)} {st : List zb_V} {S : zb_S} {m : zb_M} {k n : Nat}
theorem zb_okr {x : Int} {st : List zb_V} (h1 : 1 ≤ x) (h2 : ∀ w ∈ st, zb_ok w.1 w.2) : ∀ w ∈ ((2, x) : zb_V) :: st, zb_ok w.1 w.2 := List.forall_mem_cons.mpr ⟨h1, h2⟩
theorem zb_oks {x : Int} {st : List zb_V} (h2 : ∀ w ∈ st, zb_ok w.1 w.2) : ∀ w ∈ ((3, x) : zb_V) :: st, zb_ok w.1 w.2 := List.forall_mem_cons.mpr ⟨trivial, h2⟩
theorem zb_lv_at {G : zb_G} {ls : Array Slot} {nL j i : Nat} {v : zb_V} (h : lv_has ls nL (zb_lv G L)) (hl : L[j]? = some (i, v)) : ls[i]? = some (.val (zb_cv G v)) :=
  lv_at h j (by simp [zb_lv, List.getElem?_map, hl])
theorem zb_cvr {G : zb_G} {x : Int} (h : 1 ≤ x) : zb_cv G (2, x) = .ref (zb_ad G x) := by
  show va_rf (zb_rf G.1 x) = _
  unfold zb_rf
  rw [if_neg (by omega)]
  rfl
theorem zb_iload {i j : Nat} {x : Int} (hd : decode F.2.2.1 pc = .ok (.iload i, 2)) (hl : L[j]? = some (i, (0, x))) (kk : zb_WP X F (pc + 2) L ((0, x) :: st) S m k n) : zb_WP X F pc L st S m k n :=
  zb_pure (fun hL h => zb_oki (hL _ (List.mem_of_getElem? hl)) h) (fun G p l e R s mi args below meth c Z H locs ls hx hb _ _ hv _ _ w => lv_iload hx hb hd (zb_lv_at hv hl) w) kk
theorem zb_iload_n {q : Fin 4} {i j : Nat} {x : Int} (hd : decode F.2.2.1 pc = .ok (.iload_n q, 1)) (hq : (q : Nat) = i) (hl : L[j]? = some (i, (0, x))) (kk : zb_WP X F (pc + 1) L ((0, x) :: st) S m k n) : zb_WP X F pc L st S m k n :=
  zb_pure (fun hL h => zb_oki (hL _ (List.mem_of_getElem? hl)) h) (fun G p l e R s mi args below meth c Z H locs ls hx hb _ _ hv _ _ w => lv_iload_n hx hb hd hq (zb_lv_at hv hl) w) kk
theorem zb_lload {i j : Nat} {x : Int} (hd : decode F.2.2.1 pc = .ok (.lload i, 2)) (hl : L[j]? = some (i, (1, x))) (kk : zb_WP X F (pc + 2) L ((1, x) :: st) S m k n) : zb_WP X F pc L st S m k n :=
  zb_pure (fun hL h => zb_okl (hL _ (List.mem_of_getElem? hl)) h) (fun G p l e R s mi args below meth c Z H locs ls hx hb _ _ hv _ _ w => lv_lload hx hb hd (zb_lv_at hv hl) w) kk
theorem zb_lload_n {q : Fin 4} {i j : Nat} {x : Int} (hd : decode F.2.2.1 pc = .ok (.lload_n q, 1)) (hq : (q : Nat) = i) (hl : L[j]? = some (i, (1, x))) (kk : zb_WP X F (pc + 1) L ((1, x) :: st) S m k n) : zb_WP X F pc L st S m k n :=
  zb_pure (fun hL h => zb_okl (hL _ (List.mem_of_getElem? hl)) h) (fun G p l e R s mi args below meth c Z H locs ls hx hb _ _ hv _ _ w => lv_lload_n hx hb hd hq (zb_lv_at hv hl) w) kk
theorem zb_aload {i j : Nat} {x : Int} (hd : decode F.2.2.1 pc = .ok (.aload i, 2)) (hl : L[j]? = some (i, (2, x))) (kk : zb_WP X F (pc + 2) L ((2, x) :: st) S m k n) : zb_WP X F pc L st S m k n :=
  zb_pure (fun hL h => zb_okr (hL _ (List.mem_of_getElem? hl)) h) (fun G p l e R s mi args below meth c Z H locs ls hx hb _ _ hv hL _ w => by
    have h1 : 1 ≤ x := hL _ (List.mem_of_getElem? hl)
    have e := zb_cvr (G := G) h1
    rw [List.map_cons, e] at w
    exact lv_aload hx hb hd (e ▸ zb_lv_at hv hl) w) kk
theorem zb_aload_n {q : Fin 4} {i j : Nat} {x : Int} (hd : decode F.2.2.1 pc = .ok (.aload_n q, 1)) (hq : (q : Nat) = i) (hl : L[j]? = some (i, (2, x))) (kk : zb_WP X F (pc + 1) L ((2, x) :: st) S m k n) : zb_WP X F pc L st S m k n :=
  zb_pure (fun hL h => zb_okr (hL _ (List.mem_of_getElem? hl)) h) (fun G p l e R s mi args below meth c Z H locs ls hx hb _ _ hv hL _ w => by
    have h1 : 1 ≤ x := hL _ (List.mem_of_getElem? hl)
    have e := zb_cvr (G := G) h1
    rw [List.map_cons, e] at w
    exact lv_aload_n hx hb hd hq (e ▸ zb_lv_at hv hl) w) kk
theorem zb_aload_s {q : Fin 4} {i j : Nat} {x : Int} (hd : decode F.2.2.1 pc = .ok (.aload_n q, 1)) (hq : (q : Nat) = i) (hl : L[j]? = some (i, (3, x))) (kk : zb_WP X F (pc + 1) L ((3, x) :: st) S m k n) : zb_WP X F pc L st S m k n :=
  zb_pure (fun hL h => zb_oks h) (fun G p l e R s mi args below meth c Z H locs ls hx hb _ _ hv hL _ w => lv_aload_n hx hb hd hq (zb_lv_at hv hl) w) kk
/-- a local is written: what the locals are then -/
def zb_set (i : Nat) (v : zb_V) (L : List (Nat × zb_V)) : List (Nat × zb_V) := (i, v) :: L.filter (fun q => !(q.1 == i) && !(q.1 + 1 == i && q.2.1 == 1))
def zb_set2 (i : Nat) (v : zb_V) (L : List (Nat × zb_V)) : List (Nat × zb_V) := (i, v) :: L.filter (fun q => !(q.1 == i) && (!(q.1 == i + 1) && !(q.1 + 1 == i && q.2.1 == 1)))
theorem zb_cat (G : zb_G) (v : zb_V) : ((zb_cv G v).category == 2) = (v.1 == 1) := by
  obtain ⟨t, x⟩ := v
  match t with
  | 0 => rfl
  | 1 => rfl
  | 2 =>
    show ((va_rf (zb_rf G.1 x)).category == 2) = _
    cases zb_rf G.1 x <;> rfl
  | (t + 3) =>
    show ((Value.ref _).category == 2) = (t + 3 == 1)
    rfl
theorem zb_set_lv (G : zb_G) (i : Nat) (v : zb_V) (L : List (Nat × zb_V)) : zb_lv G (zb_set i v L) = (i, zb_cv G v) :: (zb_lv G L).filter (fun q => !(q.1 == i) && !(q.1 + 1 == i && q.2.category == 2)) := by
  unfold zb_lv zb_set
  rw [List.map_cons, List.filter_map]
  congr 2
  apply List.filter_congr
  intro q _
  simp only [Function.comp]
  rw [zb_cat]
theorem zb_set2_lv (G : zb_G) (i : Nat) (v : zb_V) (L : List (Nat × zb_V)) : zb_lv G (zb_set2 i v L) = (i, zb_cv G v) :: (zb_lv G L).filter (fun q => !(q.1 == i) && (!(q.1 == i + 1) && !(q.1 + 1 == i && q.2.category == 2))) := by
  unfold zb_lv zb_set2
  rw [List.map_cons, List.filter_map]
  congr 2
  apply List.filter_congr
  intro q _
  simp only [Function.comp]
  rw [zb_cat]
theorem zb_set_ok {i : Nat} {v : zb_V} (hv : zb_ok v.1 v.2) (hL : ∀ q ∈ L, zb_ok q.2.1 q.2.2) : ∀ q ∈ zb_set i v L, zb_ok q.2.1 q.2.2 := by
  intro q hq
  rcases List.mem_cons.mp hq with rfl | h
  · exact hv
  · exact hL q ((List.mem_filter.mp h).1)
theorem zb_set2_ok {i : Nat} {v : zb_V} (hv : zb_ok v.1 v.2) (hL : ∀ q ∈ L, zb_ok q.2.1 q.2.2) : ∀ q ∈ zb_set2 i v L, zb_ok q.2.1 q.2.2 := by
  intro q hq
  rcases List.mem_cons.mp hq with rfl | h
  · exact hv
  · exact hL q ((List.mem_filter.mp h).1)
/-- instructions that write a local -/
theorem zb_loc {pc' : Nat} {L' : List (Nat × zb_V)} {st' : List zb_V} (ho : (∀ q ∈ L, zb_ok q.2.1 q.2.2) → (∀ v ∈ st, zb_ok v.1 v.2) → (∀ q ∈ L', zb_ok q.2.1 q.2.2) ∧ ∀ v ∈ st', zb_ok v.1 v.2)
    (h : ∀ (G : zb_G) (p : Program) (l : Launch) (e : Env) (R : Room) (s : State) (mi : MethodId) (args : Array Value) (below : List Frame) (meth : Method) (c : Code) (Z : State → Prop) (H : Heap) (locs : List Loc) (ls : Array Slot),
      p.tables.exec = Jvm.exec → c.code = F.2.2.1 → lv_has ls F.2.2.2.1 (zb_lv G L) → (∀ q ∈ L, zb_ok q.2.1 q.2.2) → (∀ v ∈ st, zb_ok v.1 v.2) →
      (∀ ls' : Array Slot, lv_has ls' F.2.2.2.1 (zb_lv G L') → W p l e R s mi args below meth c H locs k n Z (F0 mi pc' ls' (st'.map (zb_cv G)))) → W p l e R s mi args below meth c H locs k n Z (F0 mi pc ls (st.map (zb_cv G))))
    (kk : zb_WP X F pc' L' st' S m k n) : zb_WP X F pc L st S m k n := by
  obtain ⟨G, ⟨p, l, e, R, s, mi, args, below, meth, c, Z⟩, d, K, N, Q⟩ := X
  intro hC H locs ls hH hlo hL hLo hst
  have hC' := hC
  obtain ⟨hx, hb, hml, hown, hts, -⟩ := hC'
  exact h G p l e R s mi args below meth c Z H locs ls hx hb hL hLo hst (fun ls' hL' => kk hC H locs ls' hH hlo hL' (ho hLo hst).1 (ho hLo hst).2)
variable {L' : List (Nat × zb_V)}
theorem zb_istore {i : Nat} {x : Int} (hd : decode F.2.2.1 pc = .ok (.istore i, 2)) (hn : i < F.2.2.2.1) (hl : zb_set i (0, x) L = L') (kk : zb_WP X F (pc + 2) L' st S m k n) : zb_WP X F pc L ((0, x) :: st) S m k n := by
  subst hl
  exact zb_loc (fun hL h => ⟨zb_set_ok (zb_okh h) hL, zb_okt h⟩) (fun G p l e R s mi args below meth c Z H locs ls hx hb hv _ _ w => lv_istore hx hb hd hv hn rfl (fun ls' h' => w ls' (by rw [zb_set_lv]; exact h'))) kk
theorem zb_istore_n {q : Fin 4} {i : Nat} {x : Int} (hd : decode F.2.2.1 pc = .ok (.istore_n q, 1)) (hq : (q : Nat) = i) (hn : i < F.2.2.2.1) (hl : zb_set i (0, x) L = L') (kk : zb_WP X F (pc + 1) L' st S m k n) : zb_WP X F pc L ((0, x) :: st) S m k n := by
  subst hl
  exact zb_loc (fun hL h => ⟨zb_set_ok (zb_okh h) hL, zb_okt h⟩) (fun G p l e R s mi args below meth c Z H locs ls hx hb hv _ _ w => lv_istore_n hx hb hd hq hv hn rfl (fun ls' h' => w ls' (by rw [zb_set_lv]; exact h'))) kk
theorem zb_lstore {i : Nat} {x : Int} (hd : decode F.2.2.1 pc = .ok (.lstore i, 2)) (hn : i + 1 < F.2.2.2.1) (hl : zb_set2 i (1, x) L = L') (kk : zb_WP X F (pc + 2) L' st S m k n) : zb_WP X F pc L ((1, x) :: st) S m k n := by
  subst hl
  exact zb_loc (fun hL h => ⟨zb_set2_ok (zb_okh h) hL, zb_okt h⟩) (fun G p l e R s mi args below meth c Z H locs ls hx hb hv _ _ w => lv_lstore hx hb hd hv hn rfl (fun ls' h' => w ls' (by rw [zb_set2_lv]; exact h'))) kk
theorem zb_lstore_n {q : Fin 4} {i : Nat} {x : Int} (hd : decode F.2.2.1 pc = .ok (.lstore_n q, 1)) (hq : (q : Nat) = i) (hn : i + 1 < F.2.2.2.1) (hl : zb_set2 i (1, x) L = L') (kk : zb_WP X F (pc + 1) L' st S m k n) : zb_WP X F pc L ((1, x) :: st) S m k n := by
  subst hl
  exact zb_loc (fun hL h => ⟨zb_set2_ok (zb_okh h) hL, zb_okt h⟩) (fun G p l e R s mi args below meth c Z H locs ls hx hb hv _ _ w => lv_lstore_n hx hb hd hq hv hn rfl (fun ls' h' => w ls' (by rw [zb_set2_lv]; exact h'))) kk
theorem zb_astore {i : Nat} {x : Int} (hd : decode F.2.2.1 pc = .ok (.astore i, 2)) (hn : i < F.2.2.2.1) (hl : zb_set i (2, x) L = L') (kk : zb_WP X F (pc + 2) L' st S m k n) : zb_WP X F pc L ((2, x) :: st) S m k n := by
  subst hl
  exact zb_loc (fun hL h => ⟨zb_set_ok (zb_okh h) hL, zb_okt h⟩) (fun G p l e R s mi args below meth c Z H locs ls hx hb hv _ ho w => by
    have h1 : 1 ≤ x := zb_okh ho
    rw [List.map_cons, zb_cvr h1]
    exact lv_astore hx hb hd hv hn rfl (fun ls' h' => w ls' (by rw [zb_set_lv, zb_cvr h1]; exact h'))) kk
theorem zb_astore_n {q : Fin 4} {i : Nat} {x : Int} (hd : decode F.2.2.1 pc = .ok (.astore_n q, 1)) (hq : (q : Nat) = i) (hn : i < F.2.2.2.1) (hl : zb_set i (2, x) L = L') (kk : zb_WP X F (pc + 1) L' st S m k n) : zb_WP X F pc L ((2, x) :: st) S m k n := by
  subst hl
  exact zb_loc (fun hL h => ⟨zb_set_ok (zb_okh h) hL, zb_okt h⟩) (fun G p l e R s mi args below meth c Z H locs ls hx hb hv _ ho w => by
    have h1 : 1 ≤ x := zb_okh ho
    rw [List.map_cons, zb_cvr h1]
    exact lv_astore_n hx hb hd hq hv hn rfl (fun ls' h' => w ls' (by rw [zb_set_lv, zb_cvr h1]; exact h'))) kk
theorem zb_iinc {i j : Nat} {d x : Int} (hd : decode F.2.2.1 pc = .ok (.iinc i d, 3)) (hj : L[j]? = some (i, (0, x))) (hi : zb_inI (x + d)) (hn : i < F.2.2.2.1) (hl : zb_set i (0, x + d) L = L') (kk : zb_WP X F (pc + 3) L' st S m k n) : zb_WP X F pc L st S m k n := by
  subst hl
  exact zb_loc (fun hL h => ⟨zb_set_ok (v := (0, x + d)) hi hL, h⟩) (fun G p l e R s mi args below meth c Z H locs ls hx hb hv _ _ w =>
    lv_iinc (x := Int32.ofInt x) (k := j) hx hb hd hv (by simp [zb_lv, List.getElem?_map, hj, zb_cv]) (Int32.ofInt_add x d).symm hn rfl (fun ls' h' => w ls' (by rw [zb_set_lv]; exact h'))) kk
/-- fewer locals, in another order -/
theorem zb_sub (ks : List Nat) (h : ks.filterMap (fun i => L[i]?) = L') (kk : zb_WP X F pc L' st S m k n) : zb_WP X F pc L st S m k n := by
  have hsub : ∀ q ∈ L', q ∈ L := by
    intro q hq
    rw [← h] at hq
    obtain ⟨i, -, hi⟩ := List.mem_filterMap.mp hq
    exact List.mem_of_getElem? hi
  obtain ⟨G, ⟨p, l, e, R, s, mi, args, below, meth, c, Z⟩, d, K, N, Q⟩ := X
  intro hC H locs ls hH hlo hL hLo hst
  exact kk hC H locs ls hH hlo ⟨hL.1, hL.2.1, fun q hq => by
    obtain ⟨z, hz, rfl⟩ := List.mem_map.mp hq
    exact hL.2.2 _ (List.mem_map.mpr ⟨z, hsub z hz, rfl⟩)⟩ (fun q hq => hLo q (hsub q hq)) hst
end SBL
end
section
/-! ===== branches ===== -/
section ZBB
variable {X : zb_X} {F : zb_F} {pc : Nat} {L : List (Nat × zb_V)} {st : List zb_V} {S : zb_S} {m : zb_M} {k n : Nat}
theorem zb_br {cond : Prop} {pt pf : Nat} {st' : List zb_V} (hs : (∀ v ∈ st, zb_ok v.1 v.2) → ∀ v ∈ st', zb_ok v.1 v.2)
    (h : ∀ (G : zb_G) (p : Program) (l : Launch) (e : Env) (R : Room) (s : State) (mi : MethodId) (args : Array Value) (below : List Frame) (meth : Method) (c : Code) (Z : State → Prop) (H : Heap) (locs : List Loc) (ls : Array Slot),
      p.tables.exec = Jvm.exec → c.code = F.2.2.1 → (∀ v ∈ st, zb_ok v.1 v.2) →
      (cond → W p l e R s mi args below meth c H locs k n Z (F0 mi pt ls (st'.map (zb_cv G)))) → (¬ cond → W p l e R s mi args below meth c H locs k n Z (F0 mi pf ls (st'.map (zb_cv G)))) → W p l e R s mi args below meth c H locs k n Z (F0 mi pc ls (st.map (zb_cv G))))
    (kt : cond → zb_WP X F pt L st' S m k n) (kf : ¬ cond → zb_WP X F pf L st' S m k n) : zb_WP X F pc L st S m k n := by
  obtain ⟨G, ⟨p, l, e, R, s, mi, args, below, meth, c, Z⟩, d, K, N, Q⟩ := X
  intro hC H locs ls hH hlo hL hLo hst
  have hC' := hC
  obtain ⟨hx, hb, hml, hown, hts, -⟩ := hC'
  exact h G p l e R s mi args below meth c Z H locs ls hx hb hst (fun q => kt q hC H locs ls hH hlo hL hLo (hs hst)) (fun q => kf q hC H locs ls hH hlo hL hLo (hs hst))
theorem zb_not2 {a b : Prop} (h : a ↔ b) : ¬ a ↔ ¬ b := by rw [h]
section
variable {x y : Int} {off : Int} {tgt : Nat}
theorem zb_icmp_eq (hd : decode F.2.2.1 pc = .ok (.if_icmp .eq off, 3)) (ht : (pc : Int) + off = (tgt : Int)) (kt : x = y → zb_WP X F tgt L st S m k n) (kf : ¬ x = y → zb_WP X F (pc + 3) L st S m k n) : zb_WP X F pc L ((0, y) :: (0, x) :: st) S m k n :=
  zb_br (fun h => zb_okt (zb_okt h)) (fun G p l e R s mi args below meth c Z H locs ls hx hb ho wt wf => lv_icmp_eq (x := Int32.ofInt x) (y := Int32.ofInt y) hx hb hd ht (fun q => wt ((zb_eqI (zb_okh (zb_okt ho)) (zb_okh ho)).mp q)) (fun q => wf (fun z => q ((zb_eqI (zb_okh (zb_okt ho)) (zb_okh ho)).mpr z)))) kt kf
theorem zb_icmp_ne (hd : decode F.2.2.1 pc = .ok (.if_icmp .ne off, 3)) (ht : (pc : Int) + off = (tgt : Int)) (kt : ¬ x = y → zb_WP X F tgt L st S m k n) (kf : x = y → zb_WP X F (pc + 3) L st S m k n) : zb_WP X F pc L ((0, y) :: (0, x) :: st) S m k n :=
  zb_br (cond := x = y) (fun h => zb_okt (zb_okt h)) (fun G p l e R s mi args below meth c Z H locs ls hx hb ho wt wf => lv_icmp_ne (x := Int32.ofInt x) (y := Int32.ofInt y) hx hb hd ht (fun q => wf (fun z => q ((zb_eqI (zb_okh (zb_okt ho)) (zb_okh ho)).mpr z))) (fun q => wt ((zb_eqI (zb_okh (zb_okt ho)) (zb_okh ho)).mp q))) kf kt
theorem zb_icmp_lt (hd : decode F.2.2.1 pc = .ok (.if_icmp .lt off, 3)) (ht : (pc : Int) + off = (tgt : Int)) (kt : x < y → zb_WP X F tgt L st S m k n) (kf : ¬ x < y → zb_WP X F (pc + 3) L st S m k n) : zb_WP X F pc L ((0, y) :: (0, x) :: st) S m k n :=
  zb_br (fun h => zb_okt (zb_okt h)) (fun G p l e R s mi args below meth c Z H locs ls hx hb ho wt wf => lv_icmp_lt (x := Int32.ofInt x) (y := Int32.ofInt y) hx hb hd ht (fun q => wt ((zb_ltI (zb_okh (zb_okt ho)) (zb_okh ho)).mp q)) (fun q => wf (fun z => q ((zb_ltI (zb_okh (zb_okt ho)) (zb_okh ho)).mpr z)))) kt kf
theorem zb_icmp_ge (hd : decode F.2.2.1 pc = .ok (.if_icmp .ge off, 3)) (ht : (pc : Int) + off = (tgt : Int)) (kt : y ≤ x → zb_WP X F tgt L st S m k n) (kf : ¬ y ≤ x → zb_WP X F (pc + 3) L st S m k n) : zb_WP X F pc L ((0, y) :: (0, x) :: st) S m k n :=
  zb_br (fun h => zb_okt (zb_okt h)) (fun G p l e R s mi args below meth c Z H locs ls hx hb ho wt wf => lv_icmp_ge (x := Int32.ofInt x) (y := Int32.ofInt y) hx hb hd ht (fun q => wt ((zb_leI (zb_okh ho) (zb_okh (zb_okt ho))).mp q)) (fun q => wf (fun z => q ((zb_leI (zb_okh ho) (zb_okh (zb_okt ho))).mpr z)))) kt kf
theorem zb_icmp_gt (hd : decode F.2.2.1 pc = .ok (.if_icmp .gt off, 3)) (ht : (pc : Int) + off = (tgt : Int)) (kt : y < x → zb_WP X F tgt L st S m k n) (kf : ¬ y < x → zb_WP X F (pc + 3) L st S m k n) : zb_WP X F pc L ((0, y) :: (0, x) :: st) S m k n :=
  zb_br (fun h => zb_okt (zb_okt h)) (fun G p l e R s mi args below meth c Z H locs ls hx hb ho wt wf => lv_icmp_gt (x := Int32.ofInt x) (y := Int32.ofInt y) hx hb hd ht (fun q => wt ((zb_ltI (zb_okh ho) (zb_okh (zb_okt ho))).mp q)) (fun q => wf (fun z => q ((zb_ltI (zb_okh ho) (zb_okh (zb_okt ho))).mpr z)))) kt kf
theorem zb_icmp_le (hd : decode F.2.2.1 pc = .ok (.if_icmp .le off, 3)) (ht : (pc : Int) + off = (tgt : Int)) (kt : x ≤ y → zb_WP X F tgt L st S m k n) (kf : ¬ x ≤ y → zb_WP X F (pc + 3) L st S m k n) : zb_WP X F pc L ((0, y) :: (0, x) :: st) S m k n :=
  zb_br (fun h => zb_okt (zb_okt h)) (fun G p l e R s mi args below meth c Z H locs ls hx hb ho wt wf => lv_icmp_le (x := Int32.ofInt x) (y := Int32.ofInt y) hx hb hd ht (fun q => wt ((zb_leI (zb_okh (zb_okt ho)) (zb_okh ho)).mp q)) (fun q => wf (fun z => q ((zb_leI (zb_okh (zb_okt ho)) (zb_okh ho)).mpr z)))) kt kf
theorem zb_if_eq (hd : decode F.2.2.1 pc = .ok (.ifCond .eq off, 3)) (ht : (pc : Int) + off = (tgt : Int)) (kt : x = 0 → zb_WP X F tgt L st S m k n) (kf : ¬ x = 0 → zb_WP X F (pc + 3) L st S m k n) : zb_WP X F pc L ((0, x) :: st) S m k n :=
  zb_br (fun h => zb_okt h) (fun G p l e R s mi args below meth c Z H locs ls hx hb ho wt wf => lv_if_eq (x := Int32.ofInt x) hx hb hd ht (fun q => wt ((zb_eqI (zb_okh ho) zb_in0).mp q)) (fun q => wf (fun z => q ((zb_eqI (zb_okh ho) zb_in0).mpr z)))) kt kf
theorem zb_if_ne (hd : decode F.2.2.1 pc = .ok (.ifCond .ne off, 3)) (ht : (pc : Int) + off = (tgt : Int)) (kt : ¬ x = 0 → zb_WP X F tgt L st S m k n) (kf : x = 0 → zb_WP X F (pc + 3) L st S m k n) : zb_WP X F pc L ((0, x) :: st) S m k n :=
  zb_br (cond := x = 0) (fun h => zb_okt h) (fun G p l e R s mi args below meth c Z H locs ls hx hb ho wt wf => lv_if_ne (x := Int32.ofInt x) hx hb hd ht (fun q => wf (fun z => q ((zb_eqI (zb_okh ho) zb_in0).mpr z))) (fun q => wt ((zb_eqI (zb_okh ho) zb_in0).mp q))) kf kt
theorem zb_if_lt (hd : decode F.2.2.1 pc = .ok (.ifCond .lt off, 3)) (ht : (pc : Int) + off = (tgt : Int)) (kt : x < 0 → zb_WP X F tgt L st S m k n) (kf : ¬ x < 0 → zb_WP X F (pc + 3) L st S m k n) : zb_WP X F pc L ((0, x) :: st) S m k n :=
  zb_br (fun h => zb_okt h) (fun G p l e R s mi args below meth c Z H locs ls hx hb ho wt wf => lv_if_lt (x := Int32.ofInt x) hx hb hd ht (fun q => wt ((zb_ltI (zb_okh ho) zb_in0).mp q)) (fun q => wf (fun z => q ((zb_ltI (zb_okh ho) zb_in0).mpr z)))) kt kf
theorem zb_if_ge (hd : decode F.2.2.1 pc = .ok (.ifCond .ge off, 3)) (ht : (pc : Int) + off = (tgt : Int)) (kt : 0 ≤ x → zb_WP X F tgt L st S m k n) (kf : ¬ 0 ≤ x → zb_WP X F (pc + 3) L st S m k n) : zb_WP X F pc L ((0, x) :: st) S m k n :=
  zb_br (fun h => zb_okt h) (fun G p l e R s mi args below meth c Z H locs ls hx hb ho wt wf => lv_if_ge (x := Int32.ofInt x) hx hb hd ht (fun q => wt ((zb_leI zb_in0 (zb_okh ho)).mp q)) (fun q => wf (fun z => q ((zb_leI zb_in0 (zb_okh ho)).mpr z)))) kt kf
theorem zb_if_gt (hd : decode F.2.2.1 pc = .ok (.ifCond .gt off, 3)) (ht : (pc : Int) + off = (tgt : Int)) (kt : 0 < x → zb_WP X F tgt L st S m k n) (kf : ¬ 0 < x → zb_WP X F (pc + 3) L st S m k n) : zb_WP X F pc L ((0, x) :: st) S m k n :=
  zb_br (fun h => zb_okt h) (fun G p l e R s mi args below meth c Z H locs ls hx hb ho wt wf => lv_if_gt (x := Int32.ofInt x) hx hb hd ht (fun q => wt ((zb_ltI zb_in0 (zb_okh ho)).mp q)) (fun q => wf (fun z => q ((zb_ltI zb_in0 (zb_okh ho)).mpr z)))) kt kf
theorem zb_if_le (hd : decode F.2.2.1 pc = .ok (.ifCond .le off, 3)) (ht : (pc : Int) + off = (tgt : Int)) (kt : x ≤ 0 → zb_WP X F tgt L st S m k n) (kf : ¬ x ≤ 0 → zb_WP X F (pc + 3) L st S m k n) : zb_WP X F pc L ((0, x) :: st) S m k n :=
  zb_br (fun h => zb_okt h) (fun G p l e R s mi args below meth c Z H locs ls hx hb ho wt wf => lv_if_le (x := Int32.ofInt x) hx hb hd ht (fun q => wt ((zb_leI (zb_okh ho) zb_in0).mp q)) (fun q => wf (fun z => q ((zb_leI (zb_okh ho) zb_in0).mpr z)))) kt kf
theorem zb_goto (hd : decode F.2.2.1 pc = .ok (.goto off, 3)) (ht : (pc : Int) + off = (tgt : Int)) (kk : zb_WP X F tgt L st S m k n) : zb_WP X F pc L st S m k n :=
  zb_pure (fun _ h => h) (fun G p l e R s mi args below meth c Z H locs ls hx hb _ _ _ _ _ w => lv_goto hx hb hd ht w) kk
theorem zb_tableIn {dflt lo hi : Int} {offs : Array Int} {len : Nat} (hd : decode F.2.2.1 pc = .ok (.tableswitch dflt lo hi offs, len)) (h1 : ¬ x < lo) (h2 : ¬ hi < x) (ho : offs[(x - lo).toNat]? = some off) (ht : (pc : Int) + off = (tgt : Int)) (kk : zb_WP X F tgt L st S m k n) : zb_WP X F pc L ((0, x) :: st) S m k n :=
  zb_pure (fun _ h => zb_okt h) (fun G p l e R s mi args below meth c Z H locs ls hx hb _ _ _ _ hs w => by
    have e := zb_toI (zb_okh hs)
    exact lv_tableIn (x := Int32.ofInt x) hx hb hd (by rw [e]; exact h1) (by rw [e]; exact h2) (by rw [e]; exact ho) ht w) kk
theorem zb_tableOut {dflt lo hi : Int} {offs : Array Int} {len : Nat} (hd : decode F.2.2.1 pc = .ok (.tableswitch dflt lo hi offs, len)) (h : x < lo ∨ hi < x) (ht : (pc : Int) + dflt = (tgt : Int)) (kk : zb_WP X F tgt L st S m k n) : zb_WP X F pc L ((0, x) :: st) S m k n :=
  zb_pure (fun _ h => zb_okt h) (fun G p l e R s mi args below meth c Z H locs ls hx hb _ _ _ _ hs w => by
    have e := zb_toI (zb_okh hs)
    exact lv_tableOut (x := Int32.ofInt x) hx hb hd (by rw [e]; exact h) ht w) kk
end
/-! ===== more of the stack ===== -/
theorem zb_dup {t : Nat} {x : Int} (hd : decode F.2.2.1 pc = .ok (.dup, 1)) (ht : (t == 1) = false) (kk : zb_WP X F (pc + 1) L ((t, x) :: (t, x) :: st) S m k n) : zb_WP X F pc L ((t, x) :: st) S m k n :=
  zb_pure (fun _ h => List.forall_mem_cons.mpr ⟨zb_okh h, h⟩) (fun G p l e R s mi args below meth c Z H locs ls hx hb _ _ _ _ _ w => lv_dup hx hb hd (by
    have h2 := zb_cat G (t, x)
    rw [show ((t, x) : zb_V).1 = t from rfl, ht] at h2
    have h3 : (zb_cv G (t, x)).category ≠ 2 := by simpa using h2
    cases h : zb_cv G (t, x) <;> simp_all [Value.category]) w) kk
theorem zb_pop {t : Nat} {x : Int} (hd : decode F.2.2.1 pc = .ok (.pop, 1)) (ht : (t == 1) = false) (kk : zb_WP X F (pc + 1) L st S m k n) : zb_WP X F pc L ((t, x) :: st) S m k n :=
  zb_pure (fun _ h => zb_okt h) (fun G p l e R s mi args below meth c Z H locs ls hx hb _ _ _ _ _ w => lv_pop hx hb hd (by
    have h2 := zb_cat G (t, x)
    rw [show ((t, x) : zb_V).1 = t from rfl, ht] at h2
    have h3 : (zb_cv G (t, x)).category ≠ 2 := by simpa using h2
    cases h : zb_cv G (t, x) <;> simp_all [Value.category]) w) kk
theorem zb_dup2 {x a : Int} (hd : decode F.2.2.1 pc = .ok (.dup2, 1)) (kk : zb_WP X F (pc + 1) L ((0, x) :: (2, a) :: (0, x) :: (2, a) :: st) S m k n) : zb_WP X F pc L ((0, x) :: (2, a) :: st) S m k n :=
  zb_pure (fun _ h => List.forall_mem_cons.mpr ⟨zb_okh h, List.forall_mem_cons.mpr ⟨zb_okh (zb_okt h), h⟩⟩) (fun G p l e R s mi args below meth c Z H locs ls hx hb _ _ _ _ ho w => by
    have h1 : 1 ≤ a := zb_okh (zb_okt ho)
    simp only [List.map_cons, zb_cvr h1] at w ⊢
    exact lv_dup2_11 hx hb hd rfl rfl w) kk
/-- whole numbers: division of what is not below 0 -/
theorem zb_toI64 {x : Int} (h : zb_inL x) : (Int64.ofInt x).toInt = x := by
  obtain ⟨h1, h2⟩ := h
  rw [Int64.toInt_ofInt]
  unfold Int.bmod
  simp only [Int64.size]
  omega
theorem zb_divI {x y : Int} (hx : zb_inI x) (hy : zb_inI y) (h0 : 0 ≤ x) (h1 : 0 < y) : Int32.ofInt x / Int32.ofInt y = Int32.ofInt (x / y) := by
  apply Int32.toInt_inj.mp
  have hd1 : 0 ≤ x / y := Int.ediv_nonneg h0 (by omega)
  have hd2 : x / y ≤ x := Int.ediv_le_self _ h0
  have hin : zb_inI (x / y) := ⟨by omega, by have := hx.2; omega⟩
  rw [Int32.toInt_div, zb_toI hx, zb_toI hy, zb_toI hin, Int.tdiv_eq_ediv_of_nonneg h0]
  have := hin.2
  unfold Int.bmod
  simp only [Int32.size] at *
  omega
theorem zb_idiv {x y : Int} (hd : decode F.2.2.1 pc = .ok (.idiv, 1)) (h0 : 0 ≤ x) (h1 : 0 < y) (kk : zb_WP X F (pc + 1) L ((0, x / y) :: st) S m k n) : zb_WP X F pc L ((0, y) :: (0, x) :: st) S m k n :=
  zb_pure (fun _ h => zb_oki (by
      have hx : zb_inI x := zb_okh (zb_okt h)
      have hd1 : 0 ≤ x / y := Int.ediv_nonneg h0 (by omega)
      have hd2 : x / y ≤ x := Int.ediv_le_self _ h0
      exact ⟨by omega, by have := hx.2; omega⟩) (zb_okt (zb_okt h))) (fun G p l e R s mi args below meth c Z H locs ls hx hb _ _ _ _ ho w =>
    lv_idiv (x := Int32.ofInt x) (y := Int32.ofInt y) hx hb hd (fun z => by
      have h2 := (zb_eqI (zb_okh ho) zb_in0).mp z
      omega) (by rw [zb_divI (zb_okh (zb_okt ho)) (zb_okh ho) h0 h1]; exact w)) kk
theorem zb_irem {x y : Int} (hd : decode F.2.2.1 pc = .ok (.irem, 1)) (h0 : 0 ≤ x) (h1 : 0 < y) (kk : zb_WP X F (pc + 1) L ((0, x % y) :: st) S m k n) : zb_WP X F pc L ((0, y) :: (0, x) :: st) S m k n :=
  zb_pure (fun _ h => zb_oki (by
      have hy : zb_inI y := zb_okh h
      have hd1 : 0 ≤ x % y := Int.emod_nonneg _ (by omega)
      have hd2 : x % y < y := Int.emod_lt_of_pos _ h1
      exact ⟨by omega, by have := hy.2; omega⟩) (zb_okt (zb_okt h))) (fun G p l e R s mi args below meth c Z H locs ls hx hb _ _ _ _ ho w =>
    lv_irem (x := Int32.ofInt x) (y := Int32.ofInt y) hx hb hd (fun z => by
      have h2 := (zb_eqI (zb_okh ho) zb_in0).mp z
      omega) (by
        rw [zb_divI (zb_okh (zb_okt ho)) (zb_okh ho) h0 h1, ← Int32.ofInt_mul, ← Int32.ofInt_sub]
        have e : x - x / y * y = x % y := by rw [Int.emod_def, Int.mul_comm]
        rw [e]; exact w)) kk
/-- bits: of 32-bit numbers -/
def zb_and (x y : Int) : Int := (Int32.ofInt x &&& Int32.ofInt y).toInt
def zb_or (x y : Int) : Int := (Int32.ofInt x ||| Int32.ofInt y).toInt
def zb_shl (x y : Int) : Int := (Int32.ofInt x <<< (Int32.ofInt y &&& 31)).toInt
def zb_shr (x y : Int) : Int := (Int32.ofInt x >>> (Int32.ofInt y &&& 31)).toInt
def zb_ushr (x y : Int) : Int := ((Int32.ofInt x).toUInt32 >>> ((Int32.ofInt y).toUInt32 &&& Int32.toUInt32 31)).toInt32.toInt
def zb_lshl (x y : Int) : Int := (Int64.ofInt x <<< ((Int32.ofInt y).toInt64 &&& 63)).toInt
theorem zb_inT (x : Int32) : zb_inI x.toInt := ⟨by have := x.le_toInt; omega, by have := x.toInt_lt; omega⟩
theorem zb_inT64 (x : Int64) : zb_inL x.toInt := ⟨by have := x.le_toInt; omega, by have := x.toInt_lt; omega⟩
theorem zb_iand {x y : Int} (hd : decode F.2.2.1 pc = .ok (.iand, 1)) (kk : zb_WP X F (pc + 1) L ((0, zb_and x y) :: st) S m k n) : zb_WP X F pc L ((0, y) :: (0, x) :: st) S m k n :=
  zb_pure (fun _ h => zb_oki (zb_inT _) (zb_okt (zb_okt h))) (fun G p l e R s mi args below meth c Z H locs ls hx hb _ _ _ _ _ w => lv_iand (x := Int32.ofInt x) (y := Int32.ofInt y) hx hb hd (by have e := Int32.ofInt_toInt (Int32.ofInt x &&& Int32.ofInt y); rw [← e]; exact w)) kk
theorem zb_ior {x y : Int} (hd : decode F.2.2.1 pc = .ok (.ior, 1)) (kk : zb_WP X F (pc + 1) L ((0, zb_or x y) :: st) S m k n) : zb_WP X F pc L ((0, y) :: (0, x) :: st) S m k n :=
  zb_pure (fun _ h => zb_oki (zb_inT _) (zb_okt (zb_okt h))) (fun G p l e R s mi args below meth c Z H locs ls hx hb _ _ _ _ _ w => lv_ior (x := Int32.ofInt x) (y := Int32.ofInt y) hx hb hd (by have e := Int32.ofInt_toInt (Int32.ofInt x ||| Int32.ofInt y); rw [← e]; exact w)) kk
theorem zb_ishl {x y : Int} (hd : decode F.2.2.1 pc = .ok (.ishl, 1)) (kk : zb_WP X F (pc + 1) L ((0, zb_shl x y) :: st) S m k n) : zb_WP X F pc L ((0, y) :: (0, x) :: st) S m k n :=
  zb_pure (fun _ h => zb_oki (zb_inT _) (zb_okt (zb_okt h))) (fun G p l e R s mi args below meth c Z H locs ls hx hb _ _ _ _ _ w => lv_ishl (x := Int32.ofInt x) (y := Int32.ofInt y) hx hb hd (by have e := Int32.ofInt_toInt (Int32.ofInt x <<< (Int32.ofInt y &&& 31)); rw [← e]; exact w)) kk
theorem zb_ishr {x y : Int} (hd : decode F.2.2.1 pc = .ok (.ishr, 1)) (kk : zb_WP X F (pc + 1) L ((0, zb_shr x y) :: st) S m k n) : zb_WP X F pc L ((0, y) :: (0, x) :: st) S m k n :=
  zb_pure (fun _ h => zb_oki (zb_inT _) (zb_okt (zb_okt h))) (fun G p l e R s mi args below meth c Z H locs ls hx hb _ _ _ _ _ w => lv_ishr (x := Int32.ofInt x) (y := Int32.ofInt y) hx hb hd (by have e := Int32.ofInt_toInt (Int32.ofInt x >>> (Int32.ofInt y &&& 31)); rw [← e]; exact w)) kk
theorem zb_iushr {x y : Int} (hd : decode F.2.2.1 pc = .ok (.iushr, 1)) (kk : zb_WP X F (pc + 1) L ((0, zb_ushr x y) :: st) S m k n) : zb_WP X F pc L ((0, y) :: (0, x) :: st) S m k n :=
  zb_pure (fun _ h => zb_oki (zb_inT _) (zb_okt (zb_okt h))) (fun G p l e R s mi args below meth c Z H locs ls hx hb _ _ _ _ _ w => lv_iushr (x := Int32.ofInt x) (y := Int32.ofInt y) hx hb hd (Int32.ofInt_toInt _).symm w) kk
theorem zb_ladd {x y : Int} (hd : decode F.2.2.1 pc = .ok (.ladd, 1)) (hi : zb_inL (x + y)) (kk : zb_WP X F (pc + 1) L ((1, x + y) :: st) S m k n) : zb_WP X F pc L ((1, y) :: (1, x) :: st) S m k n :=
  zb_pure (fun _ h => zb_okl hi (zb_okt (zb_okt h))) (fun G p l e R s mi args below meth c Z H locs ls hx hb _ _ _ _ _ w => lv_ladd (x := Int64.ofInt x) (y := Int64.ofInt y) hx hb hd (by rw [← Int64.ofInt_add]; exact w)) kk
theorem zb_lmul {x y : Int} (hd : decode F.2.2.1 pc = .ok (.lmul, 1)) (hi : zb_inL (x * y)) (kk : zb_WP X F (pc + 1) L ((1, x * y) :: st) S m k n) : zb_WP X F pc L ((1, y) :: (1, x) :: st) S m k n :=
  zb_pure (fun _ h => zb_okl hi (zb_okt (zb_okt h))) (fun G p l e R s mi args below meth c Z H locs ls hx hb _ _ _ _ _ w => lv_lmul (x := Int64.ofInt x) (y := Int64.ofInt y) hx hb hd (by rw [← Int64.ofInt_mul]; exact w)) kk
theorem zb_lshlr {x y : Int} (hd : decode F.2.2.1 pc = .ok (.lshl, 1)) (kk : zb_WP X F (pc + 1) L ((1, zb_lshl x y) :: st) S m k n) : zb_WP X F pc L ((0, y) :: (1, x) :: st) S m k n :=
  zb_pure (fun _ h => zb_okl (zb_inT64 _) (zb_okt (zb_okt h))) (fun G p l e R s mi args below meth c Z H locs ls hx hb _ _ _ _ _ w => lv_lshl (x := Int64.ofInt x) (y := Int32.ofInt y) hx hb hd (Int64.ofInt_toInt _).symm w) kk
theorem zb_i2l {x : Int} (hd : decode F.2.2.1 pc = .ok (.i2l, 1)) (kk : zb_WP X F (pc + 1) L ((1, x) :: st) S m k n) : zb_WP X F pc L ((0, x) :: st) S m k n :=
  zb_pure (fun _ h => zb_okl (by have h1 : zb_inI x := zb_okh h; exact ⟨by have := h1.1; omega, by have := h1.2; omega⟩) (zb_okt h)) (fun G p l e R s mi args below meth c Z H locs ls hx hb _ _ _ _ ho w => lv_i2l (x := Int32.ofInt x) hx hb hd (by
    apply Int64.toInt_inj.mp
    have h1 : zb_inI x := zb_okh ho
    rw [Int32.toInt_toInt64, zb_toI h1, zb_toI64 ⟨by have := h1.1; omega, by have := h1.2; omega⟩]) w) kk
theorem zb_lconst {q : Fin 2} {i : Int} (hd : decode F.2.2.1 pc = .ok (.lconst q, 1)) (hi : ((q : Nat) : Int) = i) (kk : zb_WP X F (pc + 1) L ((1, i) :: st) S m k n) : zb_WP X F pc L st S m k n := by
  subst hi
  exact zb_pure (fun _ h => zb_okl (by have := q.isLt; exact ⟨by omega, by omega⟩) h) (fun G p l e R s mi args below meth c Z H locs ls hx hb _ _ _ _ _ w => lv_lconst hx hb hd (by match q with | 0 => rfl | 1 => rfl) w) kk
theorem zb_ldc {index : Nat} {i : Int} (hd : decode F.2.2.1 pc = .ok (.ldc index, 2)) (hc : Jvm.Cond.constant F.1 index (Int32.ofInt i) ∈ zb_all) (hi : zb_inI i) (kk : zb_WP X F (pc + 2) L ((0, i) :: st) S m k n) : zb_WP X F pc L st S m k n :=
  zb_pure (fun _ h => zb_oki hi h) (fun G p l e R s mi args below meth c Z H locs ls hx hb hown hts _ _ _ w => lv_ldc hx hb hown (hts _ hc) hd w) kk
theorem zb_ldcw {index : Nat} {i : Int} (hd : decode F.2.2.1 pc = .ok (.ldc_w index, 3)) (hc : Jvm.Cond.constant F.1 index (Int32.ofInt i) ∈ zb_all) (hi : zb_inI i) (kk : zb_WP X F (pc + 3) L ((0, i) :: st) S m k n) : zb_WP X F pc L st S m k n :=
  zb_pure (fun _ h => zb_oki hi h) (fun G p l e R s mi args below meth c Z H locs ls hx hb hown hts _ _ _ w => lv_ldcw hx hb hown (hts _ hc) hd w) kk
theorem zb_ldc2 {index : Nat} {i : Int} (hd : decode F.2.2.1 pc = .ok (.ldc2_w index, 3)) (hc : Jvm.Cond.constantLong F.1 index (Int64.ofInt i) ∈ zb_all) (hi : zb_inL i) (kk : zb_WP X F (pc + 3) L ((1, i) :: st) S m k n) : zb_WP X F pc L st S m k n :=
  zb_pure (fun _ h => zb_okl hi h) (fun G p l e R s mi args below meth c Z H locs ls hx hb hown hts _ _ _ w => lv_ldc2 hx hb hown (hts _ hc) hd w) kk
end ZBB
end
section
/-! ===== cells ===== -/
def zb_is (S : zb_S) (a : Int) (kind : Nat) : Prop := 1 ≤ a ∧ a ≤ S.1 ∧ (S.2 a).1 = kind
def zb_len (S : zb_S) (a : Int) : Int := ((S.2 a).2 : Int)
def zb_up (m : zb_M) (a k v : Int) : zb_M := fun b j => if b = a ∧ j = k then v else m b j
theorem zb_up_same (m : zb_M) (a k v : Int) : zb_up m a k v a k = v := by simp [zb_up]
theorem zb_up_ne (m : zb_M) {a k v b j : Int} (h : b ≠ a ∨ j ≠ k) : zb_up m a k v b j = m b j := by
  unfold zb_up
  rw [if_neg]
  rintro ⟨h1, h2⟩
  rcases h with h | h
  · exact h h1
  · exact h h2
theorem zb_up_row (m : zb_M) {a k v b : Int} (h : b ≠ a) : zb_up m a k v b = m b := by
  funext j
  exact zb_up_ne m (Or.inl h)
def zb_TT (ci k : Nat) : String × String × String × Bool := match vwCl[ci]? with
  | some q => q.2.1 k
  | none => ("", "", "", false)
/-- what the tables say of a class -/
def zb_cl (ci : Nat) (q : vw_C) : Prop := vwCl[ci]? = some q ∧ (∀ w ∈ u_ws q.1 q.2.1 q.2.2, w ∈ zb_all) ∧ (∀ k, k < q.2.2 → parseFieldDescriptor (q.2.1 k).2.2.1 = some (zb_tyX ci k)) ∧ (∀ a, a < q.2.2 → ∀ b, b < q.2.2 → a ≠ b → (q.2.1 a).2.1 ≠ (q.2.1 b).2.1) ∧ ci < 13
/-- what the tables say of a field's link -/
def zb_fl (own : String) (index ci k : Nat) : Prop := ∃ q : vw_C, zb_cl ci q ∧ k < q.2.2 ∧ Cond.fieldLink own index (q.2.1 k).1 (q.2.1 k).2.1 (q.2.1 k).2.2.1 ∈ zb_all
theorem zb_P1 {D : va_G} {cl : List vw_C} {H : Heap} {a : Nat} {e : va_E} (h : va_at D cl (a, e) H) : va_P D cl [(a, e)] H := by
  intro k q hk
  match k with
  | 0 =>
    simp only [List.getElem?_cons_zero, Option.some.injEq] at hk
    subst hk
    exact h
  | k + 1 => simp at hk
theorem zb_nf_of {ci : Nat} {q : vw_C} (h : vwCl[ci]? = some q) : zb_nf ci = q.2.2 := by
  unfold zb_nf
  rw [h]
theorem zb_ent_obj (G : zb_G) {kl : Nat × Nat} {ci : Nat} (h : kl.1 = ci) (hc : ci < 13) (f : Int → Int) : zb_ent G kl f = .inr (ci, (List.range (zb_nf ci)).map (fun (k : Nat) => zb_cv G (zb_tag ci k, f k))) := by
  subst h
  unfold zb_ent
  rw [if_pos hc]
theorem zb_fs_at (G : zb_G) (ci : Nat) (f : Int → Int) {k : Nat} (h : k < zb_nf ci) : ((List.range (zb_nf ci)).map (fun (k : Nat) => zb_cv G (zb_tag ci k, f k)))[k]? = some (zb_cv G (zb_tag ci k, f k)) := by
  rw [List.getElem?_map, List.getElem?_range h]
  rfl
section ZBM
variable {X : zb_X} {F : zb_F} {pc : Nat} {L : List (Nat × zb_V)} {st : List zb_V} {S : zb_S} {m : zb_M} {k n : Nat}
/-- a field is read -/
theorem zb_getf {index ci j t : Nat} {a : Int} (hd : decode F.2.2.1 pc = .ok (.getfield index, 3)) (hf : zb_fl F.1 index ci j) (ht : zb_tag ci j = t) (ha : zb_is S a ci) (hn : t = 2 → 1 ≤ m a j) (kk : zb_WP X F (pc + 3) L ((t, m a j) :: st) S m k n) : zb_WP X F pc L ((2, a) :: st) S m k n := by
  obtain ⟨G, ⟨p, l, e, R, s, mi, args, below, meth, c, Z⟩, d, K, N, Q⟩ := X
  intro hC H locs ls hH hlo hL hLo hst
  have hC' := hC
  obtain ⟨hx, hb, hml, hown, hts, hK, -⟩ := hC'
  obtain ⟨q, ⟨hc, hin, hty, hnm, hci⟩, hk, hlink⟩ := hf
  obtain ⟨h1, h2, h3⟩ := ha
  have hnf := zb_nf_of hc
  have hat := hH.2.1 a h1 h2
  rw [zb_ent_obj G h3 hci] at hat
  have hcan : zb_okm t (m a j) := by
    have h := hH.2.2.2.1 a j
    unfold zb_st at h
    rw [h3, if_pos hci, Int.toNat_natCast, ht] at h
    exact h
  have hok : zb_ok t (m a j) := by
    unfold zb_okm at hcan
    unfold zb_ok
    match t, hcan, hn with
    | 0, h, _ => exact h
    | 1, h, _ => exact h
    | 2, _, h => exact h rfl
    | (t + 3), _, _ => trivial
  rw [List.map_cons, zb_cvr h1]
  refine va_get (ws := [(zb_ad G a, _)]) (D := G.2.2.2.1) (ci := ci) (C := q.1) (T := q.2.1) (N := q.2.2) hx hb hts hin hown hK (zb_P1 hat) 0 rfl hc j hk (hts _ hlink) (fun _ h => h) (zb_fs_at G ci (m a) (by rw [hnf]; exact hk)) hd ?_
  rw [ht]
  exact kk hC H locs ls hH hlo hL hLo (List.forall_mem_cons.mpr ⟨hok, zb_okt hst⟩)
theorem zb_H_set {G : zb_G} {S : zb_S} {m m' : zb_M} {H H' : Heap} {a : Int} (h : zb_H G S m H) (h1 : 1 ≤ a) (he : va_at G.2.2.2.1 vwCl (zb_ad G a, zb_ent G (S.2 a) (m' a)) H') (hz : H'.size = H.size) (ho : ∀ q, q ≠ zb_ad G a → H'[q]? = H[q]?) (hm : ∀ b, b ≠ a → m' b = m b) (hc : ∀ k, zb_okm (zb_st (S.2 a) k) (m' a k)) : zb_H G S m' H' := by
  obtain ⟨g1, g2, g3, g4, g5⟩ := h
  refine ⟨by rw [hz]; exact g1, fun b hb1 hb2 => ?_, fun q hq => ?_, fun b j => ?_, g5⟩
  · by_cases hba : b = a
    · subst hba
      exact he
    · rw [hm b hba]
      refine va_at.kept (g2 b hb1 hb2) (ho _ ?_)
      unfold zb_ad
      omega
  · rw [ho q (by unfold zb_ad; omega)]
    exact g3 q hq
  · by_cases hba : b = a
    · subst hba
      exact hc j
    · rw [hm b hba]
      exact g4 b j
theorem zb_fs_set (G : zb_G) (ci : Nat) (m : zb_M) (a : Int) {j : Nat} {t : Nat} {v : Int} (ht : zb_tag ci j = t) : ((List.range (zb_nf ci)).map (fun (k : Nat) => zb_cv G (zb_tag ci k, m a k))).set j (zb_cv G (t, v)) = (List.range (zb_nf ci)).map (fun (k : Nat) => zb_cv G (zb_tag ci k, zb_up m a j v a k)) := by
  apply List.ext_getElem?
  intro i
  rw [List.getElem?_set]
  by_cases hi : j = i
  · subst hi
    rw [if_pos rfl]
    by_cases hl : j < zb_nf ci
    · rw [if_pos (by simpa using hl), zb_fs_at G ci (zb_up m a j v a) hl, zb_up_same, ht]
    · rw [if_neg (by simpa using hl)]
      symm
      apply List.getElem?_eq_none
      simpa using hl
  · rw [if_neg hi, List.getElem?_map, List.getElem?_map]
    by_cases hl : i < zb_nf ci
    · rw [List.getElem?_range hl]
      simp only [Option.map_some]
      rw [zb_up_ne m (Or.inr (by omega))]
    · rw [List.getElem?_eq_none (by simpa using hl)]
      rfl
/-- what may be put into a field -/
def zb_fit (ty : FieldType) (v : Int) : Prop := ty = .int ∨ (ty = .boolean ∧ (v = 0 ∨ v = 1)) ∨ zb_ft ty = 2
theorem zb_narrow {G : zb_G} {ty : FieldType} {v : Int} (hf : zb_fit ty v) (hv : zb_ft ty = 2 → 1 ≤ v) : narrow ty (zb_cv G (zb_ft ty, v)) = zb_cv G (zb_ft ty, v) ∧ fits ty (zb_cv G (zb_ft ty, v)) = true := by
  rcases hf with rfl | ⟨rfl, rfl | rfl⟩ | h
  · exact ⟨rfl, rfl⟩
  · exact ⟨rfl, rfl⟩
  · exact ⟨rfl, rfl⟩
  · have h1 := hv h
    rw [h, zb_cvr h1]
    cases ty <;> simp_all [zb_ft, narrow, fits]
/-- a field is written -/
theorem zb_putf {index ci j t : Nat} {a v : Int} (hd : decode F.2.2.1 pc = .ok (.putfield index, 3)) (hf : zb_fl F.1 index ci j) (ht : zb_tag ci j = t) (hfin : (zb_TT ci j).2.2.2 = false ∨ ((zb_TT ci j).2.2.2 = true ∧ F.2.1.name = "<init>" ∧ (zb_TT ci j).1 = F.1)) (ha : zb_is S a ci) (hfit : zb_fit (zb_tyX ci j) v) (kk : zb_WP X F (pc + 3) L st S (zb_up m a j v) k n) : zb_WP X F pc L ((t, v) :: (2, a) :: st) S m k n := by
  obtain ⟨G, ⟨p, l, e, R, s, mi, args, below, meth, c, Z⟩, d, K, N, Q⟩ := X
  intro hC H locs ls hH hlo hL hLo hst
  have hC' := hC
  obtain ⟨hx, hb, hml, hown, hts, hK, -, hini, -⟩ := hC'
  obtain ⟨q, ⟨hc, hin, hty, hnm, hci⟩, hk, hlink⟩ := hf
  obtain ⟨h1, h2, h3⟩ := ha
  have hnf := zb_nf_of hc
  have hTT : zb_TT ci j = q.2.1 j := by unfold zb_TT; rw [hc]
  rw [hTT] at hfin
  have hat := hH.2.1 a h1 h2
  rw [zb_ent_obj G h3 hci] at hat
  have hokv : zb_ok t v := zb_okh hst
  have hnv : zb_ft (zb_tyX ci j) = 2 → 1 ≤ v := fun h => by
    have e2 : t = 2 := by rw [← ht]; exact h
    subst e2
    exact hokv
  have hap := va_apart (own := F.1) hts hin (zb_tyX ci) hty hnm hK hc
  have hat0 := hat
  obtain ⟨r, g1, cell, q1, q2, q3, q4⟩ := hat
  have hr : r = q := Option.some.inj (g1.symm.trans hc)
  subst hr
  obtain ⟨hS, hfc, kC, hkC, hkind⟩ := hK.1 ci _ hc
  obtain ⟨cf, kf, fi, f, hi, hsl⟩ := hS j hk
  have hlay := hts _ (hin _ (u_in_lay hk))
  unfold u_lay at hlay
  have hst2 := (u_facts hfc hkC (u_lays hts hin hk) hi).1
  have htt : zb_ft (zb_tyX ci j) = t := ht
  have hnr := zb_narrow (G := G) hfit hnv
  rw [htt] at hnr
  have hfin' : ∀ H' : Heap, H'[zb_ad G a]? = some (cell.setSlot f.slot (zb_cv G (t, v))) → H'.size = H.size → (∀ z, z ≠ zb_ad G a → H'[z]? = H[z]?) → zb_H G S (zb_up m a j v) H' := by
    intro H' e1 e2 e3
    refine zb_H_set hH h1 ?_ e2 e3 (fun b hb => zb_up_row m hb) (fun i => ?_)
    · rw [zb_ent_obj G h3 hci, ← zb_fs_set G ci m a ht]
      rw [hsl] at e1
      exact ⟨_, hc, t_OB.to (V := updV (vp_V _) j (zb_cv G (t, v))) ⟨_, e1, q2, q3, t_set q4 hap hk (zb_cv G (t, v))⟩ (fun i _ => vp_updV_set (by simp [hnf]; exact hk) _ i)⟩
    · by_cases hij : i = (j : Int)
      · subst hij
        rw [zb_up_same]
        unfold zb_st
        rw [h3, if_pos hci, Int.toNat_natCast, ht]
        unfold zb_ok at hokv
        unfold zb_okm
        match t, hokv with
        | 0, h => exact h
        | 1, h => exact h
        | 2, h => trivial
        | (t + 3), _ => trivial
      · rw [zb_up_ne m (Or.inr hij)]
        exact hH.2.2.2.1 a i
  have hlo' : ∀ z ∈ locs ++ [⟨zb_ad G a, f.slot⟩], G.1 ≤ z.base := by
    intro z hz
    rcases List.mem_append.mp hz with h | h
    · exact hlo z h
    · rw [List.mem_singleton.mp h]
      exact Nat.le_add_right _ _
  simp only [List.map_cons, zb_cvr h1]
  rcases hfin with hfin | ⟨hfin, hinit, hdecl⟩
  · rw [if_neg (by rw [hfin]; decide)] at hlay
    have h6 := u_store hfc hkC hkind hlay hi (hty j hk) hnr.1 hnr.2
    refine W.putK hx hb (f := f) ⟨hown, hts _ hlink, ⟨_, _, _, hi⟩, hst2⟩ (by rw [q2]; exact h6) q1 q3 (by rw [hsl]; exact k2_hasslot (q4 j hk)) rfl rfl hd fun H' e1 e2 e3 => ?_
    exact kk hC H' _ ls (hfin' H' e1 e2 e3) hlo' hL hLo (zb_okt (zb_okt hst))
  · rw [if_pos hfin] at hlay
    have hcf : mi.cls = cf := by
      obtain ⟨_, _, c', _, _, _, -, -, hf', -, -, -, hown2, -⟩ := Cond.laysFinal_spec hlay
      have e1 : c' = cf := by have := hi.symm.trans hf'; simp at this; exact this.1.symm
      rw [hdecl] at hown2
      rw [← e1]; exact Option.some.inj (hown.symm.trans hown2)
    have h6 := u_fits hfc hkC hkind (Or.inr hlay) hi (hty j hk) hnr.1 hnr.2
    refine W.putFinK hx hb hown (hts _ hlink) hi hst2 hcf (hini hinit) (by rw [q2]; exact h6) q1 q3 (by rw [hsl]; exact k2_hasslot (q4 j hk)) rfl rfl hd fun H' e1 e2 e3 => ?_
    exact kk hC H' _ ls (hfin' H' e1 e2 e3) hlo' hL hLo (zb_okt (zb_okt hst))
end ZBM
end
section
/-! ===== arrays ===== -/
theorem zb_c32 {x : Int} (h : zb_inI x) : (Int32.ofInt x).toNatClampNeg = x.toNat := by
  show (Int32.ofInt x).toInt.toNat = _
  rw [zb_toI h]
theorem zb_vpin {x : Int} {n : Nat} (h : zb_inI x) (h0 : 0 ≤ x) (h1 : x < n) : vp_in (Int32.ofInt x) n := by
  unfold vp_in
  rw [zb_c32 h]
  rintro (q | q)
  · have := (zb_ltI h zb_in0).mp q
    omega
  · omega
theorem zb_ent_i (G : zb_G) {kl : Nat × Nat} (h : kl.1 = 13) (f : Int → Int) : zb_ent G kl f = .inl (G.2.2.2.2 0, kl.2, .inl (fun j : Nat => Int32.ofInt (f j))) := by
  unfold zb_ent
  rw [h]
  rfl
theorem zb_ent_l (G : zb_G) {kl : Nat × Nat} (h : kl.1 = 14) (f : Int → Int) : zb_ent G kl f = .inl (G.2.2.2.2 1, kl.2, .inr (.inl (fun j : Nat => Int64.ofInt (f j)))) := by
  unfold zb_ent
  rw [h]
  rfl
theorem zb_ent_z (G : zb_G) {kl : Nat × Nat} (h : kl.1 = 15) (f : Int → Int) : zb_ent G kl f = .inl (G.2.2.2.2 2, kl.2, .inl (fun j : Nat => Int32.ofInt (f j))) := by
  unfold zb_ent
  rw [h]
  rfl
theorem zb_ent_q (G : zb_G) {kl : Nat × Nat} {t : Nat} (h : kl.1 = 13 + t) (ht : 3 ≤ t) (f : Int → Int) : zb_ent G kl f = .inl (G.2.2.2.2 t, kl.2, .inr (.inr (.inr (.inr (fun j : Nat => zb_rf G.1 (f j)))))) := by
  unfold zb_ent
  rw [if_neg (by omega), if_neg (by omega), if_neg (by omega), show kl.1 - 13 = t by omega]
theorem zb_kt_q {t : Nat} (ht : 3 ≤ t) : ∃ C, zb_kt t = .object C := by
  match t, ht with
  | 3, _ => exact ⟨_, rfl⟩
  | 4, _ => exact ⟨_, rfl⟩
  | 5, _ => exact ⟨_, rfl⟩
  | (t + 6), _ => exact ⟨_, rfl⟩
section ZBA
variable {X : zb_X} {F : zb_F} {pc : Nat} {L : List (Nat × zb_V)} {st : List zb_V} {S : zb_S} {m : zb_M} {k n : Nat}
theorem zb_iald {a i : Int} (hd : decode F.2.2.1 pc = .ok (.iaload, 1)) (ha : zb_is S a 13) (h0 : 0 ≤ i) (hi : i < zb_len S a) (kk : zb_WP X F (pc + 1) L ((0, m a i) :: st) S m k n) : zb_WP X F pc L ((0, i) :: (2, a) :: st) S m k n := by
  obtain ⟨G, ⟨p, l, e, R, s, mi, args, below, meth, c, Z⟩, d, K, N, Q⟩ := X
  intro hC H locs ls hH hlo hL hLo hst
  have hC' := hC
  obtain ⟨hx, hb, hml, hown, hts, hK, -⟩ := hC'
  obtain ⟨h1, h2, h3⟩ := ha
  have hat := hH.2.1 a h1 h2
  rw [zb_ent_i G h3] at hat
  have hini : zb_inI i := zb_okh hst
  have hcan : zb_inI (m a i) := by
    have h := hH.2.2.2.1 a i
    unfold zb_st at h
    rw [h3] at h
    exact h
  simp only [List.map_cons, zb_cvr h1]
  refine va_iald (ws := [(zb_ad G a, _)]) (D := G.2.2.2.1) (tys := zb_tys G.2.2.2.2) (i := Int32.ofInt i) hx hb hK (zb_P1 hat) 0 0 rfl (zb_tys_at _ (t := 0) (by omega)) (zb_vpin hini h0 hi) hd ?_
  rw [zb_c32 hini, Int.toNat_of_nonneg h0]
  exact kk hC H locs ls hH hlo hL hLo (zb_oki hcan (zb_okt (zb_okt hst)))
theorem zb_lald {a i : Int} (hd : decode F.2.2.1 pc = .ok (.laload, 1)) (ha : zb_is S a 14) (h0 : 0 ≤ i) (hi : i < zb_len S a) (kk : zb_WP X F (pc + 1) L ((1, m a i) :: st) S m k n) : zb_WP X F pc L ((0, i) :: (2, a) :: st) S m k n := by
  obtain ⟨G, ⟨p, l, e, R, s, mi, args, below, meth, c, Z⟩, d, K, N, Q⟩ := X
  intro hC H locs ls hH hlo hL hLo hst
  have hC' := hC
  obtain ⟨hx, hb, hml, hown, hts, hK, -⟩ := hC'
  obtain ⟨h1, h2, h3⟩ := ha
  have hat := hH.2.1 a h1 h2
  rw [zb_ent_l G h3] at hat
  have hini : zb_inI i := zb_okh hst
  have hcan : zb_inL (m a i) := by
    have h := hH.2.2.2.1 a i
    unfold zb_st at h
    rw [h3] at h
    exact h
  simp only [List.map_cons, zb_cvr h1]
  refine va_lald (ws := [(zb_ad G a, _)]) (D := G.2.2.2.1) (tys := zb_tys G.2.2.2.2) (i := Int32.ofInt i) hx hb hK (zb_P1 hat) 0 1 rfl (zb_tys_at _ (t := 1) (by omega)) (zb_vpin hini h0 hi) hd ?_
  rw [zb_c32 hini, Int.toNat_of_nonneg h0]
  exact kk hC H locs ls hH hlo hL hLo (zb_okl hcan (zb_okt (zb_okt hst)))
theorem zb_zald {a i : Int} (hd : decode F.2.2.1 pc = .ok (.baload, 1)) (ha : zb_is S a 15) (h0 : 0 ≤ i) (hi : i < zb_len S a) (kk : zb_WP X F (pc + 1) L ((0, m a i) :: st) S m k n) : zb_WP X F pc L ((0, i) :: (2, a) :: st) S m k n := by
  obtain ⟨G, ⟨p, l, e, R, s, mi, args, below, meth, c, Z⟩, d, K, N, Q⟩ := X
  intro hC H locs ls hH hlo hL hLo hst
  have hC' := hC
  obtain ⟨hx, hb, hml, hown, hts, hK, -⟩ := hC'
  obtain ⟨h1, h2, h3⟩ := ha
  have hat := hH.2.1 a h1 h2
  rw [zb_ent_z G h3] at hat
  have hini : zb_inI i := zb_okh hst
  have hcan : zb_inI (m a i) := by
    have h := hH.2.2.2.1 a i
    unfold zb_st at h
    rw [h3] at h
    exact h
  simp only [List.map_cons, zb_cvr h1]
  refine va_zald (ws := [(zb_ad G a, _)]) (D := G.2.2.2.1) (tys := zb_tys G.2.2.2.2) (i := Int32.ofInt i) hx hb hK (zb_P1 hat) 0 2 rfl (zb_tys_at _ (t := 2) (by omega)) (zb_vpin hini h0 hi) hd ?_
  rw [zb_c32 hini, Int.toNat_of_nonneg h0]
  exact kk hC H locs ls hH hlo hL hLo (zb_oki hcan (zb_okt (zb_okt hst)))
theorem zb_aald {a i : Int} {t : Nat} (hd : decode F.2.2.1 pc = .ok (.aaload, 1)) (ha : zb_is S a (13 + t)) (ht : 3 ≤ t ∧ t < 7) (h0 : 0 ≤ i) (hi : i < zb_len S a) (hn : 1 ≤ m a i) (kk : zb_WP X F (pc + 1) L ((2, m a i) :: st) S m k n) : zb_WP X F pc L ((0, i) :: (2, a) :: st) S m k n := by
  obtain ⟨G, ⟨p, l, e, R, s, mi, args, below, meth, c, Z⟩, d, K, N, Q⟩ := X
  intro hC H locs ls hH hlo hL hLo hst
  have hC' := hC
  obtain ⟨hx, hb, hml, hown, hts, hK, -⟩ := hC'
  obtain ⟨h1, h2, h3⟩ := ha
  have hat := hH.2.1 a h1 h2
  rw [zb_ent_q G h3 ht.1] at hat
  have hini : zb_inI i := zb_okh hst
  obtain ⟨C, hCt⟩ := zb_kt_q ht.1
  have hty := zb_tys_at G.2.2.2.2 ht.2
  rw [hCt] at hty
  simp only [List.map_cons, zb_cvr h1]
  refine va_aldq (ws := [(zb_ad G a, _)]) (D := G.2.2.2.1) (tys := zb_tys G.2.2.2.2) (i := Int32.ofInt i) hx hb hK (zb_P1 hat) 0 t rfl hty (zb_vpin hini h0 hi) hd ?_
  rw [zb_c32 hini, Int.toNat_of_nonneg h0]
  exact kk hC H locs ls hH hlo hL hLo (zb_okr hn (zb_okt (zb_okt hst)))
theorem zb_n32 (n : Nat) : Int32.ofNat n = Int32.ofInt (n : Int) := by
  apply Int32.toInt_inj.mp
  rw [Int32.toInt_ofInt, Int32.toInt_ofNat']
theorem zb_alen {a : Int} {t : Nat} (hd : decode F.2.2.1 pc = .ok (.arraylength, 1)) (ha : zb_is S a (13 + t)) (ht : t < 7) (hi : zb_inI (zb_len S a)) (kk : zb_WP X F (pc + 1) L ((0, zb_len S a) :: st) S m k n) : zb_WP X F pc L ((2, a) :: st) S m k n := by
  obtain ⟨G, ⟨p, l, e, R, s, mi, args, below, meth, c, Z⟩, d, K, N, Q⟩ := X
  intro hC H locs ls hH hlo hL hLo hst
  have hC' := hC
  obtain ⟨hx, hb, hml, hown, hts, hK, -⟩ := hC'
  obtain ⟨h1, h2, h3⟩ := ha
  have hat := hH.2.1 a h1 h2
  unfold zb_ent at hat
  rw [if_neg (by omega), show (S.2 a).1 - 13 = t by omega] at hat
  simp only [List.map_cons, zb_cvr h1]
  refine va_alen (ws := [(zb_ad G a, _)]) (D := G.2.2.2.1) (tys := zb_tys G.2.2.2.2) hx hb hK (zb_P1 hat) 0 t rfl (zb_tys_at _ ht) (zb_n32 _) hd ?_
  exact kk hC H locs ls hH hlo hL hLo (zb_oki hi (zb_okt hst))
/-- a place of an array is written: the new heap -/
theorem zb_arr_set {G : zb_G} {H H' : Heap} {a i v : Int} {val : Value} {cA : ClassId} {N j : Nat} {g g' : Nat → Value} {x : vp_A} (hH : zb_H G S m H) (h1 : 1 ≤ a) (hx : zb_ent G (S.2 a) (zb_up m a i v a) = .inl (cA, x)) (hxc : vp_cell cA x = arrV cA N g') (hg : ∀ q, updV g j val q = g' q)
    (e1 : H'[zb_ad G a]? = some ((arrV cA N g).setSlot j val)) (e2 : H'.size = H.size) (e3 : ∀ z, z ≠ zb_ad G a → H'[z]? = H[z]?) (hv : zb_okm (zb_st (S.2 a) i) v) : zb_H G S (zb_up m a i v) H' := by
  refine zb_H_set hH h1 ?_ e2 e3 (fun b hb => zb_up_row m hb) (fun q => ?_)
  · rw [hx]
    show H'[zb_ad G a]? = some (vp_cell cA x)
    rw [e1, hxc, arrV_store]
    congr 2
    funext q
    exact hg q
  · by_cases hq : q = i
    · subst hq
      rw [zb_up_same]
      exact hv
    · rw [zb_up_ne m (Or.inr hq)]
      exact hH.2.2.2.1 a q
theorem zb_lo {G : zb_G} {a : Int} {i : Nat} {locs : List Loc} (hlo : ∀ q ∈ locs, G.1 ≤ q.base) : ∀ z ∈ locs ++ [⟨zb_ad G a, i⟩], G.1 ≤ z.base := by
  intro z hz
  rcases List.mem_append.mp hz with h | h
  · exact hlo z h
  · rw [List.mem_singleton.mp h]
    exact Nat.le_add_right _ _
theorem zb_upn {m : zb_M} {a i v : Int} (h0 : 0 ≤ i) {α : Type} (f : Int → α) (q : Nat) : (if q = i.toNat then f v else f (m a q)) = f (zb_up m a i v a q) := by
  by_cases h : q = i.toNat
  · rw [if_pos h]
    have : (q : Int) = i := by omega
    rw [this, zb_up_same]
  · rw [if_neg h, zb_up_ne m (Or.inr (by omega))]
theorem zb_iast {a i v : Int} (hd : decode F.2.2.1 pc = .ok (.iastore, 1)) (ha : zb_is S a 13) (h0 : 0 ≤ i) (hi : i < zb_len S a) (kk : zb_WP X F (pc + 1) L st S (zb_up m a i v) k n) : zb_WP X F pc L ((0, v) :: (0, i) :: (2, a) :: st) S m k n := by
  obtain ⟨G, ⟨p, l, e, R, s, mi, args, below, meth, c, Z⟩, d, K, N, Q⟩ := X
  intro hC H locs ls hH hlo hL hLo hst
  have hC' := hC
  obtain ⟨hx, hb, hml, hown, hts, hK, -⟩ := hC'
  obtain ⟨h1, h2, h3⟩ := ha
  have hat := hH.2.1 a h1 h2
  rw [zb_ent_i G h3] at hat
  have hini : zb_inI i := zb_okh (zb_okt hst)
  simp only [List.map_cons, zb_cvr h1]
  refine W.iast (x := Int32.ofInt v) (j := Int32.ofInt i) hx hb hat ((hK.2 0 _ (zb_tys_at _ (by omega))).1 _ (fun j => .int (Int32.ofInt (m a j)))) (fun q => by cases q) (by show ¬ (_ ∨ (arrV _ _ _).slots.size ≤ _); rw [arrV_size]; exact zb_vpin hini h0 hi) rfl rfl hd fun H' e1 e2 e3 => ?_
  rw [zb_c32 hini] at e1 ⊢
  refine kk hC H' _ ls (zb_arr_set hH h1 (zb_ent_i G h3 _) rfl (fun q => zb_upn h0 (fun z => Value.int (Int32.ofInt z)) q) e1 e2 e3 ?_) (zb_lo hlo) hL hLo (zb_okt (zb_okt (zb_okt hst)))
  unfold zb_st
  rw [h3]
  exact zb_okh hst
theorem zb_last {a i v : Int} (hd : decode F.2.2.1 pc = .ok (.lastore, 1)) (ha : zb_is S a 14) (h0 : 0 ≤ i) (hi : i < zb_len S a) (kk : zb_WP X F (pc + 1) L st S (zb_up m a i v) k n) : zb_WP X F pc L ((1, v) :: (0, i) :: (2, a) :: st) S m k n := by
  obtain ⟨G, ⟨p, l, e, R, s, mi, args, below, meth, c, Z⟩, d, K, N, Q⟩ := X
  intro hC H locs ls hH hlo hL hLo hst
  have hC' := hC
  obtain ⟨hx, hb, hml, hown, hts, hK, -⟩ := hC'
  obtain ⟨h1, h2, h3⟩ := ha
  have hat := hH.2.1 a h1 h2
  rw [zb_ent_l G h3] at hat
  have hini : zb_inI i := zb_okh (zb_okt hst)
  simp only [List.map_cons, zb_cvr h1]
  refine W.last (x := Int64.ofInt v) (j := Int32.ofInt i) hx hb hat ((hK.2 1 _ (zb_tys_at _ (by omega))).1 _ (fun j => .long (Int64.ofInt (m a j)))) (fun q => by cases q) (by show ¬ (_ ∨ (arrV _ _ _).slots.size ≤ _); rw [arrV_size]; exact zb_vpin hini h0 hi) rfl rfl hd fun H' e1 e2 e3 => ?_
  rw [zb_c32 hini] at e1 ⊢
  refine kk hC H' _ ls (zb_arr_set hH h1 (zb_ent_l G h3 _) rfl (fun q => zb_upn h0 (fun z => Value.long (Int64.ofInt z)) q) e1 e2 e3 ?_) (zb_lo hlo) hL hLo (zb_okt (zb_okt (zb_okt hst)))
  unfold zb_st
  rw [h3]
  exact zb_okh hst
theorem zb_zast {a i v : Int} (hd : decode F.2.2.1 pc = .ok (.bastore, 1)) (ha : zb_is S a 15) (h0 : 0 ≤ i) (hi : i < zb_len S a) (hv : v = 0 ∨ v = 1) (kk : zb_WP X F (pc + 1) L st S (zb_up m a i v) k n) : zb_WP X F pc L ((0, v) :: (0, i) :: (2, a) :: st) S m k n := by
  obtain ⟨G, ⟨p, l, e, R, s, mi, args, below, meth, c, Z⟩, d, K, N, Q⟩ := X
  intro hC H locs ls hH hlo hL hLo hst
  have hC' := hC
  obtain ⟨hx, hb, hml, hown, hts, hK, -⟩ := hC'
  obtain ⟨h1, h2, h3⟩ := ha
  have hat := hH.2.1 a h1 h2
  rw [zb_ent_z G h3] at hat
  have hini : zb_inI i := zb_okh (zb_okt hst)
  have hnr : narrow .boolean (.int (Int32.ofInt v)) = .int (Int32.ofInt v) := by rcases hv with rfl | rfl <;> rfl
  simp only [List.map_cons, zb_cvr h1]
  refine W.zast (x := Int32.ofInt v) (j := Int32.ofInt i) hx hb hat ((hK.2 2 _ (zb_tys_at _ (by omega))).1 _ (fun j => .int (Int32.ofInt (m a j)))) (fun q => by cases q) (by show ¬ (_ ∨ (arrV _ _ _).slots.size ≤ _); rw [arrV_size]; exact zb_vpin hini h0 hi) rfl rfl hd fun H' e1 e2 e3 => ?_
  rw [zb_c32 hini] at e1 ⊢
  rw [hnr] at e1
  refine kk hC H' _ ls (zb_arr_set hH h1 (zb_ent_z G h3 _) rfl (fun q => zb_upn h0 (fun z => Value.int (Int32.ofInt z)) q) e1 e2 e3 ?_) (zb_lo hlo) hL hLo (zb_okt (zb_okt (zb_okt hst)))
  unfold zb_st
  rw [h3]
  exact zb_okh hst
/-- which class an array of references is over, by its kind -/
def zb_comp : Nat → Nat
  | 3 => 4
  | 4 => 5
  | 5 => 3
  | _ => 10
theorem zb_comp_ok {t : Nat} (h : 3 ≤ t ∧ t < 7) : ∃ q : vw_C, vwCl[zb_comp t]? = some q ∧ zb_kt t = .object q.1 := by
  obtain ⟨h1, h2⟩ := h
  have : t = 3 ∨ t = 4 ∨ t = 5 ∨ t = 6 := by omega
  rcases this with rfl | rfl | rfl | rfl
  · exact ⟨_, rfl, rfl⟩
  · exact ⟨_, rfl, rfl⟩
  · exact ⟨_, rfl, rfl⟩
  · exact ⟨_, rfl, rfl⟩
theorem zb_comp_lt {t : Nat} : zb_comp t < 13 := by
  unfold zb_comp
  split <;> omega
theorem zb_aast {a i v : Int} {t : Nat} (hd : decode F.2.2.1 pc = .ok (.aastore, 1)) (ha : zb_is S a (13 + t)) (ht : 3 ≤ t ∧ t < 7) (h0 : 0 ≤ i) (hi : i < zb_len S a) (hv : zb_is S v (zb_comp t)) (kk : zb_WP X F (pc + 1) L st S (zb_up m a i v) k n) : zb_WP X F pc L ((2, v) :: (0, i) :: (2, a) :: st) S m k n := by
  obtain ⟨G, ⟨p, l, e, R, s, mi, args, below, meth, c, Z⟩, d, K, N, Q⟩ := X
  intro hC H locs ls hH hlo hL hLo hst
  have hC' := hC
  obtain ⟨hx, hb, hml, hown, hts, hK, -⟩ := hC'
  obtain ⟨h1, h2, h3⟩ := ha
  obtain ⟨v1, v2, v3⟩ := hv
  have hat := hH.2.1 a h1 h2
  rw [zb_ent_q G h3 ht.1] at hat
  have hav := hH.2.1 v v1 v2
  rw [zb_ent_obj G v3 zb_comp_lt] at hav
  have hini : zb_inI i := zb_okh (zb_okt hst)
  have hlt : i.toNat < (S.2 a).2 := by unfold zb_len at hi; omega
  obtain ⟨r, hc, hkt⟩ := zb_comp_ok ht
  have hty := zb_tys_at G.2.2.2.2 ht.2
  rw [hkt] at hty
  obtain ⟨r', hr', cellV, g1, g2, g3, -⟩ := hav
  have hcls := (hK.1 _ r hc).2
  obtain ⟨kA, comp, k1, k2, k3, -⟩ := (hK.2 t _ hty).2
  have hcomp : comp = G.2.2.2.1.1 (zb_comp t) := Option.some.inj (k3.symm.trans hcls.1)
  subst hcomp
  obtain ⟨kC, hkC, -⟩ := hcls.2
  simp only [List.map_cons, zb_cvr h1, zb_cvr v1]
  refine W.aast (j := Int32.ofInt i) hx hb hat (fun q h => by cases h) (fun h => by cases h) k1 k2 rfl hkC ⟨fun q => (zb_vpin hini h0 hi) (Or.inl q), by show _ < (arrV _ _ _).slots.size; rw [arrV_size]; show (Int32.ofInt i).toNatClampNeg < _; rw [zb_c32 hini]; exact hlt⟩ g1 (fun q h => by rw [g3] at h; cases h) (by rw [g2]; exact hkC) (by rw [g2]; exact va_assign hcls) rfl rfl hd fun H' e1 e2 e3 => ?_
  rw [zb_c32 hini] at e1 ⊢
  have hval : Value.ref (zb_ad G v) = va_rf (zb_rf G.1 v) := (zb_cvr (G := G) v1).symm
  rw [hval] at e1
  refine kk hC H' _ ls (zb_arr_set hH h1 (zb_ent_q G h3 ht.1 _) rfl (fun q => zb_upn h0 (fun z => va_rf (zb_rf G.1 z)) q) e1 e2 e3 ?_) (zb_lo hlo) hL hLo (zb_okt (zb_okt (zb_okt hst)))
  unfold zb_st
  rw [if_neg (by omega), if_neg (by omega), if_neg (by omega)]
  trivial
end ZBA
end
section
/-! ===== new cells ===== -/
def zb_pS (S : zb_S) (kind len : Nat) : zb_S := (S.1 + 1, fun b => if b = (S.1 : Int) + 1 then (kind, len) else S.2 b)
def zb_pM (S : zb_S) (m : zb_M) : zb_M := fun b j => if b = (S.1 : Int) + 1 then 0 else m b j
theorem zb_pS_old (S : zb_S) (kind len : Nat) {a : Int} (h : a ≤ S.1) : (zb_pS S kind len).2 a = S.2 a := by
  show (if a = (S.1 : Int) + 1 then _ else _) = _
  rw [if_neg (by omega)]
theorem zb_pS_new (S : zb_S) (kind len : Nat) : (zb_pS S kind len).2 ((S.1 : Int) + 1) = (kind, len) := by
  show (if (S.1 : Int) + 1 = (S.1 : Int) + 1 then _ else _) = _
  rw [if_pos rfl]
theorem zb_pM_old (S : zb_S) (m : zb_M) {a : Int} (h : a ≤ S.1) : zb_pM S m a = m a := by
  funext j
  show (if a = (S.1 : Int) + 1 then _ else _) = _
  rw [if_neg (by omega)]
theorem zb_pM_new (S : zb_S) (m : zb_M) : zb_pM S m ((S.1 : Int) + 1) = fun _ => 0 := by
  funext j
  show (if (S.1 : Int) + 1 = (S.1 : Int) + 1 then _ else _) = _
  rw [if_pos rfl]
theorem zb_okm0 (t : Nat) : zb_okm t 0 := by
  unfold zb_okm
  split
  · exact zb_in0
  · exact ⟨by omega, by omega⟩
  · trivial
theorem zb_H_push {G : zb_G} {S : zb_S} {m : zb_M} {H H' : Heap} {kind len : Nat} (h : zb_H G S m H) (he : va_at G.2.2.2.1 vwCl (H.size, zb_ent G (kind, len) (fun _ => 0)) H') (hz : H'.size = H.size + 1) (ho : ∀ q, q < H.size → H'[q]? = H[q]?) : zb_H G (zb_pS S kind len) (zb_pM S m) H' := by
  obtain ⟨g1, g2, g3, g4, g5⟩ := h
  refine ⟨by rw [hz, g1]; rfl, fun b hb1 hb2 => ?_, fun q hq => ?_, fun b j => ?_, g5⟩
  · by_cases hb : b ≤ S.1
    · rw [zb_pS_old S kind len hb, zb_pM_old S m hb]
      refine va_at.kept (g2 b hb1 hb) (ho _ ?_)
      show G.1 + (b - 1).toNat < H.size
      omega
    · have hb3 : b = (S.1 : Int) + 1 := by
        have : b ≤ ((S.1 + 1 : Nat) : Int) := hb2
        omega
      subst hb3
      rw [zb_pS_new, zb_pM_new]
      have e : zb_ad G ((S.1 : Int) + 1) = H.size := by
        unfold zb_ad
        omega
      rw [e]
      exact he
  · rw [ho q (by omega)]
    exact g3 q hq
  · by_cases hb : b = (S.1 : Int) + 1
    · subst hb
      rw [zb_pM_new]
      exact zb_okm0 _
    · have e1 : (zb_pS S kind len).2 b = S.2 b := by
        show (if b = (S.1 : Int) + 1 then _ else _) = _
        rw [if_neg hb]
      have e2 : zb_pM S m b j = m b j := by
        show (if b = (S.1 : Int) + 1 then _ else _) = _
        rw [if_neg hb]
      rw [e1, e2]
      exact g4 b j
section ZBN
variable {X : zb_X} {F : zb_F} {pc : Nat} {L : List (Nat × zb_V)} {st : List zb_V} {S : zb_S} {m : zb_M} {k n : Nat}
theorem zb_defv (G : zb_G) (ty : FieldType) (h : zb_fit ty 0) : defaultValue ty = zb_cv G (zb_ft ty, 0) := by
  rcases h with rfl | ⟨rfl, -⟩ | h
  · rfl
  · rfl
  · rw [h]
    cases ty <;> simp_all [zb_ft, defaultValue, zb_cv, zb_rf, va_rf]
/-- what the tables say of a class that is made -/
def zb_mk (own : String) (index ci : Nat) : Prop := ∃ q : vw_C, zb_cl ci q ∧ Cond.classLink own index q.1 ∈ zb_all ∧ Cond.instantiable q.1 q.2.2 ∈ zb_all ∧ Cond.initialized q.1 ∈ zb_all ∧ ∀ j, j < q.2.2 → zb_fit (zb_tyX ci j) 0
theorem zb_new {index ci : Nat} {d K N : Nat} {G : zb_G} {C : zb_C} {Q : Int → zb_S → zb_M → Prop} (hd : decode F.2.2.1 pc = .ok (.new index, 3)) (hf : zb_mk F.1 index ci) (hk : k + 1 ≤ K) (hn : n + zb_nf ci ≤ N) (kk : zb_WP (G, C, d, K, N, Q) F (pc + 3) L ((2, (S.1 : Int) + 1) :: st) (zb_pS S ci 0) (zb_pM S m) (k + 1) (n + zb_nf ci)) : zb_WP (G, C, d, K, N, Q) F pc L st S m k n := by
  obtain ⟨p, l, e, R, s, mi, args, below, meth, c, Z⟩ := C
  intro hC H locs ls hH hlo hL hLo hst
  have hC' := hC
  obtain ⟨hx, hb, hml, hown, hts, hK, -, hini, -, -, hKR, hNR, -⟩ := hC'
  obtain ⟨q, ⟨hc, hin, hty, hnm, hci⟩, hcl, hins, hinit, hft⟩ := hf
  have hnf := zb_nf_of hc
  have hKn := hK.1 ci _ hc
  rw [hnf] at hn kk
  refine W.newcK hx hb hown (hts _ hcl) (hts _ hins) (hts _ hinit) rfl hd (by omega) (by omega) hKn.2.1 rfl fun H1 kC hkC e1 z1 o1 => ?_
  have hH1 : zb_H G (zb_pS S ci 0) (zb_pM S m) H1 := by
    refine zb_H_push hH ?_ z1 o1
    rw [zb_ent_obj G rfl hci]
    refine ⟨_, hc, (u_born (zb_tyX ci) hts hin hKn hkC e1 hty).to (fun j hj => ?_)⟩
    show defaultValue (zb_tyX ci j) = vp_V _ j
    have hj2 : j < zb_nf ci := by rw [hnf]; exact hj
    rw [zb_defv G _ (hft j hj)]
    unfold vp_V
    rw [List.getD_eq_getElem?_getD, zb_fs_at G ci (fun _ => 0) hj2]
    rfl
  have hw := kk hC H1 locs ls hH1 hlo hL hLo (zb_okr (by omega) hst)
  rw [List.map_cons, zb_cvr (by omega)] at hw
  have e : zb_ad G ((S.1 : Int) + 1) = H.size := by
    have := hH.1
    unfold zb_ad
    omega
  rw [e] at hw
  exact hw
/-- a row of numbers is made: which kind -/
def zb_ak : ArrayType → Option Nat
  | .int => some 0
  | .long => some 1
  | .boolean => some 2
  | _ => none
theorem zb_newa {at' : ArrayType} {t : Nat} {i : Int} {d K N : Nat} {G : zb_G} {C : zb_C} {Q : Int → zb_S → zb_M → Prop} (hd : decode F.2.2.1 pc = .ok (.newarray at', 2)) (ht : zb_ak at' = some t) (hw0 : Cond.arrayClass (newarray.typeOf at') ∈ zb_all) (h0 : 0 ≤ i) (hi : i ≤ 100000) (hk : k + 1 ≤ K) (hn : n + i.toNat ≤ N) (kk : zb_WP (G, C, d, K, N, Q) F (pc + 2) L ((2, (S.1 : Int) + 1) :: st) (zb_pS S (13 + t) i.toNat) (zb_pM S m) (k + 1) (n + i.toNat)) : zb_WP (G, C, d, K, N, Q) F pc L ((0, i) :: st) S m k n := by
  obtain ⟨p, l, e, R, s, mi, args, below, meth, c, Z⟩ := C
  intro hC H locs ls hH hlo hL hLo hst
  have hC' := hC
  obtain ⟨hx, hb, hml, hown, hts, hK, -, hini, -, -, hKR, hNR, -⟩ := hC'
  have hin : zb_inI i := zb_okh hst
  have hb1 : i.toNat * componentBytes (newarray.typeOf at') ≤ 536870912 := by
    have h1 : componentBytes (newarray.typeOf at') ≤ 8 := by cases at' <;> decide
    have h2 : i.toNat ≤ 100000 := by omega
    exact Nat.le_trans (Nat.mul_le_mul h2 h1) (Nat.le_of_ble_eq_true rfl)
  refine va_newaK (N := i.toNat) hx hb (hts _ hw0) rfl hd rfl (fun q => by have := (zb_ltI hin zb_in0).mp q; omega) (zb_c32 hin) hb1 (by omega) (by omega) rfl fun H1 cA e1 z1 o1 hAr hNm => ?_
  have hH1 : zb_H G (zb_pS S (13 + t) i.toNat) (zb_pM S m) H1 := by
    refine zb_H_push hH ?_ z1 o1
    have hcy : ∀ t, t < 7 → (∀ C, zb_kt t ≠ .object C) → s.vm.findClass ("[" ++ (zb_kt t).toString) = some (G.2.2.2.2 t) := fun t ht hno => by
      have h := (hK.2 t _ (zb_tys_at _ ht)).2
      unfold va_RA at h
      split at h
      · rename_i C heq
        exact absurd heq (hno C)
      · exact h
    cases at' <;> simp only [zb_ak, Option.some.injEq, reduceCtorEq] at ht <;> subst ht
    · rw [zb_ent_z G rfl]
      have e : cA = G.2.2.2.2 2 := Option.some.inj (hNm.symm.trans (hcy 2 (by omega) (fun C h => by cases h)))
      rw [← e]
      exact e1
    · rw [zb_ent_i G rfl]
      have e : cA = G.2.2.2.2 0 := Option.some.inj (hNm.symm.trans (hcy 0 (by omega) (fun C h => by cases h)))
      rw [← e]
      exact e1
    · rw [zb_ent_l G rfl]
      have e : cA = G.2.2.2.2 1 := Option.some.inj (hNm.symm.trans (hcy 1 (by omega) (fun C h => by cases h)))
      rw [← e]
      exact e1
  have hw := kk hC H1 locs ls hH1 hlo hL hLo (zb_okr (by omega) (zb_okt hst))
  rw [List.map_cons, zb_cvr (by omega)] at hw
  have e : zb_ad G ((S.1 : Int) + 1) = H.size := by
    have := hH.1
    unfold zb_ad
    omega
  rw [e] at hw
  exact hw
/-- a row of references is made -/
theorem zb_newq {index t : Nat} {i : Int} {Cn : String} {d K N : Nat} {G : zb_G} {C : zb_C} {Q : Int → zb_S → zb_M → Prop} (hd : decode F.2.2.1 pc = .ok (.anewarray index, 3)) (ht : 3 ≤ t ∧ t < 7) (hkt : zb_kt t = .object Cn) (hcl : Cond.classLink F.1 index Cn ∈ zb_all) (hov : Cn ∈ zb_over) (h0 : 0 ≤ i) (hi : i ≤ 100000) (hk : k + 1 ≤ K) (hn : n + i.toNat ≤ N) (kk : zb_WP (G, C, d, K, N, Q) F (pc + 3) L ((2, (S.1 : Int) + 1) :: st) (zb_pS S (13 + t) i.toNat) (zb_pM S m) (k + 1) (n + i.toNat)) : zb_WP (G, C, d, K, N, Q) F pc L ((0, i) :: st) S m k n := by
  obtain ⟨p, l, e, R, s, mi, args, below, meth, c, Z⟩ := C
  intro hC H locs ls hH hlo hL hLo hst
  have hC' := hC
  obtain ⟨hx, hb, hml, hown, hts, hK, htb, hini, -, -, hKR, hNR, -⟩ := hC'
  have hin : zb_inI i := zb_okh hst
  have hb1 : i.toNat * 4 ≤ 536870912 := by omega
  have e32 := zb_c32 hin
  refine W.anew (n := Int32.ofInt i) hx hb hown (hts _ hcl) (va_AO.use (htb.2 _ hov)) rfl hd rfl (fun q => by have := (zb_ltI hin zb_in0).mp q; omega) (by rw [e32]; exact hb1) (by omega) (by rw [e32]; omega) fun cA kA comp f1 f2 f3 f4 => ?_
  rw [e32]
  generalize hH1 : H.push ({ cls := cA, slots := Array.replicate i.toNat .null, vm := .none } : Cell) = H1
  have z1 : H1.size = H.size + 1 := by rw [← hH1, Array.size_push]
  have e1 : H1[H.size]? = some (arrV cA i.toNat (fun _ => .null)) := by rw [← hH1, Array.getElem?_push_size, ← arrV_new]
  have o1 : ∀ q : Nat, q < H.size → H1[q]? = H[q]? := fun q hq => by rw [← hH1, Array.getElem?_push, if_neg (Nat.ne_of_lt hq)]
  have hHH : zb_H G (zb_pS S (13 + t) i.toNat) (zb_pM S m) H1 := by
    refine zb_H_push hH ?_ z1 o1
    rw [zb_ent_q G rfl ht.1]
    have hty := zb_tys_at G.2.2.2.2 ht.2
    rw [hkt] at hty
    obtain ⟨kA2, comp2, k1, k2, k3, k4⟩ := (hK.2 t _ hty).2
    have e : cA = G.2.2.2.2 t := Option.some.inj (f1.symm.trans k4)
    rw [← e]
    exact e1
  have hw := kk hC H1 locs ls hHH hlo hL hLo (zb_okr (by omega) (zb_okt hst))
  rw [List.map_cons, zb_cvr (by omega)] at hw
  have e : zb_ad G ((S.1 : Int) + 1) = H.size := by
    have := hH.1
    unfold zb_ad
    omega
  rw [e] at hw
  exact hw
end ZBN
/-! ===== methods and calls ===== -/
def zb_room (d k n : Nat) : Room := { frames := d, cells := k, slots := n, locals := 64 * (d + 1) }
def zb_mw (F : zb_F) : List Cond := Cond.code F.2.1 F.2.2.1 F.2.2.2.1 F.2.2.2.2 :: zb_all
def zb_Pc (G : zb_G) (av : List zb_V) (S : zb_S) (m : zb_M) : Array Value → State → Prop := fun v U => v = (av.map (zb_cv G)).toArray ∧ (∀ w ∈ av, zb_ok w.1 w.2) ∧ zb_H G S m U.heap ∧ va_K G.2.2.2.1 vwCl (zb_tys G.2.2.2.2) U ∧ zb_tb U
def zb_rv (ret : Option FieldType) (r : Int) : List zb_V := match ret with
  | none => []
  | some ty => [(zb_ft ty, r)]
def zb_Qc (G : zb_G) (ret : Option FieldType) (Q : Int → zb_S → zb_M → Prop) : Array Value → State → Outcome → State → Prop := fun _ _ o t => ∃ (r : Int) (S' : zb_S) (m' : zb_M), o = .returned ((zb_rv ret r).map (zb_cv G)).head? ∧ (∀ w ∈ zb_rv ret r, zb_ok w.1 w.2) ∧ zb_H G S' m' t.heap ∧ Q r S' m'
/-- a method's contract: from memory m of shape S with these arguments it returns, with Q of its answer and the memory then; it makes k cells of n places, and its calls go d deep -/
def zb_Tri (F : zb_F) (d k n : Nat) (av : List zb_V) (S : zb_S) (m : zb_M) (Q : Int → zb_S → zb_M → Prop) : Prop :=
  ∀ (G : zb_G) (l : Launch), Met l F.2.1 (zb_mw F) (zb_room d k n) (zb_Pc G av S m) (zb_Qc G F.2.2.2.2 Q) k n (fun q => G.1 ≤ q)
theorem zb_Tri.mono {F : zb_F} {d k n : Nat} {av : List zb_V} {S : zb_S} {m : zb_M} {Q Q' : Int → zb_S → zb_M → Prop} (h : zb_Tri F d k n av S m Q) (hq : ∀ r S' m', Q r S' m' → Q' r S' m') : zb_Tri F d k n av S m Q' := by
  intro G l
  have h1 := h G l
  intro p e ha hc hk s mi args below hf hp hP hK
  obtain ⟨t, o, g1, g2, g3, ⟨r, S', m', h2, h3, h4, h5⟩, h6⟩ := h1 p e ha hc hk s mi args below hf hp hP hK
  exact ⟨t, o, g1, g2, g3, ⟨r, S', m', h2, h3, h4, hq _ _ _ h5⟩, h6⟩
end
section
/-! ===== a method's contract out of a walk; calls ===== -/
def zb_en : Nat → List zb_V → List (Nat × zb_V)
  | _, [] => []
  | i, v :: vs => (i, v) :: zb_en (i + 1) vs
theorem zb_cat1 (G : zb_G) (v : zb_V) : (zb_cv G v).category = if v.1 = 1 then 2 else 1 := by
  obtain ⟨t, x⟩ := v
  match t with
  | 0 => rfl
  | 1 => rfl
  | 2 =>
    show (va_rf (zb_rf G.1 x)).category = _
    cases zb_rf G.1 x <;> rfl
  | (t + 3) =>
    show (Value.ref _).category = if t + 3 = 1 then 2 else 1
    rw [if_neg (by omega)]
    rfl
theorem zb_en_lv (G : zb_G) (av : List zb_V) (h : ∀ v ∈ av, v.1 ≠ 1) (i : Nat) : lv_args i (av.map (zb_cv G)) = zb_lv G (zb_en i av) := by
  induction av generalizing i with
  | nil => rfl
  | cons v vs ih =>
    have h1 := h v List.mem_cons_self
    show (i, zb_cv G v) :: lv_args (if (zb_cv G v).category = 2 then i + 2 else i + 1) (vs.map (zb_cv G)) = (i, zb_cv G v) :: zb_lv G (zb_en (i + 1) vs)
    rw [zb_cat1, if_neg h1, if_neg (by omega), ih (fun w hw => h w (List.mem_cons_of_mem _ hw))]
theorem zb_en_sl (G : zb_G) (av : List zb_V) (h : ∀ v ∈ av, v.1 ≠ 1) : (lg_sl (av.map (zb_cv G))).length = av.length := by
  induction av with
  | nil => rfl
  | cons v vs ih =>
    have h1 := h v List.mem_cons_self
    have ih := ih (fun w hw => h w (List.mem_cons_of_mem _ hw))
    simp only [lg_sl, List.map_cons, List.flatMap_cons, List.length_append] at ih ⊢
    rw [ih, zb_cat1, if_neg h1, if_neg (by omega)]
    simp
    omega
theorem zb_en_ok {av : List zb_V} {i : Nat} (h : ∀ v ∈ av, zb_ok v.1 v.2) : ∀ q ∈ zb_en i av, zb_ok q.2.1 q.2.2 := by
  induction av generalizing i with
  | nil => intro q hq; cases hq
  | cons v vs ih =>
    intro q hq
    rcases List.mem_cons.mp hq with rfl | hq
    · exact h v List.mem_cons_self
    · exact ih (fun w hw => h w (List.mem_cons_of_mem _ hw)) q hq
/-- what is known of a method: its class, its code's word, how many arguments -/
def zb_gd (g : zb_F) (n : Nat) : Prop := (g.2.1.cls ≠ "java/lang/invoke/MethodHandle" ∧ g.2.1.cls ≠ "java/lang/invoke/VarHandle" ∧ (parseMethodDescriptor g.2.1.desc).map (fun d => d.parameters.length) = some n) ∧ Cond.code g.2.1 g.2.2.1 g.2.2.2.1 g.2.2.2.2 ∈ zb_all ∧ Cond.initialized g.2.1.cls ∈ zb_all ∧ plainName g.2.1.cls = true ∧ g.2.1.cls = g.1 ∧ g.2.2.2.1 ≤ 40
theorem zb_tri {F : zb_F} {d k n na : Nat} {av : List zb_V} {S : zb_S} {m : zb_M} {Q : Int → zb_S → zb_M → Prop} (hg : zb_gd F na) (hlen : av.length ≤ F.2.2.2.1) (hno : ∀ v ∈ av, v.1 ≠ 1)
    (h : ∀ (G : zb_G) (C : zb_C), (∀ v ∈ av, zb_ok v.1 v.2) → zb_WP (G, C, d, k, n, Q) F 0 (zb_en 0 av) [] S m 0 0) : zb_Tri F d k n av S m Q := by
  obtain ⟨-, -, -, hy, hcls, -⟩ := hg
  intro G l
  refine Met.ofW (cc := F.2.2.1) (maxL := F.2.2.2.1) (ret := F.2.2.2.2) hy rfl ?_
  intro p e s mi args below meth c s₁ B hml hv
  obtain ⟨rfl, hok, hH, hK, htb⟩ := hv
  have hx := B.exec
  have hb := B.bytes
  have hr := B.returns
  have hts := atoms_spec (ws := zb_mw F) B.pre
  have hown : s.vm.findClass F.1 = some mi.cls := by rw [← hcls]; exact findClass_of_methodNamed B.named
  have hlocks := B.notSynchronized
  have hin : meth.name = F.2.1.name := (name_of_methodNamed B.named B.method).1
  have hw := h G (p, l, e, (headSpec (zb_mw F) (zb_room d k n)).room, s, mi, (av.map (zb_cv G)).toArray, below, meth, c, MQ below (zb_Qc G F.2.2.2.2 Q) (av.map (zb_cv G)).toArray s k n (fun q => G.1 ≤ q)) hok
  rw [lg_entry_eq]
  refine hw ⟨hx, hb, hml, hown, fun w hw => hts w (List.mem_cons_of_mem _ hw), hK, htb, fun q => by rw [hin]; exact q, Nat.le_refl _, Nat.le_refl _, Nat.le_refl _, Nat.le_refl _, ?_⟩ s.heap [] _ hH (fun q hq => by cases hq) ?_ (zb_en_ok hok) (fun v hv => by cases hv)
  · intro S' m' H locs ls pc ins st r k' n' hH' hlo hret hst hd hk hn hQ
    have post : ∀ (v : Option Value), v = ((zb_rv F.2.2.2.2 r).map (zb_cv G)).head? → (∀ w ∈ zb_rv F.2.2.2.2 r, zb_ok w.1 w.2) → ∀ t : State, t.heap = H → s.WarmedH t.vm → zb_Qc G F.2.2.2.2 Q (av.map (zb_cv G)).toArray s (.returned v) t := by
      intro v hv ho t ht _
      exact ⟨r, S', m', by rw [hv], ho, by rw [ht]; exact hH', hQ⟩
    refine W.widen hk hn ?_
    rcases hret with ⟨h1, rfl, rfl, rfl⟩ | ⟨h1, rfl, rfl⟩ | ⟨h1, rfl, rfl, h2⟩ | ⟨h1, rfl, rfl⟩ | ⟨h1, rfl, rfl, h2⟩
    · exact W.vret hx hb (by rw [hr]; exact h1) (post _ (by rw [h1]; rfl) (by rw [h1]; intro w hw; cases hw)) hlo hd
    · exact W.iret hx hb (by rw [hr]; exact h1) (post _ (by rw [h1]; rfl) (by rw [h1]; exact hst)) hlo hd
    · exact W.zret hx hb (by rw [hr]; exact h1) (by rcases h2 with rfl | rfl <;> rfl) (post _ (by rw [h1]; rfl) (by rw [h1]; exact hst)) hlo hd
    · exact W.lret hx hb (by rw [hr]; exact h1) (post _ (by rw [h1]; rfl) (by rw [h1]; exact hst)) hlo hd
    · have e2 := zb_cvr (G := G) h2
      simp only [List.map_cons, List.map_nil, e2]
      rcases h1 with ⟨nm, h1⟩ | ⟨ty, h1⟩
      · exact W.aret hx hb (by rw [hr]; exact h1) (Or.inl ⟨_, rfl⟩) (Or.inr ⟨_, rfl⟩) (post _ (by rw [h1]; exact congrArg some e2.symm) (by rw [h1]; exact hst)) hlo hd
      · exact W.aret hx hb (by rw [hr]; exact h1) (Or.inr ⟨_, rfl⟩) (Or.inr ⟨_, rfl⟩) (post _ (by rw [h1]; exact congrArg some e2.symm) (by rw [h1]; exact hst)) hlo hd
  · rw [← zb_en_lv G av hno 0]
    exact lv_entry (av.map (zb_cv G)) (by rw [zb_en_sl G av hno]; exact hlen)
theorem zb_blind (G : zb_G) (av : List zb_V) (S : zb_S) (m : zb_M) : FrameBlind (zb_Pc G av S m) := by
  intro a U g mk h
  obtain ⟨h1, h2, h3, h4, h5, h6⟩ := h
  exact ⟨h1, h2, h3, va_K.moved (u := U) (U := U.calling g mk a) (Vm.Alike.refl U.vm) h4, fun w hw => va_Nw.same (u := U) (U := U.calling g mk a) (by
    have h7 := (List.mem_filter.mp hw).2
    cases w <;> simp [zb_isNest] at h7
    rfl) rfl (h5 w hw), fun C hC => va_AO.moved (u := U) (U := U.calling g mk a) (Vm.Alike.refl U.vm) (h6 C hC)⟩
theorem zb_tb_warm {s U : State} (hW : s.WarmedH U.vm) (h : zb_tb s) : zb_tb U := by
  refine ⟨fun w hw => ?_, fun C hC => va_AO.moved hW.alike (h.2 C hC)⟩
  have h1 := h.1 w hw
  have h7 := (List.mem_filter.mp hw).2
  cases w <;> simp [zb_isNest] at h7
  exact va_Nw.warmM hW h1
def zb_cs (st : List zb_V) : Nat := (st.map (fun v => if v.1 = 1 then 2 else 1)).sum
theorem zb_cs_eq (G : zb_G) (st : List zb_V) : ((st.map (zb_cv G)).map fun v => v.category).sum = zb_cs st := by
  unfold zb_cs
  rw [List.map_map]
  congr 1
  apply List.map_congr_left
  intro v _
  exact zb_cat1 G v
theorem zb_good {w : Cond} (h : w ∈ zb_all) : w ∈ zb_all ∧ ((w.onTables && w.keeps) = true ∨ ∃ ty, w = .arrayClass ty) := ⟨h, good_of_word (List.mem_filter.mp h).2⟩
theorem zb_good_mw {g : zb_F} {na : Nat} (hg : zb_gd g na) : GoodIn zb_all (zb_mw g) := by
  intro w hw
  rcases List.mem_cons.mp hw with rfl | h
  · exact zb_good hg.2.1
  · exact zb_good h
section ZBC
variable {p : Program} {l : Launch} {e : Env} {R : Room} {s : State} {mi : MethodId} {args : Array Value} {below : List Frame} {meth : Method} {c : Code} {Z : State → Prop} {G : zb_G} {d K N : Nat} {Q Q' : Int → zb_S → zb_M → Prop} {F g : zb_F} {pc : Nat} {L : List (Nat × zb_V)} {st0 st : List zb_V} {S : zb_S} {m : zb_M} {k n k' n' : Nat}
/-- behind a call -/
theorem zb_after {H : Heap} {locs : List Loc} {ls : Array Slot} {a : Array Value} (hr : va_Run p l e R s mi args below meth c H locs k n k' n' (F0 mi pc ls (st0.map (zb_cv G))) (st.map (zb_cv G)) (zb_Qc G g.2.2.2.2 Q' a) (fun q => G.1 ≤ q))
    (hC : zb_ctx F (G, (p, l, e, R, s, mi, args, below, meth, c, Z), d, K, N, Q)) (hlo : ∀ q ∈ locs, G.1 ≤ q.base) (hL : lv_has ls F.2.2.2.1 (zb_lv G L)) (hLo : ∀ q ∈ L, zb_ok q.2.1 q.2.2) (hst : ∀ v ∈ st, zb_ok v.1 v.2)
    (kk : ∀ (r : Int) (S' : zb_S) (m' : zb_M), Q' r S' m' → zb_WP (G, (p, l, e, R, s, mi, args, below, meth, c, Z), d, K, N, Q) F (pc + 3) L (zb_rv g.2.2.2.2 r ++ st) S' m' (k + k') (n + n')) :
    W p l e R s mi args below meth c H locs k n Z (F0 mi pc ls (st0.map (zb_cv G))) := by
  intro T hT Y
  obtain ⟨v, st₀, t, T', L', h0, Y', hL', e1, e2, ⟨r, S', m', hv, ho, hH', hq⟩, step⟩ := hr T hT Y
  have hv' : v = ((zb_rv g.2.2.2.2 r).map (zb_cv G)).head? := by
    cases hv
    rfl
  have hvl : v.toList ++ st.map (zb_cv G) = (zb_rv g.2.2.2.2 r ++ st).map (zb_cv G) := by
    rw [hv', List.map_append]
    congr 1
    cases g.2.2.2.2 <;> rfl
  rw [hvl] at step
  obtain ⟨t2, a1, b1⟩ := kk r S' m' hq hC T'.heap (locs ++ L') ls (by rw [e1]; exact hH') (fun q h => by
    rcases List.mem_append.mp h with h | h
    · exact hlo q h
    · exact hL' q h) hL hLo (fun v hv => by
    rcases List.mem_append.mp hv with h | h
    · exact ho v h
    · exact hst v h) T' rfl Y'
  exact ⟨t2, step t2 a1, b1⟩
def zb_lkV (own : String) (index : Nat) (g : zb_F) : Prop := Cond.methodLink own index g.2.1 ∈ zb_all ∧ Cond.instanceMethod g.2.1 ∈ zb_all ∧ Cond.selects g.2.1.cls g.2.1 g.2.1 ∈ zb_all
def zb_lkS (own : String) (index : Nat) (g : zb_F) : Prop := Cond.methodLink own index g.2.1 ∈ zb_all ∧ Cond.static g.2.1 ∈ zb_all
def zb_lkI (own : String) (index : Nat) (g : zb_F) : Prop := Cond.methodLink own index g.2.1 ∈ zb_all ∧ Cond.instanceMethod g.2.1 ∈ zb_all ∧ g.2.1.name = "<init>"
def zb_lkSN (own : String) (index : Nat) (g : zb_F) : Prop := ∃ host, Cond.methodLinkNest own index g.2.1 host ∈ zb_nest ∧ Cond.static g.2.1 ∈ zb_all
def zb_lkIN (own : String) (index : Nat) (g : zb_F) : Prop := ∃ host, Cond.methodLinkNest own index g.2.1 host ∈ zb_nest ∧ Cond.instanceMethod g.2.1 ∈ zb_all ∧ g.2.1.name = "<init>"
theorem zb_rooms {d' : Nat} (hdR : d ≤ R.frames) (hlR : 64 * (d + 1) ≤ R.locals) (hd : d' + 1 ≤ d) (hm : g.2.2.2.1 ≤ 40) : (zb_room d' k' n').frames + 1 ≤ R.frames ∧ 8 + (g.2.2.2.1 + 11) + (zb_room d' k' n').locals ≤ R.locals := by
  refine ⟨Nat.le_trans hd hdR, ?_⟩
  show 8 + (g.2.2.2.1 + 11) + 64 * (d' + 1) ≤ R.locals
  omega
end ZBC
section ZBD
variable {C : zb_C} {G : zb_G} {d K N : Nat} {Q Q' : Int → zb_S → zb_M → Prop} {F g : zb_F} {pc : Nat} {L : List (Nat × zb_V)} {st : List zb_V} {S : zb_S} {m : zb_M} {k n k' n' : Nat}
theorem zb_pre {s U : State} {H : Heap} {av : List zb_V} (hK : va_K G.2.2.2.1 vwCl (zb_tys G.2.2.2.2) s) (htb : zb_tb s) (hH : zb_H G S m H) (ho : ∀ w ∈ av, zb_ok w.1 w.2) (hU : U.heap = H) (hW : s.WarmedH U.vm) : zb_Pc G av S m (av.map (zb_cv G)).toArray U :=
  ⟨rfl, ho, by rw [hU]; exact hH, va_K.moved hW.alike hK, zb_tb_warm hW htb⟩
/-- a call of a static method -/
theorem zb_callS {index na d' : Nat} {As As' : List zb_V} (hd : decode F.2.2.1 pc = .ok (.invokestatic index, 3)) (hl : zb_lkS F.1 index g) (hg : zb_gd g na) (hn : As.length = na) (hrev : As.reverse = As') (hT : zb_Tri g d' k' n' As S m Q') (hdd : d' + 1 ≤ d) (hk : k + k' ≤ K) (hN : n + n' ≤ N) (hcs : zb_cs st ≤ 8)
    (kk : ∀ (r : Int) (S' : zb_S) (m' : zb_M), Q' r S' m' → zb_WP (G, C, d, K, N, Q) F (pc + 3) L (zb_rv g.2.2.2.2 r ++ st) S' m' (k + k') (n + n')) : zb_WP (G, C, d, K, N, Q) F pc L (As' ++ st) S m k n := by
  subst hrev
  obtain ⟨p, l, e, R, s, mi, args, below, meth, c, Z⟩ := C
  intro hC H locs ls hH hlo hL hLo hst
  have hC' := hC
  obtain ⟨hx, hb, hml, hown, hts, hK, htb, hini, hdR, hlR, hKR, hNR, -⟩ := hC'
  obtain ⟨l1, l2⟩ := hl
  have hoA : ∀ w ∈ As, zb_ok w.1 w.2 := fun w hw => hst w (List.mem_append_left _ (List.mem_reverse.mpr hw))
  have hrm := zb_rooms (R := R) (k' := k') (n' := n') hdR hlR hdd hg.2.2.2.2.2
  refine zb_after (Z := Z) (G := G) (g := g) (st0 := As.reverse ++ st) (st := st) (k' := k') (n' := n') (Q' := Q') (va_runS (As := As.map (zb_cv G)) (rest := st.map (zb_cv G)) (Ts := zb_all) ⟨hx, hb, hml, hown, hts⟩ (hT G l)
    (va_cwS na hts (fun w hw => ?_) rfl rfl rfl hg.1 hrm) ⟨zb_blind G As S m, fun U hU hW => zb_pre hK htb hH hoA hU hW⟩ rfl (by simpa using hn) hL.1 (by rw [List.map_append, List.map_reverse]) ?_ hd ⟨by omega, by omega⟩) hC hlo hL hLo (fun v hv => hst v (List.mem_append_right _ hv)) kk
  · rcases List.mem_append.mp hw with h | h
    · rcases List.mem_cons.mp h with rfl | h
      · exact zb_good l1
      · rcases List.mem_cons.mp h with rfl | h
        · exact zb_good l2
        · rw [List.mem_singleton.mp h]
          exact zb_good hg.2.2.1
    · exact zb_good_mw hg w h
  · show 2 * 0 + _ ≤ 8
    rw [zb_cs_eq]
    omega
theorem zb_callSN {index na d' : Nat} {As As' : List zb_V} (hd : decode F.2.2.1 pc = .ok (.invokestatic index, 3)) (hl : zb_lkSN F.1 index g) (hg : zb_gd g na) (hn : As.length = na) (hrev : As.reverse = As') (hT : zb_Tri g d' k' n' As S m Q') (hdd : d' + 1 ≤ d) (hk : k + k' ≤ K) (hN : n + n' ≤ N) (hcs : zb_cs st ≤ 8)
    (kk : ∀ (r : Int) (S' : zb_S) (m' : zb_M), Q' r S' m' → zb_WP (G, C, d, K, N, Q) F (pc + 3) L (zb_rv g.2.2.2.2 r ++ st) S' m' (k + k') (n + n')) : zb_WP (G, C, d, K, N, Q) F pc L (As' ++ st) S m k n := by
  subst hrev
  obtain ⟨p, l, e, R, s, mi, args, below, meth, c, Z⟩ := C
  intro hC H locs ls hH hlo hL hLo hst
  have hC' := hC
  obtain ⟨hx, hb, hml, hown, hts, hK, htb, hini, hdR, hlR, hKR, hNR, -⟩ := hC'
  obtain ⟨host, l1, l2⟩ := hl
  have hoA : ∀ w ∈ As, zb_ok w.1 w.2 := fun w hw => hst w (List.mem_append_left _ (List.mem_reverse.mpr hw))
  have hrm := zb_rooms (R := R) (k' := k') (n' := n') hdR hlR hdd hg.2.2.2.2.2
  refine zb_after (Z := Z) (G := G) (g := g) (st0 := As.reverse ++ st) (st := st) (k' := k') (n' := n') (Q' := Q') (va_runSN (As := As.map (zb_cv G)) (rest := st.map (zb_cv G)) (Ts := zb_all) ⟨hx, hb, hml, hown, hts⟩ (hT G l)
    ⟨va_cnB na hts (zb_good_mw hg) rfl rfl rfl (htb.1 _ l1) (hts _ hg.2.2.1) hg.1 hrm, hts _ l2, trivial⟩ ⟨zb_blind G As S m, fun U hU hW => zb_pre hK htb hH hoA hU hW⟩ rfl (by simpa using hn) hL.1 (by rw [List.map_append, List.map_reverse]) ?_ hd ⟨by omega, by omega⟩) hC hlo hL hLo (fun v hv => hst v (List.mem_append_right _ hv)) kk
  show 2 * 0 + _ ≤ 8
  rw [zb_cs_eq]
  omega
/-- a call of an object's method -/
theorem zb_callV {index na d' ci : Nat} {a : Int} {As As' : List zb_V} (hd : decode F.2.2.1 pc = .ok (.invokevirtual index, 3)) (hl : zb_lkV F.1 index g) (hg : zb_gd g na) (hn : As.length = na) (hrev : As.reverse = As') (ha : zb_is S a ci) (hci : ∃ q : vw_C, vwCl[ci]? = some q ∧ q.1 = g.2.1.cls) (hT : zb_Tri g d' k' n' ((2, a) :: As) S m Q') (hdd : d' + 1 ≤ d) (hk : k + k' ≤ K) (hN : n + n' ≤ N) (hcs : zb_cs st ≤ 8)
    (kk : ∀ (r : Int) (S' : zb_S) (m' : zb_M), Q' r S' m' → zb_WP (G, C, d, K, N, Q) F (pc + 3) L (zb_rv g.2.2.2.2 r ++ st) S' m' (k + k') (n + n')) : zb_WP (G, C, d, K, N, Q) F pc L (As' ++ (2, a) :: st) S m k n := by
  subst hrev
  obtain ⟨p, l, e, R, s, mi, args, below, meth, c, Z⟩ := C
  intro hC H locs ls hH hlo hL hLo hst
  have hC' := hC
  obtain ⟨hx, hb, hml, hown, hts, hK, htb, hini, hdR, hlR, hKR, hNR, -⟩ := hC'
  obtain ⟨l1, l2, l3⟩ := hl
  obtain ⟨h1, h2, h3⟩ := ha
  obtain ⟨q, hc, hqc⟩ := hci
  have hci : ci < 13 := (List.getElem?_eq_some_iff.mp hc).1
  have hat := hH.2.1 a h1 h2
  rw [zb_ent_obj G h3 hci] at hat
  have hoA : ∀ w ∈ (2, a) :: As, zb_ok w.1 w.2 := fun w hw => by
    rcases List.mem_cons.mp hw with rfl | hw
    · exact h1
    · exact hst w (List.mem_append_left _ (List.mem_reverse.mpr hw))
  have hrm := zb_rooms (R := R) (k' := k') (n' := n') hdR hlR hdd hg.2.2.2.2.2
  have hpre : ∀ U : State, U.heap = H → s.WarmedH U.vm → zb_Pc G ((2, a) :: As) S m (Value.ref (zb_ad G a) :: As.map (zb_cv G)).toArray U := fun U hU hW => by
    have h := zb_pre hK htb hH hoA hU hW
    rw [List.map_cons, zb_cvr h1] at h
    exact h
  have hTG := hT G l
  refine zb_after (Z := Z) (G := G) (g := g) (st0 := As.reverse ++ (2, a) :: st) (st := st) (k' := k') (n' := n') (Q' := Q') (va_runV (C := q.1) (b := zb_ad G a) (As := As.map (zb_cv G)) (rest := st.map (zb_cv G)) (Ts := zb_all) ⟨hx, hb, hml, hown, hts⟩ hTG
    (cwV na hts (fun w hw => ?_) rfl rfl rfl ⟨hqc.symm, hg.1⟩ hrm) ⟨zb_blind G _ S m, va_recv hK (zb_P1 hat) (q0 := 0) hc rfl, hpre⟩ rfl (by simpa using hn) hL.1 (by rw [List.map_append, List.map_reverse, List.map_cons, zb_cvr h1]) ?_ hd ⟨by omega, by omega⟩) hC hlo hL hLo (fun v hv => hst v (List.mem_append_right _ (List.mem_cons_of_mem _ hv))) kk
  · rw [hqc] at hw
    rcases List.mem_append.mp hw with h | h
    · rcases List.mem_cons.mp h with rfl | h
      · exact zb_good l1
      · rcases List.mem_cons.mp h with rfl | h
        · exact zb_good l2
        · rcases List.mem_cons.mp h with rfl | h
          · exact zb_good l3
          · rw [List.mem_singleton.mp h]
            exact zb_good hg.2.2.1
    · exact zb_good_mw hg w h
  · show 2 * 0 + _ ≤ 8
    rw [zb_cs_eq]
    omega
/-- a call of a constructor -/
theorem zb_callI {index na d' : Nat} {a : Int} {As As' : List zb_V} (hd : decode F.2.2.1 pc = .ok (.invokespecial index, 3)) (hl : zb_lkI F.1 index g) (hret : g.2.2.2.2 = none) (hg : zb_gd g na) (hn : As.length = na) (hrev : As.reverse = As') (h1 : 1 ≤ a) (hT : zb_Tri g d' k' n' ((2, a) :: As) S m Q') (hdd : d' + 1 ≤ d) (hk : k + k' ≤ K) (hN : n + n' ≤ N) (hcs : zb_cs st ≤ 8)
    (kk : ∀ (r : Int) (S' : zb_S) (m' : zb_M), Q' r S' m' → zb_WP (G, C, d, K, N, Q) F (pc + 3) L (zb_rv g.2.2.2.2 r ++ st) S' m' (k + k') (n + n')) : zb_WP (G, C, d, K, N, Q) F pc L (As' ++ (2, a) :: st) S m k n := by
  subst hrev
  obtain ⟨p, l, e, R, s, mi, args, below, meth, c, Z⟩ := C
  intro hC H locs ls hH hlo hL hLo hst
  have hC' := hC
  obtain ⟨hx, hb, hml, hown, hts, hK, htb, hini, hdR, hlR, hKR, hNR, -⟩ := hC'
  obtain ⟨l1, l2, l3⟩ := hl
  have hoA : ∀ w ∈ (2, a) :: As, zb_ok w.1 w.2 := fun w hw => by
    rcases List.mem_cons.mp hw with rfl | hw
    · exact h1
    · exact hst w (List.mem_append_left _ (List.mem_reverse.mpr hw))
  have hrm := zb_rooms (R := R) (k' := k') (n' := n') hdR hlR hdd hg.2.2.2.2.2
  have hpre : ∀ U : State, U.heap = H → s.WarmedH U.vm → zb_Pc G ((2, a) :: As) S m (Value.ref (zb_ad G a) :: As.map (zb_cv G)).toArray U := fun U hU hW => by
    have h := zb_pre hK htb hH hoA hU hW
    rw [List.map_cons, zb_cvr h1] at h
    exact h
  have hTG := hT G l
  refine zb_after (Z := Z) (G := G) (g := g) (st0 := As.reverse ++ (2, a) :: st) (st := st) (k' := k') (n' := n') (Q' := Q') (va_runI (b := zb_ad G a) (bytes := g.2.2.1) (maxL := g.2.2.2.1) (As := As.map (zb_cv G)) (rest := st.map (zb_cv G)) (Ts := zb_all) ⟨hx, hb, hml, hown, hts⟩ hTG
    (cwI na hts (zb_good_mw hg) (by unfold zb_mw; rw [hret]) rfl rfl (hts _ hg.2.2.1) (hts _ l1) (hts _ l2) l3 hg.1 hrm) ⟨zb_blind G _ S m, hpre⟩ rfl (by simpa using hn) hL.1 (by rw [List.map_append, List.map_reverse, List.map_cons, zb_cvr h1]) ?_ hd ⟨by omega, by omega⟩) hC hlo hL hLo (fun v hv => hst v (List.mem_append_right _ (List.mem_cons_of_mem _ hv))) kk
  show 2 * 0 + _ ≤ 8
  rw [zb_cs_eq]
  omega
theorem zb_callIN {index na d' : Nat} {a : Int} {As As' : List zb_V} (hd : decode F.2.2.1 pc = .ok (.invokespecial index, 3)) (hl : zb_lkIN F.1 index g) (hret : g.2.2.2.2 = none) (hg : zb_gd g na) (hn : As.length = na) (hrev : As.reverse = As') (h1 : 1 ≤ a) (hT : zb_Tri g d' k' n' ((2, a) :: As) S m Q') (hdd : d' + 1 ≤ d) (hk : k + k' ≤ K) (hN : n + n' ≤ N) (hcs : zb_cs st ≤ 8)
    (kk : ∀ (r : Int) (S' : zb_S) (m' : zb_M), Q' r S' m' → zb_WP (G, C, d, K, N, Q) F (pc + 3) L (zb_rv g.2.2.2.2 r ++ st) S' m' (k + k') (n + n')) : zb_WP (G, C, d, K, N, Q) F pc L (As' ++ (2, a) :: st) S m k n := by
  subst hrev
  obtain ⟨p, l, e, R, s, mi, args, below, meth, c, Z⟩ := C
  intro hC H locs ls hH hlo hL hLo hst
  have hC' := hC
  obtain ⟨hx, hb, hml, hown, hts, hK, htb, hini, hdR, hlR, hKR, hNR, -⟩ := hC'
  obtain ⟨host, l1, l2, l3⟩ := hl
  have hoA : ∀ w ∈ (2, a) :: As, zb_ok w.1 w.2 := fun w hw => by
    rcases List.mem_cons.mp hw with rfl | hw
    · exact h1
    · exact hst w (List.mem_append_left _ (List.mem_reverse.mpr hw))
  have hrm := zb_rooms (R := R) (k' := k') (n' := n') hdR hlR hdd hg.2.2.2.2.2
  have hpre : ∀ U : State, U.heap = H → s.WarmedH U.vm → zb_Pc G ((2, a) :: As) S m (Value.ref (zb_ad G a) :: As.map (zb_cv G)).toArray U := fun U hU hW => by
    have h := zb_pre hK htb hH hoA hU hW
    rw [List.map_cons, zb_cvr h1] at h
    exact h
  have hTG := hT G l
  refine zb_after (Z := Z) (G := G) (g := g) (st0 := As.reverse ++ (2, a) :: st) (st := st) (k' := k') (n' := n') (Q' := Q') (va_runIN (b := zb_ad G a) (bytes := g.2.2.1) (maxL := g.2.2.2.1) (As := As.map (zb_cv G)) (rest := st.map (zb_cv G)) (Ts := zb_all) ⟨hx, hb, hml, hown, hts⟩ hTG
    ⟨va_cnB na hts (zb_good_mw hg) (by unfold zb_mw; rw [hret]) rfl rfl (htb.1 _ l1) (hts _ hg.2.2.1) hg.1 hrm, l3, hts _ l2⟩ ⟨zb_blind G _ S m, hpre⟩ rfl (by simpa using hn) hL.1 (by rw [List.map_append, List.map_reverse, List.map_cons, zb_cvr h1]) ?_ hd ⟨by omega, by omega⟩) hC hlo hL hLo (fun v hv => hst v (List.mem_append_right _ (List.mem_cons_of_mem _ hv))) kk
  show 2 * 0 + _ ≤ 8
  rw [zb_cs_eq]
  omega
end ZBD
end
section
/-! ===== returns, Object's constructor, arraycopy, the script ===== -/
section ZBE
variable {C : zb_C} {G : zb_G} {d K N : Nat} {Q Q' : Int → zb_S → zb_M → Prop} {F g : zb_F} {pc : Nat} {L : List (Nat × zb_V)} {st : List zb_V} {S : zb_S} {m : zb_M} {k n k' n' : Nat}
theorem zb_return {ins : Instr} {r : Int} (hd : decode F.2.2.1 pc = .ok (ins, 1)) (hr : zb_ret F.2.2.2.2 ins st r) (hk : k ≤ K) (hn : n ≤ N) (hQ : Q r S m) : zb_WP (G, C, d, K, N, Q) F pc L st S m k n := by
  obtain ⟨p, l, e, R, s, mi, args, below, meth, c, Z⟩ := C
  intro hC H locs ls hH hlo hL hLo hst
  have hC' := hC
  obtain ⟨-, -, -, -, -, -, -, -, -, -, -, -, hret⟩ := hC'
  exact hret S m H locs ls pc ins st r k n hH hlo hr hst hd hk hn hQ
theorem zb_vreturn (hd : decode F.2.2.1 pc = .ok (.return_, 1)) (hr : F.2.2.2.2 = none) (hk : k ≤ K) (hn : n ≤ N) (hQ : Q 0 S m) : zb_WP (G, C, d, K, N, Q) F pc L [] S m k n := zb_return hd (Or.inl ⟨hr, rfl, rfl, rfl⟩) hk hn hQ
theorem zb_ireturn {r : Int} (hd : decode F.2.2.1 pc = .ok (.ireturn, 1)) (hr : F.2.2.2.2 = some .int) (hk : k ≤ K) (hn : n ≤ N) (hQ : Q r S m) : zb_WP (G, C, d, K, N, Q) F pc L [(0, r)] S m k n := zb_return hd (Or.inr (Or.inl ⟨hr, rfl, rfl⟩)) hk hn hQ
theorem zb_zreturn {r : Int} (hd : decode F.2.2.1 pc = .ok (.ireturn, 1)) (hr : F.2.2.2.2 = some .boolean) (hz : r = 0 ∨ r = 1) (hk : k ≤ K) (hn : n ≤ N) (hQ : Q r S m) : zb_WP (G, C, d, K, N, Q) F pc L [(0, r)] S m k n := zb_return hd (Or.inr (Or.inr (Or.inl ⟨hr, rfl, rfl, hz⟩))) hk hn hQ
theorem zb_lreturn {r : Int} (hd : decode F.2.2.1 pc = .ok (.lreturn, 1)) (hr : F.2.2.2.2 = some .long) (hk : k ≤ K) (hn : n ≤ N) (hQ : Q r S m) : zb_WP (G, C, d, K, N, Q) F pc L [(1, r)] S m k n := zb_return hd (Or.inr (Or.inr (Or.inr (Or.inl ⟨hr, rfl, rfl⟩)))) hk hn hQ
theorem zb_areturn {r : Int} (hd : decode F.2.2.1 pc = .ok (.areturn, 1)) (hr : (∃ nm, F.2.2.2.2 = some (.object nm)) ∨ ∃ t, F.2.2.2.2 = some (.array t)) (hz : 1 ≤ r) (hk : k ≤ K) (hn : n ≤ N) (hQ : Q r S m) : zb_WP (G, C, d, K, N, Q) F pc L [(2, r)] S m k n := zb_return hd (Or.inr (Or.inr (Or.inr (Or.inr ⟨hr, rfl, rfl, hz⟩)))) hk hn hQ
def zb_lkO (own : String) (index : Nat) : Prop := Cond.methodLink own index Lib.objectInit ∈ zb_all ∧ Cond.instanceMethod Lib.objectInit ∈ zb_all ∧ Cond.code Lib.objectInit ⟨#[0xb1]⟩ 1 none ∈ zb_all
theorem zb_objI {index : Nat} {a : Int} (hd : decode F.2.2.1 pc = .ok (.invokespecial index, 3)) (hl : zb_lkO F.1 index) (h1 : 1 ≤ a) (hdd : 1 ≤ d) (hcs : zb_cs st ≤ 8) (kk : zb_WP (G, C, d, K, N, Q) F (pc + 3) L st S m k n) : zb_WP (G, C, d, K, N, Q) F pc L ((2, a) :: st) S m k n := by
  obtain ⟨p, l, e, R, s, mi, args, below, meth, c, Z⟩ := C
  intro hC H locs ls hH hlo hL hLo hst
  have hC' := hC
  obtain ⟨hx, hb, hml, hown, hts, hK, htb, hini, hdR, hlR, hKR, hNR, -⟩ := hC'
  rw [List.map_cons, zb_cvr h1]
  exact W.objInit hx hb hown (hts _ hl.1) (hts _ hl.2.1) (hts _ hl.2.2) rfl (hL.1.trans hml.symm) rfl hd (by omega) (by
    show 2 * 0 + _ + 12 ≤ R.locals
    rw [zb_cs_eq]
    omega) (kk hC H locs ls hH hlo hL hLo (zb_okt hst))
def zb_cmp (x y : Int) : Int := if y < x then 1 else if x = y then 0 else -1
theorem zb_ltL {x y : Int} (hx : zb_inL x) (hy : zb_inL y) : Int64.ofInt x < Int64.ofInt y ↔ x < y := by
  rw [Int64.lt_iff_toInt_lt, zb_toI64 hx, zb_toI64 hy]
theorem zb_eqL {x y : Int} (hx : zb_inL x) (hy : zb_inL y) : Int64.ofInt x = Int64.ofInt y ↔ x = y := by
  rw [← Int64.toInt_inj, zb_toI64 hx, zb_toI64 hy]
theorem zb_lcmp {X : zb_X} {x y : Int} (hd : decode F.2.2.1 pc = .ok (.lcmp, 1)) (kk : zb_WP X F (pc + 1) L ((0, zb_cmp x y) :: st) S m k n) : zb_WP X F pc L ((1, y) :: (1, x) :: st) S m k n :=
  zb_pure (fun _ h => zb_oki (by unfold zb_cmp zb_inI; split <;> (try split) <;> omega) (zb_okt (zb_okt h))) (fun G p l e R s mi args below meth c Z H locs ls hx hb _ _ _ _ ho w => W.lcmp (x := Int64.ofInt x) (y := Int64.ofInt y) hx hb hd (by
    have h1 : zb_inL y := zb_okh ho
    have h2 : zb_inL x := zb_okh (zb_okt ho)
    have e : lg_cmp (Int64.ofInt x) (Int64.ofInt y) = Int32.ofInt (zb_cmp x y) := by
      unfold lg_cmp zb_cmp
      by_cases q1 : y < x
      · rw [if_pos q1, if_pos ((zb_ltL h1 h2).mpr q1)]
        rfl
      · rw [if_neg q1, if_neg (fun z => q1 ((zb_ltL h1 h2).mp z))]
        by_cases q2 : x = y
        · rw [if_pos q2, if_pos ((zb_eqL h2 h1).mpr q2)]
          rfl
        · rw [if_neg q2, if_neg (fun z => q2 ((zb_eqL h2 h1).mp z))]
          rfl
    rw [e]
    exact w)) kk
/-- a part of a row is copied -/
def zb_cp (m : zb_M) (a0 sp a dp len : Int) : zb_M := fun b j => if b = a ∧ dp ≤ j ∧ j < dp + len then m a0 (sp + (j - dp)) else m b j
def zb_lkA (own : String) (index : Nat) : Prop := Cond.methodLink own index arraycopyName ∈ zb_all ∧ Cond.native arraycopyName ∈ zb_all ∧ Cond.static arraycopyName ∈ zb_all ∧ Cond.initialized "java/lang/System" ∈ zb_all
theorem zb_arrcopy {index : Nat} {a0 a sp dp len : Int} (hd : decode F.2.2.1 pc = .ok (.invokestatic index, 3)) (hl : zb_lkA F.1 index) (ha0 : zb_is S a0 13) (ha : zb_is S a 13) (h1 : 0 ≤ sp) (h2 : 0 ≤ dp) (h3 : 0 ≤ len) (h4 : sp + len ≤ zb_len S a0) (h5 : dp + len ≤ zb_len S a) (hdd : 1 ≤ d) (hcs : zb_cs st ≤ 8) (kk : zb_WP (G, C, d, K, N, Q) F (pc + 3) L st S (zb_cp m a0 sp a dp len) k n) : zb_WP (G, C, d, K, N, Q) F pc L ((0, len) :: (0, dp) :: (2, a) :: (0, sp) :: (2, a0) :: st) S m k n := by
  obtain ⟨p, l, e, R, s, mi, args, below, meth, c, Z⟩ := C
  intro hC H locs ls hH hlo hL hLo hst
  have hC' := hC
  obtain ⟨hx, hb, hml, hown, hts, hK, htb, hini, hdR, hlR, hKR, hNR, -⟩ := hC'
  obtain ⟨a1, a2, a3⟩ := ha
  obtain ⟨b1, b2, b3⟩ := ha0
  have hc1 := hH.2.1 a a1 a2
  rw [zb_ent_i G a3] at hc1
  have hc0 := hH.2.1 a0 b1 b2
  rw [zb_ent_i G b3] at hc0
  have il : zb_inI len := zb_okh hst
  have id : zb_inI dp := zb_okh (zb_okt hst)
  have is : zb_inI sp := zb_okh (zb_okt (zb_okt (zb_okt hst)))
  obtain ⟨-, k0, hk0, cm0, hkk0⟩ := (hK.2 0 _ (zb_tys_at _ (by omega))).1 (S.2 a0).2 (fun j => .int (Int32.ofInt (m a0 j)))
  obtain ⟨-, k1, hk1, cm1, hkk1⟩ := (hK.2 0 _ (zb_tys_at _ (by omega))).1 (S.2 a).2 (fun j => .int (Int32.ofInt (m a j)))
  have nn : ∀ z : Int, zb_inI z → 0 ≤ z → ¬ Int32.ofInt z < 0 := fun z hz h q => by
    have := (zb_ltI hz zb_in0).mp q
    omega
  have e4 : sp.toNat + len.toNat ≤ (S.2 a0).2 := by unfold zb_len at h4; omega
  have e4' : (Int32.ofInt sp).toNatClampNeg + (Int32.ofInt len).toNatClampNeg ≤ (S.2 a0).2 := by rw [zb_c32 is, zb_c32 il]; exact e4
  have e5 : dp.toNat + len.toNat ≤ (S.2 a).2 := by unfold zb_len at h5; omega
  have hnfw : nativeFrameWords "java/lang/System" "arraycopy" 5 + 11 + 8 ≤ 64 * 2 := by decide +kernel
  simp only [List.map_cons, zb_cvr a1, zb_cvr b1]
  intro T hT Y
  obtain ⟨vm', Y', step⟩ := Y.arraycopy hx hown (hts _ hl.1) (hts _ hl.2.1) (hts _ hl.2.2.1) (hts _ hl.2.2.2) (src := zb_ad G a0) (dst := zb_ad G a) (cs := vp_cell (G.2.2.2.2 0) ((S.2 a0).2, .inl (fun j : Nat => Int32.ofInt (m a0 j)))) (cd := vp_cell (G.2.2.2.2 0) ((S.2 a).2, .inl (fun j : Nat => Int32.ofInt (m a j)))) (srcPos := Int32.ofInt sp) (destPos := Int32.ofInt dp) (n := Int32.ofInt len) (by rw [hT]; exact hc0) (by rw [hT]; exact hc1)
    (fun _ h => by cases h) (fun _ h => by cases h) (fun h => by cases h) (fun h => by cases h) hk0 hk1 hkk0 hkk1 (by rfl) (nn _ is h1) (nn _ id h2) (nn _ il h3)
    (by rw [zb_toI is, zb_toI il]; show ¬ _ > ((arrV _ _ _).slots.size : Int); rw [arrV_size]; unfold zb_len at h4; omega)
    (by rw [zb_toI id, zb_toI il]; show ¬ _ > ((arrV _ _ _).slots.size : Int); rw [arrV_size]; unfold zb_len at h5; omega)
    (fun vm₁ _ i hi => by
      rw [zb_c32 il] at hi
      have e : (vp_cell (G.2.2.2.2 0) ((S.2 a0).2, .inl (fun j : Nat => Int32.ofInt (m a0 j)))).slots.getD ((Int32.ofInt sp).toNatClampNeg + i) .null = .int (Int32.ofInt (m a0 ((sp.toNat + i : Nat) : Int))) := by
        show (arrV (G.2.2.2.2 0) (S.2 a0).2 (fun j => .int (Int32.ofInt (m a0 j)))).slots.getD _ _ = _
        rw [zb_c32 is, Array.getD_eq_getD_getElem?, arrV_read _ _ (by omega)]
        rfl
      refine ⟨?_, ?_⟩
      · rw [e]
        rfl
      · rw [e]
        exact trivial)
    (g := F0 mi pc ls (.int (Int32.ofInt len) :: .int (Int32.ofInt dp) :: .ref (zb_ad G a) :: .int (Int32.ofInt sp) :: .ref (zb_ad G a0) :: st.map (zb_cv G))) rfl (hL.1.trans hml.symm) (rest := st.map (zb_cv G)) rfl (by rw [hb]; exact hd) (by omega) (by
      show 2 * 0 + _ + _ ≤ _
      rw [zb_cs_eq]
      omega)
  have e1 : copied (vp_cell (G.2.2.2.2 0) ((S.2 a0).2, .inl (fun j : Nat => Int32.ofInt (m a0 j)))) (vp_cell (G.2.2.2.2 0) ((S.2 a).2, .inl (fun j : Nat => Int32.ofInt (m a j)))) (Int32.ofInt sp) (Int32.ofInt dp) (Int32.ofInt len) = vp_cell (G.2.2.2.2 0) ((S.2 a).2, .inl (va_cpy (fun j : Nat => Int32.ofInt (m a0 j)) (fun j : Nat => Int32.ofInt (m a j)) (Int32.ofInt sp).toNatClampNeg (Int32.ofInt dp).toNatClampNeg (Int32.ofInt len).toNatClampNeg)) := va_copied (fun z => .int z) (G.2.2.2.2 0) (G.2.2.2.2 0) (fun j : Nat => Int32.ofInt (m a0 j)) (fun j : Nat => Int32.ofInt (m a j)) e4'
  rw [zb_c32 is, zb_c32 id, zb_c32 il] at e1
  have e6 : va_cpy (fun j : Nat => Int32.ofInt (m a0 j)) (fun j : Nat => Int32.ofInt (m a j)) sp.toNat dp.toNat len.toNat = fun j : Nat => Int32.ofInt (zb_cp m a0 sp a dp len a j) := by
    funext j
    unfold va_cpy zb_cp
    by_cases q : dp.toNat ≤ j ∧ j < dp.toNat + len.toNat
    · rw [if_pos q, if_pos ⟨rfl, by omega, by omega⟩]
      have e9 : ((sp.toNat + (j - dp.toNat) : Nat) : Int) = sp + ((j : Int) - dp) := by omega
      show Int32.ofInt (m a0 ((sp.toNat + (j - dp.toNat) : Nat) : Int)) = _
      rw [e9]
    · rw [if_neg q, if_neg (by rintro ⟨-, z1, z2⟩; exact q ⟨by omega, by omega⟩)]
  rw [e6] at e1
  have hlt : zb_ad G a < H.size := (Array.getElem?_eq_some_iff.mp hc1).1
  have hheap : ((T.setVm vm').setCell (zb_ad G a) (copied (vp_cell (G.2.2.2.2 0) ((S.2 a0).2, .inl (fun j : Nat => Int32.ofInt (m a0 j)))) (vp_cell (G.2.2.2.2 0) ((S.2 a).2, .inl (fun j : Nat => Int32.ofInt (m a j)))) (Int32.ofInt sp) (Int32.ofInt dp) (Int32.ofInt len))).heap = H.setIfInBounds (zb_ad G a) (vp_cell (G.2.2.2.2 0) ((S.2 a).2, .inl (fun j : Nat => Int32.ofInt (zb_cp m a0 sp a dp len a j)))) := by rw [← hT, ← e1]; rfl
  have oq : ∀ q : Nat, q ≠ zb_ad G a → (H.setIfInBounds (zb_ad G a) (vp_cell (G.2.2.2.2 0) ((S.2 a).2, .inl (fun j : Nat => Int32.ofInt (zb_cp m a0 sp a dp len a j)))))[q]? = H[q]? := fun q hq => by simp [Array.getElem?_setIfInBounds, Ne.symm hq]
  have hH' : zb_H G S (zb_cp m a0 sp a dp len) (H.setIfInBounds (zb_ad G a) (vp_cell (G.2.2.2.2 0) ((S.2 a).2, .inl (fun j : Nat => Int32.ofInt (zb_cp m a0 sp a dp len a j))))) := by
    refine zb_H_set hH a1 ?_ (by simp) oq (fun b hb => ?_) (fun q => ?_)
    · rw [zb_ent_i G a3]
      show (H.setIfInBounds (zb_ad G a) _)[zb_ad G a]? = some _
      simp [Array.getElem?_setIfInBounds, hlt]
    · funext j
      unfold zb_cp
      rw [if_neg (fun z => hb z.1)]
    · unfold zb_cp
      have ca := hH.2.2.2.1 a q
      have c0 := hH.2.2.2.1 a0 (sp + (q - dp))
      unfold zb_st at ca c0 ⊢
      rw [a3] at ca ⊢
      rw [b3] at c0
      have ca : zb_inI (m a q) := ca
      have c0 : zb_inI (m a0 (sp + (q - dp))) := c0
      show zb_inI _
      split
      · exact c0
      · exact ca
  obtain ⟨t, g1, g2⟩ := kk hC _ _ ls hH' (fun q hq => by
      rcases List.mem_append.mp hq with h | h
      · exact hlo q h
      · obtain ⟨z, -, hz⟩ := List.mem_map.mp h
        rw [← hz]
        exact Nat.le_add_right _ _) hL hLo (zb_okt (zb_okt (zb_okt (zb_okt (zb_okt hst))))) _ hheap Y'
  exact ⟨t, step t g1, g2⟩
/-- the script, where the walk is the law's own -/
def zb_scr (G : zb_G) (C : zb_C) (Ln : Nat) (xs : Nat → Int32) : Prop := va_X G.2.1 Ln xs C.2.2.2.2.1 G.2.2.1 ∧ G.2.1 < G.1
theorem zb_sload {x : Int} {i : Int} {Ln : Nat} {xs : Nat → Int32} (hs : zb_scr G C Ln xs) (hd : decode F.2.2.1 pc = .ok (.iaload, 1)) (h0 : 0 ≤ i) (hi : i < Ln) (kk : zb_WP (G, C, d, K, N, Q) F (pc + 1) L ((0, (xs i.toNat).toInt) :: st) S m k n) : zb_WP (G, C, d, K, N, Q) F pc L ((0, i) :: (3, x) :: st) S m k n := by
  obtain ⟨p, l, e, R, s, mi, args, below, meth, c, Z⟩ := C
  intro hC H locs ls hH hlo hL hLo hst
  have hC' := hC
  obtain ⟨hx, hb, -⟩ := hC'
  obtain ⟨hX, hbl⟩ := hs
  have ii : zb_inI i := zb_okh hst
  have hS : va_S (fun q => G.1 ≤ q) G.2.2.1 H locs := ⟨by have := hH.1; have := hH.2.2.2.2; omega, fun q h1 h2 => hH.2.2.1 q (by have := hH.2.2.2.2; omega), hlo⟩
  have hw := kk hC H locs ls hH hlo hL hLo (zb_oki (zb_inT _) (zb_okt (zb_okt hst)))
  refine va_sld (A := fun q => G.1 ≤ q) (i := Int32.ofInt i) hx hb hX (by have := hH.2.2.2.2; show G.2.1 < G.2.2.1.size; omega) (Nat.not_le.mpr hbl) hS (zb_vpin ii h0 hi) hd ?_
  rw [zb_c32 ii]
  have e2 : xs i.toNat = Int32.ofInt (xs i.toNat).toInt := (Int32.ofInt_toInt _).symm
  rw [e2]
  exact hw
theorem zb_slen {x : Int} {Ln : Nat} {xs : Nat → Int32} (hs : zb_scr G C Ln xs) (hd : decode F.2.2.1 pc = .ok (.arraylength, 1)) (hL4 : Ln ≤ 4096) (kk : zb_WP (G, C, d, K, N, Q) F (pc + 1) L ((0, (Ln : Int)) :: st) S m k n) : zb_WP (G, C, d, K, N, Q) F pc L ((3, x) :: st) S m k n := by
  obtain ⟨p, l, e, R, s, mi, args, below, meth, c, Z⟩ := C
  intro hC H locs ls hH hlo hL hLo hst
  have hC' := hC
  obtain ⟨hx, hb, -⟩ := hC'
  obtain ⟨hX, hbl⟩ := hs
  have hS : va_S (fun q => G.1 ≤ q) G.2.2.1 H locs := ⟨by have := hH.1; have := hH.2.2.2.2; omega, fun q h1 h2 => hH.2.2.1 q (by have := hH.2.2.2.2; omega), hlo⟩
  have hw := kk hC H locs ls hH hlo hL hLo (zb_oki ⟨by omega, by omega⟩ (zb_okt hst))
  refine va_slen (A := fun q => G.1 ≤ q) hx hb hX (by have := hH.2.2.2.2; show G.2.1 < G.2.2.1.size; omega) (Nat.not_le.mpr hbl) hS hd ?_
  rw [zb_n32]
  exact hw
end ZBE
end
