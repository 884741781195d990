section
-- ===== PART A: goes FIRST, ahead of the names: the tables' words, and 'selects' of the private methods out of them =====
/-- a private method of a class that the tables say can be made, by its rows of tables_1 -/
def lw_okq (q : MethodName × Nat) : Prop := (q.1.cls ≠ "java/lang/invoke/MethodHandle" ∧ q.1.cls ≠ "java/lang/invoke/VarHandle") ∧ Cond.instantiable q.1.cls q.2 ∈ tables_1 ∧ Cond.privateMethod q.1 ∈ tables_1 ∧ Cond.instanceMethod q.1 ∈ tables_1
theorem lw_p0 : lw_okq (⟨"SameBench", "keep", "(I)V"⟩, 15) := ⟨⟨by decide +kernel, by decide +kernel⟩, List.mem_of_getElem? (i := 18) (by decide +kernel), List.mem_of_getElem? (i := 441) (by decide +kernel), List.mem_of_getElem? (i := 442) (by decide +kernel)⟩
theorem lw_p1 : lw_okq (⟨"SameBench", "isThing", "(II)Z"⟩, 15) := ⟨⟨by decide +kernel, by decide +kernel⟩, List.mem_of_getElem? (i := 18) (by decide +kernel), List.mem_of_getElem? (i := 472) (by decide +kernel), List.mem_of_getElem? (i := 473) (by decide +kernel)⟩
theorem lw_p2 : lw_okq (⟨"SameBench", "refusalOfTurnings", "(I)I"⟩, 15) := ⟨⟨by decide +kernel, by decide +kernel⟩, List.mem_of_getElem? (i := 18) (by decide +kernel), List.mem_of_getElem? (i := 791) (by decide +kernel), List.mem_of_getElem? (i := 792) (by decide +kernel)⟩
theorem lw_p3 : lw_okq (⟨"SameBenchModel", "isGraph", "(I)Z"⟩, 55) := ⟨⟨by decide +kernel, by decide +kernel⟩, List.mem_of_getElem? (i := 951) (by decide +kernel), List.mem_of_getElem? (i := 1131) (by decide +kernel), List.mem_of_getElem? (i := 1132) (by decide +kernel)⟩
theorem lw_p4 : lw_okq (⟨"SameBenchModel", "note", "(I)V"⟩, 55) := ⟨⟨by decide +kernel, by decide +kernel⟩, List.mem_of_getElem? (i := 951) (by decide +kernel), List.mem_of_getElem? (i := 1141) (by decide +kernel), List.mem_of_getElem? (i := 1142) (by decide +kernel)⟩
theorem lw_p5 : lw_okq (⟨"SameBenchModel", "isThing", "(II)Z"⟩, 55) := ⟨⟨by decide +kernel, by decide +kernel⟩, List.mem_of_getElem? (i := 951) (by decide +kernel), List.mem_of_getElem? (i := 1149) (by decide +kernel), List.mem_of_getElem? (i := 1150) (by decide +kernel)⟩
theorem lw_p6 : lw_okq (⟨"SameBenchModel", "lineOf", "(III)I"⟩, 55) := ⟨⟨by decide +kernel, by decide +kernel⟩, List.mem_of_getElem? (i := 951) (by decide +kernel), List.mem_of_getElem? (i := 1173) (by decide +kernel), List.mem_of_getElem? (i := 1174) (by decide +kernel)⟩
theorem lw_p7 : lw_okq (⟨"SameBenchModel", "keyOf", "(II)I"⟩, 55) := ⟨⟨by decide +kernel, by decide +kernel⟩, List.mem_of_getElem? (i := 951) (by decide +kernel), List.mem_of_getElem? (i := 1200) (by decide +kernel), List.mem_of_getElem? (i := 1201) (by decide +kernel)⟩
theorem lw_p8 : lw_okq (⟨"SameBenchModel", "shownOf", "(I)I"⟩, 55) := ⟨⟨by decide +kernel, by decide +kernel⟩, List.mem_of_getElem? (i := 951) (by decide +kernel), List.mem_of_getElem? (i := 1208) (by decide +kernel), List.mem_of_getElem? (i := 1209) (by decide +kernel)⟩
theorem lw_p9 : lw_okq (⟨"SameBenchModel", "isRight", "(I)Z"⟩, 55) := ⟨⟨by decide +kernel, by decide +kernel⟩, List.mem_of_getElem? (i := 951) (by decide +kernel), List.mem_of_getElem? (i := 1212) (by decide +kernel), List.mem_of_getElem? (i := 1213) (by decide +kernel)⟩
theorem lw_p10 : lw_okq (⟨"SameBenchModel", "layOut", "(I)V"⟩, 55) := ⟨⟨by decide +kernel, by decide +kernel⟩, List.mem_of_getElem? (i := 951) (by decide +kernel), List.mem_of_getElem? (i := 1220) (by decide +kernel), List.mem_of_getElem? (i := 1221) (by decide +kernel)⟩
theorem lw_p11 : lw_okq (⟨"SameBenchModel", "start", "(I)V"⟩, 55) := ⟨⟨by decide +kernel, by decide +kernel⟩, List.mem_of_getElem? (i := 951) (by decide +kernel), List.mem_of_getElem? (i := 1224) (by decide +kernel), List.mem_of_getElem? (i := 1225) (by decide +kernel)⟩
theorem lw_p12 : lw_okq (⟨"SameBenchModel", "gather", "(II)V"⟩, 55) := ⟨⟨by decide +kernel, by decide +kernel⟩, List.mem_of_getElem? (i := 951) (by decide +kernel), List.mem_of_getElem? (i := 1228) (by decide +kernel), List.mem_of_getElem? (i := 1229) (by decide +kernel)⟩
theorem lw_p13 : lw_okq (⟨"SameBenchModel", "orderSights", "(III)I"⟩, 55) := ⟨⟨by decide +kernel, by decide +kernel⟩, List.mem_of_getElem? (i := 951) (by decide +kernel), List.mem_of_getElem? (i := 1232) (by decide +kernel), List.mem_of_getElem? (i := 1233) (by decide +kernel)⟩
theorem lw_p14 : lw_okq (⟨"SameBenchModel", "splitIn", "(I)V"⟩, 55) := ⟨⟨by decide +kernel, by decide +kernel⟩, List.mem_of_getElem? (i := 951) (by decide +kernel), List.mem_of_getElem? (i := 1236) (by decide +kernel), List.mem_of_getElem? (i := 1237) (by decide +kernel)⟩
theorem lw_p15 : lw_okq (⟨"SameBenchModel", "see", "(II)V"⟩, 55) := ⟨⟨by decide +kernel, by decide +kernel⟩, List.mem_of_getElem? (i := 951) (by decide +kernel), List.mem_of_getElem? (i := 1240) (by decide +kernel), List.mem_of_getElem? (i := 1241) (by decide +kernel)⟩
def lw_privs_1 : List (MethodName × Nat) := [(⟨"SameBench", "keep", "(I)V"⟩, 15), (⟨"SameBench", "isThing", "(II)Z"⟩, 15), (⟨"SameBench", "refusalOfTurnings", "(I)I"⟩, 15), (⟨"SameBenchModel", "isGraph", "(I)Z"⟩, 55), (⟨"SameBenchModel", "note", "(I)V"⟩, 55), (⟨"SameBenchModel", "isThing", "(II)Z"⟩, 55), (⟨"SameBenchModel", "lineOf", "(III)I"⟩, 55), (⟨"SameBenchModel", "keyOf", "(II)I"⟩, 55), (⟨"SameBenchModel", "shownOf", "(I)I"⟩, 55), (⟨"SameBenchModel", "isRight", "(I)Z"⟩, 55), (⟨"SameBenchModel", "layOut", "(I)V"⟩, 55), (⟨"SameBenchModel", "start", "(I)V"⟩, 55), (⟨"SameBenchModel", "gather", "(II)V"⟩, 55), (⟨"SameBenchModel", "orderSights", "(III)I"⟩, 55), (⟨"SameBenchModel", "splitIn", "(I)V"⟩, 55), (⟨"SameBenchModel", "see", "(II)V"⟩, 55)]
theorem lw_r1 : ∀ q ∈ lw_privs_1, lw_okq q := List.forall_mem_cons.mpr ⟨lw_p0, List.forall_mem_cons.mpr ⟨lw_p1, List.forall_mem_cons.mpr ⟨lw_p2, List.forall_mem_cons.mpr ⟨lw_p3, List.forall_mem_cons.mpr ⟨lw_p4, List.forall_mem_cons.mpr ⟨lw_p5, List.forall_mem_cons.mpr ⟨lw_p6, List.forall_mem_cons.mpr ⟨lw_p7, List.forall_mem_cons.mpr ⟨lw_p8, List.forall_mem_cons.mpr ⟨lw_p9, List.forall_mem_cons.mpr ⟨lw_p10, List.forall_mem_cons.mpr ⟨lw_p11, List.forall_mem_cons.mpr ⟨lw_p12, List.forall_mem_cons.mpr ⟨lw_p13, List.forall_mem_cons.mpr ⟨lw_p14, List.forall_mem_cons.mpr ⟨lw_p15, fun _ h => absurd h List.not_mem_nil⟩⟩⟩⟩⟩⟩⟩⟩⟩⟩⟩⟩⟩⟩⟩⟩
theorem lw_p16 : lw_okq (⟨"SameBenchModel", "handOf", "(I)I"⟩, 55) := ⟨⟨by decide +kernel, by decide +kernel⟩, List.mem_of_getElem? (i := 951) (by decide +kernel), List.mem_of_getElem? (i := 1248) (by decide +kernel), List.mem_of_getElem? (i := 1249) (by decide +kernel)⟩
theorem lw_p17 : lw_okq (⟨"SameBenchModel", "markIn", "(II)V"⟩, 55) := ⟨⟨by decide +kernel, by decide +kernel⟩, List.mem_of_getElem? (i := 951) (by decide +kernel), List.mem_of_getElem? (i := 1252) (by decide +kernel), List.mem_of_getElem? (i := 1253) (by decide +kernel)⟩
theorem lw_p18 : lw_okq (⟨"SameBenchModel", "isAlone", "(II)Z"⟩, 55) := ⟨⟨by decide +kernel, by decide +kernel⟩, List.mem_of_getElem? (i := 951) (by decide +kernel), List.mem_of_getElem? (i := 1256) (by decide +kernel), List.mem_of_getElem? (i := 1257) (by decide +kernel)⟩
theorem lw_p19 : lw_okq (⟨"SameBenchModel", "grow", "()Z"⟩, 55) := ⟨⟨by decide +kernel, by decide +kernel⟩, List.mem_of_getElem? (i := 951) (by decide +kernel), List.mem_of_getElem? (i := 1268) (by decide +kernel), List.mem_of_getElem? (i := 1269) (by decide +kernel)⟩
theorem lw_p20 : lw_okq (⟨"SameBenchModel", "leaf", "(I)V"⟩, 55) := ⟨⟨by decide +kernel, by decide +kernel⟩, List.mem_of_getElem? (i := 951) (by decide +kernel), List.mem_of_getElem? (i := 1272) (by decide +kernel), List.mem_of_getElem? (i := 1273) (by decide +kernel)⟩
theorem lw_p21 : lw_okq (⟨"SameBenchModel", "targetOf", "(I)I"⟩, 55) := ⟨⟨by decide +kernel, by decide +kernel⟩, List.mem_of_getElem? (i := 951) (by decide +kernel), List.mem_of_getElem? (i := 1279) (by decide +kernel), List.mem_of_getElem? (i := 1280) (by decide +kernel)⟩
theorem lw_p22 : lw_okq (⟨"SameBenchModel", "follows", "(III)Z"⟩, 55) := ⟨⟨by decide +kernel, by decide +kernel⟩, List.mem_of_getElem? (i := 951) (by decide +kernel), List.mem_of_getElem? (i := 1283) (by decide +kernel), List.mem_of_getElem? (i := 1284) (by decide +kernel)⟩
theorem lw_p23 : lw_okq (⟨"SameBenchModel", "areTwins", "(II)Z"⟩, 55) := ⟨⟨by decide +kernel, by decide +kernel⟩, List.mem_of_getElem? (i := 951) (by decide +kernel), List.mem_of_getElem? (i := 1287) (by decide +kernel), List.mem_of_getElem? (i := 1288) (by decide +kernel)⟩
theorem lw_p24 : lw_okq (⟨"SameBenchModel", "growBoth", "(II)Z"⟩, 55) := ⟨⟨by decide +kernel, by decide +kernel⟩, List.mem_of_getElem? (i := 951) (by decide +kernel), List.mem_of_getElem? (i := 1307) (by decide +kernel), List.mem_of_getElem? (i := 1308) (by decide +kernel)⟩
theorem lw_p25 : lw_okq (⟨"SameBenchModel", "keepOther", "()V"⟩, 55) := ⟨⟨by decide +kernel, by decide +kernel⟩, List.mem_of_getElem? (i := 951) (by decide +kernel), List.mem_of_getElem? (i := 1311) (by decide +kernel), List.mem_of_getElem? (i := 1312) (by decide +kernel)⟩
theorem lw_p26 : lw_okq (⟨"SameBenchModel", "differsAt", "(I)I"⟩, 55) := ⟨⟨by decide +kernel, by decide +kernel⟩, List.mem_of_getElem? (i := 951) (by decide +kernel), List.mem_of_getElem? (i := 1315) (by decide +kernel), List.mem_of_getElem? (i := 1316) (by decide +kernel)⟩
theorem lw_p27 : lw_okq (⟨"SameBenchModel", "clearTurning", "()V"⟩, 55) := ⟨⟨by decide +kernel, by decide +kernel⟩, List.mem_of_getElem? (i := 951) (by decide +kernel), List.mem_of_getElem? (i := 1319) (by decide +kernel), List.mem_of_getElem? (i := 1320) (by decide +kernel)⟩
theorem lw_p28 : lw_okq (⟨"SameBenchModel", "unlikeBy", "(IIII)I"⟩, 55) := ⟨⟨by decide +kernel, by decide +kernel⟩, List.mem_of_getElem? (i := 951) (by decide +kernel), List.mem_of_getElem? (i := 1327) (by decide +kernel), List.mem_of_getElem? (i := 1328) (by decide +kernel)⟩
theorem lw_p29 : lw_okq (⟨"SameBenchModel", "sumUp", "([I[I)V"⟩, 55) := ⟨⟨by decide +kernel, by decide +kernel⟩, List.mem_of_getElem? (i := 951) (by decide +kernel), List.mem_of_getElem? (i := 1331) (by decide +kernel), List.mem_of_getElem? (i := 1332) (by decide +kernel)⟩
theorem lw_p30 : lw_okq (⟨"SameBenchModel", "chainOf", "(I)I"⟩, 55) := ⟨⟨by decide +kernel, by decide +kernel⟩, List.mem_of_getElem? (i := 951) (by decide +kernel), List.mem_of_getElem? (i := 1345) (by decide +kernel), List.mem_of_getElem? (i := 1346) (by decide +kernel)⟩
theorem lw_p31 : lw_okq (⟨"SameBenchModel", "find", "(III)Z"⟩, 55) := ⟨⟨by decide +kernel, by decide +kernel⟩, List.mem_of_getElem? (i := 951) (by decide +kernel), List.mem_of_getElem? (i := 1349) (by decide +kernel), List.mem_of_getElem? (i := 1350) (by decide +kernel)⟩
def lw_privs_2 : List (MethodName × Nat) := [(⟨"SameBenchModel", "handOf", "(I)I"⟩, 55), (⟨"SameBenchModel", "markIn", "(II)V"⟩, 55), (⟨"SameBenchModel", "isAlone", "(II)Z"⟩, 55), (⟨"SameBenchModel", "grow", "()Z"⟩, 55), (⟨"SameBenchModel", "leaf", "(I)V"⟩, 55), (⟨"SameBenchModel", "targetOf", "(I)I"⟩, 55), (⟨"SameBenchModel", "follows", "(III)Z"⟩, 55), (⟨"SameBenchModel", "areTwins", "(II)Z"⟩, 55), (⟨"SameBenchModel", "growBoth", "(II)Z"⟩, 55), (⟨"SameBenchModel", "keepOther", "()V"⟩, 55), (⟨"SameBenchModel", "differsAt", "(I)I"⟩, 55), (⟨"SameBenchModel", "clearTurning", "()V"⟩, 55), (⟨"SameBenchModel", "unlikeBy", "(IIII)I"⟩, 55), (⟨"SameBenchModel", "sumUp", "([I[I)V"⟩, 55), (⟨"SameBenchModel", "chainOf", "(I)I"⟩, 55), (⟨"SameBenchModel", "find", "(III)Z"⟩, 55)]
theorem lw_r2 : ∀ q ∈ lw_privs_2, lw_okq q := List.forall_mem_cons.mpr ⟨lw_p16, List.forall_mem_cons.mpr ⟨lw_p17, List.forall_mem_cons.mpr ⟨lw_p18, List.forall_mem_cons.mpr ⟨lw_p19, List.forall_mem_cons.mpr ⟨lw_p20, List.forall_mem_cons.mpr ⟨lw_p21, List.forall_mem_cons.mpr ⟨lw_p22, List.forall_mem_cons.mpr ⟨lw_p23, List.forall_mem_cons.mpr ⟨lw_p24, List.forall_mem_cons.mpr ⟨lw_p25, List.forall_mem_cons.mpr ⟨lw_p26, List.forall_mem_cons.mpr ⟨lw_p27, List.forall_mem_cons.mpr ⟨lw_p28, List.forall_mem_cons.mpr ⟨lw_p29, List.forall_mem_cons.mpr ⟨lw_p30, List.forall_mem_cons.mpr ⟨lw_p31, fun _ h => absurd h List.not_mem_nil⟩⟩⟩⟩⟩⟩⟩⟩⟩⟩⟩⟩⟩⟩⟩⟩
theorem lw_p32 : lw_okq (⟨"SameBenchModel", "mayGo", "(II)Z"⟩, 55) := ⟨⟨by decide +kernel, by decide +kernel⟩, List.mem_of_getElem? (i := 951) (by decide +kernel), List.mem_of_getElem? (i := 1353) (by decide +kernel), List.mem_of_getElem? (i := 1354) (by decide +kernel)⟩
theorem lw_p33 : lw_okq (⟨"SameBenchModel", "shownPlace", "(I)I"⟩, 55) := ⟨⟨by decide +kernel, by decide +kernel⟩, List.mem_of_getElem? (i := 951) (by decide +kernel), List.mem_of_getElem? (i := 1365) (by decide +kernel), List.mem_of_getElem? (i := 1366) (by decide +kernel)⟩
theorem lw_p34 : lw_okq (⟨"SameBenchModel", "leads", "(II)Z"⟩, 55) := ⟨⟨by decide +kernel, by decide +kernel⟩, List.mem_of_getElem? (i := 951) (by decide +kernel), List.mem_of_getElem? (i := 1381) (by decide +kernel), List.mem_of_getElem? (i := 1382) (by decide +kernel)⟩
theorem lw_p35 : lw_okq (⟨"SameBenchModel", "enter", "(I)V"⟩, 55) := ⟨⟨by decide +kernel, by decide +kernel⟩, List.mem_of_getElem? (i := 951) (by decide +kernel), List.mem_of_getElem? (i := 1400) (by decide +kernel), List.mem_of_getElem? (i := 1401) (by decide +kernel)⟩
theorem lw_p36 : lw_okq (⟨"SameBenchModel", "orderName", "(II)I"⟩, 55) := ⟨⟨by decide +kernel, by decide +kernel⟩, List.mem_of_getElem? (i := 951) (by decide +kernel), List.mem_of_getElem? (i := 1404) (by decide +kernel), List.mem_of_getElem? (i := 1405) (by decide +kernel)⟩
def lw_privs_3 : List (MethodName × Nat) := [(⟨"SameBenchModel", "mayGo", "(II)Z"⟩, 55), (⟨"SameBenchModel", "shownPlace", "(I)I"⟩, 55), (⟨"SameBenchModel", "leads", "(II)Z"⟩, 55), (⟨"SameBenchModel", "enter", "(I)V"⟩, 55), (⟨"SameBenchModel", "orderName", "(II)I"⟩, 55)]
theorem lw_r3 : ∀ q ∈ lw_privs_3, lw_okq q := List.forall_mem_cons.mpr ⟨lw_p32, List.forall_mem_cons.mpr ⟨lw_p33, List.forall_mem_cons.mpr ⟨lw_p34, List.forall_mem_cons.mpr ⟨lw_p35, List.forall_mem_cons.mpr ⟨lw_p36, fun _ h => absurd h List.not_mem_nil⟩⟩⟩⟩⟩
def lw_privs : List (MethodName × Nat) := lw_privs_1 ++ (lw_privs_2 ++ (lw_privs_3))
def lw_tbl : List Cond := k2_sels lw_privs ++ tables_1
theorem lw_privs_ok : ∀ q ∈ lw_privs, lw_okq q := by
  show ∀ q ∈ lw_privs_1 ++ (lw_privs_2 ++ (lw_privs_3)), lw_okq q
  exact List.forall_mem_append.mpr ⟨lw_r1, List.forall_mem_append.mpr ⟨lw_r2, lw_r3⟩⟩
def RX0 : String := "SameBench$Comparer"
def TX0 : u_T := fun k => match k with
  | 0 => ("SameBench$Comparer", "splitter", "LSameBench$Splitter;", true)
  | 1 => ("SameBench$Comparer", "tree", "LSameBench$Tree;", true)
  | 2 => ("SameBench$Comparer", "first", "LSameBench$Shown;", true)
  | 3 => ("SameBench$Comparer", "second", "LSameBench$Shown;", true)
  | 4 => ("SameBench$Comparer", "firstParting", "LSameBench$Parting;", true)
  | 5 => ("SameBench$Comparer", "secondParting", "LSameBench$Parting;", true)
  | 6 => ("SameBench$Comparer", "firstName", "LSameBench$Name;", true)
  | 7 => ("SameBench$Comparer", "secondName", "LSameBench$Name;", true)
  | 8 => ("SameBench$Comparer", "difference", "[I", true)
  | _ => ("SameBench$Comparer", "isToldApart", "Z", false)
def tyX0 : Nat → FieldType := fun k => match k with
  | 0 => .object "SameBench$Splitter"
  | 1 => .object "SameBench$Tree"
  | 2 => .object "SameBench$Shown"
  | 3 => .object "SameBench$Shown"
  | 4 => .object "SameBench$Parting"
  | 5 => .object "SameBench$Parting"
  | 6 => .object "SameBench$Name"
  | 7 => .object "SameBench$Name"
  | 8 => .array .int
  | _ => .boolean
abbrev wsX00 : List Cond := u_ws RX0 TX0 10
theorem nmX0 : ∀ a, a < 10 → ∀ b, b < 10 → a ≠ b → (TX0 a).2.1 ≠ (TX0 b).2.1 := by decide +kernel
theorem tyX0_ok : ∀ k, k < 10 → parseFieldDescriptor (TX0 k).2.2.1 = some (tyX0 k) := by decide +kernel
abbrev cX0_init : ByteArray := prog_2_method_1_code
def yX0_init : MethodName := ⟨RX0, "<init>", "(LSameBench$Splitter;LSameBench$Tree;)V"⟩
abbrev cX0_take : ByteArray := prog_2_method_2_code
def yX0_take : MethodName := ⟨RX0, "take", "(LSameBench$Net;LSameBench$Net;)V"⟩
abbrev cX0_findNames : ByteArray := prog_2_method_3_code
def yX0_findNames : MethodName := ⟨RX0, "findNames", "()Z"⟩
abbrev cX0_isOneName : ByteArray := prog_2_method_4_code
def yX0_isOneName : MethodName := ⟨RX0, "isOneName", "()Z"⟩
abbrev cX0_tellApart : ByteArray := prog_2_method_5_code
def yX0_tellApart : MethodName := ⟨RX0, "tellApart", "()I"⟩
abbrev cX0_keepDifference : ByteArray := prog_2_method_6_code
def yX0_keepDifference : MethodName := ⟨RX0, "keepDifference", "(III)V"⟩
abbrev cX0_isToldByKeys : ByteArray := prog_2_method_7_code
def yX0_isToldByKeys : MethodName := ⟨RX0, "isToldByKeys", "()Z"⟩
abbrev cX0_isToldByHeaps : ByteArray := prog_2_method_8_code
def yX0_isToldByHeaps : MethodName := ⟨RX0, "isToldByHeaps", "()Z"⟩
abbrev cX0_isToldByNames : ByteArray := prog_2_method_9_code
def yX0_isToldByNames : MethodName := ⟨RX0, "isToldByNames", "()Z"⟩
def RX1 : String := "SameBench$History"
def TX1 : u_T := fun k => match k with
  | 0 => ("SameBench$History", "nets", "[LSameBench$Net;", true)
  | 1 => ("SameBench$History", "graphs", "[I", true)
  | 2 => ("SameBench$History", "next", "I", false)
  | _ => ("SameBench$History", "kept", "I", false)
def tyX1 : Nat → FieldType := fun k => match k with
  | 0 => .array (.object "SameBench$Net")
  | 1 => .array .int
  | 2 => .int
  | _ => .int
abbrev wsX10 : List Cond := u_ws RX1 TX1 4
theorem nmX1 : ∀ a, a < 4 → ∀ b, b < 4 → a ≠ b → (TX1 a).2.1 ≠ (TX1 b).2.1 := by decide +kernel
theorem tyX1_ok : ∀ k, k < 4 → parseFieldDescriptor (TX1 k).2.2.1 = some (tyX1 k) := by decide +kernel
abbrev cX1_init : ByteArray := prog_3_method_1_code
def yX1_init : MethodName := ⟨RX1, "<init>", "()V"⟩
abbrev cX1_keep : ByteArray := prog_3_method_2_code
def yX1_keep : MethodName := ⟨RX1, "keep", "(ILSameBench$Net;)V"⟩
abbrev cX1_latest : ByteArray := prog_3_method_3_code
def yX1_latest : MethodName := ⟨RX1, "latest", "()I"⟩
abbrev cX1_latestGraph : ByteArray := prog_3_method_4_code
def yX1_latestGraph : MethodName := ⟨RX1, "latestGraph", "()I"⟩
abbrev cX1_latestNet : ByteArray := prog_3_method_5_code
def yX1_latestNet : MethodName := ⟨RX1, "latestNet", "()LSameBench$Net;"⟩
abbrev cX1_forgetLatest : ByteArray := prog_3_method_6_code
def yX1_forgetLatest : MethodName := ⟨RX1, "forgetLatest", "()V"⟩
def RX2 : String := "SameBench$Lister"
def TX2 : u_T := fun k => match k with
  | 0 => ("SameBench$Lister", "names", "[LSameBench$Name;", true)
  | 1 => ("SameBench$Lister", "count", "I", false)
  | 2 => ("SameBench$Lister", "isMet", "[Z", true)
  | _ => ("SameBench$Lister", "sort", "[I", true)
def tyX2 : Nat → FieldType := fun k => match k with
  | 0 => .array (.object "SameBench$Name")
  | 1 => .int
  | 2 => .array .boolean
  | _ => .array .int
abbrev wsX20 : List Cond := u_ws RX2 TX2 4
theorem nmX2 : ∀ a, a < 4 → ∀ b, b < 4 → a ≠ b → (TX2 a).2.1 ≠ (TX2 b).2.1 := by decide +kernel
theorem tyX2_ok : ∀ k, k < 4 → parseFieldDescriptor (TX2 k).2.2.1 = some (tyX2 k) := by decide +kernel
abbrev cX2_init : ByteArray := prog_4_method_1_code
def yX2_init : MethodName := ⟨RX2, "<init>", "()V"⟩
abbrev cX2_bitOf : ByteArray := prog_4_method_2_code
def yX2_bitOf : MethodName := ⟨RX2, "bitOf", "(II)I"⟩
abbrev cX2_make : ByteArray := prog_4_method_3_code
def yX2_make : MethodName := ⟨RX2, "make", "(IILSameBench$Tree;LSameBench$Shown;)V"⟩
abbrev cX2_meetAllOfSort : ByteArray := prog_4_method_4_code
def yX2_meetAllOfSort : MethodName := ⟨RX2, "meetAllOfSort", "(II)V"⟩
abbrev cX2_exchanged : ByteArray := prog_4_method_5_code
def yX2_exchanged : MethodName := ⟨RX2, "exchanged", "(III)I"⟩
abbrev cX2_neighbourOf : ByteArray := prog_4_method_6_code
def yX2_neighbourOf : MethodName := ⟨RX2, "neighbourOf", "(II)I"⟩
abbrev cX2_putInPlace : ByteArray := prog_4_method_7_code
def yX2_putInPlace : MethodName := ⟨RX2, "putInPlace", "()V"⟩
def RX3 : String := "SameBench$Name"
def TX3 : u_T := fun k => match k with
  | 0 => ("SameBench$Name", "isThere", "Z", false)
  | 1 => ("SameBench$Name", "things", "I", false)
  | 2 => ("SameBench$Name", "length", "I", false)
  | 3 => ("SameBench$Name", "leaves", "I", false)
  | 4 => ("SameBench$Name", "nodes", "I", false)
  | 5 => ("SameBench$Name", "row", "[I", true)
  | _ => ("SameBench$Name", "order", "[I", true)
def tyX3 : Nat → FieldType := fun k => match k with
  | 0 => .boolean
  | 1 => .int
  | 2 => .int
  | 3 => .int
  | 4 => .int
  | 5 => .array .int
  | _ => .array .int
abbrev wsX30 : List Cond := u_ws RX3 TX3 7
theorem nmX3 : ∀ a, a < 7 → ∀ b, b < 7 → a ≠ b → (TX3 a).2.1 ≠ (TX3 b).2.1 := by decide +kernel
theorem tyX3_ok : ∀ k, k < 7 → parseFieldDescriptor (TX3 k).2.2.1 = some (tyX3 k) := by decide +kernel
abbrev cX3_init : ByteArray := prog_5_method_1_code
def yX3_init : MethodName := ⟨RX3, "<init>", "()V"⟩
abbrev cX3_differsAt : ByteArray := prog_5_method_2_code
def yX3_differsAt : MethodName := ⟨RX3, "differsAt", "(LSameBench$Name;)I"⟩
abbrev cX3_isLessThan : ByteArray := prog_5_method_3_code
def yX3_isLessThan : MethodName := ⟨RX3, "isLessThan", "(LSameBench$Name;)Z"⟩
def RX4 : String := "SameBench$Net"
def TX4 : u_T := fun k => match k with
  | 0 => ("SameBench$Net", "things", "I", false)
  | 1 => ("SameBench$Net", "kind", "[I", true)
  | 2 => ("SameBench$Net", "colour", "[I", true)
  | 3 => ("SameBench$Net", "word", "[I", true)
  | 4 => ("SameBench$Net", "places", "[I", true)
  | _ => ("SameBench$Net", "lines", "[I", true)
def tyX4 : Nat → FieldType := fun k => match k with
  | 0 => .int
  | 1 => .array .int
  | 2 => .array .int
  | 3 => .array .int
  | 4 => .array .int
  | _ => .array .int
abbrev wsX40 : List Cond := u_ws RX4 TX4 6
theorem nmX4 : ∀ a, a < 6 → ∀ b, b < 6 → a ≠ b → (TX4 a).2.1 ≠ (TX4 b).2.1 := by decide +kernel
theorem tyX4_ok : ∀ k, k < 6 → parseFieldDescriptor (TX4 k).2.2.1 = some (tyX4 k) := by decide +kernel
abbrev cX4_init : ByteArray := prog_6_method_1_code
def yX4_init : MethodName := ⟨RX4, "<init>", "()V"⟩
abbrev cX4_add : ByteArray := prog_6_method_2_code
def yX4_add : MethodName := ⟨RX4, "add", "(III)I"⟩
abbrev cX4_clearRow : ByteArray := prog_6_method_3_code
def yX4_clearRow : MethodName := ⟨RX4, "clearRow", "(II)V"⟩
abbrev cX4_hasRow : ByteArray := prog_6_method_4_code
def yX4_hasRow : MethodName := ⟨RX4, "hasRow", "(I)Z"⟩
abbrev cX4_isNamed : ByteArray := prog_6_method_5_code
def yX4_isNamed : MethodName := ⟨RX4, "isNamed", "(I)Z"⟩
abbrev cX4_lineFrom : ByteArray := prog_6_method_6_code
def yX4_lineFrom : MethodName := ⟨RX4, "lineFrom", "(II)I"⟩
abbrev cX4_keyOf : ByteArray := prog_6_method_7_code
def yX4_keyOf : MethodName := ⟨RX4, "keyOf", "(I)I"⟩
abbrev cX4_countShown : ByteArray := prog_6_method_8_code
def yX4_countShown : MethodName := ⟨RX4, "countShown", "()I"⟩
abbrev cX4_isRight : ByteArray := prog_6_method_9_code
def yX4_isRight : MethodName := ⟨RX4, "isRight", "()Z"⟩
abbrev cX4_countNamesakes : ByteArray := prog_6_method_10_code
def yX4_countNamesakes : MethodName := ⟨RX4, "countNamesakes", "(I)I"⟩
abbrev cX4_lengthenRows : ByteArray := prog_6_method_11_code
def yX4_lengthenRows : MethodName := ⟨RX4, "lengthenRows", "()V"⟩
abbrev cX4_exchange : ByteArray := prog_6_method_12_code
def yX4_exchange : MethodName := ⟨RX4, "exchange", "(II)V"⟩
abbrev cX4_exchangeIn : ByteArray := prog_6_method_13_code
def yX4_exchangeIn : MethodName := ⟨RX4, "exchangeIn", "([III)V"⟩
abbrev cX4_become : ByteArray := prog_6_method_14_code
def yX4_become : MethodName := ⟨RX4, "become", "(LSameBench$Net;)V"⟩
abbrev cX4_becomeNamed : ByteArray := prog_6_method_15_code
def yX4_becomeNamed : MethodName := ⟨RX4, "becomeNamed", "(LSameBench$Name;)V"⟩
def RX5 : String := "SameBench$Parting"
def TX5 : u_T := fun k => match k with
  | 0 => ("SameBench$Parting", "things", "I", false)
  | 1 => ("SameBench$Parting", "heaps", "I", false)
  | 2 => ("SameBench$Parting", "heap", "[I", true)
  | 3 => ("SameBench$Parting", "size", "[I", true)
  | _ => ("SameBench$Parting", "order", "[I", true)
def tyX5 : Nat → FieldType := fun k => match k with
  | 0 => .int
  | 1 => .int
  | 2 => .array .int
  | 3 => .array .int
  | _ => .array .int
abbrev wsX50 : List Cond := u_ws RX5 TX5 5
theorem nmX5 : ∀ a, a < 5 → ∀ b, b < 5 → a ≠ b → (TX5 a).2.1 ≠ (TX5 b).2.1 := by decide +kernel
theorem tyX5_ok : ∀ k, k < 5 → parseFieldDescriptor (TX5 k).2.2.1 = some (tyX5 k) := by decide +kernel
abbrev cX5_init : ByteArray := prog_7_method_1_code
def yX5_init : MethodName := ⟨RX5, "<init>", "()V"⟩
abbrev cX5_gather : ByteArray := prog_7_method_2_code
def yX5_gather : MethodName := ⟨RX5, "gather", "(I)V"⟩
abbrev cX5_become : ByteArray := prog_7_method_3_code
def yX5_become : MethodName := ⟨RX5, "become", "(LSameBench$Parting;)V"⟩
abbrev cX5_isAlone : ByteArray := prog_7_method_4_code
def yX5_isAlone : MethodName := ⟨RX5, "isAlone", "(I)Z"⟩
abbrev cX5_isAllAlone : ByteArray := prog_7_method_5_code
def yX5_isAllAlone : MethodName := ⟨RX5, "isAllAlone", "()Z"⟩
abbrev cX5_firstBigHeap : ByteArray := prog_7_method_6_code
def yX5_firstBigHeap : MethodName := ⟨RX5, "firstBigHeap", "()I"⟩
abbrev cX5_firstNotAlone : ByteArray := prog_7_method_7_code
def yX5_firstNotAlone : MethodName := ⟨RX5, "firstNotAlone", "()I"⟩
abbrev cX5_setApart : ByteArray := prog_7_method_8_code
def yX5_setApart : MethodName := ⟨RX5, "setApart", "(I)V"⟩
abbrev cX5_moveAhead : ByteArray := prog_7_method_9_code
def yX5_moveAhead : MethodName := ⟨RX5, "moveAhead", "(I)V"⟩
abbrev cX5_hasHeapsLike : ByteArray := prog_7_method_10_code
def yX5_hasHeapsLike : MethodName := ⟨RX5, "hasHeapsLike", "(LSameBench$Parting;)Z"⟩
def RX6 : String := "SameBench$Shown"
def TX6 : u_T := fun k => match k with
  | 0 => ("SameBench$Shown", "things", "I", false)
  | 1 => ("SameBench$Shown", "number", "[I", true)
  | 2 => ("SameBench$Shown", "index", "[I", true)
  | 3 => ("SameBench$Shown", "keys", "[I", true)
  | 4 => ("SameBench$Shown", "lines", "[I", true)
  | _ => ("SameBench$Shown", "weights", "[J", true)
def tyX6 : Nat → FieldType := fun k => match k with
  | 0 => .int
  | 1 => .array .int
  | 2 => .array .int
  | 3 => .array .int
  | 4 => .array .int
  | _ => .array .long
abbrev wsX60 : List Cond := u_ws RX6 TX6 6
theorem nmX6 : ∀ a, a < 6 → ∀ b, b < 6 → a ≠ b → (TX6 a).2.1 ≠ (TX6 b).2.1 := by decide +kernel
theorem tyX6_ok : ∀ k, k < 6 → parseFieldDescriptor (TX6 k).2.2.1 = some (tyX6 k) := by decide +kernel
abbrev cX6_init : ByteArray := prog_8_method_1_code
def yX6_init : MethodName := ⟨RX6, "<init>", "()V"⟩
abbrev cX6_take : ByteArray := prog_8_method_2_code
def yX6_take : MethodName := ⟨RX6, "take", "(LSameBench$Net;)V"⟩
abbrev cX6_takePairs : ByteArray := prog_8_method_3_code
def yX6_takePairs : MethodName := ⟨RX6, "takePairs", "(II)V"⟩
abbrev cX6_addThing : ByteArray := prog_8_method_4_code
def yX6_addThing : MethodName := ⟨RX6, "addThing", "(II)V"⟩
abbrev cX6_setLine : ByteArray := prog_8_method_5_code
def yX6_setLine : MethodName := ⟨RX6, "setLine", "(III)V"⟩
abbrev cX6_lineFrom : ByteArray := prog_8_method_6_code
def yX6_lineFrom : MethodName := ⟨RX6, "lineFrom", "(II)I"⟩
abbrev cX6_indexOf : ByteArray := prog_8_method_7_code
def yX6_indexOf : MethodName := ⟨RX6, "indexOf", "(I)I"⟩
abbrev cX6_areTwins : ByteArray := prog_8_method_8_code
def yX6_areTwins : MethodName := ⟨RX6, "areTwins", "(II)Z"⟩
abbrev cX6_isTurning : ByteArray := prog_8_method_9_code
def yX6_isTurning : MethodName := ⟨RX6, "isTurning", "([I)Z"⟩
def RX7 : String := "SameBench$Splitter"
def TX7 : u_T := fun k => match k with
  | 0 => ("SameBench$Splitter", "sights", "[J", true)
  | 1 => ("SameBench$Splitter", "width", "I", false)
  | 2 => ("SameBench$Splitter", "newHeap", "[I", true)
  | _ => ("SameBench$Splitter", "newSize", "[I", true)
def tyX7 : Nat → FieldType := fun k => match k with
  | 0 => .array .long
  | 1 => .int
  | 2 => .array .int
  | _ => .array .int
abbrev wsX70 : List Cond := u_ws RX7 TX7 4
theorem nmX7 : ∀ a, a < 4 → ∀ b, b < 4 → a ≠ b → (TX7 a).2.1 ≠ (TX7 b).2.1 := by decide +kernel
theorem tyX7_ok : ∀ k, k < 4 → parseFieldDescriptor (TX7 k).2.2.1 = some (tyX7 k) := by decide +kernel
abbrev cX7_init : ByteArray := prog_9_method_1_code
def yX7_init : MethodName := ⟨RX7, "<init>", "()V"⟩
abbrev cX7_begin : ByteArray := prog_9_method_2_code
def yX7_begin : MethodName := ⟨RX7, "begin", "(LSameBench$Parting;LSameBench$Shown;)V"⟩
abbrev cX7_settle : ByteArray := prog_9_method_3_code
def yX7_settle : MethodName := ⟨RX7, "settle", "(LSameBench$Parting;LSameBench$Shown;)V"⟩
abbrev cX7_look : ByteArray := prog_9_method_4_code
def yX7_look : MethodName := ⟨RX7, "look", "(LSameBench$Parting;LSameBench$Shown;)V"⟩
abbrev cX7_divide : ByteArray := prog_9_method_5_code
def yX7_divide : MethodName := ⟨RX7, "divide", "(LSameBench$Parting;)V"⟩
abbrev cX7_compare : ByteArray := prog_9_method_6_code
def yX7_compare : MethodName := ⟨RX7, "compare", "(II)I"⟩
def RX8 : String := "SameBench$Tree"
def TX8 : u_T := fun k => match k with
  | 0 => ("SameBench$Tree", "splitter", "LSameBench$Splitter;", true)
  | 1 => ("SameBench$Tree", "levels", "[LSameBench$Parting;", true)
  | 2 => ("SameBench$Tree", "twins", "[Z", true)
  | 3 => ("SameBench$Tree", "row", "[I", true)
  | 4 => ("SameBench$Tree", "shown", "LSameBench$Shown;", false)
  | _ => ("SameBench$Tree", "name", "LSameBench$Name;", false)
def tyX8 : Nat → FieldType := fun k => match k with
  | 0 => .object "SameBench$Splitter"
  | 1 => .array (.object "SameBench$Parting")
  | 2 => .array .boolean
  | 3 => .array .int
  | 4 => .object "SameBench$Shown"
  | _ => .object "SameBench$Name"
abbrev wsX80 : List Cond := u_ws RX8 TX8 6
theorem nmX8 : ∀ a, a < 6 → ∀ b, b < 6 → a ≠ b → (TX8 a).2.1 ≠ (TX8 b).2.1 := by decide +kernel
theorem tyX8_ok : ∀ k, k < 6 → parseFieldDescriptor (TX8 k).2.2.1 = some (tyX8 k) := by decide +kernel
abbrev cX8_init : ByteArray := prog_10_method_1_code
def yX8_init : MethodName := ⟨RX8, "<init>", "(LSameBench$Splitter;)V"⟩
abbrev cX8_findName : ByteArray := prog_10_method_2_code
def yX8_findName : MethodName := ⟨RX8, "findName", "(LSameBench$Shown;LSameBench$Name;)Z"⟩
abbrev cX8_findTwins : ByteArray := prog_10_method_3_code
def yX8_findTwins : MethodName := ⟨RX8, "findTwins", "()V"⟩
abbrev cX8_grow : ByteArray := prog_10_method_4_code
def yX8_grow : MethodName := ⟨RX8, "grow", "(LSameBench$Tree;I)V"⟩
abbrev cX8_hasLesserTwin : ByteArray := prog_10_method_5_code
def yX8_hasLesserTwin : MethodName := ⟨RX8, "hasLesserTwin", "(LSameBench$Parting;I)Z"⟩
abbrev cX8_addLeaf : ByteArray := prog_10_method_6_code
def yX8_addLeaf : MethodName := ⟨RX8, "addLeaf", "(LSameBench$Parting;)V"⟩
abbrev cX8_writeRow : ByteArray := prog_10_method_7_code
def yX8_writeRow : MethodName := ⟨RX8, "writeRow", "(LSameBench$Parting;)V"⟩
abbrev cX8_isRowLess : ByteArray := prog_10_method_8_code
def yX8_isRowLess : MethodName := ⟨RX8, "isRowLess", "()Z"⟩
def RX9 : String := "SameBench$Turner"
def TX9 : u_T := fun k => match k with
  | 0 => ("SameBench$Turner", "splitter", "LSameBench$Splitter;", true)
  | 1 => ("SameBench$Turner", "ahead", "[LSameBench$Parting;", true)
  | 2 => ("SameBench$Turner", "here", "[LSameBench$Parting;", true)
  | 3 => ("SameBench$Turner", "there", "[LSameBench$Parting;", true)
  | 4 => ("SameBench$Turner", "image", "[I", true)
  | 5 => ("SameBench$Turner", "makers", "[I", true)
  | 6 => ("SameBench$Turner", "makerCount", "I", false)
  | 7 => ("SameBench$Turner", "group", "[I", true)
  | 8 => ("SameBench$Turner", "chain", "[I", true)
  | _ => ("SameBench$Turner", "shown", "LSameBench$Shown;", false)
def tyX9 : Nat → FieldType := fun k => match k with
  | 0 => .object "SameBench$Splitter"
  | 1 => .array (.object "SameBench$Parting")
  | 2 => .array (.object "SameBench$Parting")
  | 3 => .array (.object "SameBench$Parting")
  | 4 => .array .int
  | 5 => .array .int
  | 6 => .int
  | 7 => .array .int
  | 8 => .array .int
  | _ => .object "SameBench$Shown"
abbrev wsX90 : List Cond := u_ws RX9 TX9 10
theorem nmX9 : ∀ a, a < 10 → ∀ b, b < 10 → a ≠ b → (TX9 a).2.1 ≠ (TX9 b).2.1 := by decide +kernel
theorem tyX9_ok : ∀ k, k < 10 → parseFieldDescriptor (TX9 k).2.2.1 = some (tyX9 k) := by decide +kernel
abbrev cX9_init : ByteArray := prog_11_method_1_code
def yX9_init : MethodName := ⟨RX9, "<init>", "(LSameBench$Splitter;)V"⟩
abbrev cX9_findLeast : ByteArray := prog_11_method_2_code
def yX9_findLeast : MethodName := ⟨RX9, "findLeast", "(LSameBench$Shown;II)Z"⟩
abbrev cX9_findMakers : ByteArray := prog_11_method_3_code
def yX9_findMakers : MethodName := ⟨RX9, "findMakers", "(LSameBench$Shown;)V"⟩
abbrev cX9_markAhead : ByteArray := prog_11_method_4_code
def yX9_markAhead : MethodName := ⟨RX9, "markAhead", "()V"⟩
abbrev cX9_addMaker : ByteArray := prog_11_method_5_code
def yX9_addMaker : MethodName := ⟨RX9, "addMaker", "()V"⟩
abbrev cX9_joinGroups : ByteArray := prog_11_method_6_code
def yX9_joinGroups : MethodName := ⟨RX9, "joinGroups", "(II)V"⟩
abbrev cX9_countReached : ByteArray := prog_11_method_7_code
def yX9_countReached : MethodName := ⟨RX9, "countReached", "(I)I"⟩
abbrev cX9_isLed : ByteArray := prog_11_method_8_code
def yX9_isLed : MethodName := ⟨RX9, "isLed", "(LSameBench$Parting;II)Z"⟩
abbrev cX9_markInto : ByteArray := prog_11_method_9_code
def yX9_markInto : MethodName := ⟨RX9, "markInto", "(LSameBench$Parting;LSameBench$Parting;I)V"⟩
abbrev cX9_extend : ByteArray := prog_11_method_10_code
def yX9_extend : MethodName := ⟨RX9, "extend", "(LSameBench$Turner;I)Z"⟩
abbrev cX9_readImage : ByteArray := prog_11_method_11_code
def yX9_readImage : MethodName := ⟨RX9, "readImage", "(LSameBench$Parting;LSameBench$Parting;)Z"⟩
def RX10 : String := "SameBench$Turning"
def TX10 : u_T := fun k => match k with
  | 0 => ("SameBench$Turning", "isThere", "Z", false)
  | _ => ("SameBench$Turning", "to", "[I", true)
def tyX10 : Nat → FieldType := fun k => match k with
  | 0 => .boolean
  | _ => .array .int
abbrev wsX100 : List Cond := u_ws RX10 TX10 2
theorem nmX10 : ∀ a, a < 2 → ∀ b, b < 2 → a ≠ b → (TX10 a).2.1 ≠ (TX10 b).2.1 := by decide +kernel
theorem tyX10_ok : ∀ k, k < 2 → parseFieldDescriptor (TX10 k).2.2.1 = some (tyX10 k) := by decide +kernel
abbrev cX10_init : ByteArray := prog_12_method_1_code
def yX10_init : MethodName := ⟨RX10, "<init>", "()V"⟩
abbrev cX10_begin : ByteArray := prog_12_method_2_code
def yX10_begin : MethodName := ⟨RX10, "begin", "()V"⟩
abbrev cX10_takeOrders : ByteArray := prog_12_method_3_code
def yX10_takeOrders : MethodName := ⟨RX10, "takeOrders", "(LSameBench$Name;LSameBench$Name;)V"⟩
abbrev cX10_take : ByteArray := prog_12_method_4_code
def yX10_take : MethodName := ⟨RX10, "take", "(LSameBench$Shown;[II)V"⟩
abbrev cX10_leadsFrom : ByteArray := prog_12_method_5_code
def yX10_leadsFrom : MethodName := ⟨RX10, "leadsFrom", "(I)Z"⟩
abbrev cX10_isWithin : ByteArray := prog_12_method_6_code
def yX10_isWithin : MethodName := ⟨RX10, "isWithin", "(LSameBench$Turning;)Z"⟩
abbrev cX10_goOnBy : ByteArray := prog_12_method_7_code
def yX10_goOnBy : MethodName := ⟨RX10, "goOnBy", "(LSameBench$Turning;)V"⟩
def RX11 : String := "SameBench"
def TX11 : u_T := fun k => match k with
  | 0 => ("SameBench", "nets", "[LSameBench$Net;", true)
  | 1 => ("SameBench", "history", "LSameBench$History;", true)
  | 2 => ("SameBench", "shown", "LSameBench$Shown;", true)
  | 3 => ("SameBench", "splitter", "LSameBench$Splitter;", true)
  | 4 => ("SameBench", "tree", "LSameBench$Tree;", true)
  | 5 => ("SameBench", "turner", "LSameBench$Turner;", true)
  | 6 => ("SameBench", "comparer", "LSameBench$Comparer;", true)
  | 7 => ("SameBench", "isParted", "Z", false)
  | 8 => ("SameBench", "partedThings", "LSameBench$Shown;", true)
  | 9 => ("SameBench", "parting", "LSameBench$Parting;", true)
  | 10 => ("SameBench", "nameAtHand", "LSameBench$Name;", true)
  | 11 => ("SameBench", "turning", "LSameBench$Turning;", true)
  | 12 => ("SameBench", "makersFound", "[LSameBench$Turning;", true)
  | 13 => ("SameBench", "makerCount", "I", false)
  | _ => ("SameBench", "lister", "LSameBench$Lister;", true)
def tyX11 : Nat → FieldType := fun k => match k with
  | 0 => .array (.object "SameBench$Net")
  | 1 => .object "SameBench$History"
  | 2 => .object "SameBench$Shown"
  | 3 => .object "SameBench$Splitter"
  | 4 => .object "SameBench$Tree"
  | 5 => .object "SameBench$Turner"
  | 6 => .object "SameBench$Comparer"
  | 7 => .boolean
  | 8 => .object "SameBench$Shown"
  | 9 => .object "SameBench$Parting"
  | 10 => .object "SameBench$Name"
  | 11 => .object "SameBench$Turning"
  | 12 => .array (.object "SameBench$Turning")
  | 13 => .int
  | _ => .object "SameBench$Lister"
abbrev wsX110 : List Cond := u_ws RX11 TX11 15
theorem nmX11 : ∀ a, a < 15 → ∀ b, b < 15 → a ≠ b → (TX11 a).2.1 ≠ (TX11 b).2.1 := by decide +kernel
theorem tyX11_ok : ∀ k, k < 15 → parseFieldDescriptor (TX11 k).2.2.1 = some (tyX11 k) := by decide +kernel
abbrev cX11_init : ByteArray := prog_1_method_1_code
def yX11_init : MethodName := ⟨RX11, "<init>", "()V"⟩
abbrev cX11_thing : ByteArray := prog_1_method_2_code
def yX11_thing : MethodName := ⟨RX11, "thing", "(IIII)I"⟩
abbrev cX11_colour : ByteArray := prog_1_method_3_code
def yX11_colour : MethodName := ⟨RX11, "colour", "(III)I"⟩
abbrev cX11_word : ByteArray := prog_1_method_4_code
def yX11_word : MethodName := ⟨RX11, "word", "(III)I"⟩
abbrev cX11_row : ByteArray := prog_1_method_5_code
def yX11_row : MethodName := ⟨RX11, "row", "(III)I"⟩
abbrev cX11_unrow : ByteArray := prog_1_method_6_code
def yX11_unrow : MethodName := ⟨RX11, "unrow", "(II)I"⟩
abbrev cX11_place : ByteArray := prog_1_method_7_code
def yX11_place : MethodName := ⟨RX11, "place", "(IIII)I"⟩
abbrev cX11_line : ByteArray := prog_1_method_8_code
def yX11_line : MethodName := ⟨RX11, "line", "(III)I"⟩
abbrev cX11_copy : ByteArray := prog_1_method_9_code
def yX11_copy : MethodName := ⟨RX11, "copy", "(IIIIIII)I"⟩
abbrev cX11_swap : ByteArray := prog_1_method_10_code
def yX11_swap : MethodName := ⟨RX11, "swap", "(III)I"⟩
abbrev cX11_twin : ByteArray := prog_1_method_11_code
def yX11_twin : MethodName := ⟨RX11, "twin", "(II)I"⟩
abbrev cX11_drop : ByteArray := prog_1_method_12_code
def yX11_drop : MethodName := ⟨RX11, "drop", "(I)I"⟩
abbrev cX11_told : ByteArray := prog_1_method_13_code
def yX11_told : MethodName := ⟨RX11, "told", "(III)I"⟩
abbrev cX11_count : ByteArray := prog_1_method_14_code
def yX11_count : MethodName := ⟨RX11, "count", "(II)I"⟩
abbrev cX11_undo : ByteArray := prog_1_method_15_code
def yX11_undo : MethodName := ⟨RX11, "undo", "()I"⟩
abbrev cX11_split : ByteArray := prog_1_method_16_code
def yX11_split : MethodName := ⟨RX11, "split", "(I)I"⟩
abbrev cX11_mark : ByteArray := prog_1_method_17_code
def yX11_mark : MethodName := ⟨RX11, "mark", "(I)I"⟩
abbrev cX11_heapOf : ByteArray := prog_1_method_18_code
def yX11_heapOf : MethodName := ⟨RX11, "heapOf", "(I)I"⟩
abbrev cX11_name : ByteArray := prog_1_method_19_code
def yX11_name : MethodName := ⟨RX11, "name", "(I)I"⟩
abbrev cX11_nameAt : ByteArray := prog_1_method_20_code
def yX11_nameAt : MethodName := ⟨RX11, "nameAt", "(I)I"⟩
abbrev cX11_order : ByteArray := prog_1_method_21_code
def yX11_order : MethodName := ⟨RX11, "order", "(I)I"⟩
abbrev cX11_nodes : ByteArray := prog_1_method_22_code
def yX11_nodes : MethodName := ⟨RX11, "nodes", "()I"⟩
abbrev cX11_same : ByteArray := prog_1_method_23_code
def yX11_same : MethodName := ⟨RX11, "same", "(II)I"⟩
abbrev cX11_unlike : ByteArray := prog_1_method_24_code
def yX11_unlike : MethodName := ⟨RX11, "unlike", "(II)I"⟩
abbrev cX11_why : ByteArray := prog_1_method_25_code
def yX11_why : MethodName := ⟨RX11, "why", "(I)I"⟩
abbrev cX11_turnings : ByteArray := prog_1_method_26_code
def yX11_turnings : MethodName := ⟨RX11, "turnings", "(I)J"⟩
abbrev cX11_chain : ByteArray := prog_1_method_27_code
def yX11_chain : MethodName := ⟨RX11, "chain", "(II)I"⟩
abbrev cX11_where : ByteArray := prog_1_method_28_code
def yX11_where : MethodName := ⟨RX11, "where", "(III)I"⟩
abbrev cX11_orbit : ByteArray := prog_1_method_29_code
def yX11_orbit : MethodName := ⟨RX11, "orbit", "(II)I"⟩
abbrev cX11_by : ByteArray := prog_1_method_30_code
def yX11_by : MethodName := ⟨RX11, "by", "(I)I"⟩
abbrev cX11_makers : ByteArray := prog_1_method_31_code
def yX11_makers : MethodName := ⟨RX11, "makers", "(I)I"⟩
abbrev cX11_maker : ByteArray := prog_1_method_32_code
def yX11_maker : MethodName := ⟨RX11, "maker", "(II)I"⟩
abbrev cX11_then : ByteArray := prog_1_method_33_code
def yX11_then : MethodName := ⟨RX11, "then", "(I)I"⟩
abbrev cX11_list : ByteArray := prog_1_method_34_code
def yX11_list : MethodName := ⟨RX11, "list", "(II)I"⟩
abbrev cX11_listed : ByteArray := prog_1_method_35_code
def yX11_listed : MethodName := ⟨RX11, "listed", "(II)I"⟩
abbrev cX11_isBelow : ByteArray := prog_1_method_36_code
def yX11_isBelow : MethodName := ⟨RX11, "isBelow", "(II)Z"⟩
abbrev cX11_isNamedKind : ByteArray := prog_1_method_37_code
def yX11_isNamedKind : MethodName := ⟨RX11, "isNamedKind", "(I)Z"⟩
abbrev cX11_isGraph : ByteArray := prog_1_method_38_code
def yX11_isGraph : MethodName := ⟨RX11, "isGraph", "(I)Z"⟩
abbrev cX11_isThing : ByteArray := prog_1_method_39_code
def yX11_isThing : MethodName := ⟨RX11, "isThing", "(II)Z"⟩
abbrev cX11_keep : ByteArray := prog_1_method_40_code
def yX11_keep : MethodName := ⟨RX11, "keep", "(I)V"⟩
abbrev cX11_refusalOfTurnings : ByteArray := prog_1_method_41_code
def yX11_refusalOfTurnings : MethodName := ⟨RX11, "refusalOfTurnings", "(I)I"⟩
abbrev cX11_makePartings : ByteArray := prog_1_method_42_code
def yX11_makePartings : MethodName := ⟨RX11, "makePartings", "(I)[LSameBench$Parting;"⟩
def RX12 : String := "SameBenchModel"
def TX12 : u_T := fun k => match k with
  | 0 => ("SameBenchModel", "many", "[I", true)
  | 1 => ("SameBenchModel", "kinds", "[I", true)
  | 2 => ("SameBenchModel", "colours", "[I", true)
  | 3 => ("SameBenchModel", "words", "[I", true)
  | 4 => ("SameBenchModel", "lengths", "[I", true)
  | 5 => ("SameBenchModel", "rows", "[I", true)
  | 6 => ("SameBenchModel", "oldGraph", "[I", true)
  | 7 => ("SameBenchModel", "oldMany", "[I", true)
  | 8 => ("SameBenchModel", "oldKinds", "[I", true)
  | 9 => ("SameBenchModel", "oldColours", "[I", true)
  | 10 => ("SameBenchModel", "oldWords", "[I", true)
  | 11 => ("SameBenchModel", "oldLengths", "[I", true)
  | 12 => ("SameBenchModel", "oldRows", "[I", true)
  | 13 => ("SameBenchModel", "olds", "I", false)
  | 14 => ("SameBenchModel", "taken", "[I", true)
  | 15 => ("SameBenchModel", "n", "I", false)
  | 16 => ("SameBenchModel", "at", "[I", true)
  | 17 => ("SameBenchModel", "key", "[I", true)
  | 18 => ("SameBenchModel", "lines", "[I", true)
  | 19 => ("SameBenchModel", "heap", "[I", true)
  | 20 => ("SameBenchModel", "heaps", "[I", true)
  | 21 => ("SameBenchModel", "sights", "[I", true)
  | 22 => ("SameBenchModel", "sorted", "[I", true)
  | 23 => ("SameBenchModel", "hasParting", "Z", false)
  | 24 => ("SameBenchModel", "handN", "I", false)
  | 25 => ("SameBenchModel", "handAt", "[I", true)
  | 26 => ("SameBenchModel", "handLines", "[I", true)
  | 27 => ("SameBenchModel", "next", "[I", true)
  | 28 => ("SameBenchModel", "leaves", "I", false)
  | 29 => ("SameBenchModel", "treeNodes", "I", false)
  | 30 => ("SameBenchModel", "best", "[I", true)
  | 31 => ("SameBenchModel", "bestOrder", "[I", true)
  | 32 => ("SameBenchModel", "candidate", "[I", true)
  | 33 => ("SameBenchModel", "byHeap", "[I", true)
  | 34 => ("SameBenchModel", "hasName", "Z", false)
  | 35 => ("SameBenchModel", "name", "[I", true)
  | 36 => ("SameBenchModel", "nameOrder", "[I", true)
  | 37 => ("SameBenchModel", "nameNodes", "I", false)
  | 38 => ("SameBenchModel", "other", "[I", true)
  | 39 => ("SameBenchModel", "otherOrder", "[I", true)
  | 40 => ("SameBenchModel", "hasTurning", "Z", false)
  | 41 => ("SameBenchModel", "turning", "[I", true)
  | 42 => ("SameBenchModel", "hasWhy", "Z", false)
  | 43 => ("SameBenchModel", "why", "[I", true)
  | 44 => ("SameBenchModel", "firstKeys", "[I", true)
  | 45 => ("SameBenchModel", "firstSizes", "[I", true)
  | 46 => ("SameBenchModel", "theseKeys", "[I", true)
  | 47 => ("SameBenchModel", "theseSizes", "[I", true)
  | 48 => ("SameBenchModel", "image", "[I", true)
  | 49 => ("SameBenchModel", "makers", "I", false)
  | 50 => ("SameBenchModel", "maker", "[I", true)
  | 51 => ("SameBenchModel", "makerThings", "I", false)
  | 52 => ("SameBenchModel", "listed", "I", false)
  | 53 => ("SameBenchModel", "listThings", "I", false)
  | _ => ("SameBenchModel", "list", "[I", true)
def tyX12 : Nat → FieldType := fun k => match k with
  | 0 => .array .int
  | 1 => .array .int
  | 2 => .array .int
  | 3 => .array .int
  | 4 => .array .int
  | 5 => .array .int
  | 6 => .array .int
  | 7 => .array .int
  | 8 => .array .int
  | 9 => .array .int
  | 10 => .array .int
  | 11 => .array .int
  | 12 => .array .int
  | 13 => .int
  | 14 => .array .int
  | 15 => .int
  | 16 => .array .int
  | 17 => .array .int
  | 18 => .array .int
  | 19 => .array .int
  | 20 => .array .int
  | 21 => .array .int
  | 22 => .array .int
  | 23 => .boolean
  | 24 => .int
  | 25 => .array .int
  | 26 => .array .int
  | 27 => .array .int
  | 28 => .int
  | 29 => .int
  | 30 => .array .int
  | 31 => .array .int
  | 32 => .array .int
  | 33 => .array .int
  | 34 => .boolean
  | 35 => .array .int
  | 36 => .array .int
  | 37 => .int
  | 38 => .array .int
  | 39 => .array .int
  | 40 => .boolean
  | 41 => .array .int
  | 42 => .boolean
  | 43 => .array .int
  | 44 => .array .int
  | 45 => .array .int
  | 46 => .array .int
  | 47 => .array .int
  | 48 => .array .int
  | 49 => .int
  | 50 => .array .int
  | 51 => .int
  | 52 => .int
  | 53 => .int
  | _ => .array .int
abbrev wsX120 : List Cond := u_ws RX12 TX12 55
theorem nmX12 : ∀ a, a < 55 → ∀ b, b < 55 → a ≠ b → (TX12 a).2.1 ≠ (TX12 b).2.1 := by decide +kernel
theorem tyX12_ok : ∀ k, k < 55 → parseFieldDescriptor (TX12 k).2.2.1 = some (tyX12 k) := by decide +kernel
abbrev cX12_init : ByteArray := prog_14_method_1_code
def yX12_init : MethodName := ⟨RX12, "<init>", "()V"⟩
abbrev cX12_in : ByteArray := prog_14_method_2_code
def yX12_in : MethodName := ⟨RX12, "in", "(III)Z"⟩
abbrev cX12_isGraph : ByteArray := prog_14_method_3_code
def yX12_isGraph : MethodName := ⟨RX12, "isGraph", "(I)Z"⟩
abbrev cX12_isThing : ByteArray := prog_14_method_4_code
def yX12_isThing : MethodName := ⟨RX12, "isThing", "(II)Z"⟩
abbrev cX12_note : ByteArray := prog_14_method_5_code
def yX12_note : MethodName := ⟨RX12, "note", "(I)V"⟩
abbrev cX12_undo : ByteArray := prog_14_method_6_code
def yX12_undo : MethodName := ⟨RX12, "undo", "()I"⟩
abbrev cX12_isNamed : ByteArray := prog_14_method_7_code
def yX12_isNamed : MethodName := ⟨RX12, "isNamed", "(I)Z"⟩
abbrev cX12_thing : ByteArray := prog_14_method_8_code
def yX12_thing : MethodName := ⟨RX12, "thing", "(IIII)I"⟩
abbrev cX12_colour : ByteArray := prog_14_method_9_code
def yX12_colour : MethodName := ⟨RX12, "colour", "(III)I"⟩
abbrev cX12_word : ByteArray := prog_14_method_10_code
def yX12_word : MethodName := ⟨RX12, "word", "(III)I"⟩
abbrev cX12_row : ByteArray := prog_14_method_11_code
def yX12_row : MethodName := ⟨RX12, "row", "(III)I"⟩
abbrev cX12_unrow : ByteArray := prog_14_method_12_code
def yX12_unrow : MethodName := ⟨RX12, "unrow", "(II)I"⟩
abbrev cX12_place : ByteArray := prog_14_method_13_code
def yX12_place : MethodName := ⟨RX12, "place", "(IIII)I"⟩
abbrev cX12_lineOf : ByteArray := prog_14_method_14_code
def yX12_lineOf : MethodName := ⟨RX12, "lineOf", "(III)I"⟩
abbrev cX12_line : ByteArray := prog_14_method_15_code
def yX12_line : MethodName := ⟨RX12, "line", "(III)I"⟩
abbrev cX12_copy : ByteArray := prog_14_method_16_code
def yX12_copy : MethodName := ⟨RX12, "copy", "(IIIIIII)I"⟩
abbrev cX12_swap : ByteArray := prog_14_method_17_code
def yX12_swap : MethodName := ⟨RX12, "swap", "(III)I"⟩
abbrev cX12_exchange : ByteArray := prog_14_method_18_code
def yX12_exchange : MethodName := ⟨RX12, "exchange", "([III)V"⟩
abbrev cX12_twin : ByteArray := prog_14_method_19_code
def yX12_twin : MethodName := ⟨RX12, "twin", "(II)I"⟩
abbrev cX12_drop : ByteArray := prog_14_method_20_code
def yX12_drop : MethodName := ⟨RX12, "drop", "(I)I"⟩
abbrev cX12_keyOf : ByteArray := prog_14_method_21_code
def yX12_keyOf : MethodName := ⟨RX12, "keyOf", "(II)I"⟩
abbrev cX12_told : ByteArray := prog_14_method_22_code
def yX12_told : MethodName := ⟨RX12, "told", "(III)I"⟩
abbrev cX12_isRight : ByteArray := prog_14_method_23_code
def yX12_isRight : MethodName := ⟨RX12, "isRight", "(I)Z"⟩
abbrev cX12_shownOf : ByteArray := prog_14_method_24_code
def yX12_shownOf : MethodName := ⟨RX12, "shownOf", "(I)I"⟩
abbrev cX12_count : ByteArray := prog_14_method_25_code
def yX12_count : MethodName := ⟨RX12, "count", "(II)I"⟩
abbrev cX12_layOut : ByteArray := prog_14_method_26_code
def yX12_layOut : MethodName := ⟨RX12, "layOut", "(I)V"⟩
abbrev cX12_orderSights : ByteArray := prog_14_method_27_code
def yX12_orderSights : MethodName := ⟨RX12, "orderSights", "(III)I"⟩
abbrev cX12_gather : ByteArray := prog_14_method_28_code
def yX12_gather : MethodName := ⟨RX12, "gather", "(II)V"⟩
abbrev cX12_start : ByteArray := prog_14_method_29_code
def yX12_start : MethodName := ⟨RX12, "start", "(I)V"⟩
abbrev cX12_see : ByteArray := prog_14_method_30_code
def yX12_see : MethodName := ⟨RX12, "see", "(II)V"⟩
abbrev cX12_splitIn : ByteArray := prog_14_method_31_code
def yX12_splitIn : MethodName := ⟨RX12, "splitIn", "(I)V"⟩
abbrev cX12_isAlone : ByteArray := prog_14_method_32_code
def yX12_isAlone : MethodName := ⟨RX12, "isAlone", "(II)Z"⟩
abbrev cX12_markIn : ByteArray := prog_14_method_33_code
def yX12_markIn : MethodName := ⟨RX12, "markIn", "(II)V"⟩
abbrev cX12_split : ByteArray := prog_14_method_34_code
def yX12_split : MethodName := ⟨RX12, "split", "(I)I"⟩
abbrev cX12_handOf : ByteArray := prog_14_method_35_code
def yX12_handOf : MethodName := ⟨RX12, "handOf", "(I)I"⟩
abbrev cX12_mark : ByteArray := prog_14_method_36_code
def yX12_mark : MethodName := ⟨RX12, "mark", "(I)I"⟩
abbrev cX12_heapOf : ByteArray := prog_14_method_37_code
def yX12_heapOf : MethodName := ⟨RX12, "heapOf", "(I)I"⟩
abbrev cX12_areTwins : ByteArray := prog_14_method_38_code
def yX12_areTwins : MethodName := ⟨RX12, "areTwins", "(II)Z"⟩
abbrev cX12_targetOf : ByteArray := prog_14_method_39_code
def yX12_targetOf : MethodName := ⟨RX12, "targetOf", "(I)I"⟩
abbrev cX12_follows : ByteArray := prog_14_method_40_code
def yX12_follows : MethodName := ⟨RX12, "follows", "(III)Z"⟩
abbrev cX12_sizeOf : ByteArray := prog_14_method_41_code
def yX12_sizeOf : MethodName := ⟨RX12, "sizeOf", "(I)I"⟩
abbrev cX12_leaf : ByteArray := prog_14_method_42_code
def yX12_leaf : MethodName := ⟨RX12, "leaf", "(I)V"⟩
abbrev cX12_grow : ByteArray := prog_14_method_43_code
def yX12_grow : MethodName := ⟨RX12, "grow", "()Z"⟩
abbrev cX12_keepOther : ByteArray := prog_14_method_44_code
def yX12_keepOther : MethodName := ⟨RX12, "keepOther", "()V"⟩
abbrev cX12_name : ByteArray := prog_14_method_45_code
def yX12_name : MethodName := ⟨RX12, "name", "(I)I"⟩
abbrev cX12_nameAt : ByteArray := prog_14_method_46_code
def yX12_nameAt : MethodName := ⟨RX12, "nameAt", "(I)I"⟩
abbrev cX12_order : ByteArray := prog_14_method_47_code
def yX12_order : MethodName := ⟨RX12, "order", "(I)I"⟩
abbrev cX12_nodes : ByteArray := prog_14_method_48_code
def yX12_nodes : MethodName := ⟨RX12, "nodes", "()I"⟩
abbrev cX12_clearTurning : ByteArray := prog_14_method_49_code
def yX12_clearTurning : MethodName := ⟨RX12, "clearTurning", "()V"⟩
abbrev cX12_differsAt : ByteArray := prog_14_method_50_code
def yX12_differsAt : MethodName := ⟨RX12, "differsAt", "(I)I"⟩
abbrev cX12_growBoth : ByteArray := prog_14_method_51_code
def yX12_growBoth : MethodName := ⟨RX12, "growBoth", "(II)Z"⟩
abbrev cX12_same : ByteArray := prog_14_method_52_code
def yX12_same : MethodName := ⟨RX12, "same", "(II)I"⟩
abbrev cX12_unlikeBy : ByteArray := prog_14_method_53_code
def yX12_unlikeBy : MethodName := ⟨RX12, "unlikeBy", "(IIII)I"⟩
abbrev cX12_sumUp : ByteArray := prog_14_method_54_code
def yX12_sumUp : MethodName := ⟨RX12, "sumUp", "([I[I)V"⟩
abbrev cX12_unlike : ByteArray := prog_14_method_55_code
def yX12_unlike : MethodName := ⟨RX12, "unlike", "(II)I"⟩
abbrev cX12_why : ByteArray := prog_14_method_56_code
def yX12_why : MethodName := ⟨RX12, "why", "(I)I"⟩
abbrev cX12_mayGo : ByteArray := prog_14_method_57_code
def yX12_mayGo : MethodName := ⟨RX12, "mayGo", "(II)Z"⟩
abbrev cX12_find : ByteArray := prog_14_method_58_code
def yX12_find : MethodName := ⟨RX12, "find", "(III)Z"⟩
abbrev cX12_chainOf : ByteArray := prog_14_method_59_code
def yX12_chainOf : MethodName := ⟨RX12, "chainOf", "(I)I"⟩
abbrev cX12_turnings : ByteArray := prog_14_method_60_code
def yX12_turnings : MethodName := ⟨RX12, "turnings", "(I)J"⟩
abbrev cX12_chain : ByteArray := prog_14_method_61_code
def yX12_chain : MethodName := ⟨RX12, "chain", "(II)I"⟩
abbrev cX12_shownPlace : ByteArray := prog_14_method_62_code
def yX12_shownPlace : MethodName := ⟨RX12, "shownPlace", "(I)I"⟩
abbrev cX12_where : ByteArray := prog_14_method_63_code
def yX12_where : MethodName := ⟨RX12, "where", "(III)I"⟩
abbrev cX12_orbit : ByteArray := prog_14_method_64_code
def yX12_orbit : MethodName := ⟨RX12, "orbit", "(II)I"⟩
abbrev cX12_by : ByteArray := prog_14_method_65_code
def yX12_by : MethodName := ⟨RX12, "by", "(I)I"⟩
abbrev cX12_leads : ByteArray := prog_14_method_66_code
def yX12_leads : MethodName := ⟨RX12, "leads", "(II)Z"⟩
abbrev cX12_makers : ByteArray := prog_14_method_67_code
def yX12_makers : MethodName := ⟨RX12, "makers", "(I)I"⟩
abbrev cX12_maker : ByteArray := prog_14_method_68_code
def yX12_maker : MethodName := ⟨RX12, "maker", "(II)I"⟩
abbrev cX12_then : ByteArray := prog_14_method_69_code
def yX12_then : MethodName := ⟨RX12, "then", "(I)I"⟩
abbrev cX12_bitsOf : ByteArray := prog_14_method_70_code
def yX12_bitsOf : MethodName := ⟨RX12, "bitsOf", "(I)I"⟩
abbrev cX12_orderName : ByteArray := prog_14_method_71_code
def yX12_orderName : MethodName := ⟨RX12, "orderName", "(II)I"⟩
abbrev cX12_enter : ByteArray := prog_14_method_72_code
def yX12_enter : MethodName := ⟨RX12, "enter", "(I)V"⟩
abbrev cX12_list : ByteArray := prog_14_method_73_code
def yX12_list : MethodName := ⟨RX12, "list", "(II)I"⟩
abbrev cX12_listed : ByteArray := prog_14_method_74_code
def yX12_listed : MethodName := ⟨RX12, "listed", "(II)I"⟩
def RJ6 : String := "java/lang/Integer"
def TJ6 : u_T := fun k => match k with
  | _ => ("", "", "", false)
def tyJ6 : Nat → FieldType := fun k => match k with
  | _ => .int
abbrev wsJ60 : List Cond := u_ws RJ6 TJ6 0
theorem nmJ6 : ∀ a, a < 0 → ∀ b, b < 0 → a ≠ b → (TJ6 a).2.1 ≠ (TJ6 b).2.1 := by decide +kernel
theorem tyJ6_ok : ∀ k, k < 0 → parseFieldDescriptor (TJ6 k).2.2.1 = some (tyJ6 k) := by decide +kernel
abbrev cJ6_bitCount_0f7a4 : ByteArray := prog_15_method_49_code
def yJ6_bitCount_0f7a4 : MethodName := ⟨RJ6, "bitCount", "(I)I"⟩
def RJ9 : String := "java/lang/Math"
def TJ9 : u_T := fun k => match k with
  | _ => ("", "", "", false)
def tyJ9 : Nat → FieldType := fun k => match k with
  | _ => .int
abbrev wsJ90 : List Cond := u_ws RJ9 TJ9 0
theorem nmJ9 : ∀ a, a < 0 → ∀ b, b < 0 → a ≠ b → (TJ9 a).2.1 ≠ (TJ9 b).2.1 := by decide +kernel
theorem tyJ9_ok : ∀ k, k < 0 → parseFieldDescriptor (TJ9 k).2.2.1 = some (tyJ9 k) := by decide +kernel
abbrev cJ9_max_7cf53 : ByteArray := prog_16_method_65_code
def yJ9_max_7cf53 : MethodName := ⟨RJ9, "max", "(II)I"⟩
abbrev cJ9_min_7cf53 : ByteArray := prog_16_method_69_code
def yJ9_min_7cf53 : MethodName := ⟨RJ9, "min", "(II)I"⟩
def RJ10 : String := "java/lang/System"
def TJ10 : u_T := fun k => match k with
  | _ => ("", "", "", false)
def tyJ10 : Nat → FieldType := fun k => match k with
  | _ => .int
abbrev wsJ100 : List Cond := u_ws RJ10 TJ10 0
theorem nmJ10 : ∀ a, a < 0 → ∀ b, b < 0 → a ≠ b → (TJ10 a).2.1 ≠ (TJ10 b).2.1 := by decide +kernel
theorem tyJ10_ok : ∀ k, k < 0 → parseFieldDescriptor (TJ10 k).2.2.1 = some (tyJ10 k) := by decide +kernel
def RL : String := "SameBenchLaw"
abbrev cL_law : ByteArray := code
def yL_law : MethodName := ⟨RL, "law", "([I)Z"⟩
abbrev vwCl : List vw_C := [(RX0, TX0, 10), (RX1, TX1, 4), (RX2, TX2, 4), (RX3, TX3, 7), (RX4, TX4, 6), (RX5, TX5, 5), (RX6, TX6, 6), (RX7, TX7, 4), (RX8, TX8, 6), (RX9, TX9, 10), (RX10, TX10, 2), (RX11, TX11, 15), (RX12, TX12, 55)]
end
section
/-! ===== the core: a plain memory (a number for each cell and place), and the machine's instructions over it ===== -/
/-- a method: its class, its name, its code, how many locals, what it answers -/
abbrev zb_F : Type := String × MethodName × ByteArray × Nat × Option FieldType
/-- a value: 0 an int, 1 a long, 2 a cell's number (0: none), 3 the script -/
abbrev zb_V : Type := Nat × Int
/-- how many cells there are; of each its kind (0 .. 12 a class, 13 ints, 14 longs, 15 booleans, 16 .. 19 references) and its length -/
abbrev zb_S : Type := Nat × (Int → Nat × Nat)
/-- what the cells hold -/
abbrev zb_M : Type := Int → Int → Int
/-- what stays through the whole run: the base, the script's cell, the heap at the start, the classes' numbers, the arrays' classes -/
abbrev zb_G : Type := Nat × Nat × Heap × va_G × (Nat → ClassId)
def zb_kt : Nat → FieldType
  | 0 => .int
  | 1 => .long
  | 2 => .boolean
  | 3 => .object RX4
  | 4 => .object RX5
  | 5 => .object RX3
  | _ => .object RX10
def zb_tys (cy : Nat → ClassId) : List (ClassId × FieldType) := (List.range 7).map (fun t => (cy t, zb_kt t))
theorem zb_tys_at (cy : Nat → ClassId) {t : Nat} (h : t < 7) : (zb_tys cy)[t]? = some (cy t, zb_kt t) := by
  simp [zb_tys, List.getElem?_map, List.getElem?_range h]
def zb_rf (B : Nat) (i : Int) : Option Nat := if i ≤ 0 then none else some (B + (i - 1).toNat)
def zb_cv (G : zb_G) (v : zb_V) : Value := match v.1 with
  | 0 => .int (Int32.ofInt v.2)
  | 1 => .long (Int64.ofInt v.2)
  | 2 => va_rf (zb_rf G.1 v.2)
  | _ => .ref G.2.1
def zb_ft : FieldType → Nat
  | .object _ => 2
  | .array _ => 2
  | .long => 1
  | _ => 0
def zb_tyX : Nat → Nat → FieldType
  | 0 => tyX0
  | 1 => tyX1
  | 2 => tyX2
  | 3 => tyX3
  | 4 => tyX4
  | 5 => tyX5
  | 6 => tyX6
  | 7 => tyX7
  | 8 => tyX8
  | 9 => tyX9
  | 10 => tyX10
  | 11 => tyX11
  | _ => tyX12
def zb_tag (ci k : Nat) : Nat := zb_ft (zb_tyX ci k)
def zb_nf (ci : Nat) : Nat := match vwCl[ci]? with
  | some q => q.2.2
  | none => 0
def zb_ent (G : zb_G) (kl : Nat × Nat) (f : Int → Int) : va_E :=
  if kl.1 < 13 then .inr (kl.1, (List.range (zb_nf kl.1)).map (fun (k : Nat) => zb_cv G (zb_tag kl.1 k, f k)))
  else .inl (G.2.2.2.2 (kl.1 - 13), kl.2,
    if kl.1 = 14 then .inr (.inl (fun j : Nat => Int64.ofInt (f j)))
    else if kl.1 < 16 then .inl (fun j : Nat => Int32.ofInt (f j))
    else .inr (.inr (.inr (.inr (fun j : Nat => zb_rf G.1 (f j))))))
/-- where a cell lies -/
def zb_ad (G : zb_G) (a : Int) : Nat := G.1 + (a - 1).toNat
def zb_inI (x : Int) : Prop := -2147483648 ≤ x ∧ x ≤ 2147483647
def zb_inL (x : Int) : Prop := -9223372036854775808 ≤ x ∧ x ≤ 9223372036854775807
def zb_ok (t : Nat) (x : Int) : Prop := match t with
  | 0 => zb_inI x
  | 1 => zb_inL x
  | 2 => 1 ≤ x
  | _ => True
/-- what a place of a cell may hold -/
def zb_okm (t : Nat) (x : Int) : Prop := match t with
  | 0 => zb_inI x
  | 1 => zb_inL x
  | _ => True
def zb_st (kl : Nat × Nat) (k : Int) : Nat := if kl.1 < 13 then zb_tag kl.1 k.toNat else if kl.1 = 14 then 1 else if kl.1 < 16 then 0 else 2
def zb_can (S : zb_S) (m : zb_M) : Prop := ∀ a k : Int, zb_okm (zb_st (S.2 a) k) (m a k)
/-- the heap holds what the memory says, and below the base what was there at the start -/
def zb_H (G : zb_G) (S : zb_S) (m : zb_M) (H : Heap) : Prop :=
  H.size = G.1 + S.1 ∧ (∀ a : Int, 1 ≤ a → a ≤ S.1 → va_at G.2.2.2.1 vwCl (zb_ad G a, zb_ent G (S.2 a) (m a)) H) ∧ (∀ q : Nat, q < G.1 → H[q]? = G.2.2.1[q]?) ∧ zb_can S m ∧ G.2.2.1.size = G.1
abbrev zb_C : Type := Program × Launch × Env × Room × State × MethodId × Array Value × List Frame × Method × Code × (State → Prop)
/-- where a walk stands: what stays, the machine's frame, how deep calls may go, how many cells and slots may be new, what is to hold at the end -/
abbrev zb_X : Type := zb_G × zb_C × Nat × Nat × Nat × (Int → zb_S → zb_M → Prop)
def zb_ret (ret : Option FieldType) (ins : Instr) (st : List zb_V) (r : Int) : Prop :=
  (ret = none ∧ ins = .return_ ∧ st = [] ∧ r = 0) ∨ (ret = some .int ∧ ins = .ireturn ∧ st = [(0, r)]) ∨ (ret = some .boolean ∧ ins = .ireturn ∧ st = [(0, r)] ∧ (r = 0 ∨ r = 1)) ∨
  (ret = some .long ∧ ins = .lreturn ∧ st = [(1, r)]) ∨ (((∃ nm, ret = some (.object nm)) ∨ ∃ t, ret = some (.array t)) ∧ ins = .areturn ∧ st = [(2, r)] ∧ 1 ≤ r)
/-- the words that every method may lean on -/
def zb_all : List Cond := lw_tbl.filter goodWord
theorem zb_in {w : Cond} (i : Nat) (h : lw_tbl[i]? = some w) (g : goodWord w = true) : w ∈ zb_all := List.mem_filter.mpr ⟨List.mem_of_getElem? h, g⟩
def zb_isNest : Cond → Bool
  | .methodLinkNest .. => true
  | _ => false
def zb_nest : List Cond := tables_1.filter zb_isNest
theorem zb_inN {w : Cond} (i : Nat) (h : tables_1[i]? = some w) (g : zb_isNest w = true) : w ∈ zb_nest := List.mem_filter.mpr ⟨List.mem_of_getElem? h, g⟩
/-- the classes over which there are arrays of references -/
def zb_over : List String := [RX4, RX5, RX3, RX10]
def zb_tb (U : State) : Prop := (∀ w ∈ zb_nest, va_Nw w U) ∧ ∀ C ∈ zb_over, va_AO C U
def zb_ctx (F : zb_F) (X : zb_X) : Prop := match X with
  | (G, (p, l, e, R, s, mi, args, below, meth, c, Z), d, K, N, Q) =>
    p.tables.exec = Jvm.exec ∧ c.code = F.2.2.1 ∧ c.maxLocals = F.2.2.2.1 ∧ s.vm.findClass F.1 = some mi.cls ∧ (∀ w ∈ zb_all, w.before args s = true) ∧ va_K G.2.2.2.1 vwCl (zb_tys G.2.2.2.2) s ∧ zb_tb s ∧
    (F.2.1.name = "<init>" → meth.name = "<init>") ∧ d ≤ R.frames ∧ 64 * (d + 1) ≤ R.locals ∧ K ≤ R.cells ∧ N ≤ R.slots ∧
    (∀ (S : zb_S) (m : zb_M) (H : Heap) (locs : List Loc) (ls : Array Slot) (pc : Nat) (ins : Instr) (st : List zb_V) (r : Int) (k n : Nat), zb_H G S m H → (∀ q ∈ locs, G.1 ≤ q.base) → zb_ret F.2.2.2.2 ins st r → (∀ v ∈ st, zb_ok v.1 v.2) →
      decode F.2.2.1 pc = .ok (ins, 1) → k ≤ K → n ≤ N → Q r S m → W p l e R s mi args below meth c H locs k n Z (F0 mi pc ls (st.map (zb_cv G))))
def zb_lv (G : zb_G) (L : List (Nat × zb_V)) : List (Nat × Value) := L.map (fun q => (q.1, zb_cv G q.2))
/-- from here the walk comes to its end, with what is to hold there -/
def zb_WP (X : zb_X) (F : zb_F) (pc : Nat) (L : List (Nat × zb_V)) (st : List zb_V) (S : zb_S) (m : zb_M) (k n : Nat) : Prop := match X with
  | (G, (p, l, e, R, s, mi, args, below, meth, c, Z), d, K, N, Q) => zb_ctx F (G, (p, l, e, R, s, mi, args, below, meth, c, Z), d, K, N, Q) →
    ∀ (H : Heap) (locs : List Loc) (ls : Array Slot), zb_H G S m H → (∀ q ∈ locs, G.1 ≤ q.base) → lv_has ls F.2.2.2.1 (zb_lv G L) → (∀ q ∈ L, zb_ok q.2.1 q.2.2) → (∀ v ∈ st, zb_ok v.1 v.2) →
      W p l e R s mi args below meth c H locs k n Z (F0 mi pc ls (st.map (zb_cv G)))
/-- instructions that touch the stack alone -/
theorem zb_pure {X : zb_X} {F : zb_F} {pc pc' : Nat} {L : List (Nat × zb_V)} {st st' : List zb_V} {S : zb_S} {m : zb_M} {k n : Nat}
    (ho : (∀ q ∈ L, zb_ok q.2.1 q.2.2) → (∀ v ∈ st, zb_ok v.1 v.2) → ∀ v ∈ st', zb_ok v.1 v.2)
    (h : ∀ (G : zb_G) (p : Program) (l : Launch) (e : Env) (R : Room) (s : State) (mi : MethodId) (args : Array Value) (below : List Frame) (meth : Method) (c : Code) (Z : State → Prop) (H : Heap) (locs : List Loc) (ls : Array Slot),
      p.tables.exec = Jvm.exec → c.code = F.2.2.1 → s.vm.findClass F.1 = some mi.cls → (∀ w ∈ zb_all, w.before args s = true) → lv_has ls F.2.2.2.1 (zb_lv G L) → (∀ q ∈ L, zb_ok q.2.1 q.2.2) → (∀ v ∈ st, zb_ok v.1 v.2) →
      W p l e R s mi args below meth c H locs k n Z (F0 mi pc' ls (st'.map (zb_cv G))) → W p l e R s mi args below meth c H locs k n Z (F0 mi pc ls (st.map (zb_cv G))))
    (kk : zb_WP X F pc' L st' S m k n) : zb_WP X F pc L st S m k n := by
  obtain ⟨G, ⟨p, l, e, R, s, mi, args, below, meth, c, Z⟩, d, K, N, Q⟩ := X
  intro hC H locs ls hH hlo hL hLo hst
  have hC' := hC
  obtain ⟨hx, hb, hml, hown, hts, -⟩ := hC'
  exact h G p l e R s mi args below meth c Z H locs ls hx hb hown hts hL hLo hst (kk hC H locs ls hH hlo hL hLo (ho hLo hst))
section SBR
variable {X : zb_X} {F : zb_F} {pc : Nat} {L : List (Nat × zb_V)} {st : List zb_V} {S : zb_S} {m : zb_M} {k n : Nat}
theorem zb_ok_cons {v : zb_V} {st : List zb_V} (h1 : zb_ok v.1 v.2) (h2 : ∀ w ∈ st, zb_ok w.1 w.2) : ∀ w ∈ v :: st, zb_ok w.1 w.2 := List.forall_mem_cons.mpr ⟨h1, h2⟩
theorem zb_oki {x : Int} {st : List zb_V} (h1 : zb_inI x) (h2 : ∀ w ∈ st, zb_ok w.1 w.2) : ∀ w ∈ ((0, x) : zb_V) :: st, zb_ok w.1 w.2 := List.forall_mem_cons.mpr ⟨h1, h2⟩
theorem zb_okl {x : Int} {st : List zb_V} (h1 : zb_inL x) (h2 : ∀ w ∈ st, zb_ok w.1 w.2) : ∀ w ∈ ((1, x) : zb_V) :: st, zb_ok w.1 w.2 := List.forall_mem_cons.mpr ⟨h1, h2⟩
theorem zb_okt {v : zb_V} {st : List zb_V} (h : ∀ w ∈ v :: st, zb_ok w.1 w.2) : ∀ w ∈ st, zb_ok w.1 w.2 := (List.forall_mem_cons.mp h).2
theorem zb_okh {v : zb_V} {st : List zb_V} (h : ∀ w ∈ v :: st, zb_ok w.1 w.2) : zb_ok v.1 v.2 := (List.forall_mem_cons.mp h).1
theorem zb_iconst {i : Int} (hd : decode F.2.2.1 pc = .ok (.iconst i, 1)) (hi : zb_inI i) (kk : zb_WP X F (pc + 1) L ((0, i) :: st) S m k n) : zb_WP X F pc L st S m k n :=
  zb_pure (fun _ h => zb_oki hi h) (fun G p l e R s mi args below meth c Z H locs ls hx hb _ _ _ _ _ w => lv_iconst hx hb hd rfl w) kk
theorem zb_bipush {i : Int} (hd : decode F.2.2.1 pc = .ok (.bipush i, 2)) (hv : (Int8.ofInt i).toInt32 = Int32.ofInt i) (hi : zb_inI i) (kk : zb_WP X F (pc + 2) L ((0, i) :: st) S m k n) : zb_WP X F pc L st S m k n :=
  zb_pure (fun _ h => zb_oki hi h) (fun G p l e R s mi args below meth c Z H locs ls hx hb _ _ _ _ _ w => lv_bipush hx hb hd hv w) kk
theorem zb_sipush {i : Int} (hd : decode F.2.2.1 pc = .ok (.sipush i, 3)) (hv : (Int16.ofInt i).toInt32 = Int32.ofInt i) (hi : zb_inI i) (kk : zb_WP X F (pc + 3) L ((0, i) :: st) S m k n) : zb_WP X F pc L st S m k n :=
  zb_pure (fun _ h => zb_oki hi h) (fun G p l e R s mi args below meth c Z H locs ls hx hb _ _ _ _ _ w => lv_sipush hx hb hd hv w) kk
theorem zb_iadd {x y : Int} (hd : decode F.2.2.1 pc = .ok (.iadd, 1)) (hi : zb_inI (x + y)) (kk : zb_WP X F (pc + 1) L ((0, x + y) :: st) S m k n) : zb_WP X F pc L ((0, y) :: (0, x) :: st) S m k n :=
  zb_pure (fun _ h => zb_oki hi (zb_okt (zb_okt h))) (fun G p l e R s mi args below meth c Z H locs ls hx hb _ _ _ _ _ w => lv_iadd (x := Int32.ofInt x) (y := Int32.ofInt y) hx hb hd (by rw [← Int32.ofInt_add]; exact w)) kk
theorem zb_isub {x y : Int} (hd : decode F.2.2.1 pc = .ok (.isub, 1)) (hi : zb_inI (x - y)) (kk : zb_WP X F (pc + 1) L ((0, x - y) :: st) S m k n) : zb_WP X F pc L ((0, y) :: (0, x) :: st) S m k n :=
  zb_pure (fun _ h => zb_oki hi (zb_okt (zb_okt h))) (fun G p l e R s mi args below meth c Z H locs ls hx hb _ _ _ _ _ w => lv_isub (x := Int32.ofInt x) (y := Int32.ofInt y) hx hb hd (by rw [← Int32.ofInt_sub]; exact w)) kk
theorem zb_imul {x y : Int} (hd : decode F.2.2.1 pc = .ok (.imul, 1)) (hi : zb_inI (x * y)) (kk : zb_WP X F (pc + 1) L ((0, x * y) :: st) S m k n) : zb_WP X F pc L ((0, y) :: (0, x) :: st) S m k n :=
  zb_pure (fun _ h => zb_oki hi (zb_okt (zb_okt h))) (fun G p l e R s mi args below meth c Z H locs ls hx hb _ _ _ _ _ w => lv_imul (x := Int32.ofInt x) (y := Int32.ofInt y) hx hb hd (by rw [← Int32.ofInt_mul]; exact w)) kk
theorem zb_toI {x : Int} (h : zb_inI x) : (Int32.ofInt x).toInt = x := by
  obtain ⟨h1, h2⟩ := h
  rw [Int32.toInt_ofInt]
  unfold Int.bmod
  simp only [Int32.size]
  omega
theorem zb_eqI {x y : Int} (hx : zb_inI x) (hy : zb_inI y) : Int32.ofInt x = Int32.ofInt y ↔ x = y := by
  constructor
  · intro h
    rw [← zb_toI hx, ← zb_toI hy, h]
  · intro h
    rw [h]
theorem zb_leI {x y : Int} (hx : zb_inI x) (hy : zb_inI y) : Int32.ofInt x ≤ Int32.ofInt y ↔ x ≤ y := by
  rw [Int32.le_iff_toInt_le, zb_toI hx, zb_toI hy]
theorem zb_ltI {x y : Int} (hx : zb_inI x) (hy : zb_inI y) : Int32.ofInt x < Int32.ofInt y ↔ x < y := by
  rw [Int32.lt_iff_toInt_lt, zb_toI hx, zb_toI hy]
theorem zb_in0 : zb_inI 0 := by unfold zb_inI; omega
end SBR
section SBL
variable {X : zb_X} {F : zb_F} {pc : Nat} {L : List (Nat × zb_V)} {st : List zb_V} {S : zb_S} {m : zb_M} {k n : Nat}
theorem zb_okr {x : Int} {st : List zb_V} (h1 : 1 ≤ x) (h2 : ∀ w ∈ st, zb_ok w.1 w.2) : ∀ w ∈ ((2, x) : zb_V) :: st, zb_ok w.1 w.2 := List.forall_mem_cons.mpr ⟨h1, h2⟩
theorem zb_oks {x : Int} {st : List zb_V} (h2 : ∀ w ∈ st, zb_ok w.1 w.2) : ∀ w ∈ ((3, x) : zb_V) :: st, zb_ok w.1 w.2 := List.forall_mem_cons.mpr ⟨trivial, h2⟩
theorem zb_lv_at {G : zb_G} {ls : Array Slot} {nL j i : Nat} {v : zb_V} (h : lv_has ls nL (zb_lv G L)) (hl : L[j]? = some (i, v)) : ls[i]? = some (.val (zb_cv G v)) :=
  lv_at h j (by simp [zb_lv, List.getElem?_map, hl])
theorem zb_cvr {G : zb_G} {x : Int} (h : 1 ≤ x) : zb_cv G (2, x) = .ref (zb_ad G x) := by
  show va_rf (zb_rf G.1 x) = _
  unfold zb_rf
  rw [if_neg (by omega)]
  rfl
theorem zb_iload {i j : Nat} {x : Int} (hd : decode F.2.2.1 pc = .ok (.iload i, 2)) (hl : L[j]? = some (i, (0, x))) (kk : zb_WP X F (pc + 2) L ((0, x) :: st) S m k n) : zb_WP X F pc L st S m k n :=
  zb_pure (fun hL h => zb_oki (hL _ (List.mem_of_getElem? hl)) h) (fun G p l e R s mi args below meth c Z H locs ls hx hb _ _ hv _ _ w => lv_iload hx hb hd (zb_lv_at hv hl) w) kk
theorem zb_iload_n {q : Fin 4} {i j : Nat} {x : Int} (hd : decode F.2.2.1 pc = .ok (.iload_n q, 1)) (hq : (q : Nat) = i) (hl : L[j]? = some (i, (0, x))) (kk : zb_WP X F (pc + 1) L ((0, x) :: st) S m k n) : zb_WP X F pc L st S m k n :=
  zb_pure (fun hL h => zb_oki (hL _ (List.mem_of_getElem? hl)) h) (fun G p l e R s mi args below meth c Z H locs ls hx hb _ _ hv _ _ w => lv_iload_n hx hb hd hq (zb_lv_at hv hl) w) kk
theorem zb_lload {i j : Nat} {x : Int} (hd : decode F.2.2.1 pc = .ok (.lload i, 2)) (hl : L[j]? = some (i, (1, x))) (kk : zb_WP X F (pc + 2) L ((1, x) :: st) S m k n) : zb_WP X F pc L st S m k n :=
  zb_pure (fun hL h => zb_okl (hL _ (List.mem_of_getElem? hl)) h) (fun G p l e R s mi args below meth c Z H locs ls hx hb _ _ hv _ _ w => lv_lload hx hb hd (zb_lv_at hv hl) w) kk
theorem zb_lload_n {q : Fin 4} {i j : Nat} {x : Int} (hd : decode F.2.2.1 pc = .ok (.lload_n q, 1)) (hq : (q : Nat) = i) (hl : L[j]? = some (i, (1, x))) (kk : zb_WP X F (pc + 1) L ((1, x) :: st) S m k n) : zb_WP X F pc L st S m k n :=
  zb_pure (fun hL h => zb_okl (hL _ (List.mem_of_getElem? hl)) h) (fun G p l e R s mi args below meth c Z H locs ls hx hb _ _ hv _ _ w => lv_lload_n hx hb hd hq (zb_lv_at hv hl) w) kk
theorem zb_aload {i j : Nat} {x : Int} (hd : decode F.2.2.1 pc = .ok (.aload i, 2)) (hl : L[j]? = some (i, (2, x))) (kk : zb_WP X F (pc + 2) L ((2, x) :: st) S m k n) : zb_WP X F pc L st S m k n :=
  zb_pure (fun hL h => zb_okr (hL _ (List.mem_of_getElem? hl)) h) (fun G p l e R s mi args below meth c Z H locs ls hx hb _ _ hv hL _ w => by
    have h1 : 1 ≤ x := hL _ (List.mem_of_getElem? hl)
    have e := zb_cvr (G := G) h1
    rw [List.map_cons, e] at w
    exact lv_aload hx hb hd (e ▸ zb_lv_at hv hl) w) kk
theorem zb_aload_n {q : Fin 4} {i j : Nat} {x : Int} (hd : decode F.2.2.1 pc = .ok (.aload_n q, 1)) (hq : (q : Nat) = i) (hl : L[j]? = some (i, (2, x))) (kk : zb_WP X F (pc + 1) L ((2, x) :: st) S m k n) : zb_WP X F pc L st S m k n :=
  zb_pure (fun hL h => zb_okr (hL _ (List.mem_of_getElem? hl)) h) (fun G p l e R s mi args below meth c Z H locs ls hx hb _ _ hv hL _ w => by
    have h1 : 1 ≤ x := hL _ (List.mem_of_getElem? hl)
    have e := zb_cvr (G := G) h1
    rw [List.map_cons, e] at w
    exact lv_aload_n hx hb hd hq (e ▸ zb_lv_at hv hl) w) kk
theorem zb_aload_s {q : Fin 4} {i j : Nat} {x : Int} (hd : decode F.2.2.1 pc = .ok (.aload_n q, 1)) (hq : (q : Nat) = i) (hl : L[j]? = some (i, (3, x))) (kk : zb_WP X F (pc + 1) L ((3, x) :: st) S m k n) : zb_WP X F pc L st S m k n :=
  zb_pure (fun hL h => zb_oks h) (fun G p l e R s mi args below meth c Z H locs ls hx hb _ _ hv hL _ w => lv_aload_n hx hb hd hq (zb_lv_at hv hl) w) kk
/-- a local is written: what the locals are then -/
def zb_set (i : Nat) (v : zb_V) (L : List (Nat × zb_V)) : List (Nat × zb_V) := (i, v) :: L.filter (fun q => !(q.1 == i) && !(q.1 + 1 == i && q.2.1 == 1))
def zb_set2 (i : Nat) (v : zb_V) (L : List (Nat × zb_V)) : List (Nat × zb_V) := (i, v) :: L.filter (fun q => !(q.1 == i) && (!(q.1 == i + 1) && !(q.1 + 1 == i && q.2.1 == 1)))
theorem zb_cat (G : zb_G) (v : zb_V) : ((zb_cv G v).category == 2) = (v.1 == 1) := by
  obtain ⟨t, x⟩ := v
  match t with
  | 0 => rfl
  | 1 => rfl
  | 2 =>
    show ((va_rf (zb_rf G.1 x)).category == 2) = _
    cases zb_rf G.1 x <;> rfl
  | (t + 3) =>
    show ((Value.ref _).category == 2) = (t + 3 == 1)
    rfl
theorem zb_set_lv (G : zb_G) (i : Nat) (v : zb_V) (L : List (Nat × zb_V)) : zb_lv G (zb_set i v L) = (i, zb_cv G v) :: (zb_lv G L).filter (fun q => !(q.1 == i) && !(q.1 + 1 == i && q.2.category == 2)) := by
  unfold zb_lv zb_set
  rw [List.map_cons, List.filter_map]
  congr 2
  apply List.filter_congr
  intro q _
  simp only [Function.comp]
  rw [zb_cat]
theorem zb_set2_lv (G : zb_G) (i : Nat) (v : zb_V) (L : List (Nat × zb_V)) : zb_lv G (zb_set2 i v L) = (i, zb_cv G v) :: (zb_lv G L).filter (fun q => !(q.1 == i) && (!(q.1 == i + 1) && !(q.1 + 1 == i && q.2.category == 2))) := by
  unfold zb_lv zb_set2
  rw [List.map_cons, List.filter_map]
  congr 2
  apply List.filter_congr
  intro q _
  simp only [Function.comp]
  rw [zb_cat]
theorem zb_set_ok {i : Nat} {v : zb_V} (hv : zb_ok v.1 v.2) (hL : ∀ q ∈ L, zb_ok q.2.1 q.2.2) : ∀ q ∈ zb_set i v L, zb_ok q.2.1 q.2.2 := by
  intro q hq
  rcases List.mem_cons.mp hq with rfl | h
  · exact hv
  · exact hL q ((List.mem_filter.mp h).1)
theorem zb_set2_ok {i : Nat} {v : zb_V} (hv : zb_ok v.1 v.2) (hL : ∀ q ∈ L, zb_ok q.2.1 q.2.2) : ∀ q ∈ zb_set2 i v L, zb_ok q.2.1 q.2.2 := by
  intro q hq
  rcases List.mem_cons.mp hq with rfl | h
  · exact hv
  · exact hL q ((List.mem_filter.mp h).1)
/-- instructions that write a local -/
theorem zb_loc {pc' : Nat} {L' : List (Nat × zb_V)} {st' : List zb_V} (ho : (∀ q ∈ L, zb_ok q.2.1 q.2.2) → (∀ v ∈ st, zb_ok v.1 v.2) → (∀ q ∈ L', zb_ok q.2.1 q.2.2) ∧ ∀ v ∈ st', zb_ok v.1 v.2)
    (h : ∀ (G : zb_G) (p : Program) (l : Launch) (e : Env) (R : Room) (s : State) (mi : MethodId) (args : Array Value) (below : List Frame) (meth : Method) (c : Code) (Z : State → Prop) (H : Heap) (locs : List Loc) (ls : Array Slot),
      p.tables.exec = Jvm.exec → c.code = F.2.2.1 → lv_has ls F.2.2.2.1 (zb_lv G L) → (∀ q ∈ L, zb_ok q.2.1 q.2.2) → (∀ v ∈ st, zb_ok v.1 v.2) →
      (∀ ls' : Array Slot, lv_has ls' F.2.2.2.1 (zb_lv G L') → W p l e R s mi args below meth c H locs k n Z (F0 mi pc' ls' (st'.map (zb_cv G)))) → W p l e R s mi args below meth c H locs k n Z (F0 mi pc ls (st.map (zb_cv G))))
    (kk : zb_WP X F pc' L' st' S m k n) : zb_WP X F pc L st S m k n := by
  obtain ⟨G, ⟨p, l, e, R, s, mi, args, below, meth, c, Z⟩, d, K, N, Q⟩ := X
  intro hC H locs ls hH hlo hL hLo hst
  have hC' := hC
  obtain ⟨hx, hb, hml, hown, hts, -⟩ := hC'
  exact h G p l e R s mi args below meth c Z H locs ls hx hb hL hLo hst (fun ls' hL' => kk hC H locs ls' hH hlo hL' (ho hLo hst).1 (ho hLo hst).2)
variable {L' : List (Nat × zb_V)}
theorem zb_istore {i : Nat} {x : Int} (hd : decode F.2.2.1 pc = .ok (.istore i, 2)) (hn : i < F.2.2.2.1) (hl : zb_set i (0, x) L = L') (kk : zb_WP X F (pc + 2) L' st S m k n) : zb_WP X F pc L ((0, x) :: st) S m k n := by
  subst hl
  exact zb_loc (fun hL h => ⟨zb_set_ok (zb_okh h) hL, zb_okt h⟩) (fun G p l e R s mi args below meth c Z H locs ls hx hb hv _ _ w => lv_istore hx hb hd hv hn rfl (fun ls' h' => w ls' (by rw [zb_set_lv]; exact h'))) kk
theorem zb_istore_n {q : Fin 4} {i : Nat} {x : Int} (hd : decode F.2.2.1 pc = .ok (.istore_n q, 1)) (hq : (q : Nat) = i) (hn : i < F.2.2.2.1) (hl : zb_set i (0, x) L = L') (kk : zb_WP X F (pc + 1) L' st S m k n) : zb_WP X F pc L ((0, x) :: st) S m k n := by
  subst hl
  exact zb_loc (fun hL h => ⟨zb_set_ok (zb_okh h) hL, zb_okt h⟩) (fun G p l e R s mi args below meth c Z H locs ls hx hb hv _ _ w => lv_istore_n hx hb hd hq hv hn rfl (fun ls' h' => w ls' (by rw [zb_set_lv]; exact h'))) kk
theorem zb_lstore {i : Nat} {x : Int} (hd : decode F.2.2.1 pc = .ok (.lstore i, 2)) (hn : i + 1 < F.2.2.2.1) (hl : zb_set2 i (1, x) L = L') (kk : zb_WP X F (pc + 2) L' st S m k n) : zb_WP X F pc L ((1, x) :: st) S m k n := by
  subst hl
  exact zb_loc (fun hL h => ⟨zb_set2_ok (zb_okh h) hL, zb_okt h⟩) (fun G p l e R s mi args below meth c Z H locs ls hx hb hv _ _ w => lv_lstore hx hb hd hv hn rfl (fun ls' h' => w ls' (by rw [zb_set2_lv]; exact h'))) kk
theorem zb_lstore_n {q : Fin 4} {i : Nat} {x : Int} (hd : decode F.2.2.1 pc = .ok (.lstore_n q, 1)) (hq : (q : Nat) = i) (hn : i + 1 < F.2.2.2.1) (hl : zb_set2 i (1, x) L = L') (kk : zb_WP X F (pc + 1) L' st S m k n) : zb_WP X F pc L ((1, x) :: st) S m k n := by
  subst hl
  exact zb_loc (fun hL h => ⟨zb_set2_ok (zb_okh h) hL, zb_okt h⟩) (fun G p l e R s mi args below meth c Z H locs ls hx hb hv _ _ w => lv_lstore_n hx hb hd hq hv hn rfl (fun ls' h' => w ls' (by rw [zb_set2_lv]; exact h'))) kk
theorem zb_astore {i : Nat} {x : Int} (hd : decode F.2.2.1 pc = .ok (.astore i, 2)) (hn : i < F.2.2.2.1) (hl : zb_set i (2, x) L = L') (kk : zb_WP X F (pc + 2) L' st S m k n) : zb_WP X F pc L ((2, x) :: st) S m k n := by
  subst hl
  exact zb_loc (fun hL h => ⟨zb_set_ok (zb_okh h) hL, zb_okt h⟩) (fun G p l e R s mi args below meth c Z H locs ls hx hb hv _ ho w => by
    have h1 : 1 ≤ x := zb_okh ho
    rw [List.map_cons, zb_cvr h1]
    exact lv_astore hx hb hd hv hn rfl (fun ls' h' => w ls' (by rw [zb_set_lv, zb_cvr h1]; exact h'))) kk
theorem zb_astore_n {q : Fin 4} {i : Nat} {x : Int} (hd : decode F.2.2.1 pc = .ok (.astore_n q, 1)) (hq : (q : Nat) = i) (hn : i < F.2.2.2.1) (hl : zb_set i (2, x) L = L') (kk : zb_WP X F (pc + 1) L' st S m k n) : zb_WP X F pc L ((2, x) :: st) S m k n := by
  subst hl
  exact zb_loc (fun hL h => ⟨zb_set_ok (zb_okh h) hL, zb_okt h⟩) (fun G p l e R s mi args below meth c Z H locs ls hx hb hv _ ho w => by
    have h1 : 1 ≤ x := zb_okh ho
    rw [List.map_cons, zb_cvr h1]
    exact lv_astore_n hx hb hd hq hv hn rfl (fun ls' h' => w ls' (by rw [zb_set_lv, zb_cvr h1]; exact h'))) kk
theorem zb_iinc {i j : Nat} {d x : Int} (hd : decode F.2.2.1 pc = .ok (.iinc i d, 3)) (hj : L[j]? = some (i, (0, x))) (hi : zb_inI (x + d)) (hn : i < F.2.2.2.1) (hl : zb_set i (0, x + d) L = L') (kk : zb_WP X F (pc + 3) L' st S m k n) : zb_WP X F pc L st S m k n := by
  subst hl
  exact zb_loc (fun hL h => ⟨zb_set_ok (v := (0, x + d)) hi hL, h⟩) (fun G p l e R s mi args below meth c Z H locs ls hx hb hv _ _ w =>
    lv_iinc (x := Int32.ofInt x) (k := j) hx hb hd hv (by simp [zb_lv, List.getElem?_map, hj, zb_cv]) (Int32.ofInt_add x d).symm hn rfl (fun ls' h' => w ls' (by rw [zb_set_lv]; exact h'))) kk
/-- fewer locals, in another order -/
theorem zb_sub (ks : List Nat) (h : ks.filterMap (fun i => L[i]?) = L') (kk : zb_WP X F pc L' st S m k n) : zb_WP X F pc L st S m k n := by
  have hsub : ∀ q ∈ L', q ∈ L := by
    intro q hq
    rw [← h] at hq
    obtain ⟨i, -, hi⟩ := List.mem_filterMap.mp hq
    exact List.mem_of_getElem? hi
  obtain ⟨G, ⟨p, l, e, R, s, mi, args, below, meth, c, Z⟩, d, K, N, Q⟩ := X
  intro hC H locs ls hH hlo hL hLo hst
  exact kk hC H locs ls hH hlo ⟨hL.1, hL.2.1, fun q hq => by
    obtain ⟨z, hz, rfl⟩ := List.mem_map.mp hq
    exact hL.2.2 _ (List.mem_map.mpr ⟨z, hsub z hz, rfl⟩)⟩ (fun q hq => hLo q (hsub q hq)) hst
end SBL
end
section
/-! ===== branches ===== -/
section ZBB
variable {X : zb_X} {F : zb_F} {pc : Nat} {L : List (Nat × zb_V)} {st : List zb_V} {S : zb_S} {m : zb_M} {k n : Nat}
theorem zb_br {cond : Prop} {pt pf : Nat} {st' : List zb_V} (hs : (∀ v ∈ st, zb_ok v.1 v.2) → ∀ v ∈ st', zb_ok v.1 v.2)
    (h : ∀ (G : zb_G) (p : Program) (l : Launch) (e : Env) (R : Room) (s : State) (mi : MethodId) (args : Array Value) (below : List Frame) (meth : Method) (c : Code) (Z : State → Prop) (H : Heap) (locs : List Loc) (ls : Array Slot),
      p.tables.exec = Jvm.exec → c.code = F.2.2.1 → (∀ v ∈ st, zb_ok v.1 v.2) →
      (cond → W p l e R s mi args below meth c H locs k n Z (F0 mi pt ls (st'.map (zb_cv G)))) → (¬ cond → W p l e R s mi args below meth c H locs k n Z (F0 mi pf ls (st'.map (zb_cv G)))) → W p l e R s mi args below meth c H locs k n Z (F0 mi pc ls (st.map (zb_cv G))))
    (kt : cond → zb_WP X F pt L st' S m k n) (kf : ¬ cond → zb_WP X F pf L st' S m k n) : zb_WP X F pc L st S m k n := by
  obtain ⟨G, ⟨p, l, e, R, s, mi, args, below, meth, c, Z⟩, d, K, N, Q⟩ := X
  intro hC H locs ls hH hlo hL hLo hst
  have hC' := hC
  obtain ⟨hx, hb, hml, hown, hts, -⟩ := hC'
  exact h G p l e R s mi args below meth c Z H locs ls hx hb hst (fun q => kt q hC H locs ls hH hlo hL hLo (hs hst)) (fun q => kf q hC H locs ls hH hlo hL hLo (hs hst))
theorem zb_not2 {a b : Prop} (h : a ↔ b) : ¬ a ↔ ¬ b := by rw [h]
section
variable {x y : Int} {off : Int} {tgt : Nat}
theorem zb_icmp_eq (hd : decode F.2.2.1 pc = .ok (.if_icmp .eq off, 3)) (ht : (pc : Int) + off = (tgt : Int)) (kt : x = y → zb_WP X F tgt L st S m k n) (kf : ¬ x = y → zb_WP X F (pc + 3) L st S m k n) : zb_WP X F pc L ((0, y) :: (0, x) :: st) S m k n :=
  zb_br (fun h => zb_okt (zb_okt h)) (fun G p l e R s mi args below meth c Z H locs ls hx hb ho wt wf => lv_icmp_eq (x := Int32.ofInt x) (y := Int32.ofInt y) hx hb hd ht (fun q => wt ((zb_eqI (zb_okh (zb_okt ho)) (zb_okh ho)).mp q)) (fun q => wf (fun z => q ((zb_eqI (zb_okh (zb_okt ho)) (zb_okh ho)).mpr z)))) kt kf
theorem zb_icmp_ne (hd : decode F.2.2.1 pc = .ok (.if_icmp .ne off, 3)) (ht : (pc : Int) + off = (tgt : Int)) (kt : ¬ x = y → zb_WP X F tgt L st S m k n) (kf : x = y → zb_WP X F (pc + 3) L st S m k n) : zb_WP X F pc L ((0, y) :: (0, x) :: st) S m k n :=
  zb_br (cond := x = y) (fun h => zb_okt (zb_okt h)) (fun G p l e R s mi args below meth c Z H locs ls hx hb ho wt wf => lv_icmp_ne (x := Int32.ofInt x) (y := Int32.ofInt y) hx hb hd ht (fun q => wf (fun z => q ((zb_eqI (zb_okh (zb_okt ho)) (zb_okh ho)).mpr z))) (fun q => wt ((zb_eqI (zb_okh (zb_okt ho)) (zb_okh ho)).mp q))) kf kt
theorem zb_icmp_lt (hd : decode F.2.2.1 pc = .ok (.if_icmp .lt off, 3)) (ht : (pc : Int) + off = (tgt : Int)) (kt : x < y → zb_WP X F tgt L st S m k n) (kf : ¬ x < y → zb_WP X F (pc + 3) L st S m k n) : zb_WP X F pc L ((0, y) :: (0, x) :: st) S m k n :=
  zb_br (fun h => zb_okt (zb_okt h)) (fun G p l e R s mi args below meth c Z H locs ls hx hb ho wt wf => lv_icmp_lt (x := Int32.ofInt x) (y := Int32.ofInt y) hx hb hd ht (fun q => wt ((zb_ltI (zb_okh (zb_okt ho)) (zb_okh ho)).mp q)) (fun q => wf (fun z => q ((zb_ltI (zb_okh (zb_okt ho)) (zb_okh ho)).mpr z)))) kt kf
theorem zb_icmp_ge (hd : decode F.2.2.1 pc = .ok (.if_icmp .ge off, 3)) (ht : (pc : Int) + off = (tgt : Int)) (kt : y ≤ x → zb_WP X F tgt L st S m k n) (kf : ¬ y ≤ x → zb_WP X F (pc + 3) L st S m k n) : zb_WP X F pc L ((0, y) :: (0, x) :: st) S m k n :=
  zb_br (fun h => zb_okt (zb_okt h)) (fun G p l e R s mi args below meth c Z H locs ls hx hb ho wt wf => lv_icmp_ge (x := Int32.ofInt x) (y := Int32.ofInt y) hx hb hd ht (fun q => wt ((zb_leI (zb_okh ho) (zb_okh (zb_okt ho))).mp q)) (fun q => wf (fun z => q ((zb_leI (zb_okh ho) (zb_okh (zb_okt ho))).mpr z)))) kt kf
theorem zb_icmp_gt (hd : decode F.2.2.1 pc = .ok (.if_icmp .gt off, 3)) (ht : (pc : Int) + off = (tgt : Int)) (kt : y < x → zb_WP X F tgt L st S m k n) (kf : ¬ y < x → zb_WP X F (pc + 3) L st S m k n) : zb_WP X F pc L ((0, y) :: (0, x) :: st) S m k n :=
  zb_br (fun h => zb_okt (zb_okt h)) (fun G p l e R s mi args below meth c Z H locs ls hx hb ho wt wf => lv_icmp_gt (x := Int32.ofInt x) (y := Int32.ofInt y) hx hb hd ht (fun q => wt ((zb_ltI (zb_okh ho) (zb_okh (zb_okt ho))).mp q)) (fun q => wf (fun z => q ((zb_ltI (zb_okh ho) (zb_okh (zb_okt ho))).mpr z)))) kt kf
theorem zb_icmp_le (hd : decode F.2.2.1 pc = .ok (.if_icmp .le off, 3)) (ht : (pc : Int) + off = (tgt : Int)) (kt : x ≤ y → zb_WP X F tgt L st S m k n) (kf : ¬ x ≤ y → zb_WP X F (pc + 3) L st S m k n) : zb_WP X F pc L ((0, y) :: (0, x) :: st) S m k n :=
  zb_br (fun h => zb_okt (zb_okt h)) (fun G p l e R s mi args below meth c Z H locs ls hx hb ho wt wf => lv_icmp_le (x := Int32.ofInt x) (y := Int32.ofInt y) hx hb hd ht (fun q => wt ((zb_leI (zb_okh (zb_okt ho)) (zb_okh ho)).mp q)) (fun q => wf (fun z => q ((zb_leI (zb_okh (zb_okt ho)) (zb_okh ho)).mpr z)))) kt kf
theorem zb_if_eq (hd : decode F.2.2.1 pc = .ok (.ifCond .eq off, 3)) (ht : (pc : Int) + off = (tgt : Int)) (kt : x = 0 → zb_WP X F tgt L st S m k n) (kf : ¬ x = 0 → zb_WP X F (pc + 3) L st S m k n) : zb_WP X F pc L ((0, x) :: st) S m k n :=
  zb_br (fun h => zb_okt h) (fun G p l e R s mi args below meth c Z H locs ls hx hb ho wt wf => lv_if_eq (x := Int32.ofInt x) hx hb hd ht (fun q => wt ((zb_eqI (zb_okh ho) zb_in0).mp q)) (fun q => wf (fun z => q ((zb_eqI (zb_okh ho) zb_in0).mpr z)))) kt kf
theorem zb_if_ne (hd : decode F.2.2.1 pc = .ok (.ifCond .ne off, 3)) (ht : (pc : Int) + off = (tgt : Int)) (kt : ¬ x = 0 → zb_WP X F tgt L st S m k n) (kf : x = 0 → zb_WP X F (pc + 3) L st S m k n) : zb_WP X F pc L ((0, x) :: st) S m k n :=
  zb_br (cond := x = 0) (fun h => zb_okt h) (fun G p l e R s mi args below meth c Z H locs ls hx hb ho wt wf => lv_if_ne (x := Int32.ofInt x) hx hb hd ht (fun q => wf (fun z => q ((zb_eqI (zb_okh ho) zb_in0).mpr z))) (fun q => wt ((zb_eqI (zb_okh ho) zb_in0).mp q))) kf kt
theorem zb_if_lt (hd : decode F.2.2.1 pc = .ok (.ifCond .lt off, 3)) (ht : (pc : Int) + off = (tgt : Int)) (kt : x < 0 → zb_WP X F tgt L st S m k n) (kf : ¬ x < 0 → zb_WP X F (pc + 3) L st S m k n) : zb_WP X F pc L ((0, x) :: st) S m k n :=
  zb_br (fun h => zb_okt h) (fun G p l e R s mi args below meth c Z H locs ls hx hb ho wt wf => lv_if_lt (x := Int32.ofInt x) hx hb hd ht (fun q => wt ((zb_ltI (zb_okh ho) zb_in0).mp q)) (fun q => wf (fun z => q ((zb_ltI (zb_okh ho) zb_in0).mpr z)))) kt kf
theorem zb_if_ge (hd : decode F.2.2.1 pc = .ok (.ifCond .ge off, 3)) (ht : (pc : Int) + off = (tgt : Int)) (kt : 0 ≤ x → zb_WP X F tgt L st S m k n) (kf : ¬ 0 ≤ x → zb_WP X F (pc + 3) L st S m k n) : zb_WP X F pc L ((0, x) :: st) S m k n :=
  zb_br (fun h => zb_okt h) (fun G p l e R s mi args below meth c Z H locs ls hx hb ho wt wf => lv_if_ge (x := Int32.ofInt x) hx hb hd ht (fun q => wt ((zb_leI zb_in0 (zb_okh ho)).mp q)) (fun q => wf (fun z => q ((zb_leI zb_in0 (zb_okh ho)).mpr z)))) kt kf
theorem zb_if_gt (hd : decode F.2.2.1 pc = .ok (.ifCond .gt off, 3)) (ht : (pc : Int) + off = (tgt : Int)) (kt : 0 < x → zb_WP X F tgt L st S m k n) (kf : ¬ 0 < x → zb_WP X F (pc + 3) L st S m k n) : zb_WP X F pc L ((0, x) :: st) S m k n :=
  zb_br (fun h => zb_okt h) (fun G p l e R s mi args below meth c Z H locs ls hx hb ho wt wf => lv_if_gt (x := Int32.ofInt x) hx hb hd ht (fun q => wt ((zb_ltI zb_in0 (zb_okh ho)).mp q)) (fun q => wf (fun z => q ((zb_ltI zb_in0 (zb_okh ho)).mpr z)))) kt kf
theorem zb_if_le (hd : decode F.2.2.1 pc = .ok (.ifCond .le off, 3)) (ht : (pc : Int) + off = (tgt : Int)) (kt : x ≤ 0 → zb_WP X F tgt L st S m k n) (kf : ¬ x ≤ 0 → zb_WP X F (pc + 3) L st S m k n) : zb_WP X F pc L ((0, x) :: st) S m k n :=
  zb_br (fun h => zb_okt h) (fun G p l e R s mi args below meth c Z H locs ls hx hb ho wt wf => lv_if_le (x := Int32.ofInt x) hx hb hd ht (fun q => wt ((zb_leI (zb_okh ho) zb_in0).mp q)) (fun q => wf (fun z => q ((zb_leI (zb_okh ho) zb_in0).mpr z)))) kt kf
theorem zb_goto (hd : decode F.2.2.1 pc = .ok (.goto off, 3)) (ht : (pc : Int) + off = (tgt : Int)) (kk : zb_WP X F tgt L st S m k n) : zb_WP X F pc L st S m k n :=
  zb_pure (fun _ h => h) (fun G p l e R s mi args below meth c Z H locs ls hx hb _ _ _ _ _ w => lv_goto hx hb hd ht w) kk
theorem zb_tableIn {dflt lo hi : Int} {offs : Array Int} {len : Nat} (hd : decode F.2.2.1 pc = .ok (.tableswitch dflt lo hi offs, len)) (h1 : ¬ x < lo) (h2 : ¬ hi < x) (ho : offs[(x - lo).toNat]? = some off) (ht : (pc : Int) + off = (tgt : Int)) (kk : zb_WP X F tgt L st S m k n) : zb_WP X F pc L ((0, x) :: st) S m k n :=
  zb_pure (fun _ h => zb_okt h) (fun G p l e R s mi args below meth c Z H locs ls hx hb _ _ _ _ hs w => by
    have e := zb_toI (zb_okh hs)
    exact lv_tableIn (x := Int32.ofInt x) hx hb hd (by rw [e]; exact h1) (by rw [e]; exact h2) (by rw [e]; exact ho) ht w) kk
theorem zb_tableOut {dflt lo hi : Int} {offs : Array Int} {len : Nat} (hd : decode F.2.2.1 pc = .ok (.tableswitch dflt lo hi offs, len)) (h : x < lo ∨ hi < x) (ht : (pc : Int) + dflt = (tgt : Int)) (kk : zb_WP X F tgt L st S m k n) : zb_WP X F pc L ((0, x) :: st) S m k n :=
  zb_pure (fun _ h => zb_okt h) (fun G p l e R s mi args below meth c Z H locs ls hx hb _ _ _ _ hs w => by
    have e := zb_toI (zb_okh hs)
    exact lv_tableOut (x := Int32.ofInt x) hx hb hd (by rw [e]; exact h) ht w) kk
end
/-! ===== more of the stack ===== -/
theorem zb_dup {t : Nat} {x : Int} (hd : decode F.2.2.1 pc = .ok (.dup, 1)) (ht : (t == 1) = false) (kk : zb_WP X F (pc + 1) L ((t, x) :: (t, x) :: st) S m k n) : zb_WP X F pc L ((t, x) :: st) S m k n :=
  zb_pure (fun _ h => List.forall_mem_cons.mpr ⟨zb_okh h, h⟩) (fun G p l e R s mi args below meth c Z H locs ls hx hb _ _ _ _ _ w => lv_dup hx hb hd (by
    have h2 := zb_cat G (t, x)
    rw [show ((t, x) : zb_V).1 = t from rfl, ht] at h2
    have h3 : (zb_cv G (t, x)).category ≠ 2 := by simpa using h2
    cases h : zb_cv G (t, x) <;> simp_all [Value.category]) w) kk
theorem zb_pop {t : Nat} {x : Int} (hd : decode F.2.2.1 pc = .ok (.pop, 1)) (ht : (t == 1) = false) (kk : zb_WP X F (pc + 1) L st S m k n) : zb_WP X F pc L ((t, x) :: st) S m k n :=
  zb_pure (fun _ h => zb_okt h) (fun G p l e R s mi args below meth c Z H locs ls hx hb _ _ _ _ _ w => lv_pop hx hb hd (by
    have h2 := zb_cat G (t, x)
    rw [show ((t, x) : zb_V).1 = t from rfl, ht] at h2
    have h3 : (zb_cv G (t, x)).category ≠ 2 := by simpa using h2
    cases h : zb_cv G (t, x) <;> simp_all [Value.category]) w) kk
theorem zb_dup2 {x a : Int} (hd : decode F.2.2.1 pc = .ok (.dup2, 1)) (kk : zb_WP X F (pc + 1) L ((0, x) :: (2, a) :: (0, x) :: (2, a) :: st) S m k n) : zb_WP X F pc L ((0, x) :: (2, a) :: st) S m k n :=
  zb_pure (fun _ h => List.forall_mem_cons.mpr ⟨zb_okh h, List.forall_mem_cons.mpr ⟨zb_okh (zb_okt h), h⟩⟩) (fun G p l e R s mi args below meth c Z H locs ls hx hb _ _ _ _ ho w => by
    have h1 : 1 ≤ a := zb_okh (zb_okt ho)
    simp only [List.map_cons, zb_cvr h1] at w ⊢
    exact lv_dup2_11 hx hb hd rfl rfl w) kk
/-- whole numbers: division of what is not below 0 -/
theorem zb_toI64 {x : Int} (h : zb_inL x) : (Int64.ofInt x).toInt = x := by
  obtain ⟨h1, h2⟩ := h
  rw [Int64.toInt_ofInt]
  unfold Int.bmod
  simp only [Int64.size]
  omega
theorem zb_divI {x y : Int} (hx : zb_inI x) (hy : zb_inI y) (h0 : 0 ≤ x) (h1 : 0 < y) : Int32.ofInt x / Int32.ofInt y = Int32.ofInt (x / y) := by
  apply Int32.toInt_inj.mp
  have hd1 : 0 ≤ x / y := Int.ediv_nonneg h0 (by omega)
  have hd2 : x / y ≤ x := Int.ediv_le_self _ h0
  have hin : zb_inI (x / y) := ⟨by omega, by have := hx.2; omega⟩
  rw [Int32.toInt_div, zb_toI hx, zb_toI hy, zb_toI hin, Int.tdiv_eq_ediv_of_nonneg h0]
  have := hin.2
  unfold Int.bmod
  simp only [Int32.size] at *
  omega
theorem zb_idiv {x y : Int} (hd : decode F.2.2.1 pc = .ok (.idiv, 1)) (h0 : 0 ≤ x) (h1 : 0 < y) (kk : zb_WP X F (pc + 1) L ((0, x / y) :: st) S m k n) : zb_WP X F pc L ((0, y) :: (0, x) :: st) S m k n :=
  zb_pure (fun _ h => zb_oki (by
      have hx : zb_inI x := zb_okh (zb_okt h)
      have hd1 : 0 ≤ x / y := Int.ediv_nonneg h0 (by omega)
      have hd2 : x / y ≤ x := Int.ediv_le_self _ h0
      exact ⟨by omega, by have := hx.2; omega⟩) (zb_okt (zb_okt h))) (fun G p l e R s mi args below meth c Z H locs ls hx hb _ _ _ _ ho w =>
    lv_idiv (x := Int32.ofInt x) (y := Int32.ofInt y) hx hb hd (fun z => by
      have h2 := (zb_eqI (zb_okh ho) zb_in0).mp z
      omega) (by rw [zb_divI (zb_okh (zb_okt ho)) (zb_okh ho) h0 h1]; exact w)) kk
theorem zb_irem {x y : Int} (hd : decode F.2.2.1 pc = .ok (.irem, 1)) (h0 : 0 ≤ x) (h1 : 0 < y) (kk : zb_WP X F (pc + 1) L ((0, x % y) :: st) S m k n) : zb_WP X F pc L ((0, y) :: (0, x) :: st) S m k n :=
  zb_pure (fun _ h => zb_oki (by
      have hy : zb_inI y := zb_okh h
      have hd1 : 0 ≤ x % y := Int.emod_nonneg _ (by omega)
      have hd2 : x % y < y := Int.emod_lt_of_pos _ h1
      exact ⟨by omega, by have := hy.2; omega⟩) (zb_okt (zb_okt h))) (fun G p l e R s mi args below meth c Z H locs ls hx hb _ _ _ _ ho w =>
    lv_irem (x := Int32.ofInt x) (y := Int32.ofInt y) hx hb hd (fun z => by
      have h2 := (zb_eqI (zb_okh ho) zb_in0).mp z
      omega) (by
        rw [zb_divI (zb_okh (zb_okt ho)) (zb_okh ho) h0 h1, ← Int32.ofInt_mul, ← Int32.ofInt_sub]
        have e : x - x / y * y = x % y := by rw [Int.emod_def, Int.mul_comm]
        rw [e]; exact w)) kk
/-- bits: of 32-bit numbers -/
def zb_and (x y : Int) : Int := (Int32.ofInt x &&& Int32.ofInt y).toInt
def zb_or (x y : Int) : Int := (Int32.ofInt x ||| Int32.ofInt y).toInt
def zb_shl (x y : Int) : Int := (Int32.ofInt x <<< (Int32.ofInt y &&& 31)).toInt
def zb_shr (x y : Int) : Int := (Int32.ofInt x >>> (Int32.ofInt y &&& 31)).toInt
def zb_ushr (x y : Int) : Int := ((Int32.ofInt x).toUInt32 >>> ((Int32.ofInt y).toUInt32 &&& Int32.toUInt32 31)).toInt32.toInt
def zb_lshl (x y : Int) : Int := (Int64.ofInt x <<< ((Int32.ofInt y).toInt64 &&& 63)).toInt
theorem zb_inT (x : Int32) : zb_inI x.toInt := ⟨by have := x.le_toInt; omega, by have := x.toInt_lt; omega⟩
theorem zb_inT64 (x : Int64) : zb_inL x.toInt := ⟨by have := x.le_toInt; omega, by have := x.toInt_lt; omega⟩
theorem zb_iand {x y : Int} (hd : decode F.2.2.1 pc = .ok (.iand, 1)) (kk : zb_WP X F (pc + 1) L ((0, zb_and x y) :: st) S m k n) : zb_WP X F pc L ((0, y) :: (0, x) :: st) S m k n :=
  zb_pure (fun _ h => zb_oki (zb_inT _) (zb_okt (zb_okt h))) (fun G p l e R s mi args below meth c Z H locs ls hx hb _ _ _ _ _ w => lv_iand (x := Int32.ofInt x) (y := Int32.ofInt y) hx hb hd (by have e := Int32.ofInt_toInt (Int32.ofInt x &&& Int32.ofInt y); rw [← e]; exact w)) kk
theorem zb_ior {x y : Int} (hd : decode F.2.2.1 pc = .ok (.ior, 1)) (kk : zb_WP X F (pc + 1) L ((0, zb_or x y) :: st) S m k n) : zb_WP X F pc L ((0, y) :: (0, x) :: st) S m k n :=
  zb_pure (fun _ h => zb_oki (zb_inT _) (zb_okt (zb_okt h))) (fun G p l e R s mi args below meth c Z H locs ls hx hb _ _ _ _ _ w => lv_ior (x := Int32.ofInt x) (y := Int32.ofInt y) hx hb hd (by have e := Int32.ofInt_toInt (Int32.ofInt x ||| Int32.ofInt y); rw [← e]; exact w)) kk
theorem zb_ishl {x y : Int} (hd : decode F.2.2.1 pc = .ok (.ishl, 1)) (kk : zb_WP X F (pc + 1) L ((0, zb_shl x y) :: st) S m k n) : zb_WP X F pc L ((0, y) :: (0, x) :: st) S m k n :=
  zb_pure (fun _ h => zb_oki (zb_inT _) (zb_okt (zb_okt h))) (fun G p l e R s mi args below meth c Z H locs ls hx hb _ _ _ _ _ w => lv_ishl (x := Int32.ofInt x) (y := Int32.ofInt y) hx hb hd (by have e := Int32.ofInt_toInt (Int32.ofInt x <<< (Int32.ofInt y &&& 31)); rw [← e]; exact w)) kk
theorem zb_ishr {x y : Int} (hd : decode F.2.2.1 pc = .ok (.ishr, 1)) (kk : zb_WP X F (pc + 1) L ((0, zb_shr x y) :: st) S m k n) : zb_WP X F pc L ((0, y) :: (0, x) :: st) S m k n :=
  zb_pure (fun _ h => zb_oki (zb_inT _) (zb_okt (zb_okt h))) (fun G p l e R s mi args below meth c Z H locs ls hx hb _ _ _ _ _ w => lv_ishr (x := Int32.ofInt x) (y := Int32.ofInt y) hx hb hd (by have e := Int32.ofInt_toInt (Int32.ofInt x >>> (Int32.ofInt y &&& 31)); rw [← e]; exact w)) kk
theorem zb_iushr {x y : Int} (hd : decode F.2.2.1 pc = .ok (.iushr, 1)) (kk : zb_WP X F (pc + 1) L ((0, zb_ushr x y) :: st) S m k n) : zb_WP X F pc L ((0, y) :: (0, x) :: st) S m k n :=
  zb_pure (fun _ h => zb_oki (zb_inT _) (zb_okt (zb_okt h))) (fun G p l e R s mi args below meth c Z H locs ls hx hb _ _ _ _ _ w => lv_iushr (x := Int32.ofInt x) (y := Int32.ofInt y) hx hb hd (Int32.ofInt_toInt _).symm w) kk
theorem zb_ladd {x y : Int} (hd : decode F.2.2.1 pc = .ok (.ladd, 1)) (hi : zb_inL (x + y)) (kk : zb_WP X F (pc + 1) L ((1, x + y) :: st) S m k n) : zb_WP X F pc L ((1, y) :: (1, x) :: st) S m k n :=
  zb_pure (fun _ h => zb_okl hi (zb_okt (zb_okt h))) (fun G p l e R s mi args below meth c Z H locs ls hx hb _ _ _ _ _ w => lv_ladd (x := Int64.ofInt x) (y := Int64.ofInt y) hx hb hd (by rw [← Int64.ofInt_add]; exact w)) kk
theorem zb_lmul {x y : Int} (hd : decode F.2.2.1 pc = .ok (.lmul, 1)) (hi : zb_inL (x * y)) (kk : zb_WP X F (pc + 1) L ((1, x * y) :: st) S m k n) : zb_WP X F pc L ((1, y) :: (1, x) :: st) S m k n :=
  zb_pure (fun _ h => zb_okl hi (zb_okt (zb_okt h))) (fun G p l e R s mi args below meth c Z H locs ls hx hb _ _ _ _ _ w => lv_lmul (x := Int64.ofInt x) (y := Int64.ofInt y) hx hb hd (by rw [← Int64.ofInt_mul]; exact w)) kk
theorem zb_lshlr {x y : Int} (hd : decode F.2.2.1 pc = .ok (.lshl, 1)) (kk : zb_WP X F (pc + 1) L ((1, zb_lshl x y) :: st) S m k n) : zb_WP X F pc L ((0, y) :: (1, x) :: st) S m k n :=
  zb_pure (fun _ h => zb_okl (zb_inT64 _) (zb_okt (zb_okt h))) (fun G p l e R s mi args below meth c Z H locs ls hx hb _ _ _ _ _ w => lv_lshl (x := Int64.ofInt x) (y := Int32.ofInt y) hx hb hd (Int64.ofInt_toInt _).symm w) kk
theorem zb_i2l {x : Int} (hd : decode F.2.2.1 pc = .ok (.i2l, 1)) (kk : zb_WP X F (pc + 1) L ((1, x) :: st) S m k n) : zb_WP X F pc L ((0, x) :: st) S m k n :=
  zb_pure (fun _ h => zb_okl (by have h1 : zb_inI x := zb_okh h; exact ⟨by have := h1.1; omega, by have := h1.2; omega⟩) (zb_okt h)) (fun G p l e R s mi args below meth c Z H locs ls hx hb _ _ _ _ ho w => lv_i2l (x := Int32.ofInt x) hx hb hd (by
    apply Int64.toInt_inj.mp
    have h1 : zb_inI x := zb_okh ho
    rw [Int32.toInt_toInt64, zb_toI h1, zb_toI64 ⟨by have := h1.1; omega, by have := h1.2; omega⟩]) w) kk
theorem zb_lconst {q : Fin 2} {i : Int} (hd : decode F.2.2.1 pc = .ok (.lconst q, 1)) (hi : ((q : Nat) : Int) = i) (kk : zb_WP X F (pc + 1) L ((1, i) :: st) S m k n) : zb_WP X F pc L st S m k n := by
  subst hi
  exact zb_pure (fun _ h => zb_okl (by have := q.isLt; exact ⟨by omega, by omega⟩) h) (fun G p l e R s mi args below meth c Z H locs ls hx hb _ _ _ _ _ w => lv_lconst hx hb hd (by match q with | 0 => rfl | 1 => rfl) w) kk
theorem zb_ldc {index : Nat} {i : Int} (hd : decode F.2.2.1 pc = .ok (.ldc index, 2)) (hc : Jvm.Cond.constant F.1 index (Int32.ofInt i) ∈ zb_all) (hi : zb_inI i) (kk : zb_WP X F (pc + 2) L ((0, i) :: st) S m k n) : zb_WP X F pc L st S m k n :=
  zb_pure (fun _ h => zb_oki hi h) (fun G p l e R s mi args below meth c Z H locs ls hx hb hown hts _ _ _ w => lv_ldc hx hb hown (hts _ hc) hd w) kk
theorem zb_ldcw {index : Nat} {i : Int} (hd : decode F.2.2.1 pc = .ok (.ldc_w index, 3)) (hc : Jvm.Cond.constant F.1 index (Int32.ofInt i) ∈ zb_all) (hi : zb_inI i) (kk : zb_WP X F (pc + 3) L ((0, i) :: st) S m k n) : zb_WP X F pc L st S m k n :=
  zb_pure (fun _ h => zb_oki hi h) (fun G p l e R s mi args below meth c Z H locs ls hx hb hown hts _ _ _ w => lv_ldcw hx hb hown (hts _ hc) hd w) kk
theorem zb_ldc2 {index : Nat} {i : Int} (hd : decode F.2.2.1 pc = .ok (.ldc2_w index, 3)) (hc : Jvm.Cond.constantLong F.1 index (Int64.ofInt i) ∈ zb_all) (hi : zb_inL i) (kk : zb_WP X F (pc + 3) L ((1, i) :: st) S m k n) : zb_WP X F pc L st S m k n :=
  zb_pure (fun _ h => zb_okl hi h) (fun G p l e R s mi args below meth c Z H locs ls hx hb hown hts _ _ _ w => lv_ldc2 hx hb hown (hts _ hc) hd w) kk
end ZBB
end
section
/-! ===== cells ===== -/
def zb_is (S : zb_S) (a : Int) (kind : Nat) : Prop := 1 ≤ a ∧ a ≤ S.1 ∧ (S.2 a).1 = kind
def zb_len (S : zb_S) (a : Int) : Int := ((S.2 a).2 : Int)
def zb_up (m : zb_M) (a k v : Int) : zb_M := fun b j => if b = a ∧ j = k then v else m b j
theorem zb_up_same (m : zb_M) (a k v : Int) : zb_up m a k v a k = v := by simp [zb_up]
theorem zb_up_ne (m : zb_M) {a k v b j : Int} (h : b ≠ a ∨ j ≠ k) : zb_up m a k v b j = m b j := by
  unfold zb_up
  rw [if_neg]
  rintro ⟨h1, h2⟩
  rcases h with h | h
  · exact h h1
  · exact h h2
theorem zb_up_row (m : zb_M) {a k v b : Int} (h : b ≠ a) : zb_up m a k v b = m b := by
  funext j
  exact zb_up_ne m (Or.inl h)
def zb_TT (ci k : Nat) : String × String × String × Bool := match vwCl[ci]? with
  | some q => q.2.1 k
  | none => ("", "", "", false)
/-- what the tables say of a class -/
def zb_cl (ci : Nat) (q : vw_C) : Prop := vwCl[ci]? = some q ∧ (∀ w ∈ u_ws q.1 q.2.1 q.2.2, w ∈ zb_all) ∧ (∀ k, k < q.2.2 → parseFieldDescriptor (q.2.1 k).2.2.1 = some (zb_tyX ci k)) ∧ (∀ a, a < q.2.2 → ∀ b, b < q.2.2 → a ≠ b → (q.2.1 a).2.1 ≠ (q.2.1 b).2.1) ∧ ci < 13
/-- what the tables say of a field's link -/
def zb_fl (own : String) (index ci k : Nat) : Prop := ∃ q : vw_C, zb_cl ci q ∧ k < q.2.2 ∧ Cond.fieldLink own index (q.2.1 k).1 (q.2.1 k).2.1 (q.2.1 k).2.2.1 ∈ zb_all
theorem zb_P1 {D : va_G} {cl : List vw_C} {H : Heap} {a : Nat} {e : va_E} (h : va_at D cl (a, e) H) : va_P D cl [(a, e)] H := by
  intro k q hk
  match k with
  | 0 =>
    simp only [List.getElem?_cons_zero, Option.some.injEq] at hk
    subst hk
    exact h
  | k + 1 => simp at hk
theorem zb_nf_of {ci : Nat} {q : vw_C} (h : vwCl[ci]? = some q) : zb_nf ci = q.2.2 := by
  unfold zb_nf
  rw [h]
theorem zb_ent_obj (G : zb_G) {kl : Nat × Nat} {ci : Nat} (h : kl.1 = ci) (hc : ci < 13) (f : Int → Int) : zb_ent G kl f = .inr (ci, (List.range (zb_nf ci)).map (fun (k : Nat) => zb_cv G (zb_tag ci k, f k))) := by
  subst h
  unfold zb_ent
  rw [if_pos hc]
theorem zb_fs_at (G : zb_G) (ci : Nat) (f : Int → Int) {k : Nat} (h : k < zb_nf ci) : ((List.range (zb_nf ci)).map (fun (k : Nat) => zb_cv G (zb_tag ci k, f k)))[k]? = some (zb_cv G (zb_tag ci k, f k)) := by
  rw [List.getElem?_map, List.getElem?_range h]
  rfl
section ZBM
variable {X : zb_X} {F : zb_F} {pc : Nat} {L : List (Nat × zb_V)} {st : List zb_V} {S : zb_S} {m : zb_M} {k n : Nat}
/-- a field is read -/
theorem zb_getf {index ci j t : Nat} {a : Int} (hd : decode F.2.2.1 pc = .ok (.getfield index, 3)) (hf : zb_fl F.1 index ci j) (ht : zb_tag ci j = t) (ha : zb_is S a ci) (hn : t = 2 → 1 ≤ m a j) (kk : zb_WP X F (pc + 3) L ((t, m a j) :: st) S m k n) : zb_WP X F pc L ((2, a) :: st) S m k n := by
  obtain ⟨G, ⟨p, l, e, R, s, mi, args, below, meth, c, Z⟩, d, K, N, Q⟩ := X
  intro hC H locs ls hH hlo hL hLo hst
  have hC' := hC
  obtain ⟨hx, hb, hml, hown, hts, hK, -⟩ := hC'
  obtain ⟨q, ⟨hc, hin, hty, hnm, hci⟩, hk, hlink⟩ := hf
  obtain ⟨h1, h2, h3⟩ := ha
  have hnf := zb_nf_of hc
  have hat := hH.2.1 a h1 h2
  rw [zb_ent_obj G h3 hci] at hat
  have hcan : zb_okm t (m a j) := by
    have h := hH.2.2.2.1 a j
    unfold zb_st at h
    rw [h3, if_pos hci, Int.toNat_natCast, ht] at h
    exact h
  have hok : zb_ok t (m a j) := by
    unfold zb_okm at hcan
    unfold zb_ok
    match t, hcan, hn with
    | 0, h, _ => exact h
    | 1, h, _ => exact h
    | 2, _, h => exact h rfl
    | (t + 3), _, _ => trivial
  rw [List.map_cons, zb_cvr h1]
  refine va_get (ws := [(zb_ad G a, _)]) (D := G.2.2.2.1) (ci := ci) (C := q.1) (T := q.2.1) (N := q.2.2) hx hb hts hin hown hK (zb_P1 hat) 0 rfl hc j hk (hts _ hlink) (fun _ h => h) (zb_fs_at G ci (m a) (by rw [hnf]; exact hk)) hd ?_
  rw [ht]
  exact kk hC H locs ls hH hlo hL hLo (List.forall_mem_cons.mpr ⟨hok, zb_okt hst⟩)
theorem zb_H_set {G : zb_G} {S : zb_S} {m m' : zb_M} {H H' : Heap} {a : Int} (h : zb_H G S m H) (h1 : 1 ≤ a) (he : va_at G.2.2.2.1 vwCl (zb_ad G a, zb_ent G (S.2 a) (m' a)) H') (hz : H'.size = H.size) (ho : ∀ q, q ≠ zb_ad G a → H'[q]? = H[q]?) (hm : ∀ b, b ≠ a → m' b = m b) (hc : ∀ k, zb_okm (zb_st (S.2 a) k) (m' a k)) : zb_H G S m' H' := by
  obtain ⟨g1, g2, g3, g4, g5⟩ := h
  refine ⟨by rw [hz]; exact g1, fun b hb1 hb2 => ?_, fun q hq => ?_, fun b j => ?_, g5⟩
  · by_cases hba : b = a
    · subst hba
      exact he
    · rw [hm b hba]
      refine va_at.kept (g2 b hb1 hb2) (ho _ ?_)
      unfold zb_ad
      omega
  · rw [ho q (by unfold zb_ad; omega)]
    exact g3 q hq
  · by_cases hba : b = a
    · subst hba
      exact hc j
    · rw [hm b hba]
      exact g4 b j
theorem zb_fs_set (G : zb_G) (ci : Nat) (m : zb_M) (a : Int) {j : Nat} {t : Nat} {v : Int} (ht : zb_tag ci j = t) : ((List.range (zb_nf ci)).map (fun (k : Nat) => zb_cv G (zb_tag ci k, m a k))).set j (zb_cv G (t, v)) = (List.range (zb_nf ci)).map (fun (k : Nat) => zb_cv G (zb_tag ci k, zb_up m a j v a k)) := by
  apply List.ext_getElem?
  intro i
  rw [List.getElem?_set]
  by_cases hi : j = i
  · subst hi
    rw [if_pos rfl]
    by_cases hl : j < zb_nf ci
    · rw [if_pos (by simpa using hl), zb_fs_at G ci (zb_up m a j v a) hl, zb_up_same, ht]
    · rw [if_neg (by simpa using hl)]
      symm
      apply List.getElem?_eq_none
      simpa using hl
  · rw [if_neg hi, List.getElem?_map, List.getElem?_map]
    by_cases hl : i < zb_nf ci
    · rw [List.getElem?_range hl]
      simp only [Option.map_some]
      rw [zb_up_ne m (Or.inr (by omega))]
    · rw [List.getElem?_eq_none (by simpa using hl)]
      rfl
/-- what may be put into a field -/
def zb_fit (ty : FieldType) (v : Int) : Prop := ty = .int ∨ (ty = .boolean ∧ (v = 0 ∨ v = 1)) ∨ zb_ft ty = 2
theorem zb_narrow {G : zb_G} {ty : FieldType} {v : Int} (hf : zb_fit ty v) (hv : zb_ft ty = 2 → 1 ≤ v) : narrow ty (zb_cv G (zb_ft ty, v)) = zb_cv G (zb_ft ty, v) ∧ fits ty (zb_cv G (zb_ft ty, v)) = true := by
  rcases hf with rfl | ⟨rfl, rfl | rfl⟩ | h
  · exact ⟨rfl, rfl⟩
  · exact ⟨rfl, rfl⟩
  · exact ⟨rfl, rfl⟩
  · have h1 := hv h
    rw [h, zb_cvr h1]
    cases ty <;> simp_all [zb_ft, narrow, fits]
/-- a field is written -/
theorem zb_putf {index ci j t : Nat} {a v : Int} (hd : decode F.2.2.1 pc = .ok (.putfield index, 3)) (hf : zb_fl F.1 index ci j) (ht : zb_tag ci j = t) (hfin : (zb_TT ci j).2.2.2 = false ∨ ((zb_TT ci j).2.2.2 = true ∧ F.2.1.name = "<init>" ∧ (zb_TT ci j).1 = F.1)) (ha : zb_is S a ci) (hfit : zb_fit (zb_tyX ci j) v) (kk : zb_WP X F (pc + 3) L st S (zb_up m a j v) k n) : zb_WP X F pc L ((t, v) :: (2, a) :: st) S m k n := by
  obtain ⟨G, ⟨p, l, e, R, s, mi, args, below, meth, c, Z⟩, d, K, N, Q⟩ := X
  intro hC H locs ls hH hlo hL hLo hst
  have hC' := hC
  obtain ⟨hx, hb, hml, hown, hts, hK, -, hini, -⟩ := hC'
  obtain ⟨q, ⟨hc, hin, hty, hnm, hci⟩, hk, hlink⟩ := hf
  obtain ⟨h1, h2, h3⟩ := ha
  have hnf := zb_nf_of hc
  have hTT : zb_TT ci j = q.2.1 j := by unfold zb_TT; rw [hc]
  rw [hTT] at hfin
  have hat := hH.2.1 a h1 h2
  rw [zb_ent_obj G h3 hci] at hat
  have hokv : zb_ok t v := zb_okh hst
  have hnv : zb_ft (zb_tyX ci j) = 2 → 1 ≤ v := fun h => by
    have e2 : t = 2 := by rw [← ht]; exact h
    subst e2
    exact hokv
  have hap := va_apart (own := F.1) hts hin (zb_tyX ci) hty hnm hK hc
  have hat0 := hat
  obtain ⟨r, g1, cell, q1, q2, q3, q4⟩ := hat
  have hr : r = q := Option.some.inj (g1.symm.trans hc)
  subst hr
  obtain ⟨hS, hfc, kC, hkC, hkind⟩ := hK.1 ci _ hc
  obtain ⟨cf, kf, fi, f, hi, hsl⟩ := hS j hk
  have hlay := hts _ (hin _ (u_in_lay hk))
  unfold u_lay at hlay
  have hst2 := (u_facts hfc hkC (u_lays hts hin hk) hi).1
  have htt : zb_ft (zb_tyX ci j) = t := ht
  have hnr := zb_narrow (G := G) hfit hnv
  rw [htt] at hnr
  have hfin' : ∀ H' : Heap, H'[zb_ad G a]? = some (cell.setSlot f.slot (zb_cv G (t, v))) → H'.size = H.size → (∀ z, z ≠ zb_ad G a → H'[z]? = H[z]?) → zb_H G S (zb_up m a j v) H' := by
    intro H' e1 e2 e3
    refine zb_H_set hH h1 ?_ e2 e3 (fun b hb => zb_up_row m hb) (fun i => ?_)
    · rw [zb_ent_obj G h3 hci, ← zb_fs_set G ci m a ht]
      rw [hsl] at e1
      exact ⟨_, hc, t_OB.to (V := updV (vp_V _) j (zb_cv G (t, v))) ⟨_, e1, q2, q3, t_set q4 hap hk (zb_cv G (t, v))⟩ (fun i _ => vp_updV_set (by simp [hnf]; exact hk) _ i)⟩
    · by_cases hij : i = (j : Int)
      · subst hij
        rw [zb_up_same]
        unfold zb_st
        rw [h3, if_pos hci, Int.toNat_natCast, ht]
        unfold zb_ok at hokv
        unfold zb_okm
        match t, hokv with
        | 0, h => exact h
        | 1, h => exact h
        | 2, h => trivial
        | (t + 3), _ => trivial
      · rw [zb_up_ne m (Or.inr hij)]
        exact hH.2.2.2.1 a i
  have hlo' : ∀ z ∈ locs ++ [⟨zb_ad G a, f.slot⟩], G.1 ≤ z.base := by
    intro z hz
    rcases List.mem_append.mp hz with h | h
    · exact hlo z h
    · rw [List.mem_singleton.mp h]
      exact Nat.le_add_right _ _
  simp only [List.map_cons, zb_cvr h1]
  rcases hfin with hfin | ⟨hfin, hinit, hdecl⟩
  · rw [if_neg (by rw [hfin]; decide)] at hlay
    have h6 := u_store hfc hkC hkind hlay hi (hty j hk) hnr.1 hnr.2
    refine W.putK hx hb (f := f) ⟨hown, hts _ hlink, ⟨_, _, _, hi⟩, hst2⟩ (by rw [q2]; exact h6) q1 q3 (by rw [hsl]; exact k2_hasslot (q4 j hk)) rfl rfl hd fun H' e1 e2 e3 => ?_
    exact kk hC H' _ ls (hfin' H' e1 e2 e3) hlo' hL hLo (zb_okt (zb_okt hst))
  · rw [if_pos hfin] at hlay
    have hcf : mi.cls = cf := by
      obtain ⟨_, _, c', _, _, _, -, -, hf', -, -, -, hown2, -⟩ := Cond.laysFinal_spec hlay
      have e1 : c' = cf := by have := hi.symm.trans hf'; simp at this; exact this.1.symm
      rw [hdecl] at hown2
      rw [← e1]; exact Option.some.inj (hown.symm.trans hown2)
    have h6 := u_fits hfc hkC hkind (Or.inr hlay) hi (hty j hk) hnr.1 hnr.2
    refine W.putFinK hx hb hown (hts _ hlink) hi hst2 hcf (hini hinit) (by rw [q2]; exact h6) q1 q3 (by rw [hsl]; exact k2_hasslot (q4 j hk)) rfl rfl hd fun H' e1 e2 e3 => ?_
    exact kk hC H' _ ls (hfin' H' e1 e2 e3) hlo' hL hLo (zb_okt (zb_okt hst))
end ZBM
end
section
/-! ===== arrays ===== -/
theorem zb_c32 {x : Int} (h : zb_inI x) : (Int32.ofInt x).toNatClampNeg = x.toNat := by
  show (Int32.ofInt x).toInt.toNat = _
  rw [zb_toI h]
theorem zb_vpin {x : Int} {n : Nat} (h : zb_inI x) (h0 : 0 ≤ x) (h1 : x < n) : vp_in (Int32.ofInt x) n := by
  unfold vp_in
  rw [zb_c32 h]
  rintro (q | q)
  · have := (zb_ltI h zb_in0).mp q
    omega
  · omega
theorem zb_ent_i (G : zb_G) {kl : Nat × Nat} (h : kl.1 = 13) (f : Int → Int) : zb_ent G kl f = .inl (G.2.2.2.2 0, kl.2, .inl (fun j : Nat => Int32.ofInt (f j))) := by
  unfold zb_ent
  rw [h]
  rfl
theorem zb_ent_l (G : zb_G) {kl : Nat × Nat} (h : kl.1 = 14) (f : Int → Int) : zb_ent G kl f = .inl (G.2.2.2.2 1, kl.2, .inr (.inl (fun j : Nat => Int64.ofInt (f j)))) := by
  unfold zb_ent
  rw [h]
  rfl
theorem zb_ent_z (G : zb_G) {kl : Nat × Nat} (h : kl.1 = 15) (f : Int → Int) : zb_ent G kl f = .inl (G.2.2.2.2 2, kl.2, .inl (fun j : Nat => Int32.ofInt (f j))) := by
  unfold zb_ent
  rw [h]
  rfl
theorem zb_ent_q (G : zb_G) {kl : Nat × Nat} {t : Nat} (h : kl.1 = 13 + t) (ht : 3 ≤ t) (f : Int → Int) : zb_ent G kl f = .inl (G.2.2.2.2 t, kl.2, .inr (.inr (.inr (.inr (fun j : Nat => zb_rf G.1 (f j)))))) := by
  unfold zb_ent
  rw [if_neg (by omega), if_neg (by omega), if_neg (by omega), show kl.1 - 13 = t by omega]
theorem zb_kt_q {t : Nat} (ht : 3 ≤ t) : ∃ C, zb_kt t = .object C := by
  match t, ht with
  | 3, _ => exact ⟨_, rfl⟩
  | 4, _ => exact ⟨_, rfl⟩
  | 5, _ => exact ⟨_, rfl⟩
  | (t + 6), _ => exact ⟨_, rfl⟩
section ZBA
variable {X : zb_X} {F : zb_F} {pc : Nat} {L : List (Nat × zb_V)} {st : List zb_V} {S : zb_S} {m : zb_M} {k n : Nat}
theorem zb_iald {a i : Int} (hd : decode F.2.2.1 pc = .ok (.iaload, 1)) (ha : zb_is S a 13) (h0 : 0 ≤ i) (hi : i < zb_len S a) (kk : zb_WP X F (pc + 1) L ((0, m a i) :: st) S m k n) : zb_WP X F pc L ((0, i) :: (2, a) :: st) S m k n := by
  obtain ⟨G, ⟨p, l, e, R, s, mi, args, below, meth, c, Z⟩, d, K, N, Q⟩ := X
  intro hC H locs ls hH hlo hL hLo hst
  have hC' := hC
  obtain ⟨hx, hb, hml, hown, hts, hK, -⟩ := hC'
  obtain ⟨h1, h2, h3⟩ := ha
  have hat := hH.2.1 a h1 h2
  rw [zb_ent_i G h3] at hat
  have hini : zb_inI i := zb_okh hst
  have hcan : zb_inI (m a i) := by
    have h := hH.2.2.2.1 a i
    unfold zb_st at h
    rw [h3] at h
    exact h
  simp only [List.map_cons, zb_cvr h1]
  refine va_iald (ws := [(zb_ad G a, _)]) (D := G.2.2.2.1) (tys := zb_tys G.2.2.2.2) (i := Int32.ofInt i) hx hb hK (zb_P1 hat) 0 0 rfl (zb_tys_at _ (t := 0) (by omega)) (zb_vpin hini h0 hi) hd ?_
  rw [zb_c32 hini, Int.toNat_of_nonneg h0]
  exact kk hC H locs ls hH hlo hL hLo (zb_oki hcan (zb_okt (zb_okt hst)))
theorem zb_lald {a i : Int} (hd : decode F.2.2.1 pc = .ok (.laload, 1)) (ha : zb_is S a 14) (h0 : 0 ≤ i) (hi : i < zb_len S a) (kk : zb_WP X F (pc + 1) L ((1, m a i) :: st) S m k n) : zb_WP X F pc L ((0, i) :: (2, a) :: st) S m k n := by
  obtain ⟨G, ⟨p, l, e, R, s, mi, args, below, meth, c, Z⟩, d, K, N, Q⟩ := X
  intro hC H locs ls hH hlo hL hLo hst
  have hC' := hC
  obtain ⟨hx, hb, hml, hown, hts, hK, -⟩ := hC'
  obtain ⟨h1, h2, h3⟩ := ha
  have hat := hH.2.1 a h1 h2
  rw [zb_ent_l G h3] at hat
  have hini : zb_inI i := zb_okh hst
  have hcan : zb_inL (m a i) := by
    have h := hH.2.2.2.1 a i
    unfold zb_st at h
    rw [h3] at h
    exact h
  simp only [List.map_cons, zb_cvr h1]
  refine va_lald (ws := [(zb_ad G a, _)]) (D := G.2.2.2.1) (tys := zb_tys G.2.2.2.2) (i := Int32.ofInt i) hx hb hK (zb_P1 hat) 0 1 rfl (zb_tys_at _ (t := 1) (by omega)) (zb_vpin hini h0 hi) hd ?_
  rw [zb_c32 hini, Int.toNat_of_nonneg h0]
  exact kk hC H locs ls hH hlo hL hLo (zb_okl hcan (zb_okt (zb_okt hst)))
theorem zb_zald {a i : Int} (hd : decode F.2.2.1 pc = .ok (.baload, 1)) (ha : zb_is S a 15) (h0 : 0 ≤ i) (hi : i < zb_len S a) (kk : zb_WP X F (pc + 1) L ((0, m a i) :: st) S m k n) : zb_WP X F pc L ((0, i) :: (2, a) :: st) S m k n := by
  obtain ⟨G, ⟨p, l, e, R, s, mi, args, below, meth, c, Z⟩, d, K, N, Q⟩ := X
  intro hC H locs ls hH hlo hL hLo hst
  have hC' := hC
  obtain ⟨hx, hb, hml, hown, hts, hK, -⟩ := hC'
  obtain ⟨h1, h2, h3⟩ := ha
  have hat := hH.2.1 a h1 h2
  rw [zb_ent_z G h3] at hat
  have hini : zb_inI i := zb_okh hst
  have hcan : zb_inI (m a i) := by
    have h := hH.2.2.2.1 a i
    unfold zb_st at h
    rw [h3] at h
    exact h
  simp only [List.map_cons, zb_cvr h1]
  refine va_zald (ws := [(zb_ad G a, _)]) (D := G.2.2.2.1) (tys := zb_tys G.2.2.2.2) (i := Int32.ofInt i) hx hb hK (zb_P1 hat) 0 2 rfl (zb_tys_at _ (t := 2) (by omega)) (zb_vpin hini h0 hi) hd ?_
  rw [zb_c32 hini, Int.toNat_of_nonneg h0]
  exact kk hC H locs ls hH hlo hL hLo (zb_oki hcan (zb_okt (zb_okt hst)))
theorem zb_aald {a i : Int} {t : Nat} (hd : decode F.2.2.1 pc = .ok (.aaload, 1)) (ha : zb_is S a (13 + t)) (ht : 3 ≤ t ∧ t < 7) (h0 : 0 ≤ i) (hi : i < zb_len S a) (hn : 1 ≤ m a i) (kk : zb_WP X F (pc + 1) L ((2, m a i) :: st) S m k n) : zb_WP X F pc L ((0, i) :: (2, a) :: st) S m k n := by
  obtain ⟨G, ⟨p, l, e, R, s, mi, args, below, meth, c, Z⟩, d, K, N, Q⟩ := X
  intro hC H locs ls hH hlo hL hLo hst
  have hC' := hC
  obtain ⟨hx, hb, hml, hown, hts, hK, -⟩ := hC'
  obtain ⟨h1, h2, h3⟩ := ha
  have hat := hH.2.1 a h1 h2
  rw [zb_ent_q G h3 ht.1] at hat
  have hini : zb_inI i := zb_okh hst
  obtain ⟨C, hCt⟩ := zb_kt_q ht.1
  have hty := zb_tys_at G.2.2.2.2 ht.2
  rw [hCt] at hty
  simp only [List.map_cons, zb_cvr h1]
  refine va_aldq (ws := [(zb_ad G a, _)]) (D := G.2.2.2.1) (tys := zb_tys G.2.2.2.2) (i := Int32.ofInt i) hx hb hK (zb_P1 hat) 0 t rfl hty (zb_vpin hini h0 hi) hd ?_
  rw [zb_c32 hini, Int.toNat_of_nonneg h0]
  exact kk hC H locs ls hH hlo hL hLo (zb_okr hn (zb_okt (zb_okt hst)))
theorem zb_n32 (n : Nat) : Int32.ofNat n = Int32.ofInt (n : Int) := by
  apply Int32.toInt_inj.mp
  rw [Int32.toInt_ofInt, Int32.toInt_ofNat']
theorem zb_alen {a : Int} {t : Nat} (hd : decode F.2.2.1 pc = .ok (.arraylength, 1)) (ha : zb_is S a (13 + t)) (ht : t < 7) (hi : zb_inI (zb_len S a)) (kk : zb_WP X F (pc + 1) L ((0, zb_len S a) :: st) S m k n) : zb_WP X F pc L ((2, a) :: st) S m k n := by
  obtain ⟨G, ⟨p, l, e, R, s, mi, args, below, meth, c, Z⟩, d, K, N, Q⟩ := X
  intro hC H locs ls hH hlo hL hLo hst
  have hC' := hC
  obtain ⟨hx, hb, hml, hown, hts, hK, -⟩ := hC'
  obtain ⟨h1, h2, h3⟩ := ha
  have hat := hH.2.1 a h1 h2
  unfold zb_ent at hat
  rw [if_neg (by omega), show (S.2 a).1 - 13 = t by omega] at hat
  simp only [List.map_cons, zb_cvr h1]
  refine va_alen (ws := [(zb_ad G a, _)]) (D := G.2.2.2.1) (tys := zb_tys G.2.2.2.2) hx hb hK (zb_P1 hat) 0 t rfl (zb_tys_at _ ht) (zb_n32 _) hd ?_
  exact kk hC H locs ls hH hlo hL hLo (zb_oki hi (zb_okt hst))
/-- a place of an array is written: the new heap -/
theorem zb_arr_set {G : zb_G} {H H' : Heap} {a i v : Int} {val : Value} {cA : ClassId} {N j : Nat} {g g' : Nat → Value} {x : vp_A} (hH : zb_H G S m H) (h1 : 1 ≤ a) (hx : zb_ent G (S.2 a) (zb_up m a i v a) = .inl (cA, x)) (hxc : vp_cell cA x = arrV cA N g') (hg : ∀ q, updV g j val q = g' q)
    (e1 : H'[zb_ad G a]? = some ((arrV cA N g).setSlot j val)) (e2 : H'.size = H.size) (e3 : ∀ z, z ≠ zb_ad G a → H'[z]? = H[z]?) (hv : zb_okm (zb_st (S.2 a) i) v) : zb_H G S (zb_up m a i v) H' := by
  refine zb_H_set hH h1 ?_ e2 e3 (fun b hb => zb_up_row m hb) (fun q => ?_)
  · rw [hx]
    show H'[zb_ad G a]? = some (vp_cell cA x)
    rw [e1, hxc, arrV_store]
    congr 2
    funext q
    exact hg q
  · by_cases hq : q = i
    · subst hq
      rw [zb_up_same]
      exact hv
    · rw [zb_up_ne m (Or.inr hq)]
      exact hH.2.2.2.1 a q
theorem zb_lo {G : zb_G} {a : Int} {i : Nat} {locs : List Loc} (hlo : ∀ q ∈ locs, G.1 ≤ q.base) : ∀ z ∈ locs ++ [⟨zb_ad G a, i⟩], G.1 ≤ z.base := by
  intro z hz
  rcases List.mem_append.mp hz with h | h
  · exact hlo z h
  · rw [List.mem_singleton.mp h]
    exact Nat.le_add_right _ _
theorem zb_upn {m : zb_M} {a i v : Int} (h0 : 0 ≤ i) {α : Type} (f : Int → α) (q : Nat) : (if q = i.toNat then f v else f (m a q)) = f (zb_up m a i v a q) := by
  by_cases h : q = i.toNat
  · rw [if_pos h]
    have : (q : Int) = i := by omega
    rw [this, zb_up_same]
  · rw [if_neg h, zb_up_ne m (Or.inr (by omega))]
theorem zb_iast {a i v : Int} (hd : decode F.2.2.1 pc = .ok (.iastore, 1)) (ha : zb_is S a 13) (h0 : 0 ≤ i) (hi : i < zb_len S a) (kk : zb_WP X F (pc + 1) L st S (zb_up m a i v) k n) : zb_WP X F pc L ((0, v) :: (0, i) :: (2, a) :: st) S m k n := by
  obtain ⟨G, ⟨p, l, e, R, s, mi, args, below, meth, c, Z⟩, d, K, N, Q⟩ := X
  intro hC H locs ls hH hlo hL hLo hst
  have hC' := hC
  obtain ⟨hx, hb, hml, hown, hts, hK, -⟩ := hC'
  obtain ⟨h1, h2, h3⟩ := ha
  have hat := hH.2.1 a h1 h2
  rw [zb_ent_i G h3] at hat
  have hini : zb_inI i := zb_okh (zb_okt hst)
  simp only [List.map_cons, zb_cvr h1]
  refine W.iast (x := Int32.ofInt v) (j := Int32.ofInt i) hx hb hat ((hK.2 0 _ (zb_tys_at _ (by omega))).1 _ (fun j => .int (Int32.ofInt (m a j)))) (fun q => by cases q) (by show ¬ (_ ∨ (arrV _ _ _).slots.size ≤ _); rw [arrV_size]; exact zb_vpin hini h0 hi) rfl rfl hd fun H' e1 e2 e3 => ?_
  rw [zb_c32 hini] at e1 ⊢
  refine kk hC H' _ ls (zb_arr_set hH h1 (zb_ent_i G h3 _) rfl (fun q => zb_upn h0 (fun z => Value.int (Int32.ofInt z)) q) e1 e2 e3 ?_) (zb_lo hlo) hL hLo (zb_okt (zb_okt (zb_okt hst)))
  unfold zb_st
  rw [h3]
  exact zb_okh hst
theorem zb_last {a i v : Int} (hd : decode F.2.2.1 pc = .ok (.lastore, 1)) (ha : zb_is S a 14) (h0 : 0 ≤ i) (hi : i < zb_len S a) (kk : zb_WP X F (pc + 1) L st S (zb_up m a i v) k n) : zb_WP X F pc L ((1, v) :: (0, i) :: (2, a) :: st) S m k n := by
  obtain ⟨G, ⟨p, l, e, R, s, mi, args, below, meth, c, Z⟩, d, K, N, Q⟩ := X
  intro hC H locs ls hH hlo hL hLo hst
  have hC' := hC
  obtain ⟨hx, hb, hml, hown, hts, hK, -⟩ := hC'
  obtain ⟨h1, h2, h3⟩ := ha
  have hat := hH.2.1 a h1 h2
  rw [zb_ent_l G h3] at hat
  have hini : zb_inI i := zb_okh (zb_okt hst)
  simp only [List.map_cons, zb_cvr h1]
  refine W.last (x := Int64.ofInt v) (j := Int32.ofInt i) hx hb hat ((hK.2 1 _ (zb_tys_at _ (by omega))).1 _ (fun j => .long (Int64.ofInt (m a j)))) (fun q => by cases q) (by show ¬ (_ ∨ (arrV _ _ _).slots.size ≤ _); rw [arrV_size]; exact zb_vpin hini h0 hi) rfl rfl hd fun H' e1 e2 e3 => ?_
  rw [zb_c32 hini] at e1 ⊢
  refine kk hC H' _ ls (zb_arr_set hH h1 (zb_ent_l G h3 _) rfl (fun q => zb_upn h0 (fun z => Value.long (Int64.ofInt z)) q) e1 e2 e3 ?_) (zb_lo hlo) hL hLo (zb_okt (zb_okt (zb_okt hst)))
  unfold zb_st
  rw [h3]
  exact zb_okh hst
theorem zb_zast {a i v : Int} (hd : decode F.2.2.1 pc = .ok (.bastore, 1)) (ha : zb_is S a 15) (h0 : 0 ≤ i) (hi : i < zb_len S a) (hv : v = 0 ∨ v = 1) (kk : zb_WP X F (pc + 1) L st S (zb_up m a i v) k n) : zb_WP X F pc L ((0, v) :: (0, i) :: (2, a) :: st) S m k n := by
  obtain ⟨G, ⟨p, l, e, R, s, mi, args, below, meth, c, Z⟩, d, K, N, Q⟩ := X
  intro hC H locs ls hH hlo hL hLo hst
  have hC' := hC
  obtain ⟨hx, hb, hml, hown, hts, hK, -⟩ := hC'
  obtain ⟨h1, h2, h3⟩ := ha
  have hat := hH.2.1 a h1 h2
  rw [zb_ent_z G h3] at hat
  have hini : zb_inI i := zb_okh (zb_okt hst)
  have hnr : narrow .boolean (.int (Int32.ofInt v)) = .int (Int32.ofInt v) := by rcases hv with rfl | rfl <;> rfl
  simp only [List.map_cons, zb_cvr h1]
  refine W.zast (x := Int32.ofInt v) (j := Int32.ofInt i) hx hb hat ((hK.2 2 _ (zb_tys_at _ (by omega))).1 _ (fun j => .int (Int32.ofInt (m a j)))) (fun q => by cases q) (by show ¬ (_ ∨ (arrV _ _ _).slots.size ≤ _); rw [arrV_size]; exact zb_vpin hini h0 hi) rfl rfl hd fun H' e1 e2 e3 => ?_
  rw [zb_c32 hini] at e1 ⊢
  rw [hnr] at e1
  refine kk hC H' _ ls (zb_arr_set hH h1 (zb_ent_z G h3 _) rfl (fun q => zb_upn h0 (fun z => Value.int (Int32.ofInt z)) q) e1 e2 e3 ?_) (zb_lo hlo) hL hLo (zb_okt (zb_okt (zb_okt hst)))
  unfold zb_st
  rw [h3]
  exact zb_okh hst
/-- which class an array of references is over, by its kind -/
def zb_comp : Nat → Nat
  | 3 => 4
  | 4 => 5
  | 5 => 3
  | _ => 10
theorem zb_comp_ok {t : Nat} (h : 3 ≤ t ∧ t < 7) : ∃ q : vw_C, vwCl[zb_comp t]? = some q ∧ zb_kt t = .object q.1 := by
  obtain ⟨h1, h2⟩ := h
  have : t = 3 ∨ t = 4 ∨ t = 5 ∨ t = 6 := by omega
  rcases this with rfl | rfl | rfl | rfl
  · exact ⟨_, rfl, rfl⟩
  · exact ⟨_, rfl, rfl⟩
  · exact ⟨_, rfl, rfl⟩
  · exact ⟨_, rfl, rfl⟩
theorem zb_comp_lt {t : Nat} : zb_comp t < 13 := by
  unfold zb_comp
  split <;> omega
theorem zb_aast {a i v : Int} {t : Nat} (hd : decode F.2.2.1 pc = .ok (.aastore, 1)) (ha : zb_is S a (13 + t)) (ht : 3 ≤ t ∧ t < 7) (h0 : 0 ≤ i) (hi : i < zb_len S a) (hv : zb_is S v (zb_comp t)) (kk : zb_WP X F (pc + 1) L st S (zb_up m a i v) k n) : zb_WP X F pc L ((2, v) :: (0, i) :: (2, a) :: st) S m k n := by
  obtain ⟨G, ⟨p, l, e, R, s, mi, args, below, meth, c, Z⟩, d, K, N, Q⟩ := X
  intro hC H locs ls hH hlo hL hLo hst
  have hC' := hC
  obtain ⟨hx, hb, hml, hown, hts, hK, -⟩ := hC'
  obtain ⟨h1, h2, h3⟩ := ha
  obtain ⟨v1, v2, v3⟩ := hv
  have hat := hH.2.1 a h1 h2
  rw [zb_ent_q G h3 ht.1] at hat
  have hav := hH.2.1 v v1 v2
  rw [zb_ent_obj G v3 zb_comp_lt] at hav
  have hini : zb_inI i := zb_okh (zb_okt hst)
  have hlt : i.toNat < (S.2 a).2 := by unfold zb_len at hi; omega
  obtain ⟨r, hc, hkt⟩ := zb_comp_ok ht
  have hty := zb_tys_at G.2.2.2.2 ht.2
  rw [hkt] at hty
  obtain ⟨r', hr', cellV, g1, g2, g3, -⟩ := hav
  have hcls := (hK.1 _ r hc).2
  obtain ⟨kA, comp, k1, k2, k3, -⟩ := (hK.2 t _ hty).2
  have hcomp : comp = G.2.2.2.1.1 (zb_comp t) := Option.some.inj (k3.symm.trans hcls.1)
  subst hcomp
  obtain ⟨kC, hkC, -⟩ := hcls.2
  simp only [List.map_cons, zb_cvr h1, zb_cvr v1]
  refine W.aast (j := Int32.ofInt i) hx hb hat (fun q h => by cases h) (fun h => by cases h) k1 k2 rfl hkC ⟨fun q => (zb_vpin hini h0 hi) (Or.inl q), by show _ < (arrV _ _ _).slots.size; rw [arrV_size]; show (Int32.ofInt i).toNatClampNeg < _; rw [zb_c32 hini]; exact hlt⟩ g1 (fun q h => by rw [g3] at h; cases h) (by rw [g2]; exact hkC) (by rw [g2]; exact va_assign hcls) rfl rfl hd fun H' e1 e2 e3 => ?_
  rw [zb_c32 hini] at e1 ⊢
  have hval : Value.ref (zb_ad G v) = va_rf (zb_rf G.1 v) := (zb_cvr (G := G) v1).symm
  rw [hval] at e1
  refine kk hC H' _ ls (zb_arr_set hH h1 (zb_ent_q G h3 ht.1 _) rfl (fun q => zb_upn h0 (fun z => va_rf (zb_rf G.1 z)) q) e1 e2 e3 ?_) (zb_lo hlo) hL hLo (zb_okt (zb_okt (zb_okt hst)))
  unfold zb_st
  rw [if_neg (by omega), if_neg (by omega), if_neg (by omega)]
  trivial
end ZBA
end
section
/-! ===== new cells ===== -/
def zb_pS (S : zb_S) (kind len : Nat) : zb_S := (S.1 + 1, fun b => if b = (S.1 : Int) + 1 then (kind, len) else S.2 b)
def zb_pM (S : zb_S) (m : zb_M) : zb_M := fun b j => if b = (S.1 : Int) + 1 then 0 else m b j
theorem zb_pS_old (S : zb_S) (kind len : Nat) {a : Int} (h : a ≤ S.1) : (zb_pS S kind len).2 a = S.2 a := by
  show (if a = (S.1 : Int) + 1 then _ else _) = _
  rw [if_neg (by omega)]
theorem zb_pS_new (S : zb_S) (kind len : Nat) : (zb_pS S kind len).2 ((S.1 : Int) + 1) = (kind, len) := by
  show (if (S.1 : Int) + 1 = (S.1 : Int) + 1 then _ else _) = _
  rw [if_pos rfl]
theorem zb_pM_old (S : zb_S) (m : zb_M) {a : Int} (h : a ≤ S.1) : zb_pM S m a = m a := by
  funext j
  show (if a = (S.1 : Int) + 1 then _ else _) = _
  rw [if_neg (by omega)]
theorem zb_pM_new (S : zb_S) (m : zb_M) : zb_pM S m ((S.1 : Int) + 1) = fun _ => 0 := by
  funext j
  show (if (S.1 : Int) + 1 = (S.1 : Int) + 1 then _ else _) = _
  rw [if_pos rfl]
theorem zb_okm0 (t : Nat) : zb_okm t 0 := by
  unfold zb_okm
  split
  · exact zb_in0
  · exact ⟨by omega, by omega⟩
  · trivial
theorem zb_H_push {G : zb_G} {S : zb_S} {m : zb_M} {H H' : Heap} {kind len : Nat} (h : zb_H G S m H) (he : va_at G.2.2.2.1 vwCl (H.size, zb_ent G (kind, len) (fun _ => 0)) H') (hz : H'.size = H.size + 1) (ho : ∀ q, q < H.size → H'[q]? = H[q]?) : zb_H G (zb_pS S kind len) (zb_pM S m) H' := by
  obtain ⟨g1, g2, g3, g4, g5⟩ := h
  refine ⟨by rw [hz, g1]; rfl, fun b hb1 hb2 => ?_, fun q hq => ?_, fun b j => ?_, g5⟩
  · by_cases hb : b ≤ S.1
    · rw [zb_pS_old S kind len hb, zb_pM_old S m hb]
      refine va_at.kept (g2 b hb1 hb) (ho _ ?_)
      show G.1 + (b - 1).toNat < H.size
      omega
    · have hb3 : b = (S.1 : Int) + 1 := by
        have : b ≤ ((S.1 + 1 : Nat) : Int) := hb2
        omega
      subst hb3
      rw [zb_pS_new, zb_pM_new]
      have e : zb_ad G ((S.1 : Int) + 1) = H.size := by
        unfold zb_ad
        omega
      rw [e]
      exact he
  · rw [ho q (by omega)]
    exact g3 q hq
  · by_cases hb : b = (S.1 : Int) + 1
    · subst hb
      rw [zb_pM_new]
      exact zb_okm0 _
    · have e1 : (zb_pS S kind len).2 b = S.2 b := by
        show (if b = (S.1 : Int) + 1 then _ else _) = _
        rw [if_neg hb]
      have e2 : zb_pM S m b j = m b j := by
        show (if b = (S.1 : Int) + 1 then _ else _) = _
        rw [if_neg hb]
      rw [e1, e2]
      exact g4 b j
section ZBN
variable {X : zb_X} {F : zb_F} {pc : Nat} {L : List (Nat × zb_V)} {st : List zb_V} {S : zb_S} {m : zb_M} {k n : Nat}
theorem zb_defv (G : zb_G) (ty : FieldType) (h : zb_fit ty 0) : defaultValue ty = zb_cv G (zb_ft ty, 0) := by
  rcases h with rfl | ⟨rfl, -⟩ | h
  · rfl
  · rfl
  · rw [h]
    cases ty <;> simp_all [zb_ft, defaultValue, zb_cv, zb_rf, va_rf]
/-- what the tables say of a class that is made -/
def zb_mk (own : String) (index ci : Nat) : Prop := ∃ q : vw_C, zb_cl ci q ∧ Cond.classLink own index q.1 ∈ zb_all ∧ Cond.instantiable q.1 q.2.2 ∈ zb_all ∧ Cond.initialized q.1 ∈ zb_all ∧ ∀ j, j < q.2.2 → zb_fit (zb_tyX ci j) 0
theorem zb_new {index ci : Nat} {d K N : Nat} {G : zb_G} {C : zb_C} {Q : Int → zb_S → zb_M → Prop} (hd : decode F.2.2.1 pc = .ok (.new index, 3)) (hf : zb_mk F.1 index ci) (hk : k + 1 ≤ K) (hn : n + zb_nf ci ≤ N) (kk : zb_WP (G, C, d, K, N, Q) F (pc + 3) L ((2, (S.1 : Int) + 1) :: st) (zb_pS S ci 0) (zb_pM S m) (k + 1) (n + zb_nf ci)) : zb_WP (G, C, d, K, N, Q) F pc L st S m k n := by
  obtain ⟨p, l, e, R, s, mi, args, below, meth, c, Z⟩ := C
  intro hC H locs ls hH hlo hL hLo hst
  have hC' := hC
  obtain ⟨hx, hb, hml, hown, hts, hK, -, hini, -, -, hKR, hNR, -⟩ := hC'
  obtain ⟨q, ⟨hc, hin, hty, hnm, hci⟩, hcl, hins, hinit, hft⟩ := hf
  have hnf := zb_nf_of hc
  have hKn := hK.1 ci _ hc
  rw [hnf] at hn kk
  refine W.newcK hx hb hown (hts _ hcl) (hts _ hins) (hts _ hinit) rfl hd (by omega) (by omega) hKn.2.1 rfl fun H1 kC hkC e1 z1 o1 => ?_
  have hH1 : zb_H G (zb_pS S ci 0) (zb_pM S m) H1 := by
    refine zb_H_push hH ?_ z1 o1
    rw [zb_ent_obj G rfl hci]
    refine ⟨_, hc, (u_born (zb_tyX ci) hts hin hKn hkC e1 hty).to (fun j hj => ?_)⟩
    show defaultValue (zb_tyX ci j) = vp_V _ j
    have hj2 : j < zb_nf ci := by rw [hnf]; exact hj
    rw [zb_defv G _ (hft j hj)]
    unfold vp_V
    rw [List.getD_eq_getElem?_getD, zb_fs_at G ci (fun _ => 0) hj2]
    rfl
  have hw := kk hC H1 locs ls hH1 hlo hL hLo (zb_okr (by omega) hst)
  rw [List.map_cons, zb_cvr (by omega)] at hw
  have e : zb_ad G ((S.1 : Int) + 1) = H.size := by
    have := hH.1
    unfold zb_ad
    omega
  rw [e] at hw
  exact hw
/-- a row of numbers is made: which kind -/
def zb_ak : ArrayType → Option Nat
  | .int => some 0
  | .long => some 1
  | .boolean => some 2
  | _ => none
theorem zb_newa {at' : ArrayType} {t : Nat} {i : Int} {d K N : Nat} {G : zb_G} {C : zb_C} {Q : Int → zb_S → zb_M → Prop} (hd : decode F.2.2.1 pc = .ok (.newarray at', 2)) (ht : zb_ak at' = some t) (hw0 : Cond.arrayClass (newarray.typeOf at') ∈ zb_all) (h0 : 0 ≤ i) (hi : i ≤ 100000) (hk : k + 1 ≤ K) (hn : n + i.toNat ≤ N) (kk : zb_WP (G, C, d, K, N, Q) F (pc + 2) L ((2, (S.1 : Int) + 1) :: st) (zb_pS S (13 + t) i.toNat) (zb_pM S m) (k + 1) (n + i.toNat)) : zb_WP (G, C, d, K, N, Q) F pc L ((0, i) :: st) S m k n := by
  obtain ⟨p, l, e, R, s, mi, args, below, meth, c, Z⟩ := C
  intro hC H locs ls hH hlo hL hLo hst
  have hC' := hC
  obtain ⟨hx, hb, hml, hown, hts, hK, -, hini, -, -, hKR, hNR, -⟩ := hC'
  have hin : zb_inI i := zb_okh hst
  have hb1 : i.toNat * componentBytes (newarray.typeOf at') ≤ 536870912 := by
    have h1 : componentBytes (newarray.typeOf at') ≤ 8 := by cases at' <;> decide
    have h2 : i.toNat ≤ 100000 := by omega
    exact Nat.le_trans (Nat.mul_le_mul h2 h1) (Nat.le_of_ble_eq_true rfl)
  refine va_newaK (N := i.toNat) hx hb (hts _ hw0) rfl hd rfl (fun q => by have := (zb_ltI hin zb_in0).mp q; omega) (zb_c32 hin) hb1 (by omega) (by omega) rfl fun H1 cA e1 z1 o1 hAr hNm => ?_
  have hH1 : zb_H G (zb_pS S (13 + t) i.toNat) (zb_pM S m) H1 := by
    refine zb_H_push hH ?_ z1 o1
    have hcy : ∀ t, t < 7 → (∀ C, zb_kt t ≠ .object C) → s.vm.findClass ("[" ++ (zb_kt t).toString) = some (G.2.2.2.2 t) := fun t ht hno => by
      have h := (hK.2 t _ (zb_tys_at _ ht)).2
      unfold va_RA at h
      split at h
      · rename_i C heq
        exact absurd heq (hno C)
      · exact h
    cases at' <;> simp only [zb_ak, Option.some.injEq, reduceCtorEq] at ht <;> subst ht
    · rw [zb_ent_z G rfl]
      have e : cA = G.2.2.2.2 2 := Option.some.inj (hNm.symm.trans (hcy 2 (by omega) (fun C h => by cases h)))
      rw [← e]
      exact e1
    · rw [zb_ent_i G rfl]
      have e : cA = G.2.2.2.2 0 := Option.some.inj (hNm.symm.trans (hcy 0 (by omega) (fun C h => by cases h)))
      rw [← e]
      exact e1
    · rw [zb_ent_l G rfl]
      have e : cA = G.2.2.2.2 1 := Option.some.inj (hNm.symm.trans (hcy 1 (by omega) (fun C h => by cases h)))
      rw [← e]
      exact e1
  have hw := kk hC H1 locs ls hH1 hlo hL hLo (zb_okr (by omega) (zb_okt hst))
  rw [List.map_cons, zb_cvr (by omega)] at hw
  have e : zb_ad G ((S.1 : Int) + 1) = H.size := by
    have := hH.1
    unfold zb_ad
    omega
  rw [e] at hw
  exact hw
/-- a row of references is made -/
theorem zb_newq {index t : Nat} {i : Int} {Cn : String} {d K N : Nat} {G : zb_G} {C : zb_C} {Q : Int → zb_S → zb_M → Prop} (hd : decode F.2.2.1 pc = .ok (.anewarray index, 3)) (ht : 3 ≤ t ∧ t < 7) (hkt : zb_kt t = .object Cn) (hcl : Cond.classLink F.1 index Cn ∈ zb_all) (hov : Cn ∈ zb_over) (h0 : 0 ≤ i) (hi : i ≤ 100000) (hk : k + 1 ≤ K) (hn : n + i.toNat ≤ N) (kk : zb_WP (G, C, d, K, N, Q) F (pc + 3) L ((2, (S.1 : Int) + 1) :: st) (zb_pS S (13 + t) i.toNat) (zb_pM S m) (k + 1) (n + i.toNat)) : zb_WP (G, C, d, K, N, Q) F pc L ((0, i) :: st) S m k n := by
  obtain ⟨p, l, e, R, s, mi, args, below, meth, c, Z⟩ := C
  intro hC H locs ls hH hlo hL hLo hst
  have hC' := hC
  obtain ⟨hx, hb, hml, hown, hts, hK, htb, hini, -, -, hKR, hNR, -⟩ := hC'
  have hin : zb_inI i := zb_okh hst
  have hb1 : i.toNat * 4 ≤ 536870912 := by omega
  have e32 := zb_c32 hin
  refine W.anew (n := Int32.ofInt i) hx hb hown (hts _ hcl) (va_AO.use (htb.2 _ hov)) rfl hd rfl (fun q => by have := (zb_ltI hin zb_in0).mp q; omega) (by rw [e32]; exact hb1) (by omega) (by rw [e32]; omega) fun cA kA comp f1 f2 f3 f4 => ?_
  rw [e32]
  generalize hH1 : H.push ({ cls := cA, slots := Array.replicate i.toNat .null, vm := .none } : Cell) = H1
  have z1 : H1.size = H.size + 1 := by rw [← hH1, Array.size_push]
  have e1 : H1[H.size]? = some (arrV cA i.toNat (fun _ => .null)) := by rw [← hH1, Array.getElem?_push_size, ← arrV_new]
  have o1 : ∀ q : Nat, q < H.size → H1[q]? = H[q]? := fun q hq => by rw [← hH1, Array.getElem?_push, if_neg (Nat.ne_of_lt hq)]
  have hHH : zb_H G (zb_pS S (13 + t) i.toNat) (zb_pM S m) H1 := by
    refine zb_H_push hH ?_ z1 o1
    rw [zb_ent_q G rfl ht.1]
    have hty := zb_tys_at G.2.2.2.2 ht.2
    rw [hkt] at hty
    obtain ⟨kA2, comp2, k1, k2, k3, k4⟩ := (hK.2 t _ hty).2
    have e : cA = G.2.2.2.2 t := Option.some.inj (f1.symm.trans k4)
    rw [← e]
    exact e1
  have hw := kk hC H1 locs ls hHH hlo hL hLo (zb_okr (by omega) (zb_okt hst))
  rw [List.map_cons, zb_cvr (by omega)] at hw
  have e : zb_ad G ((S.1 : Int) + 1) = H.size := by
    have := hH.1
    unfold zb_ad
    omega
  rw [e] at hw
  exact hw
end ZBN
/-! ===== methods and calls ===== -/
def zb_room (d k n : Nat) : Room := { frames := d, cells := k, slots := n, locals := 64 * (d + 1) }
def zb_mw (F : zb_F) : List Cond := Cond.code F.2.1 F.2.2.1 F.2.2.2.1 F.2.2.2.2 :: zb_all
def zb_Pc (G : zb_G) (av : List zb_V) (S : zb_S) (m : zb_M) : Array Value → State → Prop := fun v U => v = (av.map (zb_cv G)).toArray ∧ (∀ w ∈ av, zb_ok w.1 w.2) ∧ zb_H G S m U.heap ∧ va_K G.2.2.2.1 vwCl (zb_tys G.2.2.2.2) U ∧ zb_tb U
def zb_rv (ret : Option FieldType) (r : Int) : List zb_V := match ret with
  | none => []
  | some ty => [(zb_ft ty, r)]
def zb_Qc (G : zb_G) (ret : Option FieldType) (Q : Int → zb_S → zb_M → Prop) : Array Value → State → Outcome → State → Prop := fun _ _ o t => ∃ (r : Int) (S' : zb_S) (m' : zb_M), o = .returned ((zb_rv ret r).map (zb_cv G)).head? ∧ (∀ w ∈ zb_rv ret r, zb_ok w.1 w.2) ∧ zb_H G S' m' t.heap ∧ Q r S' m'
/-- a method's contract: from memory m of shape S with these arguments it returns, with Q of its answer and the memory then; it makes k cells of n places, and its calls go d deep -/
def zb_Tri (F : zb_F) (d k n : Nat) (av : List zb_V) (S : zb_S) (m : zb_M) (Q : Int → zb_S → zb_M → Prop) : Prop :=
  ∀ (G : zb_G) (l : Launch), Met l F.2.1 (zb_mw F) (zb_room d k n) (zb_Pc G av S m) (zb_Qc G F.2.2.2.2 Q) k n (fun q => G.1 ≤ q)
theorem zb_Tri.mono {F : zb_F} {d k n : Nat} {av : List zb_V} {S : zb_S} {m : zb_M} {Q Q' : Int → zb_S → zb_M → Prop} (h : zb_Tri F d k n av S m Q) (hq : ∀ r S' m', Q r S' m' → Q' r S' m') : zb_Tri F d k n av S m Q' := by
  intro G l
  have h1 := h G l
  intro p e ha hc hk s mi args below hf hp hP hK
  obtain ⟨t, o, g1, g2, g3, ⟨r, S', m', h2, h3, h4, h5⟩, h6⟩ := h1 p e ha hc hk s mi args below hf hp hP hK
  exact ⟨t, o, g1, g2, g3, ⟨r, S', m', h2, h3, h4, hq _ _ _ h5⟩, h6⟩
end
section
/-! ===== a method's contract out of a walk; calls ===== -/
def zb_en : Nat → List zb_V → List (Nat × zb_V)
  | _, [] => []
  | i, v :: vs => (i, v) :: zb_en (i + 1) vs
theorem zb_cat1 (G : zb_G) (v : zb_V) : (zb_cv G v).category = if v.1 = 1 then 2 else 1 := by
  obtain ⟨t, x⟩ := v
  match t with
  | 0 => rfl
  | 1 => rfl
  | 2 =>
    show (va_rf (zb_rf G.1 x)).category = _
    cases zb_rf G.1 x <;> rfl
  | (t + 3) =>
    show (Value.ref _).category = if t + 3 = 1 then 2 else 1
    rw [if_neg (by omega)]
    rfl
theorem zb_en_lv (G : zb_G) (av : List zb_V) (h : ∀ v ∈ av, v.1 ≠ 1) (i : Nat) : lv_args i (av.map (zb_cv G)) = zb_lv G (zb_en i av) := by
  induction av generalizing i with
  | nil => rfl
  | cons v vs ih =>
    have h1 := h v List.mem_cons_self
    show (i, zb_cv G v) :: lv_args (if (zb_cv G v).category = 2 then i + 2 else i + 1) (vs.map (zb_cv G)) = (i, zb_cv G v) :: zb_lv G (zb_en (i + 1) vs)
    rw [zb_cat1, if_neg h1, if_neg (by omega), ih (fun w hw => h w (List.mem_cons_of_mem _ hw))]
theorem zb_en_sl (G : zb_G) (av : List zb_V) (h : ∀ v ∈ av, v.1 ≠ 1) : (lg_sl (av.map (zb_cv G))).length = av.length := by
  induction av with
  | nil => rfl
  | cons v vs ih =>
    have h1 := h v List.mem_cons_self
    have ih := ih (fun w hw => h w (List.mem_cons_of_mem _ hw))
    simp only [lg_sl, List.map_cons, List.flatMap_cons, List.length_append] at ih ⊢
    rw [ih, zb_cat1, if_neg h1, if_neg (by omega)]
    simp
    omega
theorem zb_en_ok {av : List zb_V} {i : Nat} (h : ∀ v ∈ av, zb_ok v.1 v.2) : ∀ q ∈ zb_en i av, zb_ok q.2.1 q.2.2 := by
  induction av generalizing i with
  | nil => intro q hq; cases hq
  | cons v vs ih =>
    intro q hq
    rcases List.mem_cons.mp hq with rfl | hq
    · exact h v List.mem_cons_self
    · exact ih (fun w hw => h w (List.mem_cons_of_mem _ hw)) q hq
/-- what is known of a method: its class, its code's word, how many arguments -/
def zb_gd (g : zb_F) (n : Nat) : Prop := (g.2.1.cls ≠ "java/lang/invoke/MethodHandle" ∧ g.2.1.cls ≠ "java/lang/invoke/VarHandle" ∧ (parseMethodDescriptor g.2.1.desc).map (fun d => d.parameters.length) = some n) ∧ Cond.code g.2.1 g.2.2.1 g.2.2.2.1 g.2.2.2.2 ∈ zb_all ∧ Cond.initialized g.2.1.cls ∈ zb_all ∧ plainName g.2.1.cls = true ∧ g.2.1.cls = g.1 ∧ g.2.2.2.1 ≤ 40
theorem zb_tri {F : zb_F} {d k n na : Nat} {av : List zb_V} {S : zb_S} {m : zb_M} {Q : Int → zb_S → zb_M → Prop} (hg : zb_gd F na) (hlen : av.length ≤ F.2.2.2.1) (hno : ∀ v ∈ av, v.1 ≠ 1)
    (h : ∀ (G : zb_G) (C : zb_C), (∀ v ∈ av, zb_ok v.1 v.2) → zb_WP (G, C, d, k, n, Q) F 0 (zb_en 0 av) [] S m 0 0) : zb_Tri F d k n av S m Q := by
  obtain ⟨-, -, -, hy, hcls, -⟩ := hg
  intro G l
  refine Met.ofW (cc := F.2.2.1) (maxL := F.2.2.2.1) (ret := F.2.2.2.2) hy rfl ?_
  intro p e s mi args below meth c s₁ B hml hv
  obtain ⟨rfl, hok, hH, hK, htb⟩ := hv
  have hx := B.exec
  have hb := B.bytes
  have hr := B.returns
  have hts := atoms_spec (ws := zb_mw F) B.pre
  have hown : s.vm.findClass F.1 = some mi.cls := by rw [← hcls]; exact findClass_of_methodNamed B.named
  have hlocks := B.notSynchronized
  have hin : meth.name = F.2.1.name := (name_of_methodNamed B.named B.method).1
  have hw := h G (p, l, e, (headSpec (zb_mw F) (zb_room d k n)).room, s, mi, (av.map (zb_cv G)).toArray, below, meth, c, MQ below (zb_Qc G F.2.2.2.2 Q) (av.map (zb_cv G)).toArray s k n (fun q => G.1 ≤ q)) hok
  rw [lg_entry_eq]
  refine hw ⟨hx, hb, hml, hown, fun w hw => hts w (List.mem_cons_of_mem _ hw), hK, htb, fun q => by rw [hin]; exact q, Nat.le_refl _, Nat.le_refl _, Nat.le_refl _, Nat.le_refl _, ?_⟩ s.heap [] _ hH (fun q hq => by cases hq) ?_ (zb_en_ok hok) (fun v hv => by cases hv)
  · intro S' m' H locs ls pc ins st r k' n' hH' hlo hret hst hd hk hn hQ
    have post : ∀ (v : Option Value), v = ((zb_rv F.2.2.2.2 r).map (zb_cv G)).head? → (∀ w ∈ zb_rv F.2.2.2.2 r, zb_ok w.1 w.2) → ∀ t : State, t.heap = H → s.WarmedH t.vm → zb_Qc G F.2.2.2.2 Q (av.map (zb_cv G)).toArray s (.returned v) t := by
      intro v hv ho t ht _
      exact ⟨r, S', m', by rw [hv], ho, by rw [ht]; exact hH', hQ⟩
    refine W.widen hk hn ?_
    rcases hret with ⟨h1, rfl, rfl, rfl⟩ | ⟨h1, rfl, rfl⟩ | ⟨h1, rfl, rfl, h2⟩ | ⟨h1, rfl, rfl⟩ | ⟨h1, rfl, rfl, h2⟩
    · exact W.vret hx hb (by rw [hr]; exact h1) (post _ (by rw [h1]; rfl) (by rw [h1]; intro w hw; cases hw)) hlo hd
    · exact W.iret hx hb (by rw [hr]; exact h1) (post _ (by rw [h1]; rfl) (by rw [h1]; exact hst)) hlo hd
    · exact W.zret hx hb (by rw [hr]; exact h1) (by rcases h2 with rfl | rfl <;> rfl) (post _ (by rw [h1]; rfl) (by rw [h1]; exact hst)) hlo hd
    · exact W.lret hx hb (by rw [hr]; exact h1) (post _ (by rw [h1]; rfl) (by rw [h1]; exact hst)) hlo hd
    · have e2 := zb_cvr (G := G) h2
      simp only [List.map_cons, List.map_nil, e2]
      rcases h1 with ⟨nm, h1⟩ | ⟨ty, h1⟩
      · exact W.aret hx hb (by rw [hr]; exact h1) (Or.inl ⟨_, rfl⟩) (Or.inr ⟨_, rfl⟩) (post _ (by rw [h1]; exact congrArg some e2.symm) (by rw [h1]; exact hst)) hlo hd
      · exact W.aret hx hb (by rw [hr]; exact h1) (Or.inr ⟨_, rfl⟩) (Or.inr ⟨_, rfl⟩) (post _ (by rw [h1]; exact congrArg some e2.symm) (by rw [h1]; exact hst)) hlo hd
  · rw [← zb_en_lv G av hno 0]
    exact lv_entry (av.map (zb_cv G)) (by rw [zb_en_sl G av hno]; exact hlen)
theorem zb_blind (G : zb_G) (av : List zb_V) (S : zb_S) (m : zb_M) : FrameBlind (zb_Pc G av S m) := by
  intro a U g mk h
  obtain ⟨h1, h2, h3, h4, h5, h6⟩ := h
  exact ⟨h1, h2, h3, va_K.moved (u := U) (U := U.calling g mk a) (Vm.Alike.refl U.vm) h4, fun w hw => va_Nw.same (u := U) (U := U.calling g mk a) (by
    have h7 := (List.mem_filter.mp hw).2
    cases w <;> simp [zb_isNest] at h7
    rfl) rfl (h5 w hw), fun C hC => va_AO.moved (u := U) (U := U.calling g mk a) (Vm.Alike.refl U.vm) (h6 C hC)⟩
theorem zb_tb_warm {s U : State} (hW : s.WarmedH U.vm) (h : zb_tb s) : zb_tb U := by
  refine ⟨fun w hw => ?_, fun C hC => va_AO.moved hW.alike (h.2 C hC)⟩
  have h1 := h.1 w hw
  have h7 := (List.mem_filter.mp hw).2
  cases w <;> simp [zb_isNest] at h7
  exact va_Nw.warmM hW h1
def zb_cs (st : List zb_V) : Nat := (st.map (fun v => if v.1 = 1 then 2 else 1)).sum
theorem zb_cs_eq (G : zb_G) (st : List zb_V) : ((st.map (zb_cv G)).map fun v => v.category).sum = zb_cs st := by
  unfold zb_cs
  rw [List.map_map]
  congr 1
  apply List.map_congr_left
  intro v _
  exact zb_cat1 G v
theorem zb_good {w : Cond} (h : w ∈ zb_all) : w ∈ zb_all ∧ ((w.onTables && w.keeps) = true ∨ ∃ ty, w = .arrayClass ty) := ⟨h, good_of_word (List.mem_filter.mp h).2⟩
theorem zb_good_mw {g : zb_F} {na : Nat} (hg : zb_gd g na) : GoodIn zb_all (zb_mw g) := by
  intro w hw
  rcases List.mem_cons.mp hw with rfl | h
  · exact zb_good hg.2.1
  · exact zb_good h
section ZBC
variable {p : Program} {l : Launch} {e : Env} {R : Room} {s : State} {mi : MethodId} {args : Array Value} {below : List Frame} {meth : Method} {c : Code} {Z : State → Prop} {G : zb_G} {d K N : Nat} {Q Q' : Int → zb_S → zb_M → Prop} {F g : zb_F} {pc : Nat} {L : List (Nat × zb_V)} {st0 st : List zb_V} {S : zb_S} {m : zb_M} {k n k' n' : Nat}
/-- behind a call -/
theorem zb_after {H : Heap} {locs : List Loc} {ls : Array Slot} {a : Array Value} (hr : va_Run p l e R s mi args below meth c H locs k n k' n' (F0 mi pc ls (st0.map (zb_cv G))) (st.map (zb_cv G)) (zb_Qc G g.2.2.2.2 Q' a) (fun q => G.1 ≤ q))
    (hC : zb_ctx F (G, (p, l, e, R, s, mi, args, below, meth, c, Z), d, K, N, Q)) (hlo : ∀ q ∈ locs, G.1 ≤ q.base) (hL : lv_has ls F.2.2.2.1 (zb_lv G L)) (hLo : ∀ q ∈ L, zb_ok q.2.1 q.2.2) (hst : ∀ v ∈ st, zb_ok v.1 v.2)
    (kk : ∀ (r : Int) (S' : zb_S) (m' : zb_M), Q' r S' m' → zb_WP (G, (p, l, e, R, s, mi, args, below, meth, c, Z), d, K, N, Q) F (pc + 3) L (zb_rv g.2.2.2.2 r ++ st) S' m' (k + k') (n + n')) :
    W p l e R s mi args below meth c H locs k n Z (F0 mi pc ls (st0.map (zb_cv G))) := by
  intro T hT Y
  obtain ⟨v, st₀, t, T', L', h0, Y', hL', e1, e2, ⟨r, S', m', hv, ho, hH', hq⟩, step⟩ := hr T hT Y
  have hv' : v = ((zb_rv g.2.2.2.2 r).map (zb_cv G)).head? := by
    cases hv
    rfl
  have hvl : v.toList ++ st.map (zb_cv G) = (zb_rv g.2.2.2.2 r ++ st).map (zb_cv G) := by
    rw [hv', List.map_append]
    congr 1
    cases g.2.2.2.2 <;> rfl
  rw [hvl] at step
  obtain ⟨t2, a1, b1⟩ := kk r S' m' hq hC T'.heap (locs ++ L') ls (by rw [e1]; exact hH') (fun q h => by
    rcases List.mem_append.mp h with h | h
    · exact hlo q h
    · exact hL' q h) hL hLo (fun v hv => by
    rcases List.mem_append.mp hv with h | h
    · exact ho v h
    · exact hst v h) T' rfl Y'
  exact ⟨t2, step t2 a1, b1⟩
def zb_lkV (own : String) (index : Nat) (g : zb_F) : Prop := Cond.methodLink own index g.2.1 ∈ zb_all ∧ Cond.instanceMethod g.2.1 ∈ zb_all ∧ Cond.selects g.2.1.cls g.2.1 g.2.1 ∈ zb_all
def zb_lkS (own : String) (index : Nat) (g : zb_F) : Prop := Cond.methodLink own index g.2.1 ∈ zb_all ∧ Cond.static g.2.1 ∈ zb_all
def zb_lkI (own : String) (index : Nat) (g : zb_F) : Prop := Cond.methodLink own index g.2.1 ∈ zb_all ∧ Cond.instanceMethod g.2.1 ∈ zb_all ∧ g.2.1.name = "<init>"
def zb_lkSN (own : String) (index : Nat) (g : zb_F) : Prop := ∃ host, Cond.methodLinkNest own index g.2.1 host ∈ zb_nest ∧ Cond.static g.2.1 ∈ zb_all
def zb_lkIN (own : String) (index : Nat) (g : zb_F) : Prop := ∃ host, Cond.methodLinkNest own index g.2.1 host ∈ zb_nest ∧ Cond.instanceMethod g.2.1 ∈ zb_all ∧ g.2.1.name = "<init>"
theorem zb_rooms {d' : Nat} (hdR : d ≤ R.frames) (hlR : 64 * (d + 1) ≤ R.locals) (hd : d' + 1 ≤ d) (hm : g.2.2.2.1 ≤ 40) : (zb_room d' k' n').frames + 1 ≤ R.frames ∧ 8 + (g.2.2.2.1 + 11) + (zb_room d' k' n').locals ≤ R.locals := by
  refine ⟨Nat.le_trans hd hdR, ?_⟩
  show 8 + (g.2.2.2.1 + 11) + 64 * (d' + 1) ≤ R.locals
  omega
end ZBC
section ZBD
variable {C : zb_C} {G : zb_G} {d K N : Nat} {Q Q' : Int → zb_S → zb_M → Prop} {F g : zb_F} {pc : Nat} {L : List (Nat × zb_V)} {st : List zb_V} {S : zb_S} {m : zb_M} {k n k' n' : Nat}
theorem zb_pre {s U : State} {H : Heap} {av : List zb_V} (hK : va_K G.2.2.2.1 vwCl (zb_tys G.2.2.2.2) s) (htb : zb_tb s) (hH : zb_H G S m H) (ho : ∀ w ∈ av, zb_ok w.1 w.2) (hU : U.heap = H) (hW : s.WarmedH U.vm) : zb_Pc G av S m (av.map (zb_cv G)).toArray U :=
  ⟨rfl, ho, by rw [hU]; exact hH, va_K.moved hW.alike hK, zb_tb_warm hW htb⟩
/-- a call of a static method -/
theorem zb_callS {index na d' : Nat} {As As' : List zb_V} (hd : decode F.2.2.1 pc = .ok (.invokestatic index, 3)) (hl : zb_lkS F.1 index g) (hg : zb_gd g na) (hn : As.length = na) (hrev : As.reverse = As') (hT : zb_Tri g d' k' n' As S m Q') (hdd : d' + 1 ≤ d) (hk : k + k' ≤ K) (hN : n + n' ≤ N) (hcs : zb_cs st ≤ 8)
    (kk : ∀ (r : Int) (S' : zb_S) (m' : zb_M), Q' r S' m' → zb_WP (G, C, d, K, N, Q) F (pc + 3) L (zb_rv g.2.2.2.2 r ++ st) S' m' (k + k') (n + n')) : zb_WP (G, C, d, K, N, Q) F pc L (As' ++ st) S m k n := by
  subst hrev
  obtain ⟨p, l, e, R, s, mi, args, below, meth, c, Z⟩ := C
  intro hC H locs ls hH hlo hL hLo hst
  have hC' := hC
  obtain ⟨hx, hb, hml, hown, hts, hK, htb, hini, hdR, hlR, hKR, hNR, -⟩ := hC'
  obtain ⟨l1, l2⟩ := hl
  have hoA : ∀ w ∈ As, zb_ok w.1 w.2 := fun w hw => hst w (List.mem_append_left _ (List.mem_reverse.mpr hw))
  have hrm := zb_rooms (R := R) (k' := k') (n' := n') hdR hlR hdd hg.2.2.2.2.2
  refine zb_after (Z := Z) (G := G) (g := g) (st0 := As.reverse ++ st) (st := st) (k' := k') (n' := n') (Q' := Q') (va_runS (As := As.map (zb_cv G)) (rest := st.map (zb_cv G)) (Ts := zb_all) ⟨hx, hb, hml, hown, hts⟩ (hT G l)
    (va_cwS na hts (fun w hw => ?_) rfl rfl rfl hg.1 hrm) ⟨zb_blind G As S m, fun U hU hW => zb_pre hK htb hH hoA hU hW⟩ rfl (by simpa using hn) hL.1 (by rw [List.map_append, List.map_reverse]) ?_ hd ⟨by omega, by omega⟩) hC hlo hL hLo (fun v hv => hst v (List.mem_append_right _ hv)) kk
  · rcases List.mem_append.mp hw with h | h
    · rcases List.mem_cons.mp h with rfl | h
      · exact zb_good l1
      · rcases List.mem_cons.mp h with rfl | h
        · exact zb_good l2
        · rw [List.mem_singleton.mp h]
          exact zb_good hg.2.2.1
    · exact zb_good_mw hg w h
  · show 2 * 0 + _ ≤ 8
    rw [zb_cs_eq]
    omega
theorem zb_callSN {index na d' : Nat} {As As' : List zb_V} (hd : decode F.2.2.1 pc = .ok (.invokestatic index, 3)) (hl : zb_lkSN F.1 index g) (hg : zb_gd g na) (hn : As.length = na) (hrev : As.reverse = As') (hT : zb_Tri g d' k' n' As S m Q') (hdd : d' + 1 ≤ d) (hk : k + k' ≤ K) (hN : n + n' ≤ N) (hcs : zb_cs st ≤ 8)
    (kk : ∀ (r : Int) (S' : zb_S) (m' : zb_M), Q' r S' m' → zb_WP (G, C, d, K, N, Q) F (pc + 3) L (zb_rv g.2.2.2.2 r ++ st) S' m' (k + k') (n + n')) : zb_WP (G, C, d, K, N, Q) F pc L (As' ++ st) S m k n := by
  subst hrev
  obtain ⟨p, l, e, R, s, mi, args, below, meth, c, Z⟩ := C
  intro hC H locs ls hH hlo hL hLo hst
  have hC' := hC
  obtain ⟨hx, hb, hml, hown, hts, hK, htb, hini, hdR, hlR, hKR, hNR, -⟩ := hC'
  obtain ⟨host, l1, l2⟩ := hl
  have hoA : ∀ w ∈ As, zb_ok w.1 w.2 := fun w hw => hst w (List.mem_append_left _ (List.mem_reverse.mpr hw))
  have hrm := zb_rooms (R := R) (k' := k') (n' := n') hdR hlR hdd hg.2.2.2.2.2
  refine zb_after (Z := Z) (G := G) (g := g) (st0 := As.reverse ++ st) (st := st) (k' := k') (n' := n') (Q' := Q') (va_runSN (As := As.map (zb_cv G)) (rest := st.map (zb_cv G)) (Ts := zb_all) ⟨hx, hb, hml, hown, hts⟩ (hT G l)
    ⟨va_cnB na hts (zb_good_mw hg) rfl rfl rfl (htb.1 _ l1) (hts _ hg.2.2.1) hg.1 hrm, hts _ l2, trivial⟩ ⟨zb_blind G As S m, fun U hU hW => zb_pre hK htb hH hoA hU hW⟩ rfl (by simpa using hn) hL.1 (by rw [List.map_append, List.map_reverse]) ?_ hd ⟨by omega, by omega⟩) hC hlo hL hLo (fun v hv => hst v (List.mem_append_right _ hv)) kk
  show 2 * 0 + _ ≤ 8
  rw [zb_cs_eq]
  omega
/-- a call of an object's method -/
theorem zb_callV {index na d' ci : Nat} {a : Int} {As As' : List zb_V} (hd : decode F.2.2.1 pc = .ok (.invokevirtual index, 3)) (hl : zb_lkV F.1 index g) (hg : zb_gd g na) (hn : As.length = na) (hrev : As.reverse = As') (ha : zb_is S a ci) (hci : ∃ q : vw_C, vwCl[ci]? = some q ∧ q.1 = g.2.1.cls) (hT : zb_Tri g d' k' n' ((2, a) :: As) S m Q') (hdd : d' + 1 ≤ d) (hk : k + k' ≤ K) (hN : n + n' ≤ N) (hcs : zb_cs st ≤ 8)
    (kk : ∀ (r : Int) (S' : zb_S) (m' : zb_M), Q' r S' m' → zb_WP (G, C, d, K, N, Q) F (pc + 3) L (zb_rv g.2.2.2.2 r ++ st) S' m' (k + k') (n + n')) : zb_WP (G, C, d, K, N, Q) F pc L (As' ++ (2, a) :: st) S m k n := by
  subst hrev
  obtain ⟨p, l, e, R, s, mi, args, below, meth, c, Z⟩ := C
  intro hC H locs ls hH hlo hL hLo hst
  have hC' := hC
  obtain ⟨hx, hb, hml, hown, hts, hK, htb, hini, hdR, hlR, hKR, hNR, -⟩ := hC'
  obtain ⟨l1, l2, l3⟩ := hl
  obtain ⟨h1, h2, h3⟩ := ha
  obtain ⟨q, hc, hqc⟩ := hci
  have hci : ci < 13 := (List.getElem?_eq_some_iff.mp hc).1
  have hat := hH.2.1 a h1 h2
  rw [zb_ent_obj G h3 hci] at hat
  have hoA : ∀ w ∈ (2, a) :: As, zb_ok w.1 w.2 := fun w hw => by
    rcases List.mem_cons.mp hw with rfl | hw
    · exact h1
    · exact hst w (List.mem_append_left _ (List.mem_reverse.mpr hw))
  have hrm := zb_rooms (R := R) (k' := k') (n' := n') hdR hlR hdd hg.2.2.2.2.2
  have hpre : ∀ U : State, U.heap = H → s.WarmedH U.vm → zb_Pc G ((2, a) :: As) S m (Value.ref (zb_ad G a) :: As.map (zb_cv G)).toArray U := fun U hU hW => by
    have h := zb_pre hK htb hH hoA hU hW
    rw [List.map_cons, zb_cvr h1] at h
    exact h
  have hTG := hT G l
  refine zb_after (Z := Z) (G := G) (g := g) (st0 := As.reverse ++ (2, a) :: st) (st := st) (k' := k') (n' := n') (Q' := Q') (va_runV (C := q.1) (b := zb_ad G a) (As := As.map (zb_cv G)) (rest := st.map (zb_cv G)) (Ts := zb_all) ⟨hx, hb, hml, hown, hts⟩ hTG
    (cwV na hts (fun w hw => ?_) rfl rfl rfl ⟨hqc.symm, hg.1⟩ hrm) ⟨zb_blind G _ S m, va_recv hK (zb_P1 hat) (q0 := 0) hc rfl, hpre⟩ rfl (by simpa using hn) hL.1 (by rw [List.map_append, List.map_reverse, List.map_cons, zb_cvr h1]) ?_ hd ⟨by omega, by omega⟩) hC hlo hL hLo (fun v hv => hst v (List.mem_append_right _ (List.mem_cons_of_mem _ hv))) kk
  · rw [hqc] at hw
    rcases List.mem_append.mp hw with h | h
    · rcases List.mem_cons.mp h with rfl | h
      · exact zb_good l1
      · rcases List.mem_cons.mp h with rfl | h
        · exact zb_good l2
        · rcases List.mem_cons.mp h with rfl | h
          · exact zb_good l3
          · rw [List.mem_singleton.mp h]
            exact zb_good hg.2.2.1
    · exact zb_good_mw hg w h
  · show 2 * 0 + _ ≤ 8
    rw [zb_cs_eq]
    omega
/-- a call of a constructor -/
theorem zb_callI {index na d' : Nat} {a : Int} {As As' : List zb_V} (hd : decode F.2.2.1 pc = .ok (.invokespecial index, 3)) (hl : zb_lkI F.1 index g) (hret : g.2.2.2.2 = none) (hg : zb_gd g na) (hn : As.length = na) (hrev : As.reverse = As') (h1 : 1 ≤ a) (hT : zb_Tri g d' k' n' ((2, a) :: As) S m Q') (hdd : d' + 1 ≤ d) (hk : k + k' ≤ K) (hN : n + n' ≤ N) (hcs : zb_cs st ≤ 8)
    (kk : ∀ (r : Int) (S' : zb_S) (m' : zb_M), Q' r S' m' → zb_WP (G, C, d, K, N, Q) F (pc + 3) L (zb_rv g.2.2.2.2 r ++ st) S' m' (k + k') (n + n')) : zb_WP (G, C, d, K, N, Q) F pc L (As' ++ (2, a) :: st) S m k n := by
  subst hrev
  obtain ⟨p, l, e, R, s, mi, args, below, meth, c, Z⟩ := C
  intro hC H locs ls hH hlo hL hLo hst
  have hC' := hC
  obtain ⟨hx, hb, hml, hown, hts, hK, htb, hini, hdR, hlR, hKR, hNR, -⟩ := hC'
  obtain ⟨l1, l2, l3⟩ := hl
  have hoA : ∀ w ∈ (2, a) :: As, zb_ok w.1 w.2 := fun w hw => by
    rcases List.mem_cons.mp hw with rfl | hw
    · exact h1
    · exact hst w (List.mem_append_left _ (List.mem_reverse.mpr hw))
  have hrm := zb_rooms (R := R) (k' := k') (n' := n') hdR hlR hdd hg.2.2.2.2.2
  have hpre : ∀ U : State, U.heap = H → s.WarmedH U.vm → zb_Pc G ((2, a) :: As) S m (Value.ref (zb_ad G a) :: As.map (zb_cv G)).toArray U := fun U hU hW => by
    have h := zb_pre hK htb hH hoA hU hW
    rw [List.map_cons, zb_cvr h1] at h
    exact h
  have hTG := hT G l
  refine zb_after (Z := Z) (G := G) (g := g) (st0 := As.reverse ++ (2, a) :: st) (st := st) (k' := k') (n' := n') (Q' := Q') (va_runI (b := zb_ad G a) (bytes := g.2.2.1) (maxL := g.2.2.2.1) (As := As.map (zb_cv G)) (rest := st.map (zb_cv G)) (Ts := zb_all) ⟨hx, hb, hml, hown, hts⟩ hTG
    (cwI na hts (zb_good_mw hg) (by unfold zb_mw; rw [hret]) rfl rfl (hts _ hg.2.2.1) (hts _ l1) (hts _ l2) l3 hg.1 hrm) ⟨zb_blind G _ S m, hpre⟩ rfl (by simpa using hn) hL.1 (by rw [List.map_append, List.map_reverse, List.map_cons, zb_cvr h1]) ?_ hd ⟨by omega, by omega⟩) hC hlo hL hLo (fun v hv => hst v (List.mem_append_right _ (List.mem_cons_of_mem _ hv))) kk
  show 2 * 0 + _ ≤ 8
  rw [zb_cs_eq]
  omega
theorem zb_callIN {index na d' : Nat} {a : Int} {As As' : List zb_V} (hd : decode F.2.2.1 pc = .ok (.invokespecial index, 3)) (hl : zb_lkIN F.1 index g) (hret : g.2.2.2.2 = none) (hg : zb_gd g na) (hn : As.length = na) (hrev : As.reverse = As') (h1 : 1 ≤ a) (hT : zb_Tri g d' k' n' ((2, a) :: As) S m Q') (hdd : d' + 1 ≤ d) (hk : k + k' ≤ K) (hN : n + n' ≤ N) (hcs : zb_cs st ≤ 8)
    (kk : ∀ (r : Int) (S' : zb_S) (m' : zb_M), Q' r S' m' → zb_WP (G, C, d, K, N, Q) F (pc + 3) L (zb_rv g.2.2.2.2 r ++ st) S' m' (k + k') (n + n')) : zb_WP (G, C, d, K, N, Q) F pc L (As' ++ (2, a) :: st) S m k n := by
  subst hrev
  obtain ⟨p, l, e, R, s, mi, args, below, meth, c, Z⟩ := C
  intro hC H locs ls hH hlo hL hLo hst
  have hC' := hC
  obtain ⟨hx, hb, hml, hown, hts, hK, htb, hini, hdR, hlR, hKR, hNR, -⟩ := hC'
  obtain ⟨host, l1, l2, l3⟩ := hl
  have hoA : ∀ w ∈ (2, a) :: As, zb_ok w.1 w.2 := fun w hw => by
    rcases List.mem_cons.mp hw with rfl | hw
    · exact h1
    · exact hst w (List.mem_append_left _ (List.mem_reverse.mpr hw))
  have hrm := zb_rooms (R := R) (k' := k') (n' := n') hdR hlR hdd hg.2.2.2.2.2
  have hpre : ∀ U : State, U.heap = H → s.WarmedH U.vm → zb_Pc G ((2, a) :: As) S m (Value.ref (zb_ad G a) :: As.map (zb_cv G)).toArray U := fun U hU hW => by
    have h := zb_pre hK htb hH hoA hU hW
    rw [List.map_cons, zb_cvr h1] at h
    exact h
  have hTG := hT G l
  refine zb_after (Z := Z) (G := G) (g := g) (st0 := As.reverse ++ (2, a) :: st) (st := st) (k' := k') (n' := n') (Q' := Q') (va_runIN (b := zb_ad G a) (bytes := g.2.2.1) (maxL := g.2.2.2.1) (As := As.map (zb_cv G)) (rest := st.map (zb_cv G)) (Ts := zb_all) ⟨hx, hb, hml, hown, hts⟩ hTG
    ⟨va_cnB na hts (zb_good_mw hg) (by unfold zb_mw; rw [hret]) rfl rfl (htb.1 _ l1) (hts _ hg.2.2.1) hg.1 hrm, l3, hts _ l2⟩ ⟨zb_blind G _ S m, hpre⟩ rfl (by simpa using hn) hL.1 (by rw [List.map_append, List.map_reverse, List.map_cons, zb_cvr h1]) ?_ hd ⟨by omega, by omega⟩) hC hlo hL hLo (fun v hv => hst v (List.mem_append_right _ (List.mem_cons_of_mem _ hv))) kk
  show 2 * 0 + _ ≤ 8
  rw [zb_cs_eq]
  omega
end ZBD
end
section
/-! ===== returns, Object's constructor, arraycopy, the script ===== -/
section ZBE
variable {C : zb_C} {G : zb_G} {d K N : Nat} {Q Q' : Int → zb_S → zb_M → Prop} {F g : zb_F} {pc : Nat} {L : List (Nat × zb_V)} {st : List zb_V} {S : zb_S} {m : zb_M} {k n k' n' : Nat}
theorem zb_return {ins : Instr} {r : Int} (hd : decode F.2.2.1 pc = .ok (ins, 1)) (hr : zb_ret F.2.2.2.2 ins st r) (hk : k ≤ K) (hn : n ≤ N) (hQ : Q r S m) : zb_WP (G, C, d, K, N, Q) F pc L st S m k n := by
  obtain ⟨p, l, e, R, s, mi, args, below, meth, c, Z⟩ := C
  intro hC H locs ls hH hlo hL hLo hst
  have hC' := hC
  obtain ⟨-, -, -, -, -, -, -, -, -, -, -, -, hret⟩ := hC'
  exact hret S m H locs ls pc ins st r k n hH hlo hr hst hd hk hn hQ
theorem zb_vreturn (hd : decode F.2.2.1 pc = .ok (.return_, 1)) (hr : F.2.2.2.2 = none) (hk : k ≤ K) (hn : n ≤ N) (hQ : Q 0 S m) : zb_WP (G, C, d, K, N, Q) F pc L [] S m k n := zb_return hd (Or.inl ⟨hr, rfl, rfl, rfl⟩) hk hn hQ
theorem zb_ireturn {r : Int} (hd : decode F.2.2.1 pc = .ok (.ireturn, 1)) (hr : F.2.2.2.2 = some .int) (hk : k ≤ K) (hn : n ≤ N) (hQ : Q r S m) : zb_WP (G, C, d, K, N, Q) F pc L [(0, r)] S m k n := zb_return hd (Or.inr (Or.inl ⟨hr, rfl, rfl⟩)) hk hn hQ
theorem zb_zreturn {r : Int} (hd : decode F.2.2.1 pc = .ok (.ireturn, 1)) (hr : F.2.2.2.2 = some .boolean) (hz : r = 0 ∨ r = 1) (hk : k ≤ K) (hn : n ≤ N) (hQ : Q r S m) : zb_WP (G, C, d, K, N, Q) F pc L [(0, r)] S m k n := zb_return hd (Or.inr (Or.inr (Or.inl ⟨hr, rfl, rfl, hz⟩))) hk hn hQ
theorem zb_lreturn {r : Int} (hd : decode F.2.2.1 pc = .ok (.lreturn, 1)) (hr : F.2.2.2.2 = some .long) (hk : k ≤ K) (hn : n ≤ N) (hQ : Q r S m) : zb_WP (G, C, d, K, N, Q) F pc L [(1, r)] S m k n := zb_return hd (Or.inr (Or.inr (Or.inr (Or.inl ⟨hr, rfl, rfl⟩)))) hk hn hQ
theorem zb_areturn {r : Int} (hd : decode F.2.2.1 pc = .ok (.areturn, 1)) (hr : (∃ nm, F.2.2.2.2 = some (.object nm)) ∨ ∃ t, F.2.2.2.2 = some (.array t)) (hz : 1 ≤ r) (hk : k ≤ K) (hn : n ≤ N) (hQ : Q r S m) : zb_WP (G, C, d, K, N, Q) F pc L [(2, r)] S m k n := zb_return hd (Or.inr (Or.inr (Or.inr (Or.inr ⟨hr, rfl, rfl, hz⟩)))) hk hn hQ
def zb_lkO (own : String) (index : Nat) : Prop := Cond.methodLink own index Lib.objectInit ∈ zb_all ∧ Cond.instanceMethod Lib.objectInit ∈ zb_all ∧ Cond.code Lib.objectInit ⟨#[0xb1]⟩ 1 none ∈ zb_all
theorem zb_objI {index : Nat} {a : Int} (hd : decode F.2.2.1 pc = .ok (.invokespecial index, 3)) (hl : zb_lkO F.1 index) (h1 : 1 ≤ a) (hdd : 1 ≤ d) (hcs : zb_cs st ≤ 8) (kk : zb_WP (G, C, d, K, N, Q) F (pc + 3) L st S m k n) : zb_WP (G, C, d, K, N, Q) F pc L ((2, a) :: st) S m k n := by
  obtain ⟨p, l, e, R, s, mi, args, below, meth, c, Z⟩ := C
  intro hC H locs ls hH hlo hL hLo hst
  have hC' := hC
  obtain ⟨hx, hb, hml, hown, hts, hK, htb, hini, hdR, hlR, hKR, hNR, -⟩ := hC'
  rw [List.map_cons, zb_cvr h1]
  exact W.objInit hx hb hown (hts _ hl.1) (hts _ hl.2.1) (hts _ hl.2.2) rfl (hL.1.trans hml.symm) rfl hd (by omega) (by
    show 2 * 0 + _ + 12 ≤ R.locals
    rw [zb_cs_eq]
    omega) (kk hC H locs ls hH hlo hL hLo (zb_okt hst))
def zb_cmp (x y : Int) : Int := if y < x then 1 else if x = y then 0 else -1
theorem zb_ltL {x y : Int} (hx : zb_inL x) (hy : zb_inL y) : Int64.ofInt x < Int64.ofInt y ↔ x < y := by
  rw [Int64.lt_iff_toInt_lt, zb_toI64 hx, zb_toI64 hy]
theorem zb_eqL {x y : Int} (hx : zb_inL x) (hy : zb_inL y) : Int64.ofInt x = Int64.ofInt y ↔ x = y := by
  rw [← Int64.toInt_inj, zb_toI64 hx, zb_toI64 hy]
theorem zb_lcmp {X : zb_X} {x y : Int} (hd : decode F.2.2.1 pc = .ok (.lcmp, 1)) (kk : zb_WP X F (pc + 1) L ((0, zb_cmp x y) :: st) S m k n) : zb_WP X F pc L ((1, y) :: (1, x) :: st) S m k n :=
  zb_pure (fun _ h => zb_oki (by unfold zb_cmp zb_inI; split <;> (try split) <;> omega) (zb_okt (zb_okt h))) (fun G p l e R s mi args below meth c Z H locs ls hx hb _ _ _ _ ho w => W.lcmp (x := Int64.ofInt x) (y := Int64.ofInt y) hx hb hd (by
    have h1 : zb_inL y := zb_okh ho
    have h2 : zb_inL x := zb_okh (zb_okt ho)
    have e : lg_cmp (Int64.ofInt x) (Int64.ofInt y) = Int32.ofInt (zb_cmp x y) := by
      unfold lg_cmp zb_cmp
      by_cases q1 : y < x
      · rw [if_pos q1, if_pos ((zb_ltL h1 h2).mpr q1)]
        rfl
      · rw [if_neg q1, if_neg (fun z => q1 ((zb_ltL h1 h2).mp z))]
        by_cases q2 : x = y
        · rw [if_pos q2, if_pos ((zb_eqL h2 h1).mpr q2)]
          rfl
        · rw [if_neg q2, if_neg (fun z => q2 ((zb_eqL h2 h1).mp z))]
          rfl
    rw [e]
    exact w)) kk
/-- a part of a row is copied -/
def zb_cp (m : zb_M) (a0 sp a dp len : Int) : zb_M := fun b j => if b = a ∧ dp ≤ j ∧ j < dp + len then m a0 (sp + (j - dp)) else m b j
def zb_lkA (own : String) (index : Nat) : Prop := Cond.methodLink own index arraycopyName ∈ zb_all ∧ Cond.native arraycopyName ∈ zb_all ∧ Cond.static arraycopyName ∈ zb_all ∧ Cond.initialized "java/lang/System" ∈ zb_all
theorem zb_arrcopy {index : Nat} {a0 a sp dp len : Int} (hd : decode F.2.2.1 pc = .ok (.invokestatic index, 3)) (hl : zb_lkA F.1 index) (ha0 : zb_is S a0 13) (ha : zb_is S a 13) (h1 : 0 ≤ sp) (h2 : 0 ≤ dp) (h3 : 0 ≤ len) (h4 : sp + len ≤ zb_len S a0) (h5 : dp + len ≤ zb_len S a) (hdd : 1 ≤ d) (hcs : zb_cs st ≤ 8) (kk : zb_WP (G, C, d, K, N, Q) F (pc + 3) L st S (zb_cp m a0 sp a dp len) k n) : zb_WP (G, C, d, K, N, Q) F pc L ((0, len) :: (0, dp) :: (2, a) :: (0, sp) :: (2, a0) :: st) S m k n := by
  obtain ⟨p, l, e, R, s, mi, args, below, meth, c, Z⟩ := C
  intro hC H locs ls hH hlo hL hLo hst
  have hC' := hC
  obtain ⟨hx, hb, hml, hown, hts, hK, htb, hini, hdR, hlR, hKR, hNR, -⟩ := hC'
  obtain ⟨a1, a2, a3⟩ := ha
  obtain ⟨b1, b2, b3⟩ := ha0
  have hc1 := hH.2.1 a a1 a2
  rw [zb_ent_i G a3] at hc1
  have hc0 := hH.2.1 a0 b1 b2
  rw [zb_ent_i G b3] at hc0
  have il : zb_inI len := zb_okh hst
  have id : zb_inI dp := zb_okh (zb_okt hst)
  have is : zb_inI sp := zb_okh (zb_okt (zb_okt (zb_okt hst)))
  obtain ⟨-, k0, hk0, cm0, hkk0⟩ := (hK.2 0 _ (zb_tys_at _ (by omega))).1 (S.2 a0).2 (fun j => .int (Int32.ofInt (m a0 j)))
  obtain ⟨-, k1, hk1, cm1, hkk1⟩ := (hK.2 0 _ (zb_tys_at _ (by omega))).1 (S.2 a).2 (fun j => .int (Int32.ofInt (m a j)))
  have nn : ∀ z : Int, zb_inI z → 0 ≤ z → ¬ Int32.ofInt z < 0 := fun z hz h q => by
    have := (zb_ltI hz zb_in0).mp q
    omega
  have e4 : sp.toNat + len.toNat ≤ (S.2 a0).2 := by unfold zb_len at h4; omega
  have e4' : (Int32.ofInt sp).toNatClampNeg + (Int32.ofInt len).toNatClampNeg ≤ (S.2 a0).2 := by rw [zb_c32 is, zb_c32 il]; exact e4
  have e5 : dp.toNat + len.toNat ≤ (S.2 a).2 := by unfold zb_len at h5; omega
  have hnfw : nativeFrameWords "java/lang/System" "arraycopy" 5 + 11 + 8 ≤ 64 * 2 := by decide +kernel
  simp only [List.map_cons, zb_cvr a1, zb_cvr b1]
  intro T hT Y
  obtain ⟨vm', Y', step⟩ := Y.arraycopy hx hown (hts _ hl.1) (hts _ hl.2.1) (hts _ hl.2.2.1) (hts _ hl.2.2.2) (src := zb_ad G a0) (dst := zb_ad G a) (cs := vp_cell (G.2.2.2.2 0) ((S.2 a0).2, .inl (fun j : Nat => Int32.ofInt (m a0 j)))) (cd := vp_cell (G.2.2.2.2 0) ((S.2 a).2, .inl (fun j : Nat => Int32.ofInt (m a j)))) (srcPos := Int32.ofInt sp) (destPos := Int32.ofInt dp) (n := Int32.ofInt len) (by rw [hT]; exact hc0) (by rw [hT]; exact hc1)
    (fun _ h => by cases h) (fun _ h => by cases h) (fun h => by cases h) (fun h => by cases h) hk0 hk1 hkk0 hkk1 (by rfl) (nn _ is h1) (nn _ id h2) (nn _ il h3)
    (by rw [zb_toI is, zb_toI il]; show ¬ _ > ((arrV _ _ _).slots.size : Int); rw [arrV_size]; unfold zb_len at h4; omega)
    (by rw [zb_toI id, zb_toI il]; show ¬ _ > ((arrV _ _ _).slots.size : Int); rw [arrV_size]; unfold zb_len at h5; omega)
    (fun vm₁ _ i hi => by
      rw [zb_c32 il] at hi
      have e : (vp_cell (G.2.2.2.2 0) ((S.2 a0).2, .inl (fun j : Nat => Int32.ofInt (m a0 j)))).slots.getD ((Int32.ofInt sp).toNatClampNeg + i) .null = .int (Int32.ofInt (m a0 ((sp.toNat + i : Nat) : Int))) := by
        show (arrV (G.2.2.2.2 0) (S.2 a0).2 (fun j => .int (Int32.ofInt (m a0 j)))).slots.getD _ _ = _
        rw [zb_c32 is, Array.getD_eq_getD_getElem?, arrV_read _ _ (by omega)]
        rfl
      refine ⟨?_, ?_⟩
      · rw [e]
        rfl
      · rw [e]
        exact trivial)
    (g := F0 mi pc ls (.int (Int32.ofInt len) :: .int (Int32.ofInt dp) :: .ref (zb_ad G a) :: .int (Int32.ofInt sp) :: .ref (zb_ad G a0) :: st.map (zb_cv G))) rfl (hL.1.trans hml.symm) (rest := st.map (zb_cv G)) rfl (by rw [hb]; exact hd) (by omega) (by
      show 2 * 0 + _ + _ ≤ _
      rw [zb_cs_eq]
      omega)
  have e1 : copied (vp_cell (G.2.2.2.2 0) ((S.2 a0).2, .inl (fun j : Nat => Int32.ofInt (m a0 j)))) (vp_cell (G.2.2.2.2 0) ((S.2 a).2, .inl (fun j : Nat => Int32.ofInt (m a j)))) (Int32.ofInt sp) (Int32.ofInt dp) (Int32.ofInt len) = vp_cell (G.2.2.2.2 0) ((S.2 a).2, .inl (va_cpy (fun j : Nat => Int32.ofInt (m a0 j)) (fun j : Nat => Int32.ofInt (m a j)) (Int32.ofInt sp).toNatClampNeg (Int32.ofInt dp).toNatClampNeg (Int32.ofInt len).toNatClampNeg)) := va_copied (fun z => .int z) (G.2.2.2.2 0) (G.2.2.2.2 0) (fun j : Nat => Int32.ofInt (m a0 j)) (fun j : Nat => Int32.ofInt (m a j)) e4'
  rw [zb_c32 is, zb_c32 id, zb_c32 il] at e1
  have e6 : va_cpy (fun j : Nat => Int32.ofInt (m a0 j)) (fun j : Nat => Int32.ofInt (m a j)) sp.toNat dp.toNat len.toNat = fun j : Nat => Int32.ofInt (zb_cp m a0 sp a dp len a j) := by
    funext j
    unfold va_cpy zb_cp
    by_cases q : dp.toNat ≤ j ∧ j < dp.toNat + len.toNat
    · rw [if_pos q, if_pos ⟨rfl, by omega, by omega⟩]
      have e9 : ((sp.toNat + (j - dp.toNat) : Nat) : Int) = sp + ((j : Int) - dp) := by omega
      show Int32.ofInt (m a0 ((sp.toNat + (j - dp.toNat) : Nat) : Int)) = _
      rw [e9]
    · rw [if_neg q, if_neg (by rintro ⟨-, z1, z2⟩; exact q ⟨by omega, by omega⟩)]
  rw [e6] at e1
  have hlt : zb_ad G a < H.size := (Array.getElem?_eq_some_iff.mp hc1).1
  have hheap : ((T.setVm vm').setCell (zb_ad G a) (copied (vp_cell (G.2.2.2.2 0) ((S.2 a0).2, .inl (fun j : Nat => Int32.ofInt (m a0 j)))) (vp_cell (G.2.2.2.2 0) ((S.2 a).2, .inl (fun j : Nat => Int32.ofInt (m a j)))) (Int32.ofInt sp) (Int32.ofInt dp) (Int32.ofInt len))).heap = H.setIfInBounds (zb_ad G a) (vp_cell (G.2.2.2.2 0) ((S.2 a).2, .inl (fun j : Nat => Int32.ofInt (zb_cp m a0 sp a dp len a j)))) := by rw [← hT, ← e1]; rfl
  have oq : ∀ q : Nat, q ≠ zb_ad G a → (H.setIfInBounds (zb_ad G a) (vp_cell (G.2.2.2.2 0) ((S.2 a).2, .inl (fun j : Nat => Int32.ofInt (zb_cp m a0 sp a dp len a j)))))[q]? = H[q]? := fun q hq => by simp [Array.getElem?_setIfInBounds, Ne.symm hq]
  have hH' : zb_H G S (zb_cp m a0 sp a dp len) (H.setIfInBounds (zb_ad G a) (vp_cell (G.2.2.2.2 0) ((S.2 a).2, .inl (fun j : Nat => Int32.ofInt (zb_cp m a0 sp a dp len a j))))) := by
    refine zb_H_set hH a1 ?_ (by simp) oq (fun b hb => ?_) (fun q => ?_)
    · rw [zb_ent_i G a3]
      show (H.setIfInBounds (zb_ad G a) _)[zb_ad G a]? = some _
      simp [Array.getElem?_setIfInBounds, hlt]
    · funext j
      unfold zb_cp
      rw [if_neg (fun z => hb z.1)]
    · unfold zb_cp
      have ca := hH.2.2.2.1 a q
      have c0 := hH.2.2.2.1 a0 (sp + (q - dp))
      unfold zb_st at ca c0 ⊢
      rw [a3] at ca ⊢
      rw [b3] at c0
      have ca : zb_inI (m a q) := ca
      have c0 : zb_inI (m a0 (sp + (q - dp))) := c0
      show zb_inI _
      split
      · exact c0
      · exact ca
  obtain ⟨t, g1, g2⟩ := kk hC _ _ ls hH' (fun q hq => by
      rcases List.mem_append.mp hq with h | h
      · exact hlo q h
      · obtain ⟨z, -, hz⟩ := List.mem_map.mp h
        rw [← hz]
        exact Nat.le_add_right _ _) hL hLo (zb_okt (zb_okt (zb_okt (zb_okt (zb_okt hst))))) _ hheap Y'
  exact ⟨t, step t g1, g2⟩
/-- the script, where the walk is the law's own -/
def zb_scr (G : zb_G) (C : zb_C) (Ln : Nat) (xs : Nat → Int32) : Prop := va_X G.2.1 Ln xs C.2.2.2.2.1 G.2.2.1 ∧ G.2.1 < G.1
theorem zb_sload {x : Int} {i : Int} {Ln : Nat} {xs : Nat → Int32} (hs : zb_scr G C Ln xs) (hd : decode F.2.2.1 pc = .ok (.iaload, 1)) (h0 : 0 ≤ i) (hi : i < Ln) (kk : zb_WP (G, C, d, K, N, Q) F (pc + 1) L ((0, (xs i.toNat).toInt) :: st) S m k n) : zb_WP (G, C, d, K, N, Q) F pc L ((0, i) :: (3, x) :: st) S m k n := by
  obtain ⟨p, l, e, R, s, mi, args, below, meth, c, Z⟩ := C
  intro hC H locs ls hH hlo hL hLo hst
  have hC' := hC
  obtain ⟨hx, hb, -⟩ := hC'
  obtain ⟨hX, hbl⟩ := hs
  have ii : zb_inI i := zb_okh hst
  have hS : va_S (fun q => G.1 ≤ q) G.2.2.1 H locs := ⟨by have := hH.1; have := hH.2.2.2.2; omega, fun q h1 h2 => hH.2.2.1 q (by have := hH.2.2.2.2; omega), hlo⟩
  have hw := kk hC H locs ls hH hlo hL hLo (zb_oki (zb_inT _) (zb_okt (zb_okt hst)))
  refine va_sld (A := fun q => G.1 ≤ q) (i := Int32.ofInt i) hx hb hX (by have := hH.2.2.2.2; show G.2.1 < G.2.2.1.size; omega) (Nat.not_le.mpr hbl) hS (zb_vpin ii h0 hi) hd ?_
  rw [zb_c32 ii]
  have e2 : xs i.toNat = Int32.ofInt (xs i.toNat).toInt := (Int32.ofInt_toInt _).symm
  rw [e2]
  exact hw
theorem zb_slen {x : Int} {Ln : Nat} {xs : Nat → Int32} (hs : zb_scr G C Ln xs) (hd : decode F.2.2.1 pc = .ok (.arraylength, 1)) (hL4 : Ln ≤ 4096) (kk : zb_WP (G, C, d, K, N, Q) F (pc + 1) L ((0, (Ln : Int)) :: st) S m k n) : zb_WP (G, C, d, K, N, Q) F pc L ((3, x) :: st) S m k n := by
  obtain ⟨p, l, e, R, s, mi, args, below, meth, c, Z⟩ := C
  intro hC H locs ls hH hlo hL hLo hst
  have hC' := hC
  obtain ⟨hx, hb, -⟩ := hC'
  obtain ⟨hX, hbl⟩ := hs
  have hS : va_S (fun q => G.1 ≤ q) G.2.2.1 H locs := ⟨by have := hH.1; have := hH.2.2.2.2; omega, fun q h1 h2 => hH.2.2.1 q (by have := hH.2.2.2.2; omega), hlo⟩
  have hw := kk hC H locs ls hH hlo hL hLo (zb_oki ⟨by omega, by omega⟩ (zb_okt hst))
  refine va_slen (A := fun q => G.1 ≤ q) hx hb hX (by have := hH.2.2.2.2; show G.2.1 < G.2.2.1.size; omega) (Nat.not_le.mpr hbl) hS hd ?_
  rw [zb_n32]
  exact hw
end ZBE
end
section
/-! ===== the program in the core's words: methods, classes, links (laid by gen/tables.py out of what TURN prints) ===== -/
theorem zb_inr {ws : List Cond} (ps : List Nat) (hp : ws = ps.filterMap (fun i => lw_tbl[i]?)) (h : ws.all goodWord = true) : ∀ w ∈ ws, w ∈ zb_all := by
  intro w hw
  have h1 := List.all_eq_true.mp h w hw
  rw [hp] at hw
  obtain ⟨i, -, hi⟩ := List.mem_filterMap.mp hw
  exact zb_in i hi h1
def zb_fitb : FieldType → Bool
  | .int => true
  | .boolean => true
  | .object _ => true
  | .array _ => true
  | _ => false
theorem zb_fitb_ok {ty : FieldType} (h : zb_fitb ty = true) : zb_fit ty 0 := by
  cases ty <;> simp_all [zb_fitb, zb_fit, zb_ft]
def zb_lkM (own : String) (index : Nat) (y : MethodName) (cd : ByteArray) : Prop := Cond.methodLink own index y ∈ zb_all ∧ Cond.static y ∈ zb_all ∧ Cond.initialized "java/lang/Math" ∈ zb_all ∧ Cond.code y cd 2 (some .int) ∈ zb_all
abbrev F_X0_init : zb_F := (RX0, yX0_init, cX0_init, 3, (none))
theorem gd_X0_init : zb_gd F_X0_init 2 := ⟨⟨by decide +kernel, by decide +kernel, by decide +kernel⟩, (zb_in 292 (by decide +kernel) rfl), (zb_in 47 (by decide +kernel) rfl), by decide +kernel, rfl, by decide⟩
abbrev F_X0_take : zb_F := (RX0, yX0_take, cX0_take, 3, (none))
theorem gd_X0_take : zb_gd F_X0_take 2 := ⟨⟨by decide +kernel, by decide +kernel, by decide +kernel⟩, (zb_in 768 (by decide +kernel) rfl), (zb_in 47 (by decide +kernel) rfl), by decide +kernel, rfl, by decide⟩
abbrev K_X0_take : zb_F × List Nat := (F_X0_take, [0, 4, 4])
abbrev F_X0_findNames : zb_F := (RX0, yX0_findNames, cX0_findNames, 1, (some FieldType.boolean))
theorem gd_X0_findNames : zb_gd F_X0_findNames 0 := ⟨⟨by decide +kernel, by decide +kernel, by decide +kernel⟩, (zb_in 773 (by decide +kernel) rfl), (zb_in 47 (by decide +kernel) rfl), by decide +kernel, rfl, by decide⟩
abbrev K_X0_findNames : zb_F × List Nat := (F_X0_findNames, [0])
abbrev F_X0_isOneName : zb_F := (RX0, yX0_isOneName, cX0_isOneName, 1, (some FieldType.boolean))
theorem gd_X0_isOneName : zb_gd F_X0_isOneName 0 := ⟨⟨by decide +kernel, by decide +kernel, by decide +kernel⟩, (zb_in 778 (by decide +kernel) rfl), (zb_in 47 (by decide +kernel) rfl), by decide +kernel, rfl, by decide⟩
abbrev K_X0_isOneName : zb_F × List Nat := (F_X0_isOneName, [0])
abbrev F_X0_tellApart : zb_F := (RX0, yX0_tellApart, cX0_tellApart, 1, (some FieldType.int))
theorem gd_X0_tellApart : zb_gd F_X0_tellApart 0 := ⟨⟨by decide +kernel, by decide +kernel, by decide +kernel⟩, (zb_in 799 (by decide +kernel) rfl), (zb_in 47 (by decide +kernel) rfl), by decide +kernel, rfl, by decide⟩
abbrev K_X0_tellApart : zb_F × List Nat := (F_X0_tellApart, [0])
abbrev F_X0_keepDifference : zb_F := (RX0, yX0_keepDifference, cX0_keepDifference, 4, (none))
theorem gd_X0_keepDifference : zb_gd F_X0_keepDifference 3 := ⟨⟨by decide +kernel, by decide +kernel, by decide +kernel⟩, (zb_in 803 (by decide +kernel) rfl), (zb_in 47 (by decide +kernel) rfl), by decide +kernel, rfl, by decide⟩
abbrev K_X0_keepDifference : zb_F × List Nat := (F_X0_keepDifference, [0, 99, 99, 99])
abbrev F_X0_isToldByKeys : zb_F := (RX0, yX0_isToldByKeys, cX0_isToldByKeys, 4, (some FieldType.boolean))
theorem gd_X0_isToldByKeys : zb_gd F_X0_isToldByKeys 0 := ⟨⟨by decide +kernel, by decide +kernel, by decide +kernel⟩, (zb_in 808 (by decide +kernel) rfl), (zb_in 47 (by decide +kernel) rfl), by decide +kernel, rfl, by decide⟩
abbrev K_X0_isToldByKeys : zb_F × List Nat := (F_X0_isToldByKeys, [0])
abbrev F_X0_isToldByHeaps : zb_F := (RX0, yX0_isToldByHeaps, cX0_isToldByHeaps, 3, (some FieldType.boolean))
theorem gd_X0_isToldByHeaps : zb_gd F_X0_isToldByHeaps 0 := ⟨⟨by decide +kernel, by decide +kernel, by decide +kernel⟩, (zb_in 812 (by decide +kernel) rfl), (zb_in 47 (by decide +kernel) rfl), by decide +kernel, rfl, by decide⟩
abbrev K_X0_isToldByHeaps : zb_F × List Nat := (F_X0_isToldByHeaps, [0])
abbrev F_X0_isToldByNames : zb_F := (RX0, yX0_isToldByNames, cX0_isToldByNames, 2, (some FieldType.boolean))
theorem gd_X0_isToldByNames : zb_gd F_X0_isToldByNames 0 := ⟨⟨by decide +kernel, by decide +kernel, by decide +kernel⟩, (zb_in 818 (by decide +kernel) rfl), (zb_in 47 (by decide +kernel) rfl), by decide +kernel, rfl, by decide⟩
abbrev K_X0_isToldByNames : zb_F × List Nat := (F_X0_isToldByNames, [0])
abbrev F_X1_init : zb_F := (RX1, yX1_init, cX1_init, 2, (none))
theorem gd_X1_init : zb_gd F_X1_init 0 := ⟨⟨by decide +kernel, by decide +kernel, by decide +kernel⟩, (zb_in 68 (by decide +kernel) rfl), (zb_in 39 (by decide +kernel) rfl), by decide +kernel, rfl, by decide⟩
abbrev F_X1_keep : zb_F := (RX1, yX1_keep, cX1_keep, 3, (none))
theorem gd_X1_keep : zb_gd F_X1_keep 2 := ⟨⟨by decide +kernel, by decide +kernel, by decide +kernel⟩, (zb_in 484 (by decide +kernel) rfl), (zb_in 39 (by decide +kernel) rfl), by decide +kernel, rfl, by decide⟩
abbrev K_X1_keep : zb_F × List Nat := (F_X1_keep, [1, 99, 4])
abbrev F_X1_latest : zb_F := (RX1, yX1_latest, cX1_latest, 1, (some FieldType.int))
theorem gd_X1_latest : zb_gd F_X1_latest 0 := ⟨⟨by decide +kernel, by decide +kernel, by decide +kernel⟩, (zb_in 611 (by decide +kernel) rfl), (zb_in 39 (by decide +kernel) rfl), by decide +kernel, rfl, by decide⟩
abbrev K_X1_latest : zb_F × List Nat := (F_X1_latest, [1])
abbrev F_X1_latestGraph : zb_F := (RX1, yX1_latestGraph, cX1_latestGraph, 1, (some FieldType.int))
theorem gd_X1_latestGraph : zb_gd F_X1_latestGraph 0 := ⟨⟨by decide +kernel, by decide +kernel, by decide +kernel⟩, (zb_in 607 (by decide +kernel) rfl), (zb_in 39 (by decide +kernel) rfl), by decide +kernel, rfl, by decide⟩
abbrev K_X1_latestGraph : zb_F × List Nat := (F_X1_latestGraph, [1])
abbrev F_X1_latestNet : zb_F := (RX1, yX1_latestNet, cX1_latestNet, 1, (some (FieldType.object "SameBench$Net")))
theorem gd_X1_latestNet : zb_gd F_X1_latestNet 0 := ⟨⟨by decide +kernel, by decide +kernel, by decide +kernel⟩, (zb_in 615 (by decide +kernel) rfl), (zb_in 39 (by decide +kernel) rfl), by decide +kernel, rfl, by decide⟩
abbrev K_X1_latestNet : zb_F × List Nat := (F_X1_latestNet, [1])
abbrev F_X1_forgetLatest : zb_F := (RX1, yX1_forgetLatest, cX1_forgetLatest, 1, (none))
theorem gd_X1_forgetLatest : zb_gd F_X1_forgetLatest 0 := ⟨⟨by decide +kernel, by decide +kernel, by decide +kernel⟩, (zb_in 619 (by decide +kernel) rfl), (zb_in 39 (by decide +kernel) rfl), by decide +kernel, rfl, by decide⟩
abbrev K_X1_forgetLatest : zb_F × List Nat := (F_X1_forgetLatest, [1])
abbrev F_X2_init : zb_F := (RX2, yX2_init, cX2_init, 2, (none))
theorem gd_X2_init : zb_gd F_X2_init 0 := ⟨⟨by decide +kernel, by decide +kernel, by decide +kernel⟩, (zb_in 397 (by decide +kernel) rfl), (zb_in 50 (by decide +kernel) rfl), by decide +kernel, rfl, by decide⟩
abbrev F_X2_bitOf : zb_F := (RX2, yX2_bitOf, cX2_bitOf, 2, (some FieldType.int))
theorem gd_X2_bitOf : zb_gd F_X2_bitOf 2 := ⟨⟨by decide +kernel, by decide +kernel, by decide +kernel⟩, (zb_in 957 (by decide +kernel) rfl), (zb_in 50 (by decide +kernel) rfl), by decide +kernel, rfl, by decide⟩
abbrev K_X2_bitOf : zb_F × List Nat := (F_X2_bitOf, [99, 99])
abbrev F_X2_make : zb_F := (RX2, yX2_make, cX2_make, 7, (none))
theorem gd_X2_make : zb_gd F_X2_make 4 := ⟨⟨by decide +kernel, by decide +kernel, by decide +kernel⟩, (zb_in 941 (by decide +kernel) rfl), (zb_in 50 (by decide +kernel) rfl), by decide +kernel, rfl, by decide⟩
abbrev K_X2_make : zb_F × List Nat := (F_X2_make, [2, 99, 99, 8, 6])
abbrev F_X2_meetAllOfSort : zb_F := (RX2, yX2_meetAllOfSort, cX2_meetAllOfSort, 7, (none))
theorem gd_X2_meetAllOfSort : zb_gd F_X2_meetAllOfSort 2 := ⟨⟨by decide +kernel, by decide +kernel, by decide +kernel⟩, (zb_in 951 (by decide +kernel) rfl), (zb_in 50 (by decide +kernel) rfl), by decide +kernel, rfl, by decide⟩
abbrev K_X2_meetAllOfSort : zb_F × List Nat := (F_X2_meetAllOfSort, [2, 99, 99])
abbrev F_X2_exchanged : zb_F := (RX2, yX2_exchanged, cX2_exchanged, 6, (some FieldType.int))
theorem gd_X2_exchanged : zb_gd F_X2_exchanged 3 := ⟨⟨by decide +kernel, by decide +kernel, by decide +kernel⟩, (zb_in 954 (by decide +kernel) rfl), (zb_in 50 (by decide +kernel) rfl), by decide +kernel, rfl, by decide⟩
abbrev K_X2_exchanged : zb_F × List Nat := (F_X2_exchanged, [99, 99, 99])
abbrev F_X2_neighbourOf : zb_F := (RX2, yX2_neighbourOf, cX2_neighbourOf, 2, (some FieldType.int))
theorem gd_X2_neighbourOf : zb_gd F_X2_neighbourOf 2 := ⟨⟨by decide +kernel, by decide +kernel, by decide +kernel⟩, (zb_in 962 (by decide +kernel) rfl), (zb_in 50 (by decide +kernel) rfl), by decide +kernel, rfl, by decide⟩
abbrev K_X2_neighbourOf : zb_F × List Nat := (F_X2_neighbourOf, [99, 99])
abbrev F_X2_putInPlace : zb_F := (RX2, yX2_putInPlace, cX2_putInPlace, 3, (none))
theorem gd_X2_putInPlace : zb_gd F_X2_putInPlace 0 := ⟨⟨by decide +kernel, by decide +kernel, by decide +kernel⟩, (zb_in 972 (by decide +kernel) rfl), (zb_in 50 (by decide +kernel) rfl), by decide +kernel, rfl, by decide⟩
abbrev K_X2_putInPlace : zb_F × List Nat := (F_X2_putInPlace, [2])
abbrev F_X3_init : zb_F := (RX3, yX3_init, cX3_init, 1, (none))
theorem gd_X3_init : zb_gd F_X3_init 0 := ⟨⟨by decide +kernel, by decide +kernel, by decide +kernel⟩, (zb_in 302 (by decide +kernel) rfl), (zb_in 48 (by decide +kernel) rfl), by decide +kernel, rfl, by decide⟩
abbrev F_X3_differsAt : zb_F := (RX3, yX3_differsAt, cX3_differsAt, 4, (some FieldType.int))
theorem gd_X3_differsAt : zb_gd F_X3_differsAt 1 := ⟨⟨by decide +kernel, by decide +kernel, by decide +kernel⟩, (zb_in 782 (by decide +kernel) rfl), (zb_in 48 (by decide +kernel) rfl), by decide +kernel, rfl, by decide⟩
abbrev K_X3_differsAt : zb_F × List Nat := (F_X3_differsAt, [3, 3])
abbrev F_X3_isLessThan : zb_F := (RX3, yX3_isLessThan, cX3_isLessThan, 3, (some FieldType.boolean))
theorem gd_X3_isLessThan : zb_gd F_X3_isLessThan 1 := ⟨⟨by decide +kernel, by decide +kernel, by decide +kernel⟩, (zb_in 976 (by decide +kernel) rfl), (zb_in 48 (by decide +kernel) rfl), by decide +kernel, rfl, by decide⟩
abbrev K_X3_isLessThan : zb_F × List Nat := (F_X3_isLessThan, [3, 3])
abbrev F_X4_init : zb_F := (RX4, yX4_init, cX4_init, 1, (none))
theorem gd_X4_init : zb_gd F_X4_init 0 := ⟨⟨by decide +kernel, by decide +kernel, by decide +kernel⟩, (zb_in 74 (by decide +kernel) rfl), (zb_in 40 (by decide +kernel) rfl), by decide +kernel, rfl, by decide⟩
abbrev F_X4_add : zb_F := (RX4, yX4_add, cX4_add, 5, (some FieldType.int))
theorem gd_X4_add : zb_gd F_X4_add 3 := ⟨⟨by decide +kernel, by decide +kernel, by decide +kernel⟩, (zb_in 498 (by decide +kernel) rfl), (zb_in 40 (by decide +kernel) rfl), by decide +kernel, rfl, by decide⟩
abbrev K_X4_add : zb_F × List Nat := (F_X4_add, [4, 99, 99, 99])
abbrev F_X4_clearRow : zb_F := (RX4, yX4_clearRow, cX4_clearRow, 4, (none))
theorem gd_X4_clearRow : zb_gd F_X4_clearRow 2 := ⟨⟨by decide +kernel, by decide +kernel, by decide +kernel⟩, (zb_in 503 (by decide +kernel) rfl), (zb_in 40 (by decide +kernel) rfl), by decide +kernel, rfl, by decide⟩
abbrev K_X4_clearRow : zb_F × List Nat := (F_X4_clearRow, [4, 99, 99])
abbrev F_X4_hasRow : zb_F := (RX4, yX4_hasRow, cX4_hasRow, 2, (some FieldType.boolean))
theorem gd_X4_hasRow : zb_gd F_X4_hasRow 1 := ⟨⟨by decide +kernel, by decide +kernel, by decide +kernel⟩, (zb_in 532 (by decide +kernel) rfl), (zb_in 40 (by decide +kernel) rfl), by decide +kernel, rfl, by decide⟩
abbrev K_X4_hasRow : zb_F × List Nat := (F_X4_hasRow, [4, 99])
abbrev F_X4_isNamed : zb_F := (RX4, yX4_isNamed, cX4_isNamed, 2, (some FieldType.boolean))
theorem gd_X4_isNamed : zb_gd F_X4_isNamed 1 := ⟨⟨by decide +kernel, by decide +kernel, by decide +kernel⟩, (zb_in 519 (by decide +kernel) rfl), (zb_in 40 (by decide +kernel) rfl), by decide +kernel, rfl, by decide⟩
abbrev K_X4_isNamed : zb_F × List Nat := (F_X4_isNamed, [4, 99])
abbrev F_X4_lineFrom : zb_F := (RX4, yX4_lineFrom, cX4_lineFrom, 3, (some FieldType.int))
theorem gd_X4_lineFrom : zb_gd F_X4_lineFrom 2 := ⟨⟨by decide +kernel, by decide +kernel, by decide +kernel⟩, (zb_in 540 (by decide +kernel) rfl), (zb_in 40 (by decide +kernel) rfl), by decide +kernel, rfl, by decide⟩
abbrev K_X4_lineFrom : zb_F × List Nat := (F_X4_lineFrom, [4, 99, 99])
abbrev F_X4_keyOf : zb_F := (RX4, yX4_keyOf, cX4_keyOf, 3, (some FieldType.int))
theorem gd_X4_keyOf : zb_gd F_X4_keyOf 1 := ⟨⟨by decide +kernel, by decide +kernel, by decide +kernel⟩, (zb_in 582 (by decide +kernel) rfl), (zb_in 40 (by decide +kernel) rfl), by decide +kernel, rfl, by decide⟩
abbrev K_X4_keyOf : zb_F × List Nat := (F_X4_keyOf, [4, 99])
abbrev F_X4_countShown : zb_F := (RX4, yX4_countShown, cX4_countShown, 3, (some FieldType.int))
theorem gd_X4_countShown : zb_gd F_X4_countShown 0 := ⟨⟨by decide +kernel, by decide +kernel, by decide +kernel⟩, (zb_in 591 (by decide +kernel) rfl), (zb_in 40 (by decide +kernel) rfl), by decide +kernel, rfl, by decide⟩
abbrev K_X4_countShown : zb_F × List Nat := (F_X4_countShown, [4])
abbrev F_X4_isRight : zb_F := (RX4, yX4_isRight, cX4_isRight, 2, (some FieldType.boolean))
theorem gd_X4_isRight : zb_gd F_X4_isRight 0 := ⟨⟨by decide +kernel, by decide +kernel, by decide +kernel⟩, (zb_in 595 (by decide +kernel) rfl), (zb_in 40 (by decide +kernel) rfl), by decide +kernel, rfl, by decide⟩
abbrev K_X4_isRight : zb_F × List Nat := (F_X4_isRight, [4])
abbrev F_X4_countNamesakes : zb_F := (RX4, yX4_countNamesakes, cX4_countNamesakes, 4, (some FieldType.int))
theorem gd_X4_countNamesakes : zb_gd F_X4_countNamesakes 1 := ⟨⟨by decide +kernel, by decide +kernel, by decide +kernel⟩, (zb_in 599 (by decide +kernel) rfl), (zb_in 40 (by decide +kernel) rfl), by decide +kernel, rfl, by decide⟩
abbrev K_X4_countNamesakes : zb_F × List Nat := (F_X4_countNamesakes, [4, 99])
abbrev F_X4_lengthenRows : zb_F := (RX4, yX4_lengthenRows, cX4_lengthenRows, 2, (none))
theorem gd_X4_lengthenRows : zb_gd F_X4_lengthenRows 0 := ⟨⟨by decide +kernel, by decide +kernel, by decide +kernel⟩, (zb_in 557 (by decide +kernel) rfl), (zb_in 40 (by decide +kernel) rfl), by decide +kernel, rfl, by decide⟩
abbrev K_X4_lengthenRows : zb_F × List Nat := (F_X4_lengthenRows, [4])
abbrev F_X4_exchange : zb_F := (RX4, yX4_exchange, cX4_exchange, 4, (none))
theorem gd_X4_exchange : zb_gd F_X4_exchange 2 := ⟨⟨by decide +kernel, by decide +kernel, by decide +kernel⟩, (zb_in 562 (by decide +kernel) rfl), (zb_in 40 (by decide +kernel) rfl), by decide +kernel, rfl, by decide⟩
abbrev K_X4_exchange : zb_F × List Nat := (F_X4_exchange, [4, 99, 99])
abbrev F_X4_exchangeIn : zb_F := (RX4, yX4_exchangeIn, cX4_exchangeIn, 4, (none))
theorem gd_X4_exchangeIn : zb_gd F_X4_exchangeIn 3 := ⟨⟨by decide +kernel, by decide +kernel, by decide +kernel⟩, (zb_in 565 (by decide +kernel) rfl), (zb_in 40 (by decide +kernel) rfl), by decide +kernel, rfl, by decide⟩
abbrev K_X4_exchangeIn : zb_F × List Nat := (F_X4_exchangeIn, [13, 99, 99])
abbrev F_X4_become : zb_F := (RX4, yX4_become, cX4_become, 2, (none))
theorem gd_X4_become : zb_gd F_X4_become 1 := ⟨⟨by decide +kernel, by decide +kernel, by decide +kernel⟩, (zb_in 488 (by decide +kernel) rfl), (zb_in 40 (by decide +kernel) rfl), by decide +kernel, rfl, by decide⟩
abbrev K_X4_become : zb_F × List Nat := (F_X4_become, [4, 4])
abbrev F_X4_becomeNamed : zb_F := (RX4, yX4_becomeNamed, cX4_becomeNamed, 4, (none))
theorem gd_X4_becomeNamed : zb_gd F_X4_becomeNamed 1 := ⟨⟨by decide +kernel, by decide +kernel, by decide +kernel⟩, (zb_in 985 (by decide +kernel) rfl), (zb_in 40 (by decide +kernel) rfl), by decide +kernel, rfl, by decide⟩
abbrev K_X4_becomeNamed : zb_F × List Nat := (F_X4_becomeNamed, [4, 3])
abbrev F_X5_init : zb_F := (RX5, yX5_init, cX5_init, 1, (none))
theorem gd_X5_init : zb_gd F_X5_init 0 := ⟨⟨by decide +kernel, by decide +kernel, by decide +kernel⟩, (zb_in 192 (by decide +kernel) rfl), (zb_in 45 (by decide +kernel) rfl), by decide +kernel, rfl, by decide⟩
abbrev F_X5_gather : zb_F := (RX5, yX5_gather, cX5_gather, 3, (none))
theorem gd_X5_gather : zb_gd F_X5_gather 1 := ⟨⟨by decide +kernel, by decide +kernel, by decide +kernel⟩, (zb_in 646 (by decide +kernel) rfl), (zb_in 45 (by decide +kernel) rfl), by decide +kernel, rfl, by decide⟩
abbrev K_X5_gather : zb_F × List Nat := (F_X5_gather, [5, 99])
abbrev F_X5_become : zb_F := (RX5, yX5_become, cX5_become, 2, (none))
theorem gd_X5_become : zb_gd F_X5_become 1 := ⟨⟨by decide +kernel, by decide +kernel, by decide +kernel⟩, (zb_in 745 (by decide +kernel) rfl), (zb_in 45 (by decide +kernel) rfl), by decide +kernel, rfl, by decide⟩
abbrev K_X5_become : zb_F × List Nat := (F_X5_become, [5, 5])
abbrev F_X5_isAlone : zb_F := (RX5, yX5_isAlone, cX5_isAlone, 2, (some FieldType.boolean))
theorem gd_X5_isAlone : zb_gd F_X5_isAlone 1 := ⟨⟨by decide +kernel, by decide +kernel, by decide +kernel⟩, (zb_in 671 (by decide +kernel) rfl), (zb_in 45 (by decide +kernel) rfl), by decide +kernel, rfl, by decide⟩
abbrev K_X5_isAlone : zb_F × List Nat := (F_X5_isAlone, [5, 99])
abbrev F_X5_isAllAlone : zb_F := (RX5, yX5_isAllAlone, cX5_isAllAlone, 1, (some FieldType.boolean))
theorem gd_X5_isAllAlone : zb_gd F_X5_isAllAlone 0 := ⟨⟨by decide +kernel, by decide +kernel, by decide +kernel⟩, (zb_in 663 (by decide +kernel) rfl), (zb_in 45 (by decide +kernel) rfl), by decide +kernel, rfl, by decide⟩
abbrev K_X5_isAllAlone : zb_F × List Nat := (F_X5_isAllAlone, [5])
abbrev F_X5_firstBigHeap : zb_F := (RX5, yX5_firstBigHeap, cX5_firstBigHeap, 2, (some FieldType.int))
theorem gd_X5_firstBigHeap : zb_gd F_X5_firstBigHeap 0 := ⟨⟨by decide +kernel, by decide +kernel, by decide +kernel⟩, (zb_in 737 (by decide +kernel) rfl), (zb_in 45 (by decide +kernel) rfl), by decide +kernel, rfl, by decide⟩
abbrev K_X5_firstBigHeap : zb_F × List Nat := (F_X5_firstBigHeap, [5])
abbrev F_X5_firstNotAlone : zb_F := (RX5, yX5_firstNotAlone, cX5_firstNotAlone, 2, (some FieldType.int))
theorem gd_X5_firstNotAlone : zb_gd F_X5_firstNotAlone 0 := ⟨⟨by decide +kernel, by decide +kernel, by decide +kernel⟩, (zb_in 861 (by decide +kernel) rfl), (zb_in 45 (by decide +kernel) rfl), by decide +kernel, rfl, by decide⟩
abbrev K_X5_firstNotAlone : zb_F × List Nat := (F_X5_firstNotAlone, [5])
abbrev F_X5_setApart : zb_F := (RX5, yX5_setApart, cX5_setApart, 4, (none))
theorem gd_X5_setApart : zb_gd F_X5_setApart 1 := ⟨⟨by decide +kernel, by decide +kernel, by decide +kernel⟩, (zb_in 684 (by decide +kernel) rfl), (zb_in 45 (by decide +kernel) rfl), by decide +kernel, rfl, by decide⟩
abbrev K_X5_setApart : zb_F × List Nat := (F_X5_setApart, [5, 99])
abbrev F_X5_moveAhead : zb_F := (RX5, yX5_moveAhead, cX5_moveAhead, 4, (none))
theorem gd_X5_moveAhead : zb_gd F_X5_moveAhead 1 := ⟨⟨by decide +kernel, by decide +kernel, by decide +kernel⟩, (zb_in 689 (by decide +kernel) rfl), (zb_in 45 (by decide +kernel) rfl), by decide +kernel, rfl, by decide⟩
abbrev K_X5_moveAhead : zb_F × List Nat := (F_X5_moveAhead, [5, 99])
abbrev F_X5_hasHeapsLike : zb_F := (RX5, yX5_hasHeapsLike, cX5_hasHeapsLike, 3, (some FieldType.boolean))
theorem gd_X5_hasHeapsLike : zb_gd F_X5_hasHeapsLike 1 := ⟨⟨by decide +kernel, by decide +kernel, by decide +kernel⟩, (zb_in 857 (by decide +kernel) rfl), (zb_in 45 (by decide +kernel) rfl), by decide +kernel, rfl, by decide⟩
abbrev K_X5_hasHeapsLike : zb_F × List Nat := (F_X5_hasHeapsLike, [5, 5])
abbrev F_X6_init : zb_F := (RX6, yX6_init, cX6_init, 1, (none))
theorem gd_X6_init : zb_gd F_X6_init 0 := ⟨⟨by decide +kernel, by decide +kernel, by decide +kernel⟩, (zb_in 122 (by decide +kernel) rfl), (zb_in 41 (by decide +kernel) rfl), by decide +kernel, rfl, by decide⟩
abbrev F_X6_take : zb_F := (RX6, yX6_take, cX6_take, 4, (none))
theorem gd_X6_take : zb_gd F_X6_take 1 := ⟨⟨by decide +kernel, by decide +kernel, by decide +kernel⟩, (zb_in 628 (by decide +kernel) rfl), (zb_in 41 (by decide +kernel) rfl), by decide +kernel, rfl, by decide⟩
abbrev K_X6_take : zb_F × List Nat := (F_X6_take, [6, 4])
abbrev F_X6_takePairs : zb_F := (RX6, yX6_takePairs, cX6_takePairs, 6, (none))
theorem gd_X6_takePairs : zb_gd F_X6_takePairs 2 := ⟨⟨by decide +kernel, by decide +kernel, by decide +kernel⟩, (zb_in 966 (by decide +kernel) rfl), (zb_in 41 (by decide +kernel) rfl), by decide +kernel, rfl, by decide⟩
abbrev K_X6_takePairs : zb_F × List Nat := (F_X6_takePairs, [6, 99, 99])
abbrev F_X6_addThing : zb_F := (RX6, yX6_addThing, cX6_addThing, 3, (none))
theorem gd_X6_addThing : zb_gd F_X6_addThing 2 := ⟨⟨by decide +kernel, by decide +kernel, by decide +kernel⟩, (zb_in 633 (by decide +kernel) rfl), (zb_in 41 (by decide +kernel) rfl), by decide +kernel, rfl, by decide⟩
abbrev K_X6_addThing : zb_F × List Nat := (F_X6_addThing, [6, 99, 99])
abbrev F_X6_setLine : zb_F := (RX6, yX6_setLine, cX6_setLine, 4, (none))
theorem gd_X6_setLine : zb_gd F_X6_setLine 3 := ⟨⟨by decide +kernel, by decide +kernel, by decide +kernel⟩, (zb_in 638 (by decide +kernel) rfl), (zb_in 41 (by decide +kernel) rfl), by decide +kernel, rfl, by decide⟩
abbrev K_X6_setLine : zb_F × List Nat := (F_X6_setLine, [6, 99, 99, 99])
abbrev F_X6_lineFrom : zb_F := (RX6, yX6_lineFrom, cX6_lineFrom, 3, (some FieldType.int))
theorem gd_X6_lineFrom : zb_gd F_X6_lineFrom 2 := ⟨⟨by decide +kernel, by decide +kernel, by decide +kernel⟩, (zb_in 714 (by decide +kernel) rfl), (zb_in 41 (by decide +kernel) rfl), by decide +kernel, rfl, by decide⟩
abbrev K_X6_lineFrom : zb_F × List Nat := (F_X6_lineFrom, [6, 99, 99])
abbrev F_X6_indexOf : zb_F := (RX6, yX6_indexOf, cX6_indexOf, 2, (some FieldType.int))
theorem gd_X6_indexOf : zb_gd F_X6_indexOf 1 := ⟨⟨by decide +kernel, by decide +kernel, by decide +kernel⟩, (zb_in 679 (by decide +kernel) rfl), (zb_in 41 (by decide +kernel) rfl), by decide +kernel, rfl, by decide⟩
abbrev K_X6_indexOf : zb_F × List Nat := (F_X6_indexOf, [6, 99])
abbrev F_X6_areTwins : zb_F := (RX6, yX6_areTwins, cX6_areTwins, 4, (some FieldType.boolean))
theorem gd_X6_areTwins : zb_gd F_X6_areTwins 2 := ⟨⟨by decide +kernel, by decide +kernel, by decide +kernel⟩, (zb_in 710 (by decide +kernel) rfl), (zb_in 41 (by decide +kernel) rfl), by decide +kernel, rfl, by decide⟩
abbrev K_X6_areTwins : zb_F × List Nat := (F_X6_areTwins, [6, 99, 99])
abbrev F_X6_isTurning : zb_F := (RX6, yX6_isTurning, cX6_isTurning, 4, (some FieldType.boolean))
theorem gd_X6_isTurning : zb_gd F_X6_isTurning 1 := ⟨⟨by decide +kernel, by decide +kernel, by decide +kernel⟩, (zb_in 869 (by decide +kernel) rfl), (zb_in 41 (by decide +kernel) rfl), by decide +kernel, rfl, by decide⟩
abbrev K_X6_isTurning : zb_F × List Nat := (F_X6_isTurning, [6, 13])
abbrev F_X7_init : zb_F := (RX7, yX7_init, cX7_init, 1, (none))
theorem gd_X7_init : zb_gd F_X7_init 0 := ⟨⟨by decide +kernel, by decide +kernel, by decide +kernel⟩, (zb_in 160 (by decide +kernel) rfl), (zb_in 42 (by decide +kernel) rfl), by decide +kernel, rfl, by decide⟩
abbrev F_X7_begin : zb_F := (RX7, yX7_begin, cX7_begin, 4, (none))
theorem gd_X7_begin : zb_gd F_X7_begin 2 := ⟨⟨by decide +kernel, by decide +kernel, by decide +kernel⟩, (zb_in 642 (by decide +kernel) rfl), (zb_in 42 (by decide +kernel) rfl), by decide +kernel, rfl, by decide⟩
abbrev K_X7_begin : zb_F × List Nat := (F_X7_begin, [7, 5, 6])
abbrev F_X7_settle : zb_F := (RX7, yX7_settle, cX7_settle, 6, (none))
theorem gd_X7_settle : zb_gd F_X7_settle 2 := ⟨⟨by decide +kernel, by decide +kernel, by decide +kernel⟩, (zb_in 659 (by decide +kernel) rfl), (zb_in 42 (by decide +kernel) rfl), by decide +kernel, rfl, by decide⟩
abbrev K_X7_settle : zb_F × List Nat := (F_X7_settle, [7, 5, 6])
abbrev F_X7_look : zb_F := (RX7, yX7_look, cX7_look, 8, (none))
theorem gd_X7_look : zb_gd F_X7_look 2 := ⟨⟨by decide +kernel, by decide +kernel, by decide +kernel⟩, (zb_in 667 (by decide +kernel) rfl), (zb_in 42 (by decide +kernel) rfl), by decide +kernel, rfl, by decide⟩
abbrev K_X7_look : zb_F × List Nat := (F_X7_look, [7, 5, 6])
abbrev F_X7_divide : zb_F := (RX7, yX7_divide, cX7_divide, 10, (none))
theorem gd_X7_divide : zb_gd F_X7_divide 1 := ⟨⟨by decide +kernel, by decide +kernel, by decide +kernel⟩, (zb_in 650 (by decide +kernel) rfl), (zb_in 42 (by decide +kernel) rfl), by decide +kernel, rfl, by decide⟩
abbrev K_X7_divide : zb_F × List Nat := (F_X7_divide, [7, 5])
abbrev F_X7_compare : zb_F := (RX7, yX7_compare, cX7_compare, 8, (some FieldType.int))
theorem gd_X7_compare : zb_gd F_X7_compare 2 := ⟨⟨by decide +kernel, by decide +kernel, by decide +kernel⟩, (zb_in 654 (by decide +kernel) rfl), (zb_in 42 (by decide +kernel) rfl), by decide +kernel, rfl, by decide⟩
abbrev K_X7_compare : zb_F × List Nat := (F_X7_compare, [7, 99, 99])
abbrev F_X8_init : zb_F := (RX8, yX8_init, cX8_init, 2, (none))
theorem gd_X8_init : zb_gd F_X8_init 1 := ⟨⟨by decide +kernel, by decide +kernel, by decide +kernel⟩, (zb_in 179 (by decide +kernel) rfl), (zb_in 43 (by decide +kernel) rfl), by decide +kernel, rfl, by decide⟩
abbrev F_X8_findName : zb_F := (RX8, yX8_findName, cX8_findName, 3, (some FieldType.boolean))
theorem gd_X8_findName : zb_gd F_X8_findName 2 := ⟨⟨by decide +kernel, by decide +kernel, by decide +kernel⟩, (zb_in 702 (by decide +kernel) rfl), (zb_in 43 (by decide +kernel) rfl), by decide +kernel, rfl, by decide⟩
abbrev K_X8_findName : zb_F × List Nat := (F_X8_findName, [8, 6, 3])
abbrev F_X8_findTwins : zb_F := (RX8, yX8_findTwins, cX8_findTwins, 3, (none))
theorem gd_X8_findTwins : zb_gd F_X8_findTwins 0 := ⟨⟨by decide +kernel, by decide +kernel, by decide +kernel⟩, (zb_in 706 (by decide +kernel) rfl), (zb_in 43 (by decide +kernel) rfl), by decide +kernel, rfl, by decide⟩
abbrev K_X8_findTwins : zb_F × List Nat := (F_X8_findTwins, [8])
abbrev F_X8_grow : zb_F := (RX8, yX8_grow, cX8_grow, 6, (none))
theorem gd_X8_grow : zb_gd F_X8_grow 2 := ⟨⟨by decide +kernel, by decide +kernel, by decide +kernel⟩, (zb_in 718 (by decide +kernel) rfl), (zb_in 43 (by decide +kernel) rfl), by decide +kernel, rfl, by decide⟩
abbrev K_X8_grow : zb_F × List Nat := (F_X8_grow, [8, 99])
abbrev F_X8_hasLesserTwin : zb_F := (RX8, yX8_hasLesserTwin, cX8_hasLesserTwin, 4, (some FieldType.boolean))
theorem gd_X8_hasLesserTwin : zb_gd F_X8_hasLesserTwin 2 := ⟨⟨by decide +kernel, by decide +kernel, by decide +kernel⟩, (zb_in 741 (by decide +kernel) rfl), (zb_in 43 (by decide +kernel) rfl), by decide +kernel, rfl, by decide⟩
abbrev K_X8_hasLesserTwin : zb_F × List Nat := (F_X8_hasLesserTwin, [8, 5, 99])
abbrev F_X8_addLeaf : zb_F := (RX8, yX8_addLeaf, cX8_addLeaf, 3, (none))
theorem gd_X8_addLeaf : zb_gd F_X8_addLeaf 1 := ⟨⟨by decide +kernel, by decide +kernel, by decide +kernel⟩, (zb_in 723 (by decide +kernel) rfl), (zb_in 43 (by decide +kernel) rfl), by decide +kernel, rfl, by decide⟩
abbrev K_X8_addLeaf : zb_F × List Nat := (F_X8_addLeaf, [8, 5])
abbrev F_X8_writeRow : zb_F := (RX8, yX8_writeRow, cX8_writeRow, 6, (none))
theorem gd_X8_writeRow : zb_gd F_X8_writeRow 1 := ⟨⟨by decide +kernel, by decide +kernel, by decide +kernel⟩, (zb_in 727 (by decide +kernel) rfl), (zb_in 43 (by decide +kernel) rfl), by decide +kernel, rfl, by decide⟩
abbrev K_X8_writeRow : zb_F × List Nat := (F_X8_writeRow, [8, 5])
abbrev F_X8_isRowLess : zb_F := (RX8, yX8_isRowLess, cX8_isRowLess, 2, (some FieldType.boolean))
theorem gd_X8_isRowLess : zb_gd F_X8_isRowLess 0 := ⟨⟨by decide +kernel, by decide +kernel, by decide +kernel⟩, (zb_in 732 (by decide +kernel) rfl), (zb_in 43 (by decide +kernel) rfl), by decide +kernel, rfl, by decide⟩
abbrev K_X8_isRowLess : zb_F × List Nat := (F_X8_isRowLess, [8])
abbrev F_X9_init : zb_F := (RX9, yX9_init, cX9_init, 2, (none))
theorem gd_X9_init : zb_gd F_X9_init 1 := ⟨⟨by decide +kernel, by decide +kernel, by decide +kernel⟩, (zb_in 250 (by decide +kernel) rfl), (zb_in 46 (by decide +kernel) rfl), by decide +kernel, rfl, by decide⟩
abbrev F_X9_findLeast : zb_F := (RX9, yX9_findLeast, cX9_findLeast, 4, (some FieldType.boolean))
theorem gd_X9_findLeast : zb_gd F_X9_findLeast 3 := ⟨⟨by decide +kernel, by decide +kernel, by decide +kernel⟩, (zb_in 894 (by decide +kernel) rfl), (zb_in 46 (by decide +kernel) rfl), by decide +kernel, rfl, by decide⟩
abbrev K_X9_findLeast : zb_F × List Nat := (F_X9_findLeast, [9, 6, 99, 99])
abbrev F_X9_findMakers : zb_F := (RX9, yX9_findMakers, cX9_findMakers, 4, (none))
theorem gd_X9_findMakers : zb_gd F_X9_findMakers 1 := ⟨⟨by decide +kernel, by decide +kernel, by decide +kernel⟩, (zb_in 834 (by decide +kernel) rfl), (zb_in 46 (by decide +kernel) rfl), by decide +kernel, rfl, by decide⟩
abbrev K_X9_findMakers : zb_F × List Nat := (F_X9_findMakers, [9, 6])
abbrev F_X9_markAhead : zb_F := (RX9, yX9_markAhead, cX9_markAhead, 2, (none))
theorem gd_X9_markAhead : zb_gd F_X9_markAhead 0 := ⟨⟨by decide +kernel, by decide +kernel, by decide +kernel⟩, (zb_in 838 (by decide +kernel) rfl), (zb_in 46 (by decide +kernel) rfl), by decide +kernel, rfl, by decide⟩
abbrev K_X9_markAhead : zb_F × List Nat := (F_X9_markAhead, [9])
abbrev F_X9_addMaker : zb_F := (RX9, yX9_addMaker, cX9_addMaker, 2, (none))
theorem gd_X9_addMaker : zb_gd F_X9_addMaker 0 := ⟨⟨by decide +kernel, by decide +kernel, by decide +kernel⟩, (zb_in 873 (by decide +kernel) rfl), (zb_in 46 (by decide +kernel) rfl), by decide +kernel, rfl, by decide⟩
abbrev K_X9_addMaker : zb_F × List Nat := (F_X9_addMaker, [9])
abbrev F_X9_joinGroups : zb_F := (RX9, yX9_joinGroups, cX9_joinGroups, 4, (none))
theorem gd_X9_joinGroups : zb_gd F_X9_joinGroups 2 := ⟨⟨by decide +kernel, by decide +kernel, by decide +kernel⟩, (zb_in 878 (by decide +kernel) rfl), (zb_in 46 (by decide +kernel) rfl), by decide +kernel, rfl, by decide⟩
abbrev K_X9_joinGroups : zb_F × List Nat := (F_X9_joinGroups, [9, 99, 99])
abbrev F_X9_countReached : zb_F := (RX9, yX9_countReached, cX9_countReached, 4, (some FieldType.int))
theorem gd_X9_countReached : zb_gd F_X9_countReached 1 := ⟨⟨by decide +kernel, by decide +kernel, by decide +kernel⟩, (zb_in 882 (by decide +kernel) rfl), (zb_in 46 (by decide +kernel) rfl), by decide +kernel, rfl, by decide⟩
abbrev K_X9_countReached : zb_F × List Nat := (F_X9_countReached, [9, 99])
abbrev F_X9_isLed : zb_F := (RX9, yX9_isLed, cX9_isLed, 4, (some FieldType.boolean))
theorem gd_X9_isLed : zb_gd F_X9_isLed 3 := ⟨⟨by decide +kernel, by decide +kernel, by decide +kernel⟩, (zb_in 846 (by decide +kernel) rfl), (zb_in 46 (by decide +kernel) rfl), by decide +kernel, rfl, by decide⟩
abbrev K_X9_isLed : zb_F × List Nat := (F_X9_isLed, [9, 5, 99, 99])
abbrev F_X9_markInto : zb_F := (RX9, yX9_markInto, cX9_markInto, 4, (none))
theorem gd_X9_markInto : zb_gd F_X9_markInto 3 := ⟨⟨by decide +kernel, by decide +kernel, by decide +kernel⟩, (zb_in 850 (by decide +kernel) rfl), (zb_in 46 (by decide +kernel) rfl), by decide +kernel, rfl, by decide⟩
abbrev K_X9_markInto : zb_F × List Nat := (F_X9_markInto, [9, 5, 5, 99])
abbrev F_X9_extend : zb_F := (RX9, yX9_extend, cX9_extend, 6, (some FieldType.boolean))
theorem gd_X9_extend : zb_gd F_X9_extend 2 := ⟨⟨by decide +kernel, by decide +kernel, by decide +kernel⟩, (zb_in 853 (by decide +kernel) rfl), (zb_in 46 (by decide +kernel) rfl), by decide +kernel, rfl, by decide⟩
abbrev K_X9_extend : zb_F × List Nat := (F_X9_extend, [9, 99])
abbrev F_X9_readImage : zb_F := (RX9, yX9_readImage, cX9_readImage, 4, (some FieldType.boolean))
theorem gd_X9_readImage : zb_gd F_X9_readImage 2 := ⟨⟨by decide +kernel, by decide +kernel, by decide +kernel⟩, (zb_in 865 (by decide +kernel) rfl), (zb_in 46 (by decide +kernel) rfl), by decide +kernel, rfl, by decide⟩
abbrev K_X9_readImage : zb_F × List Nat := (F_X9_readImage, [9, 5, 5])
abbrev F_X10_init : zb_F := (RX10, yX10_init, cX10_init, 1, (none))
theorem gd_X10_init : zb_gd F_X10_init 0 := ⟨⟨by decide +kernel, by decide +kernel, by decide +kernel⟩, (zb_in 382 (by decide +kernel) rfl), (zb_in 49 (by decide +kernel) rfl), by decide +kernel, rfl, by decide⟩
abbrev F_X10_begin : zb_F := (RX10, yX10_begin, cX10_begin, 2, (none))
theorem gd_X10_begin : zb_gd F_X10_begin 0 := ⟨⟨by decide +kernel, by decide +kernel, by decide +kernel⟩, (zb_in 791 (by decide +kernel) rfl), (zb_in 49 (by decide +kernel) rfl), by decide +kernel, rfl, by decide⟩
abbrev K_X10_begin : zb_F × List Nat := (F_X10_begin, [10])
abbrev F_X10_takeOrders : zb_F := (RX10, yX10_takeOrders, cX10_takeOrders, 4, (none))
theorem gd_X10_takeOrders : zb_gd F_X10_takeOrders 2 := ⟨⟨by decide +kernel, by decide +kernel, by decide +kernel⟩, (zb_in 787 (by decide +kernel) rfl), (zb_in 49 (by decide +kernel) rfl), by decide +kernel, rfl, by decide⟩
abbrev K_X10_takeOrders : zb_F × List Nat := (F_X10_takeOrders, [10, 3, 3])
abbrev F_X10_take : zb_F := (RX10, yX10_take, cX10_take, 5, (none))
theorem gd_X10_take : zb_gd F_X10_take 3 := ⟨⟨by decide +kernel, by decide +kernel, by decide +kernel⟩, (zb_in 898 (by decide +kernel) rfl), (zb_in 49 (by decide +kernel) rfl), by decide +kernel, rfl, by decide⟩
abbrev K_X10_take : zb_F × List Nat := (F_X10_take, [10, 6, 13, 99])
abbrev F_X10_leadsFrom : zb_F := (RX10, yX10_leadsFrom, cX10_leadsFrom, 2, (some FieldType.boolean))
theorem gd_X10_leadsFrom : zb_gd F_X10_leadsFrom 1 := ⟨⟨by decide +kernel, by decide +kernel, by decide +kernel⟩, (zb_in 911 (by decide +kernel) rfl), (zb_in 49 (by decide +kernel) rfl), by decide +kernel, rfl, by decide⟩
abbrev K_X10_leadsFrom : zb_F × List Nat := (F_X10_leadsFrom, [10, 99])
abbrev F_X10_isWithin : zb_F := (RX10, yX10_isWithin, cX10_isWithin, 3, (some FieldType.boolean))
theorem gd_X10_isWithin : zb_gd F_X10_isWithin 1 := ⟨⟨by decide +kernel, by decide +kernel, by decide +kernel⟩, (zb_in 928 (by decide +kernel) rfl), (zb_in 49 (by decide +kernel) rfl), by decide +kernel, rfl, by decide⟩
abbrev K_X10_isWithin : zb_F × List Nat := (F_X10_isWithin, [10, 10])
abbrev F_X10_goOnBy : zb_F := (RX10, yX10_goOnBy, cX10_goOnBy, 3, (none))
theorem gd_X10_goOnBy : zb_gd F_X10_goOnBy 1 := ⟨⟨by decide +kernel, by decide +kernel, by decide +kernel⟩, (zb_in 933 (by decide +kernel) rfl), (zb_in 49 (by decide +kernel) rfl), by decide +kernel, rfl, by decide⟩
abbrev K_X10_goOnBy : zb_F × List Nat := (F_X10_goOnBy, [10, 10])
abbrev F_X11_init : zb_F := (RX11, yX11_init, cX11_init, 2, (none))
theorem gd_X11_init : zb_gd F_X11_init 0 := ⟨⟨by decide +kernel, by decide +kernel, by decide +kernel⟩, (zb_in 58 (by decide +kernel) rfl), (zb_in 38 (by decide +kernel) rfl), by decide +kernel, rfl, by decide⟩
abbrev F_X11_thing : zb_F := (RX11, yX11_thing, cX11_thing, 5, (some FieldType.int))
theorem gd_X11_thing : zb_gd F_X11_thing 4 := ⟨⟨by decide +kernel, by decide +kernel, by decide +kernel⟩, (zb_in 467 (by decide +kernel) rfl), (zb_in 38 (by decide +kernel) rfl), by decide +kernel, rfl, by decide⟩
abbrev K_X11_thing : zb_F × List Nat := (F_X11_thing, [11, 99, 99, 99, 99])
abbrev F_X11_colour : zb_F := (RX11, yX11_colour, cX11_colour, 5, (some FieldType.int))
theorem gd_X11_colour : zb_gd F_X11_colour 3 := ⟨⟨by decide +kernel, by decide +kernel, by decide +kernel⟩, (zb_in 507 (by decide +kernel) rfl), (zb_in 38 (by decide +kernel) rfl), by decide +kernel, rfl, by decide⟩
abbrev K_X11_colour : zb_F × List Nat := (F_X11_colour, [11, 99, 99, 99])
abbrev F_X11_word : zb_F := (RX11, yX11_word, cX11_word, 5, (some FieldType.int))
theorem gd_X11_word : zb_gd F_X11_word 3 := ⟨⟨by decide +kernel, by decide +kernel, by decide +kernel⟩, (zb_in 515 (by decide +kernel) rfl), (zb_in 38 (by decide +kernel) rfl), by decide +kernel, rfl, by decide⟩
abbrev K_X11_word : zb_F × List Nat := (F_X11_word, [11, 99, 99, 99])
abbrev F_X11_row : zb_F := (RX11, yX11_row, cX11_row, 4, (some FieldType.int))
theorem gd_X11_row : zb_gd F_X11_row 3 := ⟨⟨by decide +kernel, by decide +kernel, by decide +kernel⟩, (zb_in 523 (by decide +kernel) rfl), (zb_in 38 (by decide +kernel) rfl), by decide +kernel, rfl, by decide⟩
abbrev K_X11_row : zb_F × List Nat := (F_X11_row, [11, 99, 99, 99])
abbrev F_X11_unrow : zb_F := (RX11, yX11_unrow, cX11_unrow, 4, (some FieldType.int))
theorem gd_X11_unrow : zb_gd F_X11_unrow 2 := ⟨⟨by decide +kernel, by decide +kernel, by decide +kernel⟩, (zb_in 528 (by decide +kernel) rfl), (zb_in 38 (by decide +kernel) rfl), by decide +kernel, rfl, by decide⟩
abbrev K_X11_unrow : zb_F × List Nat := (F_X11_unrow, [11, 99, 99])
abbrev F_X11_place : zb_F := (RX11, yX11_place, cX11_place, 7, (some FieldType.int))
theorem gd_X11_place : zb_gd F_X11_place 4 := ⟨⟨by decide +kernel, by decide +kernel, by decide +kernel⟩, (zb_in 536 (by decide +kernel) rfl), (zb_in 38 (by decide +kernel) rfl), by decide +kernel, rfl, by decide⟩
abbrev K_X11_place : zb_F × List Nat := (F_X11_place, [11, 99, 99, 99, 99])
abbrev F_X11_line : zb_F := (RX11, yX11_line, cX11_line, 4, (some FieldType.int))
theorem gd_X11_line : zb_gd F_X11_line 3 := ⟨⟨by decide +kernel, by decide +kernel, by decide +kernel⟩, (zb_in 544 (by decide +kernel) rfl), (zb_in 38 (by decide +kernel) rfl), by decide +kernel, rfl, by decide⟩
abbrev K_X11_line : zb_F × List Nat := (F_X11_line, [11, 99, 99, 99])
abbrev F_X11_copy : zb_F := (RX11, yX11_copy, cX11_copy, 10, (some FieldType.int))
theorem gd_X11_copy : zb_gd F_X11_copy 7 := ⟨⟨by decide +kernel, by decide +kernel, by decide +kernel⟩, (zb_in 548 (by decide +kernel) rfl), (zb_in 38 (by decide +kernel) rfl), by decide +kernel, rfl, by decide⟩
abbrev K_X11_copy : zb_F × List Nat := (F_X11_copy, [11, 99, 99, 99, 99, 99, 99, 99])
abbrev F_X11_swap : zb_F := (RX11, yX11_swap, cX11_swap, 4, (some FieldType.int))
theorem gd_X11_swap : zb_gd F_X11_swap 3 := ⟨⟨by decide +kernel, by decide +kernel, by decide +kernel⟩, (zb_in 553 (by decide +kernel) rfl), (zb_in 38 (by decide +kernel) rfl), by decide +kernel, rfl, by decide⟩
abbrev K_X11_swap : zb_F × List Nat := (F_X11_swap, [11, 99, 99, 99])
abbrev F_X11_twin : zb_F := (RX11, yX11_twin, cX11_twin, 3, (some FieldType.int))
theorem gd_X11_twin : zb_gd F_X11_twin 2 := ⟨⟨by decide +kernel, by decide +kernel, by decide +kernel⟩, (zb_in 569 (by decide +kernel) rfl), (zb_in 38 (by decide +kernel) rfl), by decide +kernel, rfl, by decide⟩
abbrev K_X11_twin : zb_F × List Nat := (F_X11_twin, [11, 99, 99])
abbrev F_X11_drop : zb_F := (RX11, yX11_drop, cX11_drop, 3, (some FieldType.int))
theorem gd_X11_drop : zb_gd F_X11_drop 1 := ⟨⟨by decide +kernel, by decide +kernel, by decide +kernel⟩, (zb_in 574 (by decide +kernel) rfl), (zb_in 38 (by decide +kernel) rfl), by decide +kernel, rfl, by decide⟩
abbrev K_X11_drop : zb_F × List Nat := (F_X11_drop, [11, 99])
abbrev F_X11_told : zb_F := (RX11, yX11_told, cX11_told, 5, (some FieldType.int))
theorem gd_X11_told : zb_gd F_X11_told 3 := ⟨⟨by decide +kernel, by decide +kernel, by decide +kernel⟩, (zb_in 578 (by decide +kernel) rfl), (zb_in 38 (by decide +kernel) rfl), by decide +kernel, rfl, by decide⟩
abbrev K_X11_told : zb_F × List Nat := (F_X11_told, [11, 99, 99, 99])
abbrev F_X11_count : zb_F := (RX11, yX11_count, cX11_count, 3, (some FieldType.int))
theorem gd_X11_count : zb_gd F_X11_count 2 := ⟨⟨by decide +kernel, by decide +kernel, by decide +kernel⟩, (zb_in 587 (by decide +kernel) rfl), (zb_in 38 (by decide +kernel) rfl), by decide +kernel, rfl, by decide⟩
abbrev K_X11_count : zb_F × List Nat := (F_X11_count, [11, 99, 99])
abbrev F_X11_undo : zb_F := (RX11, yX11_undo, cX11_undo, 2, (some FieldType.int))
theorem gd_X11_undo : zb_gd F_X11_undo 0 := ⟨⟨by decide +kernel, by decide +kernel, by decide +kernel⟩, (zb_in 603 (by decide +kernel) rfl), (zb_in 38 (by decide +kernel) rfl), by decide +kernel, rfl, by decide⟩
abbrev K_X11_undo : zb_F × List Nat := (F_X11_undo, [11])
abbrev F_X11_split : zb_F := (RX11, yX11_split, cX11_split, 2, (some FieldType.int))
theorem gd_X11_split : zb_gd F_X11_split 1 := ⟨⟨by decide +kernel, by decide +kernel, by decide +kernel⟩, (zb_in 624 (by decide +kernel) rfl), (zb_in 38 (by decide +kernel) rfl), by decide +kernel, rfl, by decide⟩
abbrev K_X11_split : zb_F × List Nat := (F_X11_split, [11, 99])
abbrev F_X11_mark : zb_F := (RX11, yX11_mark, cX11_mark, 3, (some FieldType.int))
theorem gd_X11_mark : zb_gd F_X11_mark 1 := ⟨⟨by decide +kernel, by decide +kernel, by decide +kernel⟩, (zb_in 675 (by decide +kernel) rfl), (zb_in 38 (by decide +kernel) rfl), by decide +kernel, rfl, by decide⟩
abbrev K_X11_mark : zb_F × List Nat := (F_X11_mark, [11, 99])
abbrev F_X11_heapOf : zb_F := (RX11, yX11_heapOf, cX11_heapOf, 3, (some FieldType.int))
theorem gd_X11_heapOf : zb_gd F_X11_heapOf 1 := ⟨⟨by decide +kernel, by decide +kernel, by decide +kernel⟩, (zb_in 694 (by decide +kernel) rfl), (zb_in 38 (by decide +kernel) rfl), by decide +kernel, rfl, by decide⟩
abbrev K_X11_heapOf : zb_F × List Nat := (F_X11_heapOf, [11, 99])
abbrev F_X11_name : zb_F := (RX11, yX11_name, cX11_name, 2, (some FieldType.int))
theorem gd_X11_name : zb_gd F_X11_name 1 := ⟨⟨by decide +kernel, by decide +kernel, by decide +kernel⟩, (zb_in 698 (by decide +kernel) rfl), (zb_in 38 (by decide +kernel) rfl), by decide +kernel, rfl, by decide⟩
abbrev K_X11_name : zb_F × List Nat := (F_X11_name, [11, 99])
abbrev F_X11_nameAt : zb_F := (RX11, yX11_nameAt, cX11_nameAt, 2, (some FieldType.int))
theorem gd_X11_nameAt : zb_gd F_X11_nameAt 1 := ⟨⟨by decide +kernel, by decide +kernel, by decide +kernel⟩, (zb_in 752 (by decide +kernel) rfl), (zb_in 38 (by decide +kernel) rfl), by decide +kernel, rfl, by decide⟩
abbrev K_X11_nameAt : zb_F × List Nat := (F_X11_nameAt, [11, 99])
abbrev F_X11_order : zb_F := (RX11, yX11_order, cX11_order, 2, (some FieldType.int))
theorem gd_X11_order : zb_gd F_X11_order 1 := ⟨⟨by decide +kernel, by decide +kernel, by decide +kernel⟩, (zb_in 756 (by decide +kernel) rfl), (zb_in 38 (by decide +kernel) rfl), by decide +kernel, rfl, by decide⟩
abbrev K_X11_order : zb_F × List Nat := (F_X11_order, [11, 99])
abbrev F_X11_nodes : zb_F := (RX11, yX11_nodes, cX11_nodes, 1, (some FieldType.int))
theorem gd_X11_nodes : zb_gd F_X11_nodes 0 := ⟨⟨by decide +kernel, by decide +kernel, by decide +kernel⟩, (zb_in 760 (by decide +kernel) rfl), (zb_in 38 (by decide +kernel) rfl), by decide +kernel, rfl, by decide⟩
abbrev K_X11_nodes : zb_F × List Nat := (F_X11_nodes, [11])
abbrev F_X11_same : zb_F := (RX11, yX11_same, cX11_same, 3, (some FieldType.int))
theorem gd_X11_same : zb_gd F_X11_same 2 := ⟨⟨by decide +kernel, by decide +kernel, by decide +kernel⟩, (zb_in 764 (by decide +kernel) rfl), (zb_in 38 (by decide +kernel) rfl), by decide +kernel, rfl, by decide⟩
abbrev K_X11_same : zb_F × List Nat := (F_X11_same, [11, 99, 99])
abbrev F_X11_unlike : zb_F := (RX11, yX11_unlike, cX11_unlike, 3, (some FieldType.int))
theorem gd_X11_unlike : zb_gd F_X11_unlike 2 := ⟨⟨by decide +kernel, by decide +kernel, by decide +kernel⟩, (zb_in 795 (by decide +kernel) rfl), (zb_in 38 (by decide +kernel) rfl), by decide +kernel, rfl, by decide⟩
abbrev K_X11_unlike : zb_F × List Nat := (F_X11_unlike, [11, 99, 99])
abbrev F_X11_why : zb_F := (RX11, yX11_why, cX11_why, 2, (some FieldType.int))
theorem gd_X11_why : zb_gd F_X11_why 1 := ⟨⟨by decide +kernel, by decide +kernel, by decide +kernel⟩, (zb_in 822 (by decide +kernel) rfl), (zb_in 38 (by decide +kernel) rfl), by decide +kernel, rfl, by decide⟩
abbrev K_X11_why : zb_F × List Nat := (F_X11_why, [11, 99])
abbrev F_X11_turnings : zb_F := (RX11, yX11_turnings, cX11_turnings, 6, (some FieldType.long))
theorem gd_X11_turnings : zb_gd F_X11_turnings 1 := ⟨⟨by decide +kernel, by decide +kernel, by decide +kernel⟩, (zb_in 826 (by decide +kernel) rfl), (zb_in 38 (by decide +kernel) rfl), by decide +kernel, rfl, by decide⟩
abbrev K_X11_turnings : zb_F × List Nat := (F_X11_turnings, [11, 99])
abbrev F_X11_chain : zb_F := (RX11, yX11_chain, cX11_chain, 4, (some FieldType.int))
theorem gd_X11_chain : zb_gd F_X11_chain 2 := ⟨⟨by decide +kernel, by decide +kernel, by decide +kernel⟩, (zb_in 886 (by decide +kernel) rfl), (zb_in 38 (by decide +kernel) rfl), by decide +kernel, rfl, by decide⟩
abbrev K_X11_chain : zb_F × List Nat := (F_X11_chain, [11, 99, 99])
abbrev F_X11_where : zb_F := (RX11, yX11_where, cX11_where, 7, (some FieldType.int))
theorem gd_X11_where : zb_gd F_X11_where 3 := ⟨⟨by decide +kernel, by decide +kernel, by decide +kernel⟩, (zb_in 890 (by decide +kernel) rfl), (zb_in 38 (by decide +kernel) rfl), by decide +kernel, rfl, by decide⟩
abbrev K_X11_where : zb_F × List Nat := (F_X11_where, [11, 99, 99, 99])
abbrev F_X11_orbit : zb_F := (RX11, yX11_orbit, cX11_orbit, 5, (some FieldType.int))
theorem gd_X11_orbit : zb_gd F_X11_orbit 2 := ⟨⟨by decide +kernel, by decide +kernel, by decide +kernel⟩, (zb_in 902 (by decide +kernel) rfl), (zb_in 38 (by decide +kernel) rfl), by decide +kernel, rfl, by decide⟩
abbrev K_X11_orbit : zb_F × List Nat := (F_X11_orbit, [11, 99, 99])
abbrev F_X11_by : zb_F := (RX11, yX11_by, cX11_by, 2, (some FieldType.int))
theorem gd_X11_by : zb_gd F_X11_by 1 := ⟨⟨by decide +kernel, by decide +kernel, by decide +kernel⟩, (zb_in 907 (by decide +kernel) rfl), (zb_in 38 (by decide +kernel) rfl), by decide +kernel, rfl, by decide⟩
abbrev K_X11_by : zb_F × List Nat := (F_X11_by, [11, 99])
abbrev F_X11_makers : zb_F := (RX11, yX11_makers, cX11_makers, 4, (some FieldType.int))
theorem gd_X11_makers : zb_gd F_X11_makers 1 := ⟨⟨by decide +kernel, by decide +kernel, by decide +kernel⟩, (zb_in 916 (by decide +kernel) rfl), (zb_in 38 (by decide +kernel) rfl), by decide +kernel, rfl, by decide⟩
abbrev K_X11_makers : zb_F × List Nat := (F_X11_makers, [11, 99])
abbrev F_X11_maker : zb_F := (RX11, yX11_maker, cX11_maker, 3, (some FieldType.int))
theorem gd_X11_maker : zb_gd F_X11_maker 2 := ⟨⟨by decide +kernel, by decide +kernel, by decide +kernel⟩, (zb_in 920 (by decide +kernel) rfl), (zb_in 38 (by decide +kernel) rfl), by decide +kernel, rfl, by decide⟩
abbrev K_X11_maker : zb_F × List Nat := (F_X11_maker, [11, 99, 99])
abbrev F_X11_then : zb_F := (RX11, yX11_then, cX11_then, 2, (some FieldType.int))
theorem gd_X11_then : zb_gd F_X11_then 1 := ⟨⟨by decide +kernel, by decide +kernel, by decide +kernel⟩, (zb_in 924 (by decide +kernel) rfl), (zb_in 38 (by decide +kernel) rfl), by decide +kernel, rfl, by decide⟩
abbrev K_X11_then : zb_F × List Nat := (F_X11_then, [11, 99])
abbrev F_X11_list : zb_F := (RX11, yX11_list, cX11_list, 3, (some FieldType.int))
theorem gd_X11_list : zb_gd F_X11_list 2 := ⟨⟨by decide +kernel, by decide +kernel, by decide +kernel⟩, (zb_in 937 (by decide +kernel) rfl), (zb_in 38 (by decide +kernel) rfl), by decide +kernel, rfl, by decide⟩
abbrev K_X11_list : zb_F × List Nat := (F_X11_list, [11, 99, 99])
abbrev F_X11_listed : zb_F := (RX11, yX11_listed, cX11_listed, 3, (some FieldType.int))
theorem gd_X11_listed : zb_gd F_X11_listed 2 := ⟨⟨by decide +kernel, by decide +kernel, by decide +kernel⟩, (zb_in 981 (by decide +kernel) rfl), (zb_in 38 (by decide +kernel) rfl), by decide +kernel, rfl, by decide⟩
abbrev K_X11_listed : zb_F × List Nat := (F_X11_listed, [11, 99, 99])
abbrev F_X11_isBelow : zb_F := (RX11, yX11_isBelow, cX11_isBelow, 2, (some FieldType.boolean))
theorem gd_X11_isBelow : zb_gd F_X11_isBelow 2 := ⟨⟨by decide +kernel, by decide +kernel, by decide +kernel⟩, (zb_in 473 (by decide +kernel) rfl), (zb_in 38 (by decide +kernel) rfl), by decide +kernel, rfl, by decide⟩
abbrev K_X11_isBelow : zb_F × List Nat := (F_X11_isBelow, [99, 99])
abbrev F_X11_isNamedKind : zb_F := (RX11, yX11_isNamedKind, cX11_isNamedKind, 1, (some FieldType.boolean))
theorem gd_X11_isNamedKind : zb_gd F_X11_isNamedKind 1 := ⟨⟨by decide +kernel, by decide +kernel, by decide +kernel⟩, (zb_in 476 (by decide +kernel) rfl), (zb_in 38 (by decide +kernel) rfl), by decide +kernel, rfl, by decide⟩
abbrev K_X11_isNamedKind : zb_F × List Nat := (F_X11_isNamedKind, [99])
abbrev F_X11_isGraph : zb_F := (RX11, yX11_isGraph, cX11_isGraph, 1, (some FieldType.boolean))
theorem gd_X11_isGraph : zb_gd F_X11_isGraph 1 := ⟨⟨by decide +kernel, by decide +kernel, by decide +kernel⟩, (zb_in 470 (by decide +kernel) rfl), (zb_in 38 (by decide +kernel) rfl), by decide +kernel, rfl, by decide⟩
abbrev K_X11_isGraph : zb_F × List Nat := (F_X11_isGraph, [99])
abbrev F_X11_isThing : zb_F := (RX11, yX11_isThing, cX11_isThing, 3, (some FieldType.boolean))
theorem gd_X11_isThing : zb_gd F_X11_isThing 2 := ⟨⟨by decide +kernel, by decide +kernel, by decide +kernel⟩, (zb_in 511 (by decide +kernel) rfl), (zb_in 38 (by decide +kernel) rfl), by decide +kernel, rfl, by decide⟩
abbrev K_X11_isThing : zb_F × List Nat := (F_X11_isThing, [11, 99, 99])
abbrev F_X11_keep : zb_F := (RX11, yX11_keep, cX11_keep, 2, (none))
theorem gd_X11_keep : zb_gd F_X11_keep 1 := ⟨⟨by decide +kernel, by decide +kernel, by decide +kernel⟩, (zb_in 480 (by decide +kernel) rfl), (zb_in 38 (by decide +kernel) rfl), by decide +kernel, rfl, by decide⟩
abbrev K_X11_keep : zb_F × List Nat := (F_X11_keep, [11, 99])
abbrev F_X11_refusalOfTurnings : zb_F := (RX11, yX11_refusalOfTurnings, cX11_refusalOfTurnings, 2, (some FieldType.int))
theorem gd_X11_refusalOfTurnings : zb_gd F_X11_refusalOfTurnings 1 := ⟨⟨by decide +kernel, by decide +kernel, by decide +kernel⟩, (zb_in 830 (by decide +kernel) rfl), (zb_in 38 (by decide +kernel) rfl), by decide +kernel, rfl, by decide⟩
abbrev K_X11_refusalOfTurnings : zb_F × List Nat := (F_X11_refusalOfTurnings, [11, 99])
abbrev F_X11_makePartings : zb_F := (RX11, yX11_makePartings, cX11_makePartings, 3, (some (FieldType.array (FieldType.object "SameBench$Parting"))))
theorem gd_X11_makePartings : zb_gd F_X11_makePartings 1 := ⟨⟨by decide +kernel, by decide +kernel, by decide +kernel⟩, (zb_in 183 (by decide +kernel) rfl), (zb_in 38 (by decide +kernel) rfl), by decide +kernel, rfl, by decide⟩
abbrev K_X11_makePartings : zb_F × List Nat := (F_X11_makePartings, [99])
abbrev F_X12_init : zb_F := (RX12, yX12_init, cX12_init, 1, (none))
theorem gd_X12_init : zb_gd F_X12_init 0 := ⟨⟨by decide +kernel, by decide +kernel, by decide +kernel⟩, (zb_in 991 (by decide +kernel) rfl), (zb_in 51 (by decide +kernel) rfl), by decide +kernel, rfl, by decide⟩
abbrev F_X12_in : zb_F := (RX12, yX12_in, cX12_in, 3, (some FieldType.boolean))
theorem gd_X12_in : zb_gd F_X12_in 3 := ⟨⟨by decide +kernel, by decide +kernel, by decide +kernel⟩, (zb_in 1173 (by decide +kernel) rfl), (zb_in 51 (by decide +kernel) rfl), by decide +kernel, rfl, by decide⟩
abbrev K_X12_in : zb_F × List Nat := (F_X12_in, [99, 99, 99])
abbrev F_X12_isGraph : zb_F := (RX12, yX12_isGraph, cX12_isGraph, 2, (some FieldType.boolean))
theorem gd_X12_isGraph : zb_gd F_X12_isGraph 1 := ⟨⟨by decide +kernel, by decide +kernel, by decide +kernel⟩, (zb_in 1170 (by decide +kernel) rfl), (zb_in 51 (by decide +kernel) rfl), by decide +kernel, rfl, by decide⟩
abbrev K_X12_isGraph : zb_F × List Nat := (F_X12_isGraph, [12, 99])
abbrev F_X12_isThing : zb_F := (RX12, yX12_isThing, cX12_isThing, 3, (some FieldType.boolean))
theorem gd_X12_isThing : zb_gd F_X12_isThing 2 := ⟨⟨by decide +kernel, by decide +kernel, by decide +kernel⟩, (zb_in 1188 (by decide +kernel) rfl), (zb_in 51 (by decide +kernel) rfl), by decide +kernel, rfl, by decide⟩
abbrev K_X12_isThing : zb_F × List Nat := (F_X12_isThing, [12, 99, 99])
abbrev F_X12_note : zb_F := (RX12, yX12_note, cX12_note, 3, (none))
theorem gd_X12_note : zb_gd F_X12_note 1 := ⟨⟨by decide +kernel, by decide +kernel, by decide +kernel⟩, (zb_in 1180 (by decide +kernel) rfl), (zb_in 51 (by decide +kernel) rfl), by decide +kernel, rfl, by decide⟩
abbrev K_X12_note : zb_F × List Nat := (F_X12_note, [12, 99])
abbrev F_X12_undo : zb_F := (RX12, yX12_undo, cX12_undo, 3, (some FieldType.int))
theorem gd_X12_undo : zb_gd F_X12_undo 0 := ⟨⟨by decide +kernel, by decide +kernel, by decide +kernel⟩, (zb_in 1162 (by decide +kernel) rfl), (zb_in 51 (by decide +kernel) rfl), by decide +kernel, rfl, by decide⟩
abbrev K_X12_undo : zb_F × List Nat := (F_X12_undo, [12])
abbrev F_X12_isNamed : zb_F := (RX12, yX12_isNamed, cX12_isNamed, 1, (some FieldType.boolean))
theorem gd_X12_isNamed : zb_gd F_X12_isNamed 1 := ⟨⟨by decide +kernel, by decide +kernel, by decide +kernel⟩, (zb_in 1176 (by decide +kernel) rfl), (zb_in 51 (by decide +kernel) rfl), by decide +kernel, rfl, by decide⟩
abbrev K_X12_isNamed : zb_F × List Nat := (F_X12_isNamed, [99])
abbrev F_X12_thing : zb_F := (RX12, yX12_thing, cX12_thing, 6, (some FieldType.int))
theorem gd_X12_thing : zb_gd F_X12_thing 4 := ⟨⟨by decide +kernel, by decide +kernel, by decide +kernel⟩, (zb_in 1166 (by decide +kernel) rfl), (zb_in 51 (by decide +kernel) rfl), by decide +kernel, rfl, by decide⟩
abbrev K_X12_thing : zb_F × List Nat := (F_X12_thing, [12, 99, 99, 99, 99])
abbrev F_X12_colour : zb_F := (RX12, yX12_colour, cX12_colour, 5, (some FieldType.int))
theorem gd_X12_colour : zb_gd F_X12_colour 3 := ⟨⟨by decide +kernel, by decide +kernel, by decide +kernel⟩, (zb_in 1184 (by decide +kernel) rfl), (zb_in 51 (by decide +kernel) rfl), by decide +kernel, rfl, by decide⟩
abbrev K_X12_colour : zb_F × List Nat := (F_X12_colour, [12, 99, 99, 99])
abbrev F_X12_word : zb_F := (RX12, yX12_word, cX12_word, 5, (some FieldType.int))
theorem gd_X12_word : zb_gd F_X12_word 3 := ⟨⟨by decide +kernel, by decide +kernel, by decide +kernel⟩, (zb_in 1192 (by decide +kernel) rfl), (zb_in 51 (by decide +kernel) rfl), by decide +kernel, rfl, by decide⟩
abbrev K_X12_word : zb_F × List Nat := (F_X12_word, [12, 99, 99, 99])
abbrev F_X12_row : zb_F := (RX12, yX12_row, cX12_row, 5, (some FieldType.int))
theorem gd_X12_row : zb_gd F_X12_row 3 := ⟨⟨by decide +kernel, by decide +kernel, by decide +kernel⟩, (zb_in 1196 (by decide +kernel) rfl), (zb_in 51 (by decide +kernel) rfl), by decide +kernel, rfl, by decide⟩
abbrev K_X12_row : zb_F × List Nat := (F_X12_row, [12, 99, 99, 99])
abbrev F_X12_unrow : zb_F := (RX12, yX12_unrow, cX12_unrow, 4, (some FieldType.int))
theorem gd_X12_unrow : zb_gd F_X12_unrow 2 := ⟨⟨by decide +kernel, by decide +kernel, by decide +kernel⟩, (zb_in 1200 (by decide +kernel) rfl), (zb_in 51 (by decide +kernel) rfl), by decide +kernel, rfl, by decide⟩
abbrev K_X12_unrow : zb_F × List Nat := (F_X12_unrow, [12, 99, 99])
abbrev F_X12_place : zb_F := (RX12, yX12_place, cX12_place, 8, (some FieldType.int))
theorem gd_X12_place : zb_gd F_X12_place 4 := ⟨⟨by decide +kernel, by decide +kernel, by decide +kernel⟩, (zb_in 1204 (by decide +kernel) rfl), (zb_in 51 (by decide +kernel) rfl), by decide +kernel, rfl, by decide⟩
abbrev K_X12_place : zb_F × List Nat := (F_X12_place, [12, 99, 99, 99, 99])
abbrev F_X12_lineOf : zb_F := (RX12, yX12_lineOf, cX12_lineOf, 4, (some FieldType.int))
theorem gd_X12_lineOf : zb_gd F_X12_lineOf 3 := ⟨⟨by decide +kernel, by decide +kernel, by decide +kernel⟩, (zb_in 1212 (by decide +kernel) rfl), (zb_in 51 (by decide +kernel) rfl), by decide +kernel, rfl, by decide⟩
abbrev K_X12_lineOf : zb_F × List Nat := (F_X12_lineOf, [12, 99, 99, 99])
abbrev F_X12_line : zb_F := (RX12, yX12_line, cX12_line, 4, (some FieldType.int))
theorem gd_X12_line : zb_gd F_X12_line 3 := ⟨⟨by decide +kernel, by decide +kernel, by decide +kernel⟩, (zb_in 1208 (by decide +kernel) rfl), (zb_in 51 (by decide +kernel) rfl), by decide +kernel, rfl, by decide⟩
abbrev K_X12_line : zb_F × List Nat := (F_X12_line, [12, 99, 99, 99])
abbrev F_X12_copy : zb_F := (RX12, yX12_copy, cX12_copy, 11, (some FieldType.int))
theorem gd_X12_copy : zb_gd F_X12_copy 7 := ⟨⟨by decide +kernel, by decide +kernel, by decide +kernel⟩, (zb_in 1216 (by decide +kernel) rfl), (zb_in 51 (by decide +kernel) rfl), by decide +kernel, rfl, by decide⟩
abbrev K_X12_copy : zb_F × List Nat := (F_X12_copy, [12, 99, 99, 99, 99, 99, 99, 99])
abbrev F_X12_swap : zb_F := (RX12, yX12_swap, cX12_swap, 9, (some FieldType.int))
theorem gd_X12_swap : zb_gd F_X12_swap 3 := ⟨⟨by decide +kernel, by decide +kernel, by decide +kernel⟩, (zb_in 1220 (by decide +kernel) rfl), (zb_in 51 (by decide +kernel) rfl), by decide +kernel, rfl, by decide⟩
abbrev K_X12_swap : zb_F × List Nat := (F_X12_swap, [12, 99, 99, 99])
abbrev F_X12_exchange : zb_F := (RX12, yX12_exchange, cX12_exchange, 4, (none))
theorem gd_X12_exchange : zb_gd F_X12_exchange 3 := ⟨⟨by decide +kernel, by decide +kernel, by decide +kernel⟩, (zb_in 1223 (by decide +kernel) rfl), (zb_in 51 (by decide +kernel) rfl), by decide +kernel, rfl, by decide⟩
abbrev K_X12_exchange : zb_F × List Nat := (F_X12_exchange, [13, 99, 99])
abbrev F_X12_twin : zb_F := (RX12, yX12_twin, cX12_twin, 4, (some FieldType.int))
theorem gd_X12_twin : zb_gd F_X12_twin 2 := ⟨⟨by decide +kernel, by decide +kernel, by decide +kernel⟩, (zb_in 1227 (by decide +kernel) rfl), (zb_in 51 (by decide +kernel) rfl), by decide +kernel, rfl, by decide⟩
abbrev K_X12_twin : zb_F × List Nat := (F_X12_twin, [12, 99, 99])
abbrev F_X12_drop : zb_F := (RX12, yX12_drop, cX12_drop, 3, (some FieldType.int))
theorem gd_X12_drop : zb_gd F_X12_drop 1 := ⟨⟨by decide +kernel, by decide +kernel, by decide +kernel⟩, (zb_in 1231 (by decide +kernel) rfl), (zb_in 51 (by decide +kernel) rfl), by decide +kernel, rfl, by decide⟩
abbrev K_X12_drop : zb_F × List Nat := (F_X12_drop, [12, 99])
abbrev F_X12_keyOf : zb_F := (RX12, yX12_keyOf, cX12_keyOf, 5, (some FieldType.int))
theorem gd_X12_keyOf : zb_gd F_X12_keyOf 2 := ⟨⟨by decide +kernel, by decide +kernel, by decide +kernel⟩, (zb_in 1239 (by decide +kernel) rfl), (zb_in 51 (by decide +kernel) rfl), by decide +kernel, rfl, by decide⟩
abbrev K_X12_keyOf : zb_F × List Nat := (F_X12_keyOf, [12, 99, 99])
abbrev F_X12_told : zb_F := (RX12, yX12_told, cX12_told, 5, (some FieldType.int))
theorem gd_X12_told : zb_gd F_X12_told 3 := ⟨⟨by decide +kernel, by decide +kernel, by decide +kernel⟩, (zb_in 1235 (by decide +kernel) rfl), (zb_in 51 (by decide +kernel) rfl), by decide +kernel, rfl, by decide⟩
abbrev K_X12_told : zb_F × List Nat := (F_X12_told, [12, 99, 99, 99])
abbrev F_X12_isRight : zb_F := (RX12, yX12_isRight, cX12_isRight, 6, (some FieldType.boolean))
theorem gd_X12_isRight : zb_gd F_X12_isRight 1 := ⟨⟨by decide +kernel, by decide +kernel, by decide +kernel⟩, (zb_in 1251 (by decide +kernel) rfl), (zb_in 51 (by decide +kernel) rfl), by decide +kernel, rfl, by decide⟩
abbrev K_X12_isRight : zb_F × List Nat := (F_X12_isRight, [12, 99])
abbrev F_X12_shownOf : zb_F := (RX12, yX12_shownOf, cX12_shownOf, 4, (some FieldType.int))
theorem gd_X12_shownOf : zb_gd F_X12_shownOf 1 := ⟨⟨by decide +kernel, by decide +kernel, by decide +kernel⟩, (zb_in 1247 (by decide +kernel) rfl), (zb_in 51 (by decide +kernel) rfl), by decide +kernel, rfl, by decide⟩
abbrev K_X12_shownOf : zb_F × List Nat := (F_X12_shownOf, [12, 99])
abbrev F_X12_count : zb_F := (RX12, yX12_count, cX12_count, 3, (some FieldType.int))
theorem gd_X12_count : zb_gd F_X12_count 2 := ⟨⟨by decide +kernel, by decide +kernel, by decide +kernel⟩, (zb_in 1243 (by decide +kernel) rfl), (zb_in 51 (by decide +kernel) rfl), by decide +kernel, rfl, by decide⟩
abbrev K_X12_count : zb_F × List Nat := (F_X12_count, [12, 99, 99])
abbrev F_X12_layOut : zb_F := (RX12, yX12_layOut, cX12_layOut, 4, (none))
theorem gd_X12_layOut : zb_gd F_X12_layOut 1 := ⟨⟨by decide +kernel, by decide +kernel, by decide +kernel⟩, (zb_in 1259 (by decide +kernel) rfl), (zb_in 51 (by decide +kernel) rfl), by decide +kernel, rfl, by decide⟩
abbrev K_X12_layOut : zb_F × List Nat := (F_X12_layOut, [12, 99])
abbrev F_X12_orderSights : zb_F := (RX12, yX12_orderSights, cX12_orderSights, 5, (some FieldType.int))
theorem gd_X12_orderSights : zb_gd F_X12_orderSights 3 := ⟨⟨by decide +kernel, by decide +kernel, by decide +kernel⟩, (zb_in 1271 (by decide +kernel) rfl), (zb_in 51 (by decide +kernel) rfl), by decide +kernel, rfl, by decide⟩
abbrev K_X12_orderSights : zb_F × List Nat := (F_X12_orderSights, [12, 99, 99, 99])
abbrev F_X12_gather : zb_F := (RX12, yX12_gather, cX12_gather, 5, (none))
theorem gd_X12_gather : zb_gd F_X12_gather 2 := ⟨⟨by decide +kernel, by decide +kernel, by decide +kernel⟩, (zb_in 1267 (by decide +kernel) rfl), (zb_in 51 (by decide +kernel) rfl), by decide +kernel, rfl, by decide⟩
abbrev K_X12_gather : zb_F × List Nat := (F_X12_gather, [12, 99, 99])
abbrev F_X12_start : zb_F := (RX12, yX12_start, cX12_start, 3, (none))
theorem gd_X12_start : zb_gd F_X12_start 1 := ⟨⟨by decide +kernel, by decide +kernel, by decide +kernel⟩, (zb_in 1263 (by decide +kernel) rfl), (zb_in 51 (by decide +kernel) rfl), by decide +kernel, rfl, by decide⟩
abbrev K_X12_start : zb_F × List Nat := (F_X12_start, [12, 99])
abbrev F_X12_see : zb_F := (RX12, yX12_see, cX12_see, 9, (none))
theorem gd_X12_see : zb_gd F_X12_see 2 := ⟨⟨by decide +kernel, by decide +kernel, by decide +kernel⟩, (zb_in 1279 (by decide +kernel) rfl), (zb_in 51 (by decide +kernel) rfl), by decide +kernel, rfl, by decide⟩
abbrev K_X12_see : zb_F × List Nat := (F_X12_see, [12, 99, 99])
abbrev F_X12_splitIn : zb_F := (RX12, yX12_splitIn, cX12_splitIn, 5, (none))
theorem gd_X12_splitIn : zb_gd F_X12_splitIn 1 := ⟨⟨by decide +kernel, by decide +kernel, by decide +kernel⟩, (zb_in 1275 (by decide +kernel) rfl), (zb_in 51 (by decide +kernel) rfl), by decide +kernel, rfl, by decide⟩
abbrev K_X12_splitIn : zb_F × List Nat := (F_X12_splitIn, [12, 99])
abbrev F_X12_isAlone : zb_F := (RX12, yX12_isAlone, cX12_isAlone, 5, (some FieldType.boolean))
theorem gd_X12_isAlone : zb_gd F_X12_isAlone 2 := ⟨⟨by decide +kernel, by decide +kernel, by decide +kernel⟩, (zb_in 1295 (by decide +kernel) rfl), (zb_in 51 (by decide +kernel) rfl), by decide +kernel, rfl, by decide⟩
abbrev K_X12_isAlone : zb_F × List Nat := (F_X12_isAlone, [12, 99, 99])
abbrev F_X12_markIn : zb_F := (RX12, yX12_markIn, cX12_markIn, 5, (none))
theorem gd_X12_markIn : zb_gd F_X12_markIn 2 := ⟨⟨by decide +kernel, by decide +kernel, by decide +kernel⟩, (zb_in 1291 (by decide +kernel) rfl), (zb_in 51 (by decide +kernel) rfl), by decide +kernel, rfl, by decide⟩
abbrev K_X12_markIn : zb_F × List Nat := (F_X12_markIn, [12, 99, 99])
abbrev F_X12_split : zb_F := (RX12, yX12_split, cX12_split, 3, (some FieldType.int))
theorem gd_X12_split : zb_gd F_X12_split 1 := ⟨⟨by decide +kernel, by decide +kernel, by decide +kernel⟩, (zb_in 1255 (by decide +kernel) rfl), (zb_in 51 (by decide +kernel) rfl), by decide +kernel, rfl, by decide⟩
abbrev K_X12_split : zb_F × List Nat := (F_X12_split, [12, 99])
abbrev F_X12_handOf : zb_F := (RX12, yX12_handOf, cX12_handOf, 3, (some FieldType.int))
theorem gd_X12_handOf : zb_gd F_X12_handOf 1 := ⟨⟨by decide +kernel, by decide +kernel, by decide +kernel⟩, (zb_in 1287 (by decide +kernel) rfl), (zb_in 51 (by decide +kernel) rfl), by decide +kernel, rfl, by decide⟩
abbrev K_X12_handOf : zb_F × List Nat := (F_X12_handOf, [12, 99])
abbrev F_X12_mark : zb_F := (RX12, yX12_mark, cX12_mark, 4, (some FieldType.int))
theorem gd_X12_mark : zb_gd F_X12_mark 1 := ⟨⟨by decide +kernel, by decide +kernel, by decide +kernel⟩, (zb_in 1283 (by decide +kernel) rfl), (zb_in 51 (by decide +kernel) rfl), by decide +kernel, rfl, by decide⟩
abbrev K_X12_mark : zb_F × List Nat := (F_X12_mark, [12, 99])
abbrev F_X12_heapOf : zb_F := (RX12, yX12_heapOf, cX12_heapOf, 3, (some FieldType.int))
theorem gd_X12_heapOf : zb_gd F_X12_heapOf 1 := ⟨⟨by decide +kernel, by decide +kernel, by decide +kernel⟩, (zb_in 1299 (by decide +kernel) rfl), (zb_in 51 (by decide +kernel) rfl), by decide +kernel, rfl, by decide⟩
abbrev K_X12_heapOf : zb_F × List Nat := (F_X12_heapOf, [12, 99])
abbrev F_X12_areTwins : zb_F := (RX12, yX12_areTwins, cX12_areTwins, 5, (some FieldType.boolean))
theorem gd_X12_areTwins : zb_gd F_X12_areTwins 2 := ⟨⟨by decide +kernel, by decide +kernel, by decide +kernel⟩, (zb_in 1326 (by decide +kernel) rfl), (zb_in 51 (by decide +kernel) rfl), by decide +kernel, rfl, by decide⟩
abbrev K_X12_areTwins : zb_F × List Nat := (F_X12_areTwins, [12, 99, 99])
abbrev F_X12_targetOf : zb_F := (RX12, yX12_targetOf, cX12_targetOf, 5, (some FieldType.int))
theorem gd_X12_targetOf : zb_gd F_X12_targetOf 1 := ⟨⟨by decide +kernel, by decide +kernel, by decide +kernel⟩, (zb_in 1318 (by decide +kernel) rfl), (zb_in 51 (by decide +kernel) rfl), by decide +kernel, rfl, by decide⟩
abbrev K_X12_targetOf : zb_F × List Nat := (F_X12_targetOf, [12, 99])
abbrev F_X12_follows : zb_F := (RX12, yX12_follows, cX12_follows, 6, (some FieldType.boolean))
theorem gd_X12_follows : zb_gd F_X12_follows 3 := ⟨⟨by decide +kernel, by decide +kernel, by decide +kernel⟩, (zb_in 1322 (by decide +kernel) rfl), (zb_in 51 (by decide +kernel) rfl), by decide +kernel, rfl, by decide⟩
abbrev K_X12_follows : zb_F × List Nat := (F_X12_follows, [12, 99, 99, 99])
abbrev F_X12_sizeOf : zb_F := (RX12, yX12_sizeOf, cX12_sizeOf, 1, (some FieldType.int))
theorem gd_X12_sizeOf : zb_gd F_X12_sizeOf 1 := ⟨⟨by decide +kernel, by decide +kernel, by decide +kernel⟩, (zb_in 1314 (by decide +kernel) rfl), (zb_in 51 (by decide +kernel) rfl), by decide +kernel, rfl, by decide⟩
abbrev K_X12_sizeOf : zb_F × List Nat := (F_X12_sizeOf, [99])
abbrev F_X12_leaf : zb_F := (RX12, yX12_leaf, cX12_leaf, 5, (none))
theorem gd_X12_leaf : zb_gd F_X12_leaf 1 := ⟨⟨by decide +kernel, by decide +kernel, by decide +kernel⟩, (zb_in 1311 (by decide +kernel) rfl), (zb_in 51 (by decide +kernel) rfl), by decide +kernel, rfl, by decide⟩
abbrev K_X12_leaf : zb_F × List Nat := (F_X12_leaf, [12, 99])
abbrev F_X12_grow : zb_F := (RX12, yX12_grow, cX12_grow, 5, (some FieldType.boolean))
theorem gd_X12_grow : zb_gd F_X12_grow 0 := ⟨⟨by decide +kernel, by decide +kernel, by decide +kernel⟩, (zb_in 1307 (by decide +kernel) rfl), (zb_in 51 (by decide +kernel) rfl), by decide +kernel, rfl, by decide⟩
abbrev K_X12_grow : zb_F × List Nat := (F_X12_grow, [12])
abbrev F_X12_keepOther : zb_F := (RX12, yX12_keepOther, cX12_keepOther, 2, (none))
theorem gd_X12_keepOther : zb_gd F_X12_keepOther 0 := ⟨⟨by decide +kernel, by decide +kernel, by decide +kernel⟩, (zb_in 1350 (by decide +kernel) rfl), (zb_in 51 (by decide +kernel) rfl), by decide +kernel, rfl, by decide⟩
abbrev K_X12_keepOther : zb_F × List Nat := (F_X12_keepOther, [12])
abbrev F_X12_name : zb_F := (RX12, yX12_name, cX12_name, 3, (some FieldType.int))
theorem gd_X12_name : zb_gd F_X12_name 1 := ⟨⟨by decide +kernel, by decide +kernel, by decide +kernel⟩, (zb_in 1303 (by decide +kernel) rfl), (zb_in 51 (by decide +kernel) rfl), by decide +kernel, rfl, by decide⟩
abbrev K_X12_name : zb_F × List Nat := (F_X12_name, [12, 99])
abbrev F_X12_nameAt : zb_F := (RX12, yX12_nameAt, cX12_nameAt, 3, (some FieldType.int))
theorem gd_X12_nameAt : zb_gd F_X12_nameAt 1 := ⟨⟨by decide +kernel, by decide +kernel, by decide +kernel⟩, (zb_in 1330 (by decide +kernel) rfl), (zb_in 51 (by decide +kernel) rfl), by decide +kernel, rfl, by decide⟩
abbrev K_X12_nameAt : zb_F × List Nat := (F_X12_nameAt, [12, 99])
abbrev F_X12_order : zb_F := (RX12, yX12_order, cX12_order, 2, (some FieldType.int))
theorem gd_X12_order : zb_gd F_X12_order 1 := ⟨⟨by decide +kernel, by decide +kernel, by decide +kernel⟩, (zb_in 1334 (by decide +kernel) rfl), (zb_in 51 (by decide +kernel) rfl), by decide +kernel, rfl, by decide⟩
abbrev K_X12_order : zb_F × List Nat := (F_X12_order, [12, 99])
abbrev F_X12_nodes : zb_F := (RX12, yX12_nodes, cX12_nodes, 1, (some FieldType.int))
theorem gd_X12_nodes : zb_gd F_X12_nodes 0 := ⟨⟨by decide +kernel, by decide +kernel, by decide +kernel⟩, (zb_in 1338 (by decide +kernel) rfl), (zb_in 51 (by decide +kernel) rfl), by decide +kernel, rfl, by decide⟩
abbrev K_X12_nodes : zb_F × List Nat := (F_X12_nodes, [12])
abbrev F_X12_clearTurning : zb_F := (RX12, yX12_clearTurning, cX12_clearTurning, 2, (none))
theorem gd_X12_clearTurning : zb_gd F_X12_clearTurning 0 := ⟨⟨by decide +kernel, by decide +kernel, by decide +kernel⟩, (zb_in 1358 (by decide +kernel) rfl), (zb_in 51 (by decide +kernel) rfl), by decide +kernel, rfl, by decide⟩
abbrev K_X12_clearTurning : zb_F × List Nat := (F_X12_clearTurning, [12])
abbrev F_X12_differsAt : zb_F := (RX12, yX12_differsAt, cX12_differsAt, 3, (some FieldType.int))
theorem gd_X12_differsAt : zb_gd F_X12_differsAt 1 := ⟨⟨by decide +kernel, by decide +kernel, by decide +kernel⟩, (zb_in 1354 (by decide +kernel) rfl), (zb_in 51 (by decide +kernel) rfl), by decide +kernel, rfl, by decide⟩
abbrev K_X12_differsAt : zb_F × List Nat := (F_X12_differsAt, [12, 99])
abbrev F_X12_growBoth : zb_F := (RX12, yX12_growBoth, cX12_growBoth, 3, (some FieldType.boolean))
theorem gd_X12_growBoth : zb_gd F_X12_growBoth 2 := ⟨⟨by decide +kernel, by decide +kernel, by decide +kernel⟩, (zb_in 1346 (by decide +kernel) rfl), (zb_in 51 (by decide +kernel) rfl), by decide +kernel, rfl, by decide⟩
abbrev K_X12_growBoth : zb_F × List Nat := (F_X12_growBoth, [12, 99, 99])
abbrev F_X12_same : zb_F := (RX12, yX12_same, cX12_same, 4, (some FieldType.int))
theorem gd_X12_same : zb_gd F_X12_same 2 := ⟨⟨by decide +kernel, by decide +kernel, by decide +kernel⟩, (zb_in 1342 (by decide +kernel) rfl), (zb_in 51 (by decide +kernel) rfl), by decide +kernel, rfl, by decide⟩
abbrev K_X12_same : zb_F × List Nat := (F_X12_same, [12, 99, 99])
abbrev F_X12_unlikeBy : zb_F := (RX12, yX12_unlikeBy, cX12_unlikeBy, 5, (some FieldType.int))
theorem gd_X12_unlikeBy : zb_gd F_X12_unlikeBy 4 := ⟨⟨by decide +kernel, by decide +kernel, by decide +kernel⟩, (zb_in 1366 (by decide +kernel) rfl), (zb_in 51 (by decide +kernel) rfl), by decide +kernel, rfl, by decide⟩
abbrev K_X12_unlikeBy : zb_F × List Nat := (F_X12_unlikeBy, [12, 99, 99, 99, 99])
abbrev F_X12_sumUp : zb_F := (RX12, yX12_sumUp, cX12_sumUp, 5, (none))
theorem gd_X12_sumUp : zb_gd F_X12_sumUp 2 := ⟨⟨by decide +kernel, by decide +kernel, by decide +kernel⟩, (zb_in 1370 (by decide +kernel) rfl), (zb_in 51 (by decide +kernel) rfl), by decide +kernel, rfl, by decide⟩
abbrev K_X12_sumUp : zb_F × List Nat := (F_X12_sumUp, [12, 13, 13])
abbrev F_X12_unlike : zb_F := (RX12, yX12_unlike, cX12_unlike, 6, (some FieldType.int))
theorem gd_X12_unlike : zb_gd F_X12_unlike 2 := ⟨⟨by decide +kernel, by decide +kernel, by decide +kernel⟩, (zb_in 1362 (by decide +kernel) rfl), (zb_in 51 (by decide +kernel) rfl), by decide +kernel, rfl, by decide⟩
abbrev K_X12_unlike : zb_F × List Nat := (F_X12_unlike, [12, 99, 99])
abbrev F_X12_why : zb_F := (RX12, yX12_why, cX12_why, 2, (some FieldType.int))
theorem gd_X12_why : zb_gd F_X12_why 1 := ⟨⟨by decide +kernel, by decide +kernel, by decide +kernel⟩, (zb_in 1374 (by decide +kernel) rfl), (zb_in 51 (by decide +kernel) rfl), by decide +kernel, rfl, by decide⟩
abbrev K_X12_why : zb_F × List Nat := (F_X12_why, [12, 99])
abbrev F_X12_mayGo : zb_F := (RX12, yX12_mayGo, cX12_mayGo, 6, (some FieldType.boolean))
theorem gd_X12_mayGo : zb_gd F_X12_mayGo 2 := ⟨⟨by decide +kernel, by decide +kernel, by decide +kernel⟩, (zb_in 1392 (by decide +kernel) rfl), (zb_in 51 (by decide +kernel) rfl), by decide +kernel, rfl, by decide⟩
abbrev K_X12_mayGo : zb_F × List Nat := (F_X12_mayGo, [12, 99, 99])
abbrev F_X12_find : zb_F := (RX12, yX12_find, cX12_find, 8, (some FieldType.boolean))
theorem gd_X12_find : zb_gd F_X12_find 3 := ⟨⟨by decide +kernel, by decide +kernel, by decide +kernel⟩, (zb_in 1388 (by decide +kernel) rfl), (zb_in 51 (by decide +kernel) rfl), by decide +kernel, rfl, by decide⟩
abbrev K_X12_find : zb_F × List Nat := (F_X12_find, [12, 99, 99, 99])
abbrev F_X12_chainOf : zb_F := (RX12, yX12_chainOf, cX12_chainOf, 4, (some FieldType.int))
theorem gd_X12_chainOf : zb_gd F_X12_chainOf 1 := ⟨⟨by decide +kernel, by decide +kernel, by decide +kernel⟩, (zb_in 1384 (by decide +kernel) rfl), (zb_in 51 (by decide +kernel) rfl), by decide +kernel, rfl, by decide⟩
abbrev K_X12_chainOf : zb_F × List Nat := (F_X12_chainOf, [12, 99])
abbrev F_X12_turnings : zb_F := (RX12, yX12_turnings, cX12_turnings, 5, (some FieldType.long))
theorem gd_X12_turnings : zb_gd F_X12_turnings 1 := ⟨⟨by decide +kernel, by decide +kernel, by decide +kernel⟩, (zb_in 1378 (by decide +kernel) rfl), (zb_in 51 (by decide +kernel) rfl), by decide +kernel, rfl, by decide⟩
abbrev K_X12_turnings : zb_F × List Nat := (F_X12_turnings, [12, 99])
abbrev F_X12_chain : zb_F := (RX12, yX12_chain, cX12_chain, 3, (some FieldType.int))
theorem gd_X12_chain : zb_gd F_X12_chain 2 := ⟨⟨by decide +kernel, by decide +kernel, by decide +kernel⟩, (zb_in 1396 (by decide +kernel) rfl), (zb_in 51 (by decide +kernel) rfl), by decide +kernel, rfl, by decide⟩
abbrev K_X12_chain : zb_F × List Nat := (F_X12_chain, [12, 99, 99])
abbrev F_X12_shownPlace : zb_F := (RX12, yX12_shownPlace, cX12_shownPlace, 3, (some FieldType.int))
theorem gd_X12_shownPlace : zb_gd F_X12_shownPlace 1 := ⟨⟨by decide +kernel, by decide +kernel, by decide +kernel⟩, (zb_in 1404 (by decide +kernel) rfl), (zb_in 51 (by decide +kernel) rfl), by decide +kernel, rfl, by decide⟩
abbrev K_X12_shownPlace : zb_F × List Nat := (F_X12_shownPlace, [12, 99])
abbrev F_X12_where : zb_F := (RX12, yX12_where, cX12_where, 7, (some FieldType.int))
theorem gd_X12_where : zb_gd F_X12_where 3 := ⟨⟨by decide +kernel, by decide +kernel, by decide +kernel⟩, (zb_in 1400 (by decide +kernel) rfl), (zb_in 51 (by decide +kernel) rfl), by decide +kernel, rfl, by decide⟩
abbrev K_X12_where : zb_F × List Nat := (F_X12_where, [12, 99, 99, 99])
abbrev F_X12_orbit : zb_F := (RX12, yX12_orbit, cX12_orbit, 6, (some FieldType.int))
theorem gd_X12_orbit : zb_gd F_X12_orbit 2 := ⟨⟨by decide +kernel, by decide +kernel, by decide +kernel⟩, (zb_in 1408 (by decide +kernel) rfl), (zb_in 51 (by decide +kernel) rfl), by decide +kernel, rfl, by decide⟩
abbrev K_X12_orbit : zb_F × List Nat := (F_X12_orbit, [12, 99, 99])
abbrev F_X12_by : zb_F := (RX12, yX12_by, cX12_by, 2, (some FieldType.int))
theorem gd_X12_by : zb_gd F_X12_by 1 := ⟨⟨by decide +kernel, by decide +kernel, by decide +kernel⟩, (zb_in 1412 (by decide +kernel) rfl), (zb_in 51 (by decide +kernel) rfl), by decide +kernel, rfl, by decide⟩
abbrev K_X12_by : zb_F × List Nat := (F_X12_by, [12, 99])
abbrev F_X12_leads : zb_F := (RX12, yX12_leads, cX12_leads, 7, (some FieldType.boolean))
theorem gd_X12_leads : zb_gd F_X12_leads 2 := ⟨⟨by decide +kernel, by decide +kernel, by decide +kernel⟩, (zb_in 1420 (by decide +kernel) rfl), (zb_in 51 (by decide +kernel) rfl), by decide +kernel, rfl, by decide⟩
abbrev K_X12_leads : zb_F × List Nat := (F_X12_leads, [12, 99, 99])
abbrev F_X12_makers : zb_F := (RX12, yX12_makers, cX12_makers, 5, (some FieldType.int))
theorem gd_X12_makers : zb_gd F_X12_makers 1 := ⟨⟨by decide +kernel, by decide +kernel, by decide +kernel⟩, (zb_in 1416 (by decide +kernel) rfl), (zb_in 51 (by decide +kernel) rfl), by decide +kernel, rfl, by decide⟩
abbrev K_X12_makers : zb_F × List Nat := (F_X12_makers, [12, 99])
abbrev F_X12_maker : zb_F := (RX12, yX12_maker, cX12_maker, 3, (some FieldType.int))
theorem gd_X12_maker : zb_gd F_X12_maker 2 := ⟨⟨by decide +kernel, by decide +kernel, by decide +kernel⟩, (zb_in 1424 (by decide +kernel) rfl), (zb_in 51 (by decide +kernel) rfl), by decide +kernel, rfl, by decide⟩
abbrev K_X12_maker : zb_F × List Nat := (F_X12_maker, [12, 99, 99])
abbrev F_X12_then : zb_F := (RX12, yX12_then, cX12_then, 5, (some FieldType.int))
theorem gd_X12_then : zb_gd F_X12_then 1 := ⟨⟨by decide +kernel, by decide +kernel, by decide +kernel⟩, (zb_in 1428 (by decide +kernel) rfl), (zb_in 51 (by decide +kernel) rfl), by decide +kernel, rfl, by decide⟩
abbrev K_X12_then : zb_F × List Nat := (F_X12_then, [12, 99])
abbrev F_X12_bitsOf : zb_F := (RX12, yX12_bitsOf, cX12_bitsOf, 3, (some FieldType.int))
theorem gd_X12_bitsOf : zb_gd F_X12_bitsOf 1 := ⟨⟨by decide +kernel, by decide +kernel, by decide +kernel⟩, (zb_in 1435 (by decide +kernel) rfl), (zb_in 51 (by decide +kernel) rfl), by decide +kernel, rfl, by decide⟩
abbrev K_X12_bitsOf : zb_F × List Nat := (F_X12_bitsOf, [99])
abbrev F_X12_orderName : zb_F := (RX12, yX12_orderName, cX12_orderName, 4, (some FieldType.int))
theorem gd_X12_orderName : zb_gd F_X12_orderName 2 := ⟨⟨by decide +kernel, by decide +kernel, by decide +kernel⟩, (zb_in 1443 (by decide +kernel) rfl), (zb_in 51 (by decide +kernel) rfl), by decide +kernel, rfl, by decide⟩
abbrev K_X12_orderName : zb_F × List Nat := (F_X12_orderName, [12, 99, 99])
abbrev F_X12_enter : zb_F := (RX12, yX12_enter, cX12_enter, 4, (none))
theorem gd_X12_enter : zb_gd F_X12_enter 1 := ⟨⟨by decide +kernel, by decide +kernel, by decide +kernel⟩, (zb_in 1439 (by decide +kernel) rfl), (zb_in 51 (by decide +kernel) rfl), by decide +kernel, rfl, by decide⟩
abbrev K_X12_enter : zb_F × List Nat := (F_X12_enter, [12, 99])
abbrev F_X12_list : zb_F := (RX12, yX12_list, cX12_list, 8, (some FieldType.int))
theorem gd_X12_list : zb_gd F_X12_list 2 := ⟨⟨by decide +kernel, by decide +kernel, by decide +kernel⟩, (zb_in 1432 (by decide +kernel) rfl), (zb_in 51 (by decide +kernel) rfl), by decide +kernel, rfl, by decide⟩
abbrev K_X12_list : zb_F × List Nat := (F_X12_list, [12, 99, 99])
abbrev F_X12_listed : zb_F := (RX12, yX12_listed, cX12_listed, 6, (some FieldType.int))
theorem gd_X12_listed : zb_gd F_X12_listed 2 := ⟨⟨by decide +kernel, by decide +kernel, by decide +kernel⟩, (zb_in 1447 (by decide +kernel) rfl), (zb_in 51 (by decide +kernel) rfl), by decide +kernel, rfl, by decide⟩
abbrev K_X12_listed : zb_F × List Nat := (F_X12_listed, [12, 99, 99])
abbrev F_J6_bitCount_0f7a4 : zb_F := (RJ6, yJ6_bitCount_0f7a4, cJ6_bitCount_0f7a4, 1, (some FieldType.int))
theorem gd_J6_bitCount_0f7a4 : zb_gd F_J6_bitCount_0f7a4 1 := ⟨⟨by decide +kernel, by decide +kernel, by decide +kernel⟩, (zb_in 944 (by decide +kernel) rfl), (zb_in 53 (by decide +kernel) rfl), by decide +kernel, rfl, by decide⟩
abbrev K_J6_bitCount_0f7a4 : zb_F × List Nat := (F_J6_bitCount_0f7a4, [99])
abbrev F_J9_max_7cf53 : zb_F := (RJ9, yJ9_max_7cf53, cJ9_max_7cf53, 2, (some FieldType.int))
abbrev K_J9_max_7cf53 : zb_F × List Nat := (F_J9_max_7cf53, [99, 99])
abbrev F_J9_min_7cf53 : zb_F := (RJ9, yJ9_min_7cf53, cJ9_min_7cf53, 2, (some FieldType.int))
abbrev K_J9_min_7cf53 : zb_F × List Nat := (F_J9_min_7cf53, [99, 99])
abbrev F_L_law : zb_F := (RL, yL_law, cL_law, 4, some .boolean)
theorem cl_0 : zb_cl 0 (RX0, TX0, 10) := ⟨rfl, zb_inr [355, 357, 359, 361, 363, 365, 367, 369, 371, 373] (by decide +kernel) (by decide +kernel), tyX0_ok, nmX0, by decide⟩
theorem cl_1 : zb_cl 1 (RX1, TX1, 4) := ⟨rfl, zb_inr [109, 111, 113, 115] (by decide +kernel) (by decide +kernel), tyX1_ok, nmX1, by decide⟩
theorem cl_2 : zb_cl 2 (RX2, TX2, 4) := ⟨rfl, zb_inr [408, 410, 412, 414] (by decide +kernel) (by decide +kernel), tyX2_ok, nmX2, by decide⟩
theorem cl_3 : zb_cl 3 (RX3, TX3, 7) := ⟨rfl, zb_inr [326, 328, 330, 332, 334, 336, 338] (by decide +kernel) (by decide +kernel), tyX3_ok, nmX3, by decide⟩
theorem cl_4 : zb_cl 4 (RX4, TX4, 6) := ⟨rfl, zb_inr [90, 92, 94, 96, 98, 100] (by decide +kernel) (by decide +kernel), tyX4_ok, nmX4, by decide⟩
theorem cl_5 : zb_cl 5 (RX5, TX5, 5) := ⟨rfl, zb_inr [215, 217, 219, 221, 223] (by decide +kernel) (by decide +kernel), tyX5_ok, nmX5, by decide⟩
theorem cl_6 : zb_cl 6 (RX6, TX6, 6) := ⟨rfl, zb_inr [142, 144, 146, 148, 150, 152] (by decide +kernel) (by decide +kernel), tyX6_ok, nmX6, by decide⟩
theorem cl_7 : zb_cl 7 (RX7, TX7, 4) := ⟨rfl, zb_inr [166, 168, 170, 172] (by decide +kernel) (by decide +kernel), tyX7_ok, nmX7, by decide⟩
theorem cl_8 : zb_cl 8 (RX8, TX8, 6) := ⟨rfl, zb_inr [232, 234, 236, 238, 240, 242] (by decide +kernel) (by decide +kernel), tyX8_ok, nmX8, by decide⟩
theorem cl_9 : zb_cl 9 (RX9, TX9, 10) := ⟨rfl, zb_inr [267, 269, 271, 273, 275, 277, 279, 281, 283, 285] (by decide +kernel) (by decide +kernel), tyX9_ok, nmX9, by decide⟩
theorem cl_10 : zb_cl 10 (RX10, TX10, 2) := ⟨rfl, zb_inr [387, 389] (by decide +kernel) (by decide +kernel), tyX10_ok, nmX10, by decide⟩
theorem cl_11 : zb_cl 11 (RX11, TX11, 15) := ⟨rfl, zb_inr [433, 435, 437, 439, 441, 443, 445, 447, 449, 451, 453, 455, 457, 459, 461] (by decide +kernel) (by decide +kernel), tyX11_ok, nmX11, by decide⟩
theorem cl_12 : zb_cl 12 (RX12, TX12, 55) := ⟨rfl, zb_inr [1048, 1050, 1052, 1054, 1056, 1058, 1060, 1062, 1064, 1066, 1068, 1070, 1072, 1074, 1076, 1078, 1080, 1082, 1084, 1086, 1088, 1090, 1092, 1094, 1096, 1098, 1100, 1102, 1104, 1106, 1108, 1110, 1112, 1114, 1116, 1118, 1120, 1122, 1124, 1126, 1128, 1130, 1132, 1134, 1136, 1138, 1140, 1142, 1144, 1146, 1148, 1150, 1152, 1154, 1156] (by decide +kernel) (by decide +kernel), tyX12_ok, nmX12, by decide⟩
theorem fl_X4_27 : zb_fl RX4 27 4 0 := ⟨_, cl_4, by decide, (zb_in 76 (by decide +kernel) rfl)⟩
theorem fl_X6_32 : zb_fl RX6 32 4 0 := ⟨_, cl_4, by decide, (zb_in 77 (by decide +kernel) rfl)⟩
theorem fl_X11_108 : zb_fl RX11 108 4 0 := ⟨_, cl_4, by decide, (zb_in 78 (by decide +kernel) rfl)⟩
theorem fl_X4_9 : zb_fl RX4 9 4 1 := ⟨_, cl_4, by decide, (zb_in 79 (by decide +kernel) rfl)⟩
theorem fl_X6_35 : zb_fl RX6 35 4 1 := ⟨_, cl_4, by decide, (zb_in 80 (by decide +kernel) rfl)⟩
theorem fl_X11_166 : zb_fl RX11 166 4 1 := ⟨_, cl_4, by decide, (zb_in 81 (by decide +kernel) rfl)⟩
theorem fl_X4_15 : zb_fl RX4 15 4 2 := ⟨_, cl_4, by decide, (zb_in 82 (by decide +kernel) rfl)⟩
theorem fl_X11_123 : zb_fl RX11 123 4 2 := ⟨_, cl_4, by decide, (zb_in 83 (by decide +kernel) rfl)⟩
theorem fl_X4_18 : zb_fl RX4 18 4 3 := ⟨_, cl_4, by decide, (zb_in 84 (by decide +kernel) rfl)⟩
theorem fl_X11_130 : zb_fl RX11 130 4 3 := ⟨_, cl_4, by decide, (zb_in 85 (by decide +kernel) rfl)⟩
theorem fl_X4_21 : zb_fl RX4 21 4 4 := ⟨_, cl_4, by decide, (zb_in 86 (by decide +kernel) rfl)⟩
theorem fl_X11_140 : zb_fl RX11 140 4 4 := ⟨_, cl_4, by decide, (zb_in 87 (by decide +kernel) rfl)⟩
theorem fl_X4_24 : zb_fl RX4 24 4 5 := ⟨_, cl_4, by decide, (zb_in 88 (by decide +kernel) rfl)⟩
theorem fl_X11_147 : zb_fl RX11 147 4 5 := ⟨_, cl_4, by decide, (zb_in 89 (by decide +kernel) rfl)⟩
theorem fl_X1_11 : zb_fl RX1 11 1 0 := ⟨_, cl_1, by decide, (zb_in 104 (by decide +kernel) rfl)⟩
theorem fl_X1_17 : zb_fl RX1 17 1 1 := ⟨_, cl_1, by decide, (zb_in 105 (by decide +kernel) rfl)⟩
theorem fl_X1_22 : zb_fl RX1 22 1 2 := ⟨_, cl_1, by decide, (zb_in 106 (by decide +kernel) rfl)⟩
theorem fl_X1_30 : zb_fl RX1 30 1 3 := ⟨_, cl_1, by decide, (zb_in 107 (by decide +kernel) rfl)⟩
theorem fl_X11_181 : zb_fl RX11 181 1 3 := ⟨_, cl_1, by decide, (zb_in 108 (by decide +kernel) rfl)⟩
theorem fl_X6_28 : zb_fl RX6 28 6 0 := ⟨_, cl_6, by decide, (zb_in 124 (by decide +kernel) rfl)⟩
theorem fl_X7_22 : zb_fl RX7 22 6 0 := ⟨_, cl_6, by decide, (zb_in 125 (by decide +kernel) rfl)⟩
theorem fl_X8_39 : zb_fl RX8 39 6 0 := ⟨_, cl_6, by decide, (zb_in 126 (by decide +kernel) rfl)⟩
theorem fl_X9_63 : zb_fl RX9 63 6 0 := ⟨_, cl_6, by decide, (zb_in 127 (by decide +kernel) rfl)⟩
theorem fl_X10_31 : zb_fl RX10 31 6 0 := ⟨_, cl_6, by decide, (zb_in 128 (by decide +kernel) rfl)⟩
theorem fl_X0_67 : zb_fl RX0 67 6 0 := ⟨_, cl_6, by decide, (zb_in 129 (by decide +kernel) rfl)⟩
theorem fl_X11_278 : zb_fl RX11 278 6 0 := ⟨_, cl_6, by decide, (zb_in 130 (by decide +kernel) rfl)⟩
theorem fl_X6_9 : zb_fl RX6 9 6 1 := ⟨_, cl_6, by decide, (zb_in 131 (by decide +kernel) rfl)⟩
theorem fl_X10_34 : zb_fl RX10 34 6 1 := ⟨_, cl_6, by decide, (zb_in 132 (by decide +kernel) rfl)⟩
theorem fl_X8_126 : zb_fl RX8 126 6 1 := ⟨_, cl_6, by decide, (zb_in 133 (by decide +kernel) rfl)⟩
theorem fl_X6_15 : zb_fl RX6 15 6 2 := ⟨_, cl_6, by decide, (zb_in 134 (by decide +kernel) rfl)⟩
theorem fl_X6_18 : zb_fl RX6 18 6 3 := ⟨_, cl_6, by decide, (zb_in 135 (by decide +kernel) rfl)⟩
theorem fl_X7_37 : zb_fl RX7 37 6 3 := ⟨_, cl_6, by decide, (zb_in 136 (by decide +kernel) rfl)⟩
theorem fl_X0_98 : zb_fl RX0 98 6 3 := ⟨_, cl_6, by decide, (zb_in 137 (by decide +kernel) rfl)⟩
theorem fl_X8_130 : zb_fl RX8 130 6 3 := ⟨_, cl_6, by decide, (zb_in 138 (by decide +kernel) rfl)⟩
theorem fl_X6_21 : zb_fl RX6 21 6 4 := ⟨_, cl_6, by decide, (zb_in 139 (by decide +kernel) rfl)⟩
theorem fl_X6_24 : zb_fl RX6 24 6 5 := ⟨_, cl_6, by decide, (zb_in 140 (by decide +kernel) rfl)⟩
theorem fl_X7_66 : zb_fl RX7 66 6 5 := ⟨_, cl_6, by decide, (zb_in 141 (by decide +kernel) rfl)⟩
theorem fl_X7_11 : zb_fl RX7 11 7 0 := ⟨_, cl_7, by decide, (zb_in 162 (by decide +kernel) rfl)⟩
theorem fl_X7_34 : zb_fl RX7 34 7 1 := ⟨_, cl_7, by decide, (zb_in 163 (by decide +kernel) rfl)⟩
theorem fl_X7_15 : zb_fl RX7 15 7 2 := ⟨_, cl_7, by decide, (zb_in 164 (by decide +kernel) rfl)⟩
theorem fl_X7_19 : zb_fl RX7 19 7 3 := ⟨_, cl_7, by decide, (zb_in 165 (by decide +kernel) rfl)⟩
theorem fl_X5_21 : zb_fl RX5 21 5 0 := ⟨_, cl_5, by decide, (zb_in 194 (by decide +kernel) rfl)⟩
theorem fl_X7_61 : zb_fl RX7 61 5 0 := ⟨_, cl_5, by decide, (zb_in 195 (by decide +kernel) rfl)⟩
theorem fl_X8_92 : zb_fl RX8 92 5 0 := ⟨_, cl_5, by decide, (zb_in 196 (by decide +kernel) rfl)⟩
theorem fl_X9_121 : zb_fl RX9 121 5 0 := ⟨_, cl_5, by decide, (zb_in 197 (by decide +kernel) rfl)⟩
theorem fl_X5_25 : zb_fl RX5 25 5 1 := ⟨_, cl_5, by decide, (zb_in 198 (by decide +kernel) rfl)⟩
theorem fl_X7_52 : zb_fl RX7 52 5 1 := ⟨_, cl_5, by decide, (zb_in 199 (by decide +kernel) rfl)⟩
theorem fl_X0_104 : zb_fl RX0 104 5 1 := ⟨_, cl_5, by decide, (zb_in 200 (by decide +kernel) rfl)⟩
theorem fl_X11_205 : zb_fl RX11 205 5 1 := ⟨_, cl_5, by decide, (zb_in 201 (by decide +kernel) rfl)⟩
theorem fl_X5_9 : zb_fl RX5 9 5 2 := ⟨_, cl_5, by decide, (zb_in 202 (by decide +kernel) rfl)⟩
theorem fl_X7_58 : zb_fl RX7 58 5 2 := ⟨_, cl_5, by decide, (zb_in 203 (by decide +kernel) rfl)⟩
theorem fl_X8_93 : zb_fl RX8 93 5 2 := ⟨_, cl_5, by decide, (zb_in 204 (by decide +kernel) rfl)⟩
theorem fl_X9_98 : zb_fl RX9 98 5 2 := ⟨_, cl_5, by decide, (zb_in 205 (by decide +kernel) rfl)⟩
theorem fl_X11_217 : zb_fl RX11 217 5 2 := ⟨_, cl_5, by decide, (zb_in 206 (by decide +kernel) rfl)⟩
theorem fl_X5_15 : zb_fl RX5 15 5 3 := ⟨_, cl_5, by decide, (zb_in 207 (by decide +kernel) rfl)⟩
theorem fl_X7_72 : zb_fl RX7 72 5 3 := ⟨_, cl_5, by decide, (zb_in 208 (by decide +kernel) rfl)⟩
theorem fl_X0_113 : zb_fl RX0 113 5 3 := ⟨_, cl_5, by decide, (zb_in 209 (by decide +kernel) rfl)⟩
theorem fl_X5_18 : zb_fl RX5 18 5 4 := ⟨_, cl_5, by decide, (zb_in 210 (by decide +kernel) rfl)⟩
theorem fl_X7_69 : zb_fl RX7 69 5 4 := ⟨_, cl_5, by decide, (zb_in 211 (by decide +kernel) rfl)⟩
theorem fl_X8_129 : zb_fl RX8 129 5 4 := ⟨_, cl_5, by decide, (zb_in 212 (by decide +kernel) rfl)⟩
theorem fl_X0_101 : zb_fl RX0 101 5 4 := ⟨_, cl_5, by decide, (zb_in 213 (by decide +kernel) rfl)⟩
theorem fl_X9_122 : zb_fl RX9 122 5 4 := ⟨_, cl_5, by decide, (zb_in 214 (by decide +kernel) rfl)⟩
theorem fl_X8_27 : zb_fl RX8 27 8 0 := ⟨_, cl_8, by decide, (zb_in 226 (by decide +kernel) rfl)⟩
theorem fl_X8_13 : zb_fl RX8 13 8 1 := ⟨_, cl_8, by decide, (zb_in 227 (by decide +kernel) rfl)⟩
theorem fl_X8_19 : zb_fl RX8 19 8 2 := ⟨_, cl_8, by decide, (zb_in 228 (by decide +kernel) rfl)⟩
theorem fl_X8_23 : zb_fl RX8 23 8 3 := ⟨_, cl_8, by decide, (zb_in 229 (by decide +kernel) rfl)⟩
theorem fl_X8_31 : zb_fl RX8 31 8 4 := ⟨_, cl_8, by decide, (zb_in 230 (by decide +kernel) rfl)⟩
theorem fl_X8_35 : zb_fl RX8 35 8 5 := ⟨_, cl_8, by decide, (zb_in 231 (by decide +kernel) rfl)⟩
theorem fl_X9_38 : zb_fl RX9 38 9 0 := ⟨_, cl_9, by decide, (zb_in 253 (by decide +kernel) rfl)⟩
theorem fl_X9_13 : zb_fl RX9 13 9 1 := ⟨_, cl_9, by decide, (zb_in 254 (by decide +kernel) rfl)⟩
theorem fl_X9_19 : zb_fl RX9 19 9 2 := ⟨_, cl_9, by decide, (zb_in 255 (by decide +kernel) rfl)⟩
theorem fl_X9_22 : zb_fl RX9 22 9 3 := ⟨_, cl_9, by decide, (zb_in 256 (by decide +kernel) rfl)⟩
theorem fl_X9_25 : zb_fl RX9 25 9 4 := ⟨_, cl_9, by decide, (zb_in 257 (by decide +kernel) rfl)⟩
theorem fl_X11_286 : zb_fl RX11 286 9 4 := ⟨_, cl_9, by decide, (zb_in 258 (by decide +kernel) rfl)⟩
theorem fl_X9_29 : zb_fl RX9 29 9 5 := ⟨_, cl_9, by decide, (zb_in 259 (by decide +kernel) rfl)⟩
theorem fl_X11_305 : zb_fl RX11 305 9 5 := ⟨_, cl_9, by decide, (zb_in 260 (by decide +kernel) rfl)⟩
theorem fl_X9_59 : zb_fl RX9 59 9 6 := ⟨_, cl_9, by decide, (zb_in 261 (by decide +kernel) rfl)⟩
theorem fl_X11_301 : zb_fl RX11 301 9 6 := ⟨_, cl_9, by decide, (zb_in 262 (by decide +kernel) rfl)⟩
theorem fl_X9_32 : zb_fl RX9 32 9 7 := ⟨_, cl_9, by decide, (zb_in 263 (by decide +kernel) rfl)⟩
theorem fl_X9_35 : zb_fl RX9 35 9 8 := ⟨_, cl_9, by decide, (zb_in 264 (by decide +kernel) rfl)⟩
theorem fl_X11_279 : zb_fl RX11 279 9 8 := ⟨_, cl_9, by decide, (zb_in 265 (by decide +kernel) rfl)⟩
theorem fl_X9_42 : zb_fl RX9 42 9 9 := ⟨_, cl_9, by decide, (zb_in 266 (by decide +kernel) rfl)⟩
theorem fl_X8_70 : zb_fl RX8 70 3 0 := ⟨_, cl_3, by decide, (zb_in 304 (by decide +kernel) rfl)⟩
theorem fl_X11_227 : zb_fl RX11 227 3 0 := ⟨_, cl_3, by decide, (zb_in 305 (by decide +kernel) rfl)⟩
theorem fl_X8_45 : zb_fl RX8 45 3 1 := ⟨_, cl_3, by decide, (zb_in 306 (by decide +kernel) rfl)⟩
theorem fl_X10_22 : zb_fl RX10 22 3 1 := ⟨_, cl_3, by decide, (zb_in 307 (by decide +kernel) rfl)⟩
theorem fl_X4_59 : zb_fl RX4 59 3 1 := ⟨_, cl_3, by decide, (zb_in 308 (by decide +kernel) rfl)⟩
theorem fl_X11_236 : zb_fl RX11 236 3 1 := ⟨_, cl_3, by decide, (zb_in 309 (by decide +kernel) rfl)⟩
theorem fl_X3_18 : zb_fl RX3 18 3 2 := ⟨_, cl_3, by decide, (zb_in 310 (by decide +kernel) rfl)⟩
theorem fl_X8_48 : zb_fl RX8 48 3 2 := ⟨_, cl_3, by decide, (zb_in 311 (by decide +kernel) rfl)⟩
theorem fl_X11_230 : zb_fl RX11 230 3 2 := ⟨_, cl_3, by decide, (zb_in 312 (by decide +kernel) rfl)⟩
theorem fl_X8_51 : zb_fl RX8 51 3 3 := ⟨_, cl_3, by decide, (zb_in 313 (by decide +kernel) rfl)⟩
theorem fl_X11_224 : zb_fl RX11 224 3 3 := ⟨_, cl_3, by decide, (zb_in 314 (by decide +kernel) rfl)⟩
theorem fl_X8_54 : zb_fl RX8 54 3 4 := ⟨_, cl_3, by decide, (zb_in 315 (by decide +kernel) rfl)⟩
theorem fl_X11_240 : zb_fl RX11 240 3 4 := ⟨_, cl_3, by decide, (zb_in 316 (by decide +kernel) rfl)⟩
theorem fl_X3_9 : zb_fl RX3 9 3 5 := ⟨_, cl_3, by decide, (zb_in 317 (by decide +kernel) rfl)⟩
theorem fl_X8_116 : zb_fl RX8 116 3 5 := ⟨_, cl_3, by decide, (zb_in 318 (by decide +kernel) rfl)⟩
theorem fl_X0_116 : zb_fl RX0 116 3 5 := ⟨_, cl_3, by decide, (zb_in 319 (by decide +kernel) rfl)⟩
theorem fl_X4_66 : zb_fl RX4 66 3 5 := ⟨_, cl_3, by decide, (zb_in 320 (by decide +kernel) rfl)⟩
theorem fl_X11_233 : zb_fl RX11 233 3 5 := ⟨_, cl_3, by decide, (zb_in 321 (by decide +kernel) rfl)⟩
theorem fl_X3_15 : zb_fl RX3 15 3 6 := ⟨_, cl_3, by decide, (zb_in 322 (by decide +kernel) rfl)⟩
theorem fl_X10_28 : zb_fl RX10 28 3 6 := ⟨_, cl_3, by decide, (zb_in 323 (by decide +kernel) rfl)⟩
theorem fl_X8_123 : zb_fl RX8 123 3 6 := ⟨_, cl_3, by decide, (zb_in 324 (by decide +kernel) rfl)⟩
theorem fl_X11_237 : zb_fl RX11 237 3 6 := ⟨_, cl_3, by decide, (zb_in 325 (by decide +kernel) rfl)⟩
theorem fl_X0_45 : zb_fl RX0 45 0 0 := ⟨_, cl_0, by decide, (zb_in 341 (by decide +kernel) rfl)⟩
theorem fl_X0_49 : zb_fl RX0 49 0 1 := ⟨_, cl_0, by decide, (zb_in 342 (by decide +kernel) rfl)⟩
theorem fl_X0_12 : zb_fl RX0 12 0 2 := ⟨_, cl_0, by decide, (zb_in 343 (by decide +kernel) rfl)⟩
theorem fl_X0_18 : zb_fl RX0 18 0 3 := ⟨_, cl_0, by decide, (zb_in 344 (by decide +kernel) rfl)⟩
theorem fl_X0_24 : zb_fl RX0 24 0 4 := ⟨_, cl_0, by decide, (zb_in 345 (by decide +kernel) rfl)⟩
theorem fl_X0_28 : zb_fl RX0 28 0 5 := ⟨_, cl_0, by decide, (zb_in 346 (by decide +kernel) rfl)⟩
theorem fl_X0_34 : zb_fl RX0 34 0 6 := ⟨_, cl_0, by decide, (zb_in 347 (by decide +kernel) rfl)⟩
theorem fl_X11_252 : zb_fl RX11 252 0 6 := ⟨_, cl_0, by decide, (zb_in 348 (by decide +kernel) rfl)⟩
theorem fl_X0_38 : zb_fl RX0 38 0 7 := ⟨_, cl_0, by decide, (zb_in 349 (by decide +kernel) rfl)⟩
theorem fl_X11_255 : zb_fl RX11 255 0 7 := ⟨_, cl_0, by decide, (zb_in 350 (by decide +kernel) rfl)⟩
theorem fl_X0_41 : zb_fl RX0 41 0 8 := ⟨_, cl_0, by decide, (zb_in 351 (by decide +kernel) rfl)⟩
theorem fl_X11_268 : zb_fl RX11 268 0 8 := ⟨_, cl_0, by decide, (zb_in 352 (by decide +kernel) rfl)⟩
theorem fl_X0_94 : zb_fl RX0 94 0 9 := ⟨_, cl_0, by decide, (zb_in 353 (by decide +kernel) rfl)⟩
theorem fl_X11_265 : zb_fl RX11 265 0 9 := ⟨_, cl_0, by decide, (zb_in 354 (by decide +kernel) rfl)⟩
theorem fl_X10_15 : zb_fl RX10 15 10 0 := ⟨_, cl_10, by decide, (zb_in 384 (by decide +kernel) rfl)⟩
theorem fl_X10_9 : zb_fl RX10 9 10 1 := ⟨_, cl_10, by decide, (zb_in 385 (by decide +kernel) rfl)⟩
theorem fl_X11_298 : zb_fl RX11 298 10 1 := ⟨_, cl_10, by decide, (zb_in 386 (by decide +kernel) rfl)⟩
theorem fl_X2_13 : zb_fl RX2 13 2 0 := ⟨_, cl_2, by decide, (zb_in 402 (by decide +kernel) rfl)⟩
theorem fl_X11_323 : zb_fl RX11 323 2 0 := ⟨_, cl_2, by decide, (zb_in 403 (by decide +kernel) rfl)⟩
theorem fl_X2_35 : zb_fl RX2 35 2 1 := ⟨_, cl_2, by decide, (zb_in 404 (by decide +kernel) rfl)⟩
theorem fl_X11_320 : zb_fl RX11 320 2 1 := ⟨_, cl_2, by decide, (zb_in 405 (by decide +kernel) rfl)⟩
theorem fl_X2_17 : zb_fl RX2 17 2 2 := ⟨_, cl_2, by decide, (zb_in 406 (by decide +kernel) rfl)⟩
theorem fl_X2_21 : zb_fl RX2 21 2 3 := ⟨_, cl_2, by decide, (zb_in 407 (by decide +kernel) rfl)⟩
theorem fl_X11_11 : zb_fl RX11 11 11 0 := ⟨_, cl_11, by decide, (zb_in 418 (by decide +kernel) rfl)⟩
theorem fl_X11_18 : zb_fl RX11 18 11 1 := ⟨_, cl_11, by decide, (zb_in 419 (by decide +kernel) rfl)⟩
theorem fl_X11_25 : zb_fl RX11 25 11 2 := ⟨_, cl_11, by decide, (zb_in 420 (by decide +kernel) rfl)⟩
theorem fl_X11_32 : zb_fl RX11 32 11 3 := ⟨_, cl_11, by decide, (zb_in 421 (by decide +kernel) rfl)⟩
theorem fl_X11_41 : zb_fl RX11 41 11 4 := ⟨_, cl_11, by decide, (zb_in 422 (by decide +kernel) rfl)⟩
theorem fl_X11_48 : zb_fl RX11 48 11 5 := ⟨_, cl_11, by decide, (zb_in 423 (by decide +kernel) rfl)⟩
theorem fl_X11_57 : zb_fl RX11 57 11 6 := ⟨_, cl_11, by decide, (zb_in 424 (by decide +kernel) rfl)⟩
theorem fl_X11_201 : zb_fl RX11 201 11 7 := ⟨_, cl_11, by decide, (zb_in 425 (by decide +kernel) rfl)⟩
theorem fl_X11_61 : zb_fl RX11 61 11 8 := ⟨_, cl_11, by decide, (zb_in 426 (by decide +kernel) rfl)⟩
theorem fl_X11_67 : zb_fl RX11 67 11 9 := ⟨_, cl_11, by decide, (zb_in 427 (by decide +kernel) rfl)⟩
theorem fl_X11_74 : zb_fl RX11 74 11 10 := ⟨_, cl_11, by decide, (zb_in 428 (by decide +kernel) rfl)⟩
theorem fl_X11_81 : zb_fl RX11 81 11 11 := ⟨_, cl_11, by decide, (zb_in 429 (by decide +kernel) rfl)⟩
theorem fl_X11_85 : zb_fl RX11 85 11 12 := ⟨_, cl_11, by decide, (zb_in 430 (by decide +kernel) rfl)⟩
theorem fl_X11_304 : zb_fl RX11 304 11 13 := ⟨_, cl_11, by decide, (zb_in 431 (by decide +kernel) rfl)⟩
theorem fl_X11_92 : zb_fl RX11 92 11 14 := ⟨_, cl_11, by decide, (zb_in 432 (by decide +kernel) rfl)⟩
theorem fl_X12_7 : zb_fl RX12 7 12 0 := ⟨_, cl_12, by decide, (zb_in 993 (by decide +kernel) rfl)⟩
theorem fl_X12_13 : zb_fl RX12 13 12 1 := ⟨_, cl_12, by decide, (zb_in 994 (by decide +kernel) rfl)⟩
theorem fl_X12_16 : zb_fl RX12 16 12 2 := ⟨_, cl_12, by decide, (zb_in 995 (by decide +kernel) rfl)⟩
theorem fl_X12_19 : zb_fl RX12 19 12 3 := ⟨_, cl_12, by decide, (zb_in 996 (by decide +kernel) rfl)⟩
theorem fl_X12_22 : zb_fl RX12 22 12 4 := ⟨_, cl_12, by decide, (zb_in 997 (by decide +kernel) rfl)⟩
theorem fl_X12_25 : zb_fl RX12 25 12 5 := ⟨_, cl_12, by decide, (zb_in 998 (by decide +kernel) rfl)⟩
theorem fl_X12_28 : zb_fl RX12 28 12 6 := ⟨_, cl_12, by decide, (zb_in 999 (by decide +kernel) rfl)⟩
theorem fl_X12_31 : zb_fl RX12 31 12 7 := ⟨_, cl_12, by decide, (zb_in 1000 (by decide +kernel) rfl)⟩
theorem fl_X12_34 : zb_fl RX12 34 12 8 := ⟨_, cl_12, by decide, (zb_in 1001 (by decide +kernel) rfl)⟩
theorem fl_X12_37 : zb_fl RX12 37 12 9 := ⟨_, cl_12, by decide, (zb_in 1002 (by decide +kernel) rfl)⟩
theorem fl_X12_40 : zb_fl RX12 40 12 10 := ⟨_, cl_12, by decide, (zb_in 1003 (by decide +kernel) rfl)⟩
theorem fl_X12_43 : zb_fl RX12 43 12 11 := ⟨_, cl_12, by decide, (zb_in 1004 (by decide +kernel) rfl)⟩
theorem fl_X12_46 : zb_fl RX12 46 12 12 := ⟨_, cl_12, by decide, (zb_in 1005 (by decide +kernel) rfl)⟩
theorem fl_X12_141 : zb_fl RX12 141 12 13 := ⟨_, cl_12, by decide, (zb_in 1006 (by decide +kernel) rfl)⟩
theorem fl_X12_49 : zb_fl RX12 49 12 14 := ⟨_, cl_12, by decide, (zb_in 1007 (by decide +kernel) rfl)⟩
theorem fl_X12_175 : zb_fl RX12 175 12 15 := ⟨_, cl_12, by decide, (zb_in 1008 (by decide +kernel) rfl)⟩
theorem fl_X12_52 : zb_fl RX12 52 12 16 := ⟨_, cl_12, by decide, (zb_in 1009 (by decide +kernel) rfl)⟩
theorem fl_X12_55 : zb_fl RX12 55 12 17 := ⟨_, cl_12, by decide, (zb_in 1010 (by decide +kernel) rfl)⟩
theorem fl_X12_58 : zb_fl RX12 58 12 18 := ⟨_, cl_12, by decide, (zb_in 1011 (by decide +kernel) rfl)⟩
theorem fl_X12_61 : zb_fl RX12 61 12 19 := ⟨_, cl_12, by decide, (zb_in 1012 (by decide +kernel) rfl)⟩
theorem fl_X12_64 : zb_fl RX12 64 12 20 := ⟨_, cl_12, by decide, (zb_in 1013 (by decide +kernel) rfl)⟩
theorem fl_X12_67 : zb_fl RX12 67 12 21 := ⟨_, cl_12, by decide, (zb_in 1014 (by decide +kernel) rfl)⟩
theorem fl_X12_70 : zb_fl RX12 70 12 22 := ⟨_, cl_12, by decide, (zb_in 1015 (by decide +kernel) rfl)⟩
theorem fl_X12_200 : zb_fl RX12 200 12 23 := ⟨_, cl_12, by decide, (zb_in 1016 (by decide +kernel) rfl)⟩
theorem fl_X12_204 : zb_fl RX12 204 12 24 := ⟨_, cl_12, by decide, (zb_in 1017 (by decide +kernel) rfl)⟩
theorem fl_X12_73 : zb_fl RX12 73 12 25 := ⟨_, cl_12, by decide, (zb_in 1018 (by decide +kernel) rfl)⟩
theorem fl_X12_76 : zb_fl RX12 76 12 26 := ⟨_, cl_12, by decide, (zb_in 1019 (by decide +kernel) rfl)⟩
theorem fl_X12_79 : zb_fl RX12 79 12 27 := ⟨_, cl_12, by decide, (zb_in 1020 (by decide +kernel) rfl)⟩
theorem fl_X12_216 : zb_fl RX12 216 12 28 := ⟨_, cl_12, by decide, (zb_in 1021 (by decide +kernel) rfl)⟩
theorem fl_X12_222 : zb_fl RX12 222 12 29 := ⟨_, cl_12, by decide, (zb_in 1022 (by decide +kernel) rfl)⟩
theorem fl_X12_82 : zb_fl RX12 82 12 30 := ⟨_, cl_12, by decide, (zb_in 1023 (by decide +kernel) rfl)⟩
theorem fl_X12_85 : zb_fl RX12 85 12 31 := ⟨_, cl_12, by decide, (zb_in 1024 (by decide +kernel) rfl)⟩
theorem fl_X12_88 : zb_fl RX12 88 12 32 := ⟨_, cl_12, by decide, (zb_in 1025 (by decide +kernel) rfl)⟩
theorem fl_X12_91 : zb_fl RX12 91 12 33 := ⟨_, cl_12, by decide, (zb_in 1026 (by decide +kernel) rfl)⟩
theorem fl_X12_238 : zb_fl RX12 238 12 34 := ⟨_, cl_12, by decide, (zb_in 1027 (by decide +kernel) rfl)⟩
theorem fl_X12_94 : zb_fl RX12 94 12 35 := ⟨_, cl_12, by decide, (zb_in 1028 (by decide +kernel) rfl)⟩
theorem fl_X12_97 : zb_fl RX12 97 12 36 := ⟨_, cl_12, by decide, (zb_in 1029 (by decide +kernel) rfl)⟩
theorem fl_X12_241 : zb_fl RX12 241 12 37 := ⟨_, cl_12, by decide, (zb_in 1030 (by decide +kernel) rfl)⟩
theorem fl_X12_100 : zb_fl RX12 100 12 38 := ⟨_, cl_12, by decide, (zb_in 1031 (by decide +kernel) rfl)⟩
theorem fl_X12_103 : zb_fl RX12 103 12 39 := ⟨_, cl_12, by decide, (zb_in 1032 (by decide +kernel) rfl)⟩
theorem fl_X12_244 : zb_fl RX12 244 12 40 := ⟨_, cl_12, by decide, (zb_in 1033 (by decide +kernel) rfl)⟩
theorem fl_X12_106 : zb_fl RX12 106 12 41 := ⟨_, cl_12, by decide, (zb_in 1034 (by decide +kernel) rfl)⟩
theorem fl_X12_259 : zb_fl RX12 259 12 42 := ⟨_, cl_12, by decide, (zb_in 1035 (by decide +kernel) rfl)⟩
theorem fl_X12_109 : zb_fl RX12 109 12 43 := ⟨_, cl_12, by decide, (zb_in 1036 (by decide +kernel) rfl)⟩
theorem fl_X12_112 : zb_fl RX12 112 12 44 := ⟨_, cl_12, by decide, (zb_in 1037 (by decide +kernel) rfl)⟩
theorem fl_X12_115 : zb_fl RX12 115 12 45 := ⟨_, cl_12, by decide, (zb_in 1038 (by decide +kernel) rfl)⟩
theorem fl_X12_118 : zb_fl RX12 118 12 46 := ⟨_, cl_12, by decide, (zb_in 1039 (by decide +kernel) rfl)⟩
theorem fl_X12_121 : zb_fl RX12 121 12 47 := ⟨_, cl_12, by decide, (zb_in 1040 (by decide +kernel) rfl)⟩
theorem fl_X12_124 : zb_fl RX12 124 12 48 := ⟨_, cl_12, by decide, (zb_in 1041 (by decide +kernel) rfl)⟩
theorem fl_X12_286 : zb_fl RX12 286 12 49 := ⟨_, cl_12, by decide, (zb_in 1042 (by decide +kernel) rfl)⟩
theorem fl_X12_127 : zb_fl RX12 127 12 50 := ⟨_, cl_12, by decide, (zb_in 1043 (by decide +kernel) rfl)⟩
theorem fl_X12_289 : zb_fl RX12 289 12 51 := ⟨_, cl_12, by decide, (zb_in 1044 (by decide +kernel) rfl)⟩
theorem fl_X12_295 : zb_fl RX12 295 12 52 := ⟨_, cl_12, by decide, (zb_in 1045 (by decide +kernel) rfl)⟩
theorem fl_X12_301 : zb_fl RX12 301 12 53 := ⟨_, cl_12, by decide, (zb_in 1046 (by decide +kernel) rfl)⟩
theorem fl_X12_130 : zb_fl RX12 130 12 54 := ⟨_, cl_12, by decide, (zb_in 1047 (by decide +kernel) rfl)⟩
theorem lk_L_9 : zb_lkI RL 9 F_X11_init := ⟨(zb_in 56 (by decide +kernel) rfl), (zb_in 57 (by decide +kernel) rfl), rfl⟩
theorem lk_X11_1 : zb_lkO RX11 1 := ⟨(zb_in 59 (by decide +kernel) rfl), (zb_in 60 (by decide +kernel) rfl), (zb_in 61 (by decide +kernel) rfl)⟩
theorem lk_X11_17 : zb_lkI RX11 17 F_X1_init := ⟨(zb_in 66 (by decide +kernel) rfl), (zb_in 67 (by decide +kernel) rfl), rfl⟩
theorem lk_X1_3 : zb_lkO RX1 3 := ⟨(zb_in 69 (by decide +kernel) rfl), (zb_in 60 (by decide +kernel) rfl), (zb_in 61 (by decide +kernel) rfl)⟩
theorem lk_X4_3 : zb_lkO RX4 3 := ⟨(zb_in 75 (by decide +kernel) rfl), (zb_in 60 (by decide +kernel) rfl), (zb_in 61 (by decide +kernel) rfl)⟩
theorem lk_X6_3 : zb_lkO RX6 3 := ⟨(zb_in 123 (by decide +kernel) rfl), (zb_in 60 (by decide +kernel) rfl), (zb_in 61 (by decide +kernel) rfl)⟩
theorem lk_X7_3 : zb_lkO RX7 3 := ⟨(zb_in 161 (by decide +kernel) rfl), (zb_in 60 (by decide +kernel) rfl), (zb_in 61 (by decide +kernel) rfl)⟩
theorem lk_X11_38 : zb_lkI RX11 38 F_X8_init := ⟨(zb_in 177 (by decide +kernel) rfl), (zb_in 178 (by decide +kernel) rfl), rfl⟩
theorem lk_X8_3 : zb_lkO RX8 3 := ⟨(zb_in 180 (by decide +kernel) rfl), (zb_in 60 (by decide +kernel) rfl), (zb_in 61 (by decide +kernel) rfl)⟩
theorem lk_X11_334 : zb_lkM RX11 334 Lib.Math.max.name Lib.Math.max.code := ⟨(zb_in 184 (by decide +kernel) rfl), (zb_in 185 (by decide +kernel) rfl), (zb_in 44 (by decide +kernel) rfl), (zb_in 186 (by decide +kernel) rfl)⟩
theorem lk_X5_3 : zb_lkO RX5 3 := ⟨(zb_in 193 (by decide +kernel) rfl), (zb_in 60 (by decide +kernel) rfl), (zb_in 61 (by decide +kernel) rfl)⟩
theorem lk_X11_47 : zb_lkI RX11 47 F_X9_init := ⟨(zb_in 248 (by decide +kernel) rfl), (zb_in 249 (by decide +kernel) rfl), rfl⟩
theorem lk_X9_3 : zb_lkO RX9 3 := ⟨(zb_in 251 (by decide +kernel) rfl), (zb_in 60 (by decide +kernel) rfl), (zb_in 61 (by decide +kernel) rfl)⟩
theorem lk_X11_54 : zb_lkI RX11 54 F_X0_init := ⟨(zb_in 290 (by decide +kernel) rfl), (zb_in 291 (by decide +kernel) rfl), rfl⟩
theorem lk_X0_3 : zb_lkO RX0 3 := ⟨(zb_in 293 (by decide +kernel) rfl), (zb_in 60 (by decide +kernel) rfl), (zb_in 61 (by decide +kernel) rfl)⟩
theorem lk_X3_3 : zb_lkO RX3 3 := ⟨(zb_in 303 (by decide +kernel) rfl), (zb_in 60 (by decide +kernel) rfl), (zb_in 61 (by decide +kernel) rfl)⟩
theorem lk_X10_3 : zb_lkO RX10 3 := ⟨(zb_in 383 (by decide +kernel) rfl), (zb_in 60 (by decide +kernel) rfl), (zb_in 61 (by decide +kernel) rfl)⟩
theorem lk_X11_91 : zb_lkI RX11 91 F_X2_init := ⟨(zb_in 395 (by decide +kernel) rfl), (zb_in 396 (by decide +kernel) rfl), rfl⟩
theorem lk_X2_3 : zb_lkO RX2 3 := ⟨(zb_in 398 (by decide +kernel) rfl), (zb_in 60 (by decide +kernel) rfl), (zb_in 61 (by decide +kernel) rfl)⟩
theorem lk_L_13 : zb_lkV RL 13 F_X11_thing := ⟨(zb_in 464 (by decide +kernel) rfl), (zb_in 465 (by decide +kernel) rfl), (zb_in 466 (by decide +kernel) rfl)⟩
theorem lk_X11_97 : zb_lkS RX11 97 F_X11_isGraph := ⟨(zb_in 468 (by decide +kernel) rfl), (zb_in 469 (by decide +kernel) rfl)⟩
theorem lk_X11_101 : zb_lkS RX11 101 F_X11_isBelow := ⟨(zb_in 471 (by decide +kernel) rfl), (zb_in 472 (by decide +kernel) rfl)⟩
theorem lk_X11_105 : zb_lkS RX11 105 F_X11_isNamedKind := ⟨(zb_in 474 (by decide +kernel) rfl), (zb_in 475 (by decide +kernel) rfl)⟩
theorem lk_X11_112 : zb_lkV RX11 112 F_X11_keep := ⟨(zb_in 477 (by decide +kernel) rfl), (zb_in 479 (by decide +kernel) rfl), (zb_in 0 (by decide +kernel) rfl)⟩
theorem lk_X11_331 : zb_lkV RX11 331 F_X1_keep := ⟨(zb_in 481 (by decide +kernel) rfl), (zb_in 482 (by decide +kernel) rfl), (zb_in 483 (by decide +kernel) rfl)⟩
theorem lk_X1_26 : zb_lkV RX1 26 F_X4_become := ⟨(zb_in 485 (by decide +kernel) rfl), (zb_in 486 (by decide +kernel) rfl), (zb_in 487 (by decide +kernel) rfl)⟩
theorem lk_X4_53 : zb_lkA RX4 53 := ⟨(zb_in 489 (by decide +kernel) rfl), (zb_in 491 (by decide +kernel) rfl), (zb_in 490 (by decide +kernel) rfl), (zb_in 52 (by decide +kernel) rfl)⟩
theorem lk_X1_33 : zb_lkM RX1 33 Lib.Math.min.name Lib.Math.min.code := ⟨(zb_in 492 (by decide +kernel) rfl), (zb_in 493 (by decide +kernel) rfl), (zb_in 44 (by decide +kernel) rfl), (zb_in 494 (by decide +kernel) rfl)⟩
theorem lk_X11_116 : zb_lkV RX11 116 F_X4_add := ⟨(zb_in 495 (by decide +kernel) rfl), (zb_in 496 (by decide +kernel) rfl), (zb_in 497 (by decide +kernel) rfl)⟩
theorem lk_X4_35 : zb_lkV RX4 35 F_X4_clearRow := ⟨(zb_in 500 (by decide +kernel) rfl), (zb_in 501 (by decide +kernel) rfl), (zb_in 502 (by decide +kernel) rfl)⟩
theorem lk_L_18 : zb_lkV RL 18 F_X11_colour := ⟨(zb_in 504 (by decide +kernel) rfl), (zb_in 505 (by decide +kernel) rfl), (zb_in 506 (by decide +kernel) rfl)⟩
theorem lk_X11_120 : zb_lkV RX11 120 F_X11_isThing := ⟨(zb_in 508 (by decide +kernel) rfl), (zb_in 510 (by decide +kernel) rfl), (zb_in 1 (by decide +kernel) rfl)⟩
theorem lk_L_23 : zb_lkV RL 23 F_X11_word := ⟨(zb_in 512 (by decide +kernel) rfl), (zb_in 513 (by decide +kernel) rfl), (zb_in 514 (by decide +kernel) rfl)⟩
theorem lk_X11_127 : zb_lkV RX11 127 F_X4_isNamed := ⟨(zb_in 516 (by decide +kernel) rfl), (zb_in 517 (by decide +kernel) rfl), (zb_in 518 (by decide +kernel) rfl)⟩
theorem lk_L_27 : zb_lkV RL 27 F_X11_row := ⟨(zb_in 520 (by decide +kernel) rfl), (zb_in 521 (by decide +kernel) rfl), (zb_in 522 (by decide +kernel) rfl)⟩
theorem lk_X11_133 : zb_lkV RX11 133 F_X4_clearRow := ⟨(zb_in 524 (by decide +kernel) rfl), (zb_in 501 (by decide +kernel) rfl), (zb_in 502 (by decide +kernel) rfl)⟩
theorem lk_L_31 : zb_lkV RL 31 F_X11_unrow := ⟨(zb_in 525 (by decide +kernel) rfl), (zb_in 526 (by decide +kernel) rfl), (zb_in 527 (by decide +kernel) rfl)⟩
theorem lk_X11_137 : zb_lkV RX11 137 F_X4_hasRow := ⟨(zb_in 529 (by decide +kernel) rfl), (zb_in 530 (by decide +kernel) rfl), (zb_in 531 (by decide +kernel) rfl)⟩
theorem lk_L_36 : zb_lkV RL 36 F_X11_place := ⟨(zb_in 533 (by decide +kernel) rfl), (zb_in 534 (by decide +kernel) rfl), (zb_in 535 (by decide +kernel) rfl)⟩
theorem lk_X11_143 : zb_lkV RX11 143 F_X4_lineFrom := ⟨(zb_in 537 (by decide +kernel) rfl), (zb_in 538 (by decide +kernel) rfl), (zb_in 539 (by decide +kernel) rfl)⟩
theorem lk_L_40 : zb_lkV RL 40 F_X11_line := ⟨(zb_in 541 (by decide +kernel) rfl), (zb_in 542 (by decide +kernel) rfl), (zb_in 543 (by decide +kernel) rfl)⟩
theorem lk_L_44 : zb_lkV RL 44 F_X11_copy := ⟨(zb_in 545 (by decide +kernel) rfl), (zb_in 546 (by decide +kernel) rfl), (zb_in 547 (by decide +kernel) rfl)⟩
theorem lk_X11_150 : zb_lkA RX11 150 := ⟨(zb_in 549 (by decide +kernel) rfl), (zb_in 491 (by decide +kernel) rfl), (zb_in 490 (by decide +kernel) rfl), (zb_in 52 (by decide +kernel) rfl)⟩
theorem lk_L_49 : zb_lkV RL 49 F_X11_swap := ⟨(zb_in 550 (by decide +kernel) rfl), (zb_in 551 (by decide +kernel) rfl), (zb_in 552 (by decide +kernel) rfl)⟩
theorem lk_X11_156 : zb_lkV RX11 156 F_X4_lengthenRows := ⟨(zb_in 554 (by decide +kernel) rfl), (zb_in 555 (by decide +kernel) rfl), (zb_in 556 (by decide +kernel) rfl)⟩
theorem lk_X4_46 : zb_lkV RX4 46 F_X4_hasRow := ⟨(zb_in 558 (by decide +kernel) rfl), (zb_in 530 (by decide +kernel) rfl), (zb_in 531 (by decide +kernel) rfl)⟩
theorem lk_X11_159 : zb_lkV RX11 159 F_X4_exchange := ⟨(zb_in 559 (by decide +kernel) rfl), (zb_in 560 (by decide +kernel) rfl), (zb_in 561 (by decide +kernel) rfl)⟩
theorem lk_X4_49 : zb_lkS RX4 49 F_X4_exchangeIn := ⟨(zb_in 563 (by decide +kernel) rfl), (zb_in 564 (by decide +kernel) rfl)⟩
theorem lk_L_53 : zb_lkV RL 53 F_X11_twin := ⟨(zb_in 566 (by decide +kernel) rfl), (zb_in 567 (by decide +kernel) rfl), (zb_in 568 (by decide +kernel) rfl)⟩
theorem lk_X11_162 : zb_lkV RX11 162 F_X4_become := ⟨(zb_in 570 (by decide +kernel) rfl), (zb_in 486 (by decide +kernel) rfl), (zb_in 487 (by decide +kernel) rfl)⟩
theorem lk_L_57 : zb_lkV RL 57 F_X11_drop := ⟨(zb_in 571 (by decide +kernel) rfl), (zb_in 572 (by decide +kernel) rfl), (zb_in 573 (by decide +kernel) rfl)⟩
theorem lk_L_62 : zb_lkV RL 62 F_X11_told := ⟨(zb_in 575 (by decide +kernel) rfl), (zb_in 576 (by decide +kernel) rfl), (zb_in 577 (by decide +kernel) rfl)⟩
theorem lk_X11_169 : zb_lkV RX11 169 F_X4_keyOf := ⟨(zb_in 579 (by decide +kernel) rfl), (zb_in 580 (by decide +kernel) rfl), (zb_in 581 (by decide +kernel) rfl)⟩
theorem lk_X4_39 : zb_lkV RX4 39 F_X4_isNamed := ⟨(zb_in 583 (by decide +kernel) rfl), (zb_in 517 (by decide +kernel) rfl), (zb_in 518 (by decide +kernel) rfl)⟩
theorem lk_L_66 : zb_lkV RL 66 F_X11_count := ⟨(zb_in 584 (by decide +kernel) rfl), (zb_in 585 (by decide +kernel) rfl), (zb_in 586 (by decide +kernel) rfl)⟩
theorem lk_X11_173 : zb_lkV RX11 173 F_X4_countShown := ⟨(zb_in 588 (by decide +kernel) rfl), (zb_in 589 (by decide +kernel) rfl), (zb_in 590 (by decide +kernel) rfl)⟩
theorem lk_X11_177 : zb_lkV RX11 177 F_X4_isRight := ⟨(zb_in 592 (by decide +kernel) rfl), (zb_in 593 (by decide +kernel) rfl), (zb_in 594 (by decide +kernel) rfl)⟩
theorem lk_X4_42 : zb_lkV RX4 42 F_X4_countNamesakes := ⟨(zb_in 596 (by decide +kernel) rfl), (zb_in 597 (by decide +kernel) rfl), (zb_in 598 (by decide +kernel) rfl)⟩
theorem lk_L_70 : zb_lkV RL 70 F_X11_undo := ⟨(zb_in 600 (by decide +kernel) rfl), (zb_in 601 (by decide +kernel) rfl), (zb_in 602 (by decide +kernel) rfl)⟩
theorem lk_X11_184 : zb_lkV RX11 184 F_X1_latestGraph := ⟨(zb_in 604 (by decide +kernel) rfl), (zb_in 605 (by decide +kernel) rfl), (zb_in 606 (by decide +kernel) rfl)⟩
theorem lk_X1_39 : zb_lkV RX1 39 F_X1_latest := ⟨(zb_in 608 (by decide +kernel) rfl), (zb_in 609 (by decide +kernel) rfl), (zb_in 610 (by decide +kernel) rfl)⟩
theorem lk_X11_187 : zb_lkV RX11 187 F_X1_latestNet := ⟨(zb_in 612 (by decide +kernel) rfl), (zb_in 613 (by decide +kernel) rfl), (zb_in 614 (by decide +kernel) rfl)⟩
theorem lk_X11_191 : zb_lkV RX11 191 F_X1_forgetLatest := ⟨(zb_in 616 (by decide +kernel) rfl), (zb_in 617 (by decide +kernel) rfl), (zb_in 618 (by decide +kernel) rfl)⟩
theorem lk_X1_43 : zb_lkM RX1 43 Lib.Math.max.name Lib.Math.max.code := ⟨(zb_in 620 (by decide +kernel) rfl), (zb_in 185 (by decide +kernel) rfl), (zb_in 44 (by decide +kernel) rfl), (zb_in 186 (by decide +kernel) rfl)⟩
theorem lk_L_75 : zb_lkV RL 75 F_X11_split := ⟨(zb_in 621 (by decide +kernel) rfl), (zb_in 622 (by decide +kernel) rfl), (zb_in 623 (by decide +kernel) rfl)⟩
theorem lk_X11_194 : zb_lkV RX11 194 F_X6_take := ⟨(zb_in 625 (by decide +kernel) rfl), (zb_in 626 (by decide +kernel) rfl), (zb_in 627 (by decide +kernel) rfl)⟩
theorem lk_X6_38 : zb_lkV RX6 38 F_X4_keyOf := ⟨(zb_in 629 (by decide +kernel) rfl), (zb_in 580 (by decide +kernel) rfl), (zb_in 581 (by decide +kernel) rfl)⟩
theorem lk_X6_42 : zb_lkV RX6 42 F_X6_addThing := ⟨(zb_in 630 (by decide +kernel) rfl), (zb_in 631 (by decide +kernel) rfl), (zb_in 632 (by decide +kernel) rfl)⟩
theorem lk_X6_46 : zb_lkV RX6 46 F_X4_lineFrom := ⟨(zb_in 634 (by decide +kernel) rfl), (zb_in 538 (by decide +kernel) rfl), (zb_in 539 (by decide +kernel) rfl)⟩
theorem lk_X6_50 : zb_lkV RX6 50 F_X6_setLine := ⟨(zb_in 635 (by decide +kernel) rfl), (zb_in 636 (by decide +kernel) rfl), (zb_in 637 (by decide +kernel) rfl)⟩
theorem lk_X11_197 : zb_lkV RX11 197 F_X7_begin := ⟨(zb_in 639 (by decide +kernel) rfl), (zb_in 640 (by decide +kernel) rfl), (zb_in 641 (by decide +kernel) rfl)⟩
theorem lk_X7_28 : zb_lkV RX7 28 F_X5_gather := ⟨(zb_in 643 (by decide +kernel) rfl), (zb_in 644 (by decide +kernel) rfl), (zb_in 645 (by decide +kernel) rfl)⟩
theorem lk_X7_40 : zb_lkV RX7 40 F_X7_divide := ⟨(zb_in 647 (by decide +kernel) rfl), (zb_in 648 (by decide +kernel) rfl), (zb_in 649 (by decide +kernel) rfl)⟩
theorem lk_X7_75 : zb_lkV RX7 75 F_X7_compare := ⟨(zb_in 651 (by decide +kernel) rfl), (zb_in 652 (by decide +kernel) rfl), (zb_in 653 (by decide +kernel) rfl)⟩
theorem lk_X7_79 : zb_lkA RX7 79 := ⟨(zb_in 655 (by decide +kernel) rfl), (zb_in 491 (by decide +kernel) rfl), (zb_in 490 (by decide +kernel) rfl), (zb_in 52 (by decide +kernel) rfl)⟩
theorem lk_X7_44 : zb_lkV RX7 44 F_X7_settle := ⟨(zb_in 656 (by decide +kernel) rfl), (zb_in 657 (by decide +kernel) rfl), (zb_in 658 (by decide +kernel) rfl)⟩
theorem lk_X7_48 : zb_lkV RX7 48 F_X5_isAllAlone := ⟨(zb_in 660 (by decide +kernel) rfl), (zb_in 661 (by decide +kernel) rfl), (zb_in 662 (by decide +kernel) rfl)⟩
theorem lk_X7_55 : zb_lkV RX7 55 F_X7_look := ⟨(zb_in 664 (by decide +kernel) rfl), (zb_in 665 (by decide +kernel) rfl), (zb_in 666 (by decide +kernel) rfl)⟩
theorem lk_X7_62 : zb_lkV RX7 62 F_X5_isAlone := ⟨(zb_in 668 (by decide +kernel) rfl), (zb_in 669 (by decide +kernel) rfl), (zb_in 670 (by decide +kernel) rfl)⟩
theorem lk_L_79 : zb_lkV RL 79 F_X11_mark := ⟨(zb_in 672 (by decide +kernel) rfl), (zb_in 673 (by decide +kernel) rfl), (zb_in 674 (by decide +kernel) rfl)⟩
theorem lk_X11_208 : zb_lkV RX11 208 F_X6_indexOf := ⟨(zb_in 676 (by decide +kernel) rfl), (zb_in 677 (by decide +kernel) rfl), (zb_in 678 (by decide +kernel) rfl)⟩
theorem lk_X11_211 : zb_lkV RX11 211 F_X5_setApart := ⟨(zb_in 681 (by decide +kernel) rfl), (zb_in 682 (by decide +kernel) rfl), (zb_in 683 (by decide +kernel) rfl)⟩
theorem lk_X5_34 : zb_lkV RX5 34 F_X5_isAlone := ⟨(zb_in 685 (by decide +kernel) rfl), (zb_in 669 (by decide +kernel) rfl), (zb_in 670 (by decide +kernel) rfl)⟩
theorem lk_X5_38 : zb_lkV RX5 38 F_X5_moveAhead := ⟨(zb_in 686 (by decide +kernel) rfl), (zb_in 687 (by decide +kernel) rfl), (zb_in 688 (by decide +kernel) rfl)⟩
theorem lk_X11_214 : zb_lkV RX11 214 F_X7_settle := ⟨(zb_in 690 (by decide +kernel) rfl), (zb_in 657 (by decide +kernel) rfl), (zb_in 658 (by decide +kernel) rfl)⟩
theorem lk_L_83 : zb_lkV RL 83 F_X11_heapOf := ⟨(zb_in 691 (by decide +kernel) rfl), (zb_in 692 (by decide +kernel) rfl), (zb_in 693 (by decide +kernel) rfl)⟩
theorem lk_L_87 : zb_lkV RL 87 F_X11_name := ⟨(zb_in 695 (by decide +kernel) rfl), (zb_in 696 (by decide +kernel) rfl), (zb_in 697 (by decide +kernel) rfl)⟩
theorem lk_X11_220 : zb_lkV RX11 220 F_X8_findName := ⟨(zb_in 699 (by decide +kernel) rfl), (zb_in 700 (by decide +kernel) rfl), (zb_in 701 (by decide +kernel) rfl)⟩
theorem lk_X8_57 : zb_lkV RX8 57 F_X8_findTwins := ⟨(zb_in 703 (by decide +kernel) rfl), (zb_in 704 (by decide +kernel) rfl), (zb_in 705 (by decide +kernel) rfl)⟩
theorem lk_X8_74 : zb_lkV RX8 74 F_X6_areTwins := ⟨(zb_in 707 (by decide +kernel) rfl), (zb_in 708 (by decide +kernel) rfl), (zb_in 709 (by decide +kernel) rfl)⟩
theorem lk_X6_63 : zb_lkV RX6 63 F_X6_lineFrom := ⟨(zb_in 711 (by decide +kernel) rfl), (zb_in 712 (by decide +kernel) rfl), (zb_in 713 (by decide +kernel) rfl)⟩
theorem lk_X8_60 : zb_lkV RX8 60 F_X7_begin := ⟨(zb_in 715 (by decide +kernel) rfl), (zb_in 640 (by decide +kernel) rfl), (zb_in 641 (by decide +kernel) rfl)⟩
theorem lk_X8_66 : zb_lkS RX8 66 F_X8_grow := ⟨(zb_in 716 (by decide +kernel) rfl), (zb_in 717 (by decide +kernel) rfl)⟩
theorem lk_X8_78 : zb_lkV RX8 78 F_X5_isAllAlone := ⟨(zb_in 719 (by decide +kernel) rfl), (zb_in 661 (by decide +kernel) rfl), (zb_in 662 (by decide +kernel) rfl)⟩
theorem lk_X8_84 : zb_lkV RX8 84 F_X8_addLeaf := ⟨(zb_in 720 (by decide +kernel) rfl), (zb_in 721 (by decide +kernel) rfl), (zb_in 722 (by decide +kernel) rfl)⟩
theorem lk_X8_110 : zb_lkV RX8 110 F_X8_writeRow := ⟨(zb_in 724 (by decide +kernel) rfl), (zb_in 725 (by decide +kernel) rfl), (zb_in 726 (by decide +kernel) rfl)⟩
theorem lk_X8_133 : zb_lkV RX8 133 F_X6_lineFrom := ⟨(zb_in 728 (by decide +kernel) rfl), (zb_in 712 (by decide +kernel) rfl), (zb_in 713 (by decide +kernel) rfl)⟩
theorem lk_X8_113 : zb_lkV RX8 113 F_X8_isRowLess := ⟨(zb_in 729 (by decide +kernel) rfl), (zb_in 730 (by decide +kernel) rfl), (zb_in 731 (by decide +kernel) rfl)⟩
theorem lk_X8_117 : zb_lkA RX8 117 := ⟨(zb_in 733 (by decide +kernel) rfl), (zb_in 491 (by decide +kernel) rfl), (zb_in 490 (by decide +kernel) rfl), (zb_in 52 (by decide +kernel) rfl)⟩
theorem lk_X8_88 : zb_lkV RX8 88 F_X5_firstBigHeap := ⟨(zb_in 734 (by decide +kernel) rfl), (zb_in 735 (by decide +kernel) rfl), (zb_in 736 (by decide +kernel) rfl)⟩
theorem lk_X8_96 : zb_lkV RX8 96 F_X8_hasLesserTwin := ⟨(zb_in 738 (by decide +kernel) rfl), (zb_in 739 (by decide +kernel) rfl), (zb_in 740 (by decide +kernel) rfl)⟩
theorem lk_X8_100 : zb_lkV RX8 100 F_X5_become := ⟨(zb_in 742 (by decide +kernel) rfl), (zb_in 743 (by decide +kernel) rfl), (zb_in 744 (by decide +kernel) rfl)⟩
theorem lk_X5_28 : zb_lkA RX5 28 := ⟨(zb_in 746 (by decide +kernel) rfl), (zb_in 491 (by decide +kernel) rfl), (zb_in 490 (by decide +kernel) rfl), (zb_in 52 (by decide +kernel) rfl)⟩
theorem lk_X8_103 : zb_lkV RX8 103 F_X5_setApart := ⟨(zb_in 747 (by decide +kernel) rfl), (zb_in 682 (by decide +kernel) rfl), (zb_in 683 (by decide +kernel) rfl)⟩
theorem lk_X8_107 : zb_lkV RX8 107 F_X7_settle := ⟨(zb_in 748 (by decide +kernel) rfl), (zb_in 657 (by decide +kernel) rfl), (zb_in 658 (by decide +kernel) rfl)⟩
theorem lk_L_91 : zb_lkV RL 91 F_X11_nameAt := ⟨(zb_in 749 (by decide +kernel) rfl), (zb_in 750 (by decide +kernel) rfl), (zb_in 751 (by decide +kernel) rfl)⟩
theorem lk_L_95 : zb_lkV RL 95 F_X11_order := ⟨(zb_in 753 (by decide +kernel) rfl), (zb_in 754 (by decide +kernel) rfl), (zb_in 755 (by decide +kernel) rfl)⟩
theorem lk_L_99 : zb_lkV RL 99 F_X11_nodes := ⟨(zb_in 757 (by decide +kernel) rfl), (zb_in 758 (by decide +kernel) rfl), (zb_in 759 (by decide +kernel) rfl)⟩
theorem lk_L_103 : zb_lkV RL 103 F_X11_same := ⟨(zb_in 761 (by decide +kernel) rfl), (zb_in 762 (by decide +kernel) rfl), (zb_in 763 (by decide +kernel) rfl)⟩
theorem lk_X11_243 : zb_lkV RX11 243 F_X0_take := ⟨(zb_in 765 (by decide +kernel) rfl), (zb_in 766 (by decide +kernel) rfl), (zb_in 767 (by decide +kernel) rfl)⟩
theorem lk_X0_53 : zb_lkV RX0 53 F_X6_take := ⟨(zb_in 769 (by decide +kernel) rfl), (zb_in 626 (by decide +kernel) rfl), (zb_in 627 (by decide +kernel) rfl)⟩
theorem lk_X11_246 : zb_lkV RX11 246 F_X0_findNames := ⟨(zb_in 770 (by decide +kernel) rfl), (zb_in 771 (by decide +kernel) rfl), (zb_in 772 (by decide +kernel) rfl)⟩
theorem lk_X0_57 : zb_lkV RX0 57 F_X8_findName := ⟨(zb_in 774 (by decide +kernel) rfl), (zb_in 700 (by decide +kernel) rfl), (zb_in 701 (by decide +kernel) rfl)⟩
theorem lk_X11_249 : zb_lkV RX11 249 F_X0_isOneName := ⟨(zb_in 775 (by decide +kernel) rfl), (zb_in 776 (by decide +kernel) rfl), (zb_in 777 (by decide +kernel) rfl)⟩
theorem lk_X0_63 : zb_lkV RX0 63 F_X3_differsAt := ⟨(zb_in 779 (by decide +kernel) rfl), (zb_in 780 (by decide +kernel) rfl), (zb_in 781 (by decide +kernel) rfl)⟩
theorem lk_X3_22 : zb_lkM RX3 22 Lib.Math.min.name Lib.Math.min.code := ⟨(zb_in 783 (by decide +kernel) rfl), (zb_in 493 (by decide +kernel) rfl), (zb_in 44 (by decide +kernel) rfl), (zb_in 494 (by decide +kernel) rfl)⟩
theorem lk_X11_258 : zb_lkV RX11 258 F_X10_takeOrders := ⟨(zb_in 784 (by decide +kernel) rfl), (zb_in 785 (by decide +kernel) rfl), (zb_in 786 (by decide +kernel) rfl)⟩
theorem lk_X10_19 : zb_lkV RX10 19 F_X10_begin := ⟨(zb_in 788 (by decide +kernel) rfl), (zb_in 789 (by decide +kernel) rfl), (zb_in 790 (by decide +kernel) rfl)⟩
theorem lk_L_107 : zb_lkV RL 107 F_X11_unlike := ⟨(zb_in 792 (by decide +kernel) rfl), (zb_in 793 (by decide +kernel) rfl), (zb_in 794 (by decide +kernel) rfl)⟩
theorem lk_X11_262 : zb_lkV RX11 262 F_X0_tellApart := ⟨(zb_in 796 (by decide +kernel) rfl), (zb_in 797 (by decide +kernel) rfl), (zb_in 798 (by decide +kernel) rfl)⟩
theorem lk_X0_71 : zb_lkV RX0 71 F_X0_keepDifference := ⟨(zb_in 800 (by decide +kernel) rfl), (zb_in 801 (by decide +kernel) rfl), (zb_in 802 (by decide +kernel) rfl)⟩
theorem lk_X0_75 : zb_lkV RX0 75 F_X7_begin := ⟨(zb_in 804 (by decide +kernel) rfl), (zb_in 640 (by decide +kernel) rfl), (zb_in 641 (by decide +kernel) rfl)⟩
theorem lk_X0_81 : zb_lkV RX0 81 F_X0_isToldByKeys := ⟨(zb_in 805 (by decide +kernel) rfl), (zb_in 806 (by decide +kernel) rfl), (zb_in 807 (by decide +kernel) rfl)⟩
theorem lk_X0_85 : zb_lkV RX0 85 F_X0_isToldByHeaps := ⟨(zb_in 809 (by decide +kernel) rfl), (zb_in 810 (by decide +kernel) rfl), (zb_in 811 (by decide +kernel) rfl)⟩
theorem lk_X0_107 : zb_lkM RX0 107 Lib.Math.min.name Lib.Math.min.code := ⟨(zb_in 813 (by decide +kernel) rfl), (zb_in 493 (by decide +kernel) rfl), (zb_in 44 (by decide +kernel) rfl), (zb_in 494 (by decide +kernel) rfl)⟩
theorem lk_X0_88 : zb_lkV RX0 88 F_X0_findNames := ⟨(zb_in 814 (by decide +kernel) rfl), (zb_in 771 (by decide +kernel) rfl), (zb_in 772 (by decide +kernel) rfl)⟩
theorem lk_X0_91 : zb_lkV RX0 91 F_X0_isToldByNames := ⟨(zb_in 815 (by decide +kernel) rfl), (zb_in 816 (by decide +kernel) rfl), (zb_in 817 (by decide +kernel) rfl)⟩
theorem lk_L_111 : zb_lkV RL 111 F_X11_why := ⟨(zb_in 819 (by decide +kernel) rfl), (zb_in 820 (by decide +kernel) rfl), (zb_in 821 (by decide +kernel) rfl)⟩
theorem lk_L_115 : zb_lkV RL 115 F_X11_turnings := ⟨(zb_in 823 (by decide +kernel) rfl), (zb_in 824 (by decide +kernel) rfl), (zb_in 825 (by decide +kernel) rfl)⟩
theorem lk_X11_271 : zb_lkV RX11 271 F_X11_refusalOfTurnings := ⟨(zb_in 827 (by decide +kernel) rfl), (zb_in 829 (by decide +kernel) rfl), (zb_in 2 (by decide +kernel) rfl)⟩
theorem lk_X11_274 : zb_lkV RX11 274 F_X9_findMakers := ⟨(zb_in 831 (by decide +kernel) rfl), (zb_in 832 (by decide +kernel) rfl), (zb_in 833 (by decide +kernel) rfl)⟩
theorem lk_X9_56 : zb_lkV RX9 56 F_X9_markAhead := ⟨(zb_in 835 (by decide +kernel) rfl), (zb_in 836 (by decide +kernel) rfl), (zb_in 837 (by decide +kernel) rfl)⟩
theorem lk_X9_46 : zb_lkV RX9 46 F_X7_begin := ⟨(zb_in 839 (by decide +kernel) rfl), (zb_in 640 (by decide +kernel) rfl), (zb_in 641 (by decide +kernel) rfl)⟩
theorem lk_X9_75 : zb_lkV RX9 75 F_X5_become := ⟨(zb_in 840 (by decide +kernel) rfl), (zb_in 743 (by decide +kernel) rfl), (zb_in 744 (by decide +kernel) rfl)⟩
theorem lk_X9_81 : zb_lkV RX9 81 F_X5_setApart := ⟨(zb_in 841 (by decide +kernel) rfl), (zb_in 682 (by decide +kernel) rfl), (zb_in 683 (by decide +kernel) rfl)⟩
theorem lk_X9_85 : zb_lkV RX9 85 F_X7_settle := ⟨(zb_in 842 (by decide +kernel) rfl), (zb_in 657 (by decide +kernel) rfl), (zb_in 658 (by decide +kernel) rfl)⟩
theorem lk_X9_52 : zb_lkV RX9 52 F_X9_isLed := ⟨(zb_in 843 (by decide +kernel) rfl), (zb_in 844 (by decide +kernel) rfl), (zb_in 845 (by decide +kernel) rfl)⟩
theorem lk_X9_101 : zb_lkV RX9 101 F_X9_markInto := ⟨(zb_in 847 (by decide +kernel) rfl), (zb_in 848 (by decide +kernel) rfl), (zb_in 849 (by decide +kernel) rfl)⟩
theorem lk_X9_105 : zb_lkS RX9 105 F_X9_extend := ⟨(zb_in 851 (by decide +kernel) rfl), (zb_in 852 (by decide +kernel) rfl)⟩
theorem lk_X9_109 : zb_lkV RX9 109 F_X5_hasHeapsLike := ⟨(zb_in 854 (by decide +kernel) rfl), (zb_in 855 (by decide +kernel) rfl), (zb_in 856 (by decide +kernel) rfl)⟩
theorem lk_X9_113 : zb_lkV RX9 113 F_X5_firstNotAlone := ⟨(zb_in 858 (by decide +kernel) rfl), (zb_in 859 (by decide +kernel) rfl), (zb_in 860 (by decide +kernel) rfl)⟩
theorem lk_X9_117 : zb_lkV RX9 117 F_X9_readImage := ⟨(zb_in 862 (by decide +kernel) rfl), (zb_in 863 (by decide +kernel) rfl), (zb_in 864 (by decide +kernel) rfl)⟩
theorem lk_X9_125 : zb_lkV RX9 125 F_X6_isTurning := ⟨(zb_in 866 (by decide +kernel) rfl), (zb_in 867 (by decide +kernel) rfl), (zb_in 868 (by decide +kernel) rfl)⟩
theorem lk_X9_68 : zb_lkV RX9 68 F_X9_addMaker := ⟨(zb_in 870 (by decide +kernel) rfl), (zb_in 871 (by decide +kernel) rfl), (zb_in 872 (by decide +kernel) rfl)⟩
theorem lk_X9_88 : zb_lkA RX9 88 := ⟨(zb_in 874 (by decide +kernel) rfl), (zb_in 491 (by decide +kernel) rfl), (zb_in 490 (by decide +kernel) rfl), (zb_in 52 (by decide +kernel) rfl)⟩
theorem lk_X9_94 : zb_lkV RX9 94 F_X9_joinGroups := ⟨(zb_in 875 (by decide +kernel) rfl), (zb_in 876 (by decide +kernel) rfl), (zb_in 877 (by decide +kernel) rfl)⟩
theorem lk_X9_71 : zb_lkV RX9 71 F_X9_countReached := ⟨(zb_in 879 (by decide +kernel) rfl), (zb_in 880 (by decide +kernel) rfl), (zb_in 881 (by decide +kernel) rfl)⟩
theorem lk_L_120 : zb_lkV RL 120 F_X11_chain := ⟨(zb_in 883 (by decide +kernel) rfl), (zb_in 884 (by decide +kernel) rfl), (zb_in 885 (by decide +kernel) rfl)⟩
theorem lk_L_124 : zb_lkV RL 124 F_X11_where := ⟨(zb_in 887 (by decide +kernel) rfl), (zb_in 888 (by decide +kernel) rfl), (zb_in 889 (by decide +kernel) rfl)⟩
theorem lk_X11_282 : zb_lkV RX11 282 F_X9_findLeast := ⟨(zb_in 891 (by decide +kernel) rfl), (zb_in 892 (by decide +kernel) rfl), (zb_in 893 (by decide +kernel) rfl)⟩
theorem lk_X11_289 : zb_lkV RX11 289 F_X10_take := ⟨(zb_in 895 (by decide +kernel) rfl), (zb_in 896 (by decide +kernel) rfl), (zb_in 897 (by decide +kernel) rfl)⟩
theorem lk_L_128 : zb_lkV RL 128 F_X11_orbit := ⟨(zb_in 899 (by decide +kernel) rfl), (zb_in 900 (by decide +kernel) rfl), (zb_in 901 (by decide +kernel) rfl)⟩
theorem lk_X11_292 : zb_lkV RX11 292 F_X9_countReached := ⟨(zb_in 903 (by decide +kernel) rfl), (zb_in 880 (by decide +kernel) rfl), (zb_in 881 (by decide +kernel) rfl)⟩
theorem lk_L_132 : zb_lkV RL 132 F_X11_by := ⟨(zb_in 904 (by decide +kernel) rfl), (zb_in 905 (by decide +kernel) rfl), (zb_in 906 (by decide +kernel) rfl)⟩
theorem lk_X11_295 : zb_lkV RX11 295 F_X10_leadsFrom := ⟨(zb_in 908 (by decide +kernel) rfl), (zb_in 909 (by decide +kernel) rfl), (zb_in 910 (by decide +kernel) rfl)⟩
theorem lk_L_136 : zb_lkV RL 136 F_X11_makers := ⟨(zb_in 913 (by decide +kernel) rfl), (zb_in 914 (by decide +kernel) rfl), (zb_in 915 (by decide +kernel) rfl)⟩
theorem lk_L_140 : zb_lkV RL 140 F_X11_maker := ⟨(zb_in 917 (by decide +kernel) rfl), (zb_in 918 (by decide +kernel) rfl), (zb_in 919 (by decide +kernel) rfl)⟩
theorem lk_L_144 : zb_lkV RL 144 F_X11_then := ⟨(zb_in 921 (by decide +kernel) rfl), (zb_in 922 (by decide +kernel) rfl), (zb_in 923 (by decide +kernel) rfl)⟩
theorem lk_X11_308 : zb_lkV RX11 308 F_X10_isWithin := ⟨(zb_in 925 (by decide +kernel) rfl), (zb_in 926 (by decide +kernel) rfl), (zb_in 927 (by decide +kernel) rfl)⟩
theorem lk_X10_41 : zb_lkV RX10 41 F_X10_leadsFrom := ⟨(zb_in 929 (by decide +kernel) rfl), (zb_in 909 (by decide +kernel) rfl), (zb_in 910 (by decide +kernel) rfl)⟩
theorem lk_X11_312 : zb_lkV RX11 312 F_X10_goOnBy := ⟨(zb_in 930 (by decide +kernel) rfl), (zb_in 931 (by decide +kernel) rfl), (zb_in 932 (by decide +kernel) rfl)⟩
theorem lk_L_148 : zb_lkV RL 148 F_X11_list := ⟨(zb_in 934 (by decide +kernel) rfl), (zb_in 935 (by decide +kernel) rfl), (zb_in 936 (by decide +kernel) rfl)⟩
theorem lk_X11_316 : zb_lkV RX11 316 F_X2_make := ⟨(zb_in 938 (by decide +kernel) rfl), (zb_in 939 (by decide +kernel) rfl), (zb_in 940 (by decide +kernel) rfl)⟩
theorem lk_X2_39 : zb_lkS RX2 39 F_J6_bitCount_0f7a4 := ⟨(zb_in 942 (by decide +kernel) rfl), (zb_in 943 (by decide +kernel) rfl)⟩
theorem lk_X2_45 : zb_lkV RX2 45 F_X2_meetAllOfSort := ⟨(zb_in 948 (by decide +kernel) rfl), (zb_in 949 (by decide +kernel) rfl), (zb_in 950 (by decide +kernel) rfl)⟩
theorem lk_X2_63 : zb_lkS RX2 63 F_X2_exchanged := ⟨(zb_in 952 (by decide +kernel) rfl), (zb_in 953 (by decide +kernel) rfl)⟩
theorem lk_X2_67 : zb_lkS RX2 67 F_X2_bitOf := ⟨(zb_in 955 (by decide +kernel) rfl), (zb_in 956 (by decide +kernel) rfl)⟩
theorem lk_X2_26 : zb_lkM RX2 26 Lib.Math.max.name Lib.Math.max.code := ⟨(zb_in 958 (by decide +kernel) rfl), (zb_in 185 (by decide +kernel) rfl), (zb_in 44 (by decide +kernel) rfl), (zb_in 186 (by decide +kernel) rfl)⟩
theorem lk_X2_32 : zb_lkM RX2 32 Lib.Math.min.name Lib.Math.min.code := ⟨(zb_in 959 (by decide +kernel) rfl), (zb_in 493 (by decide +kernel) rfl), (zb_in 44 (by decide +kernel) rfl), (zb_in 494 (by decide +kernel) rfl)⟩
theorem lk_X2_70 : zb_lkS RX2 70 F_X2_neighbourOf := ⟨(zb_in 960 (by decide +kernel) rfl), (zb_in 961 (by decide +kernel) rfl)⟩
theorem lk_X2_49 : zb_lkV RX2 49 F_X6_takePairs := ⟨(zb_in 963 (by decide +kernel) rfl), (zb_in 964 (by decide +kernel) rfl), (zb_in 965 (by decide +kernel) rfl)⟩
theorem lk_X6_54 : zb_lkS RX6 54 F_X2_bitOf := ⟨(zb_in 967 (by decide +kernel) rfl), (zb_in 956 (by decide +kernel) rfl)⟩
theorem lk_X2_54 : zb_lkV RX2 54 F_X8_findName := ⟨(zb_in 968 (by decide +kernel) rfl), (zb_in 700 (by decide +kernel) rfl), (zb_in 701 (by decide +kernel) rfl)⟩
theorem lk_X2_60 : zb_lkV RX2 60 F_X2_putInPlace := ⟨(zb_in 969 (by decide +kernel) rfl), (zb_in 970 (by decide +kernel) rfl), (zb_in 971 (by decide +kernel) rfl)⟩
theorem lk_X2_73 : zb_lkV RX2 73 F_X3_isLessThan := ⟨(zb_in 973 (by decide +kernel) rfl), (zb_in 974 (by decide +kernel) rfl), (zb_in 975 (by decide +kernel) rfl)⟩
theorem lk_X3_28 : zb_lkV RX3 28 F_X3_differsAt := ⟨(zb_in 977 (by decide +kernel) rfl), (zb_in 780 (by decide +kernel) rfl), (zb_in 781 (by decide +kernel) rfl)⟩
theorem lk_L_152 : zb_lkV RL 152 F_X11_listed := ⟨(zb_in 978 (by decide +kernel) rfl), (zb_in 979 (by decide +kernel) rfl), (zb_in 980 (by decide +kernel) rfl)⟩
theorem lk_X11_327 : zb_lkV RX11 327 F_X4_becomeNamed := ⟨(zb_in 982 (by decide +kernel) rfl), (zb_in 983 (by decide +kernel) rfl), (zb_in 984 (by decide +kernel) rfl)⟩
theorem lk_X4_62 : zb_lkV RX4 62 F_X4_add := ⟨(zb_in 986 (by decide +kernel) rfl), (zb_in 496 (by decide +kernel) rfl), (zb_in 497 (by decide +kernel) rfl)⟩
theorem lk_L_12 : zb_lkI RL 12 F_X12_init := ⟨(zb_in 989 (by decide +kernel) rfl), (zb_in 990 (by decide +kernel) rfl), rfl⟩
theorem lk_X12_1 : zb_lkO RX12 1 := ⟨(zb_in 992 (by decide +kernel) rfl), (zb_in 60 (by decide +kernel) rfl), (zb_in 61 (by decide +kernel) rfl)⟩
theorem lk_L_74 : zb_lkV RL 74 F_X12_undo := ⟨(zb_in 1159 (by decide +kernel) rfl), (zb_in 1160 (by decide +kernel) rfl), (zb_in 1161 (by decide +kernel) rfl)⟩
theorem lk_L_17 : zb_lkV RL 17 F_X12_thing := ⟨(zb_in 1163 (by decide +kernel) rfl), (zb_in 1164 (by decide +kernel) rfl), (zb_in 1165 (by decide +kernel) rfl)⟩
theorem lk_X12_137 : zb_lkV RX12 137 F_X12_isGraph := ⟨(zb_in 1167 (by decide +kernel) rfl), (zb_in 1169 (by decide +kernel) rfl), (zb_in 3 (by decide +kernel) rfl)⟩
theorem lk_X12_133 : zb_lkS RX12 133 F_X12_in := ⟨(zb_in 1171 (by decide +kernel) rfl), (zb_in 1172 (by decide +kernel) rfl)⟩
theorem lk_X12_145 : zb_lkS RX12 145 F_X12_isNamed := ⟨(zb_in 1174 (by decide +kernel) rfl), (zb_in 1175 (by decide +kernel) rfl)⟩
theorem lk_X12_148 : zb_lkV RX12 148 F_X12_note := ⟨(zb_in 1177 (by decide +kernel) rfl), (zb_in 1179 (by decide +kernel) rfl), (zb_in 4 (by decide +kernel) rfl)⟩
theorem lk_L_22 : zb_lkV RL 22 F_X12_colour := ⟨(zb_in 1181 (by decide +kernel) rfl), (zb_in 1182 (by decide +kernel) rfl), (zb_in 1183 (by decide +kernel) rfl)⟩
theorem lk_X12_152 : zb_lkV RX12 152 F_X12_isThing := ⟨(zb_in 1185 (by decide +kernel) rfl), (zb_in 1187 (by decide +kernel) rfl), (zb_in 5 (by decide +kernel) rfl)⟩
theorem lk_L_26 : zb_lkV RL 26 F_X12_word := ⟨(zb_in 1189 (by decide +kernel) rfl), (zb_in 1190 (by decide +kernel) rfl), (zb_in 1191 (by decide +kernel) rfl)⟩
theorem lk_L_30 : zb_lkV RL 30 F_X12_row := ⟨(zb_in 1193 (by decide +kernel) rfl), (zb_in 1194 (by decide +kernel) rfl), (zb_in 1195 (by decide +kernel) rfl)⟩
theorem lk_L_35 : zb_lkV RL 35 F_X12_unrow := ⟨(zb_in 1197 (by decide +kernel) rfl), (zb_in 1198 (by decide +kernel) rfl), (zb_in 1199 (by decide +kernel) rfl)⟩
theorem lk_L_39 : zb_lkV RL 39 F_X12_place := ⟨(zb_in 1201 (by decide +kernel) rfl), (zb_in 1202 (by decide +kernel) rfl), (zb_in 1203 (by decide +kernel) rfl)⟩
theorem lk_L_43 : zb_lkV RL 43 F_X12_line := ⟨(zb_in 1205 (by decide +kernel) rfl), (zb_in 1206 (by decide +kernel) rfl), (zb_in 1207 (by decide +kernel) rfl)⟩
theorem lk_X12_156 : zb_lkV RX12 156 F_X12_lineOf := ⟨(zb_in 1209 (by decide +kernel) rfl), (zb_in 1211 (by decide +kernel) rfl), (zb_in 6 (by decide +kernel) rfl)⟩
theorem lk_L_48 : zb_lkV RL 48 F_X12_copy := ⟨(zb_in 1213 (by decide +kernel) rfl), (zb_in 1214 (by decide +kernel) rfl), (zb_in 1215 (by decide +kernel) rfl)⟩
theorem lk_L_52 : zb_lkV RL 52 F_X12_swap := ⟨(zb_in 1217 (by decide +kernel) rfl), (zb_in 1218 (by decide +kernel) rfl), (zb_in 1219 (by decide +kernel) rfl)⟩
theorem lk_X12_160 : zb_lkS RX12 160 F_X12_exchange := ⟨(zb_in 1221 (by decide +kernel) rfl), (zb_in 1222 (by decide +kernel) rfl)⟩
theorem lk_L_56 : zb_lkV RL 56 F_X12_twin := ⟨(zb_in 1224 (by decide +kernel) rfl), (zb_in 1225 (by decide +kernel) rfl), (zb_in 1226 (by decide +kernel) rfl)⟩
theorem lk_L_61 : zb_lkV RL 61 F_X12_drop := ⟨(zb_in 1228 (by decide +kernel) rfl), (zb_in 1229 (by decide +kernel) rfl), (zb_in 1230 (by decide +kernel) rfl)⟩
theorem lk_L_65 : zb_lkV RL 65 F_X12_told := ⟨(zb_in 1232 (by decide +kernel) rfl), (zb_in 1233 (by decide +kernel) rfl), (zb_in 1234 (by decide +kernel) rfl)⟩
theorem lk_X12_164 : zb_lkV RX12 164 F_X12_keyOf := ⟨(zb_in 1236 (by decide +kernel) rfl), (zb_in 1238 (by decide +kernel) rfl), (zb_in 7 (by decide +kernel) rfl)⟩
theorem lk_L_69 : zb_lkV RL 69 F_X12_count := ⟨(zb_in 1240 (by decide +kernel) rfl), (zb_in 1241 (by decide +kernel) rfl), (zb_in 1242 (by decide +kernel) rfl)⟩
theorem lk_X12_168 : zb_lkV RX12 168 F_X12_shownOf := ⟨(zb_in 1244 (by decide +kernel) rfl), (zb_in 1246 (by decide +kernel) rfl), (zb_in 8 (by decide +kernel) rfl)⟩
theorem lk_X12_172 : zb_lkV RX12 172 F_X12_isRight := ⟨(zb_in 1248 (by decide +kernel) rfl), (zb_in 1250 (by decide +kernel) rfl), (zb_in 9 (by decide +kernel) rfl)⟩
theorem lk_L_78 : zb_lkV RL 78 F_X12_split := ⟨(zb_in 1252 (by decide +kernel) rfl), (zb_in 1253 (by decide +kernel) rfl), (zb_in 1254 (by decide +kernel) rfl)⟩
theorem lk_X12_194 : zb_lkV RX12 194 F_X12_layOut := ⟨(zb_in 1256 (by decide +kernel) rfl), (zb_in 1258 (by decide +kernel) rfl), (zb_in 10 (by decide +kernel) rfl)⟩
theorem lk_X12_197 : zb_lkV RX12 197 F_X12_start := ⟨(zb_in 1260 (by decide +kernel) rfl), (zb_in 1262 (by decide +kernel) rfl), (zb_in 11 (by decide +kernel) rfl)⟩
theorem lk_X12_181 : zb_lkV RX12 181 F_X12_gather := ⟨(zb_in 1264 (by decide +kernel) rfl), (zb_in 1266 (by decide +kernel) rfl), (zb_in 12 (by decide +kernel) rfl)⟩
theorem lk_X12_178 : zb_lkV RX12 178 F_X12_orderSights := ⟨(zb_in 1268 (by decide +kernel) rfl), (zb_in 1270 (by decide +kernel) rfl), (zb_in 13 (by decide +kernel) rfl)⟩
theorem lk_X12_191 : zb_lkV RX12 191 F_X12_splitIn := ⟨(zb_in 1272 (by decide +kernel) rfl), (zb_in 1274 (by decide +kernel) rfl), (zb_in 14 (by decide +kernel) rfl)⟩
theorem lk_X12_185 : zb_lkV RX12 185 F_X12_see := ⟨(zb_in 1276 (by decide +kernel) rfl), (zb_in 1278 (by decide +kernel) rfl), (zb_in 15 (by decide +kernel) rfl)⟩
theorem lk_L_82 : zb_lkV RL 82 F_X12_mark := ⟨(zb_in 1280 (by decide +kernel) rfl), (zb_in 1281 (by decide +kernel) rfl), (zb_in 1282 (by decide +kernel) rfl)⟩
theorem lk_X12_207 : zb_lkV RX12 207 F_X12_handOf := ⟨(zb_in 1284 (by decide +kernel) rfl), (zb_in 1286 (by decide +kernel) rfl), (zb_in 16 (by decide +kernel) rfl)⟩
theorem lk_X12_210 : zb_lkV RX12 210 F_X12_markIn := ⟨(zb_in 1288 (by decide +kernel) rfl), (zb_in 1290 (by decide +kernel) rfl), (zb_in 17 (by decide +kernel) rfl)⟩
theorem lk_X12_188 : zb_lkV RX12 188 F_X12_isAlone := ⟨(zb_in 1292 (by decide +kernel) rfl), (zb_in 1294 (by decide +kernel) rfl), (zb_in 18 (by decide +kernel) rfl)⟩
theorem lk_L_86 : zb_lkV RL 86 F_X12_heapOf := ⟨(zb_in 1296 (by decide +kernel) rfl), (zb_in 1297 (by decide +kernel) rfl), (zb_in 1298 (by decide +kernel) rfl)⟩
theorem lk_L_90 : zb_lkV RL 90 F_X12_name := ⟨(zb_in 1300 (by decide +kernel) rfl), (zb_in 1301 (by decide +kernel) rfl), (zb_in 1302 (by decide +kernel) rfl)⟩
theorem lk_X12_234 : zb_lkV RX12 234 F_X12_grow := ⟨(zb_in 1304 (by decide +kernel) rfl), (zb_in 1306 (by decide +kernel) rfl), (zb_in 19 (by decide +kernel) rfl)⟩
theorem lk_X12_225 : zb_lkV RX12 225 F_X12_leaf := ⟨(zb_in 1308 (by decide +kernel) rfl), (zb_in 1310 (by decide +kernel) rfl), (zb_in 20 (by decide +kernel) rfl)⟩
theorem lk_X12_219 : zb_lkS RX12 219 F_X12_sizeOf := ⟨(zb_in 1312 (by decide +kernel) rfl), (zb_in 1313 (by decide +kernel) rfl)⟩
theorem lk_X12_228 : zb_lkV RX12 228 F_X12_targetOf := ⟨(zb_in 1315 (by decide +kernel) rfl), (zb_in 1317 (by decide +kernel) rfl), (zb_in 21 (by decide +kernel) rfl)⟩
theorem lk_X12_231 : zb_lkV RX12 231 F_X12_follows := ⟨(zb_in 1319 (by decide +kernel) rfl), (zb_in 1321 (by decide +kernel) rfl), (zb_in 22 (by decide +kernel) rfl)⟩
theorem lk_X12_213 : zb_lkV RX12 213 F_X12_areTwins := ⟨(zb_in 1323 (by decide +kernel) rfl), (zb_in 1325 (by decide +kernel) rfl), (zb_in 23 (by decide +kernel) rfl)⟩
theorem lk_L_94 : zb_lkV RL 94 F_X12_nameAt := ⟨(zb_in 1327 (by decide +kernel) rfl), (zb_in 1328 (by decide +kernel) rfl), (zb_in 1329 (by decide +kernel) rfl)⟩
theorem lk_L_98 : zb_lkV RL 98 F_X12_order := ⟨(zb_in 1331 (by decide +kernel) rfl), (zb_in 1332 (by decide +kernel) rfl), (zb_in 1333 (by decide +kernel) rfl)⟩
theorem lk_L_102 : zb_lkV RL 102 F_X12_nodes := ⟨(zb_in 1335 (by decide +kernel) rfl), (zb_in 1336 (by decide +kernel) rfl), (zb_in 1337 (by decide +kernel) rfl)⟩
theorem lk_L_106 : zb_lkV RL 106 F_X12_same := ⟨(zb_in 1339 (by decide +kernel) rfl), (zb_in 1340 (by decide +kernel) rfl), (zb_in 1341 (by decide +kernel) rfl)⟩
theorem lk_X12_250 : zb_lkV RX12 250 F_X12_growBoth := ⟨(zb_in 1343 (by decide +kernel) rfl), (zb_in 1345 (by decide +kernel) rfl), (zb_in 24 (by decide +kernel) rfl)⟩
theorem lk_X12_247 : zb_lkV RX12 247 F_X12_keepOther := ⟨(zb_in 1347 (by decide +kernel) rfl), (zb_in 1349 (by decide +kernel) rfl), (zb_in 25 (by decide +kernel) rfl)⟩
theorem lk_X12_253 : zb_lkV RX12 253 F_X12_differsAt := ⟨(zb_in 1351 (by decide +kernel) rfl), (zb_in 1353 (by decide +kernel) rfl), (zb_in 26 (by decide +kernel) rfl)⟩
theorem lk_X12_256 : zb_lkV RX12 256 F_X12_clearTurning := ⟨(zb_in 1355 (by decide +kernel) rfl), (zb_in 1357 (by decide +kernel) rfl), (zb_in 27 (by decide +kernel) rfl)⟩
theorem lk_L_110 : zb_lkV RL 110 F_X12_unlike := ⟨(zb_in 1359 (by decide +kernel) rfl), (zb_in 1360 (by decide +kernel) rfl), (zb_in 1361 (by decide +kernel) rfl)⟩
theorem lk_X12_262 : zb_lkV RX12 262 F_X12_unlikeBy := ⟨(zb_in 1363 (by decide +kernel) rfl), (zb_in 1365 (by decide +kernel) rfl), (zb_in 28 (by decide +kernel) rfl)⟩
theorem lk_X12_266 : zb_lkV RX12 266 F_X12_sumUp := ⟨(zb_in 1367 (by decide +kernel) rfl), (zb_in 1369 (by decide +kernel) rfl), (zb_in 29 (by decide +kernel) rfl)⟩
theorem lk_L_114 : zb_lkV RL 114 F_X12_why := ⟨(zb_in 1371 (by decide +kernel) rfl), (zb_in 1372 (by decide +kernel) rfl), (zb_in 1373 (by decide +kernel) rfl)⟩
theorem lk_L_119 : zb_lkV RL 119 F_X12_turnings := ⟨(zb_in 1375 (by decide +kernel) rfl), (zb_in 1376 (by decide +kernel) rfl), (zb_in 1377 (by decide +kernel) rfl)⟩
theorem lk_X12_280 : zb_lkV RX12 280 F_X12_chainOf := ⟨(zb_in 1381 (by decide +kernel) rfl), (zb_in 1383 (by decide +kernel) rfl), (zb_in 30 (by decide +kernel) rfl)⟩
theorem lk_X12_273 : zb_lkV RX12 273 F_X12_find := ⟨(zb_in 1385 (by decide +kernel) rfl), (zb_in 1387 (by decide +kernel) rfl), (zb_in 31 (by decide +kernel) rfl)⟩
theorem lk_X12_270 : zb_lkV RX12 270 F_X12_mayGo := ⟨(zb_in 1389 (by decide +kernel) rfl), (zb_in 1391 (by decide +kernel) rfl), (zb_in 32 (by decide +kernel) rfl)⟩
theorem lk_L_123 : zb_lkV RL 123 F_X12_chain := ⟨(zb_in 1393 (by decide +kernel) rfl), (zb_in 1394 (by decide +kernel) rfl), (zb_in 1395 (by decide +kernel) rfl)⟩
theorem lk_L_127 : zb_lkV RL 127 F_X12_where := ⟨(zb_in 1397 (by decide +kernel) rfl), (zb_in 1398 (by decide +kernel) rfl), (zb_in 1399 (by decide +kernel) rfl)⟩
theorem lk_X12_283 : zb_lkV RX12 283 F_X12_shownPlace := ⟨(zb_in 1401 (by decide +kernel) rfl), (zb_in 1403 (by decide +kernel) rfl), (zb_in 33 (by decide +kernel) rfl)⟩
theorem lk_L_131 : zb_lkV RL 131 F_X12_orbit := ⟨(zb_in 1405 (by decide +kernel) rfl), (zb_in 1406 (by decide +kernel) rfl), (zb_in 1407 (by decide +kernel) rfl)⟩
theorem lk_L_135 : zb_lkV RL 135 F_X12_by := ⟨(zb_in 1409 (by decide +kernel) rfl), (zb_in 1410 (by decide +kernel) rfl), (zb_in 1411 (by decide +kernel) rfl)⟩
theorem lk_L_139 : zb_lkV RL 139 F_X12_makers := ⟨(zb_in 1413 (by decide +kernel) rfl), (zb_in 1414 (by decide +kernel) rfl), (zb_in 1415 (by decide +kernel) rfl)⟩
theorem lk_X12_292 : zb_lkV RX12 292 F_X12_leads := ⟨(zb_in 1417 (by decide +kernel) rfl), (zb_in 1419 (by decide +kernel) rfl), (zb_in 34 (by decide +kernel) rfl)⟩
theorem lk_L_143 : zb_lkV RL 143 F_X12_maker := ⟨(zb_in 1421 (by decide +kernel) rfl), (zb_in 1422 (by decide +kernel) rfl), (zb_in 1423 (by decide +kernel) rfl)⟩
theorem lk_L_147 : zb_lkV RL 147 F_X12_then := ⟨(zb_in 1425 (by decide +kernel) rfl), (zb_in 1426 (by decide +kernel) rfl), (zb_in 1427 (by decide +kernel) rfl)⟩
theorem lk_L_151 : zb_lkV RL 151 F_X12_list := ⟨(zb_in 1429 (by decide +kernel) rfl), (zb_in 1430 (by decide +kernel) rfl), (zb_in 1431 (by decide +kernel) rfl)⟩
theorem lk_X12_304 : zb_lkS RX12 304 F_X12_bitsOf := ⟨(zb_in 1433 (by decide +kernel) rfl), (zb_in 1434 (by decide +kernel) rfl)⟩
theorem lk_X12_307 : zb_lkV RX12 307 F_X12_enter := ⟨(zb_in 1436 (by decide +kernel) rfl), (zb_in 1438 (by decide +kernel) rfl), (zb_in 35 (by decide +kernel) rfl)⟩
theorem lk_X12_298 : zb_lkV RX12 298 F_X12_orderName := ⟨(zb_in 1440 (by decide +kernel) rfl), (zb_in 1442 (by decide +kernel) rfl), (zb_in 36 (by decide +kernel) rfl)⟩
theorem lk_L_155 : zb_lkV RL 155 F_X12_listed := ⟨(zb_in 1444 (by decide +kernel) rfl), (zb_in 1445 (by decide +kernel) rfl), (zb_in 1446 (by decide +kernel) rfl)⟩
theorem lk_X1_21 : zb_lkIN RX1 21 F_X4_init := ⟨"SameBench", (zb_inN 35 (by decide +kernel) rfl), (zb_in 73 (by decide +kernel) rfl), rfl⟩
theorem lk_X11_24 : zb_lkIN RX11 24 F_X6_init := ⟨"SameBench", (zb_inN 83 (by decide +kernel) rfl), (zb_in 121 (by decide +kernel) rfl), rfl⟩
theorem lk_X11_31 : zb_lkIN RX11 31 F_X7_init := ⟨"SameBench", (zb_inN 121 (by decide +kernel) rfl), (zb_in 159 (by decide +kernel) rfl), rfl⟩
theorem lk_X8_9 : zb_lkSN RX8 9 F_X11_makePartings := ⟨"SameBench", (zb_inN 144 (by decide +kernel) rfl), (zb_in 182 (by decide +kernel) rfl)⟩
theorem lk_X11_66 : zb_lkIN RX11 66 F_X5_init := ⟨"SameBench", (zb_inN 153 (by decide +kernel) rfl), (zb_in 191 (by decide +kernel) rfl), rfl⟩
theorem lk_X9_9 : zb_lkSN RX9 9 F_X11_makePartings := ⟨"SameBench", (zb_inN 215 (by decide +kernel) rfl), (zb_in 182 (by decide +kernel) rfl)⟩
theorem lk_X0_11 : zb_lkIN RX0 11 F_X6_init := ⟨"SameBench", (zb_inN 258 (by decide +kernel) rfl), (zb_in 121 (by decide +kernel) rfl), rfl⟩
theorem lk_X0_23 : zb_lkIN RX0 23 F_X5_init := ⟨"SameBench", (zb_inN 260 (by decide +kernel) rfl), (zb_in 191 (by decide +kernel) rfl), rfl⟩
theorem lk_X0_33 : zb_lkIN RX0 33 F_X3_init := ⟨"SameBench", (zb_inN 263 (by decide +kernel) rfl), (zb_in 301 (by decide +kernel) rfl), rfl⟩
theorem lk_X11_73 : zb_lkIN RX11 73 F_X3_init := ⟨"SameBench", (zb_inN 340 (by decide +kernel) rfl), (zb_in 301 (by decide +kernel) rfl), rfl⟩
theorem lk_X11_80 : zb_lkIN RX11 80 F_X10_init := ⟨"SameBench", (zb_inN 343 (by decide +kernel) rfl), (zb_in 381 (by decide +kernel) rfl), rfl⟩
theorem lk_X2_25 : zb_lkIN RX2 25 F_X3_init := ⟨"SameBench", (zb_inN 364 (by decide +kernel) rfl), (zb_in 301 (by decide +kernel) rfl), rfl⟩
theorem lk_X11_96 : zb_lkIN RX11 96 F_X4_init := ⟨"SameBench", (zb_inN 380 (by decide +kernel) rfl), (zb_in 73 (by decide +kernel) rfl), rfl⟩
theorem lk_X4_31 : zb_lkSN RX4 31 F_X11_isNamedKind := ⟨"SameBench", (zb_inN 462 (by decide +kernel) rfl), (zb_in 475 (by decide +kernel) rfl)⟩
theorem lk_X6_59 : zb_lkSN RX6 59 F_X11_isBelow := ⟨"SameBench", (zb_inN 643 (by decide +kernel) rfl), (zb_in 472 (by decide +kernel) rfl)⟩
theorem lk_X10_37 : zb_lkSN RX10 37 F_X11_isBelow := ⟨"SameBench", (zb_inN 875 (by decide +kernel) rfl), (zb_in 472 (by decide +kernel) rfl)⟩
theorem mq_X11_9 : Cond.classLink RX11 9 RX4 ∈ zb_all := (zb_in 62 (by decide +kernel) rfl)
theorem mq_X11_64 : Cond.classLink RX11 64 RX5 ∈ zb_all := (zb_in 187 (by decide +kernel) rfl)
theorem mq_X11_78 : Cond.classLink RX11 78 RX10 ∈ zb_all := (zb_in 378 (by decide +kernel) rfl)
theorem mq_X1_9 : Cond.classLink RX1 9 RX4 ∈ zb_all := (zb_in 70 (by decide +kernel) rfl)
theorem mq_X2_11 : Cond.classLink RX2 11 RX3 ∈ zb_all := (zb_in 399 (by decide +kernel) rfl)
theorem mk_X11_9 : zb_mk RX11 9 4 := ⟨_, cl_4, (zb_in 62 (by decide +kernel) rfl), (zb_in 71 (by decide +kernel) rfl), (zb_in 40 (by decide +kernel) rfl), fun j hj => zb_fitb_ok ((by decide +kernel : ∀ j, j < 6 → zb_fitb (zb_tyX 4 j) = true) j hj)⟩
theorem mk_X11_15 : zb_mk RX11 15 1 := ⟨_, cl_1, (zb_in 64 (by decide +kernel) rfl), (zb_in 65 (by decide +kernel) rfl), (zb_in 39 (by decide +kernel) rfl), fun j hj => zb_fitb_ok ((by decide +kernel : ∀ j, j < 4 → zb_fitb (zb_tyX 1 j) = true) j hj)⟩
theorem mk_X11_22 : zb_mk RX11 22 6 := ⟨_, cl_6, (zb_in 118 (by decide +kernel) rfl), (zb_in 119 (by decide +kernel) rfl), (zb_in 41 (by decide +kernel) rfl), fun j hj => zb_fitb_ok ((by decide +kernel : ∀ j, j < 6 → zb_fitb (zb_tyX 6 j) = true) j hj)⟩
theorem mk_X11_29 : zb_mk RX11 29 7 := ⟨_, cl_7, (zb_in 156 (by decide +kernel) rfl), (zb_in 157 (by decide +kernel) rfl), (zb_in 42 (by decide +kernel) rfl), fun j hj => zb_fitb_ok ((by decide +kernel : ∀ j, j < 4 → zb_fitb (zb_tyX 7 j) = true) j hj)⟩
theorem mk_X11_36 : zb_mk RX11 36 8 := ⟨_, cl_8, (zb_in 175 (by decide +kernel) rfl), (zb_in 176 (by decide +kernel) rfl), (zb_in 43 (by decide +kernel) rfl), fun j hj => zb_fitb_ok ((by decide +kernel : ∀ j, j < 6 → zb_fitb (zb_tyX 8 j) = true) j hj)⟩
theorem mk_X11_45 : zb_mk RX11 45 9 := ⟨_, cl_9, (zb_in 246 (by decide +kernel) rfl), (zb_in 247 (by decide +kernel) rfl), (zb_in 46 (by decide +kernel) rfl), fun j hj => zb_fitb_ok ((by decide +kernel : ∀ j, j < 10 → zb_fitb (zb_tyX 9 j) = true) j hj)⟩
theorem mk_X11_52 : zb_mk RX11 52 0 := ⟨_, cl_0, (zb_in 288 (by decide +kernel) rfl), (zb_in 289 (by decide +kernel) rfl), (zb_in 47 (by decide +kernel) rfl), fun j hj => zb_fitb_ok ((by decide +kernel : ∀ j, j < 10 → zb_fitb (zb_tyX 0 j) = true) j hj)⟩
theorem mk_X11_64 : zb_mk RX11 64 5 := ⟨_, cl_5, (zb_in 187 (by decide +kernel) rfl), (zb_in 189 (by decide +kernel) rfl), (zb_in 45 (by decide +kernel) rfl), fun j hj => zb_fitb_ok ((by decide +kernel : ∀ j, j < 5 → zb_fitb (zb_tyX 5 j) = true) j hj)⟩
theorem mk_X11_71 : zb_mk RX11 71 3 := ⟨_, cl_3, (zb_in 376 (by decide +kernel) rfl), (zb_in 299 (by decide +kernel) rfl), (zb_in 48 (by decide +kernel) rfl), fun j hj => zb_fitb_ok ((by decide +kernel : ∀ j, j < 7 → zb_fitb (zb_tyX 3 j) = true) j hj)⟩
theorem mk_X11_78 : zb_mk RX11 78 10 := ⟨_, cl_10, (zb_in 378 (by decide +kernel) rfl), (zb_in 379 (by decide +kernel) rfl), (zb_in 49 (by decide +kernel) rfl), fun j hj => zb_fitb_ok ((by decide +kernel : ∀ j, j < 2 → zb_fitb (zb_tyX 10 j) = true) j hj)⟩
theorem mk_X11_89 : zb_mk RX11 89 2 := ⟨_, cl_2, (zb_in 393 (by decide +kernel) rfl), (zb_in 394 (by decide +kernel) rfl), (zb_in 50 (by decide +kernel) rfl), fun j hj => zb_fitb_ok ((by decide +kernel : ∀ j, j < 4 → zb_fitb (zb_tyX 2 j) = true) j hj)⟩
theorem mk_X0_9 : zb_mk RX0 9 6 := ⟨_, cl_6, (zb_in 294 (by decide +kernel) rfl), (zb_in 119 (by decide +kernel) rfl), (zb_in 41 (by decide +kernel) rfl), fun j hj => zb_fitb_ok ((by decide +kernel : ∀ j, j < 6 → zb_fitb (zb_tyX 6 j) = true) j hj)⟩
theorem mk_X0_21 : zb_mk RX0 21 5 := ⟨_, cl_5, (zb_in 296 (by decide +kernel) rfl), (zb_in 189 (by decide +kernel) rfl), (zb_in 45 (by decide +kernel) rfl), fun j hj => zb_fitb_ok ((by decide +kernel : ∀ j, j < 5 → zb_fitb (zb_tyX 5 j) = true) j hj)⟩
theorem mk_X0_31 : zb_mk RX0 31 3 := ⟨_, cl_3, (zb_in 298 (by decide +kernel) rfl), (zb_in 299 (by decide +kernel) rfl), (zb_in 48 (by decide +kernel) rfl), fun j hj => zb_fitb_ok ((by decide +kernel : ∀ j, j < 7 → zb_fitb (zb_tyX 3 j) = true) j hj)⟩
theorem mk_X1_9 : zb_mk RX1 9 4 := ⟨_, cl_4, (zb_in 70 (by decide +kernel) rfl), (zb_in 71 (by decide +kernel) rfl), (zb_in 40 (by decide +kernel) rfl), fun j hj => zb_fitb_ok ((by decide +kernel : ∀ j, j < 6 → zb_fitb (zb_tyX 4 j) = true) j hj)⟩
theorem mk_X2_11 : zb_mk RX2 11 3 := ⟨_, cl_3, (zb_in 399 (by decide +kernel) rfl), (zb_in 299 (by decide +kernel) rfl), (zb_in 48 (by decide +kernel) rfl), fun j hj => zb_fitb_ok ((by decide +kernel : ∀ j, j < 7 → zb_fitb (zb_tyX 3 j) = true) j hj)⟩
theorem mk_L_7 : zb_mk RL 7 11 := ⟨_, cl_11, (zb_in 54 (by decide +kernel) rfl), (zb_in 55 (by decide +kernel) rfl), (zb_in 38 (by decide +kernel) rfl), fun j hj => zb_fitb_ok ((by decide +kernel : ∀ j, j < 15 → zb_fitb (zb_tyX 11 j) = true) j hj)⟩
theorem mk_L_10 : zb_mk RL 10 12 := ⟨_, cl_12, (zb_in 987 (by decide +kernel) rfl), (zb_in 988 (by decide +kernel) rfl), (zb_in 51 (by decide +kernel) rfl), fun j hj => zb_fitb_ok ((by decide +kernel : ∀ j, j < 55 → zb_fitb (zb_tyX 12 j) = true) j hj)⟩
theorem co_J6_265 : Cond.constant RJ6 265 (Int32.ofInt 1431655765) ∈ zb_all := (zb_in 945 (by decide +kernel) rfl)
theorem co_J6_266 : Cond.constant RJ6 266 (Int32.ofInt 858993459) ∈ zb_all := (zb_in 946 (by decide +kernel) rfl)
theorem co_J6_267 : Cond.constant RJ6 267 (Int32.ofInt 252645135) ∈ zb_all := (zb_in 947 (by decide +kernel) rfl)
theorem co_X12_276 : Cond.constantLong RX12 276 (Int64.ofInt (-1)) ∈ zb_all := (zb_in 1379 (by decide +kernel) rfl)
theorem co_X12_278 : Cond.constantLong RX12 278 (Int64.ofInt (-2)) ∈ zb_all := (zb_in 1380 (by decide +kernel) rfl)
theorem ac_int : Cond.arrayClass (newarray.typeOf .int) ∈ zb_all := zb_in 103 (by decide +kernel) rfl
theorem ac_long : Cond.arrayClass (newarray.typeOf .long) ∈ zb_all := zb_in 155 (by decide +kernel) rfl
theorem ac_boolean : Cond.arrayClass (newarray.typeOf .boolean) ∈ zb_all := zb_in 245 (by decide +kernel) rfl
/-- final fields that refer to a cell: its kind and its length -/
def zb_fi : Nat → Nat → Option (Nat × Nat)
  | 0, 0 => some (7, 0)
  | 0, 1 => some (8, 0)
  | 0, 2 => some (6, 0)
  | 0, 3 => some (6, 0)
  | 0, 4 => some (5, 0)
  | 0, 5 => some (5, 0)
  | 0, 6 => some (3, 0)
  | 0, 7 => some (3, 0)
  | 0, 8 => some (13, 3)
  | 1, 0 => some (16, 20)
  | 1, 1 => some (13, 20)
  | 2, 0 => some (18, 8)
  | 2, 2 => some (15, 1024)
  | 2, 3 => some (13, 1024)
  | 3, 5 => some (13, 157)
  | 3, 6 => some (13, 12)
  | 4, 1 => some (13, 12)
  | 4, 2 => some (13, 12)
  | 4, 3 => some (13, 12)
  | 4, 4 => some (13, 12)
  | 4, 5 => some (13, 144)
  | 5, 2 => some (13, 12)
  | 5, 3 => some (13, 12)
  | 5, 4 => some (13, 12)
  | 6, 1 => some (13, 12)
  | 6, 2 => some (13, 12)
  | 6, 3 => some (13, 12)
  | 6, 4 => some (13, 144)
  | 6, 5 => some (14, 144)
  | 7, 0 => some (14, 288)
  | 7, 2 => some (13, 12)
  | 7, 3 => some (13, 12)
  | 8, 0 => some (7, 0)
  | 8, 1 => some (17, 13)
  | 8, 2 => some (15, 144)
  | 8, 3 => some (13, 157)
  | 9, 0 => some (7, 0)
  | 9, 1 => some (17, 13)
  | 9, 2 => some (17, 13)
  | 9, 3 => some (17, 13)
  | 9, 4 => some (13, 12)
  | 9, 5 => some (13, 144)
  | 9, 7 => some (13, 12)
  | 9, 8 => some (13, 12)
  | 10, 1 => some (13, 12)
  | 11, 0 => some (16, 8)
  | 11, 1 => some (1, 0)
  | 11, 2 => some (6, 0)
  | 11, 3 => some (7, 0)
  | 11, 4 => some (8, 0)
  | 11, 5 => some (9, 0)
  | 11, 6 => some (0, 0)
  | 11, 8 => some (6, 0)
  | 11, 9 => some (5, 0)
  | 11, 10 => some (3, 0)
  | 11, 11 => some (10, 0)
  | 11, 12 => some (19, 12)
  | 11, 14 => some (2, 0)
  | 12, 0 => some (13, 8)
  | 12, 1 => some (13, 96)
  | 12, 2 => some (13, 96)
  | 12, 3 => some (13, 96)
  | 12, 4 => some (13, 96)
  | 12, 5 => some (13, 1152)
  | 12, 6 => some (13, 20)
  | 12, 7 => some (13, 20)
  | 12, 8 => some (13, 240)
  | 12, 9 => some (13, 240)
  | 12, 10 => some (13, 240)
  | 12, 11 => some (13, 240)
  | 12, 12 => some (13, 2880)
  | 12, 14 => some (13, 144)
  | 12, 16 => some (13, 12)
  | 12, 17 => some (13, 12)
  | 12, 18 => some (13, 144)
  | 12, 19 => some (13, 180)
  | 12, 20 => some (13, 15)
  | 12, 21 => some (13, 2640)
  | 12, 22 => some (13, 12)
  | 12, 25 => some (13, 12)
  | 12, 26 => some (13, 144)
  | 12, 27 => some (13, 13)
  | 12, 30 => some (13, 160)
  | 12, 31 => some (13, 12)
  | 12, 32 => some (13, 160)
  | 12, 33 => some (13, 12)
  | 12, 35 => some (13, 160)
  | 12, 36 => some (13, 12)
  | 12, 38 => some (13, 160)
  | 12, 39 => some (13, 12)
  | 12, 41 => some (13, 12)
  | 12, 43 => some (13, 3)
  | 12, 44 => some (13, 12)
  | 12, 45 => some (13, 13)
  | 12, 46 => some (13, 12)
  | 12, 47 => some (13, 13)
  | 12, 48 => some (13, 12)
  | 12, 50 => some (13, 1200)
  | 12, 54 => some (13, 1600)
  | _, _ => none
end
