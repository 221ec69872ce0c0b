section
-- ===== PART A: goes FIRST, ahead of the names: the tables' words, and 'selects' of the private methods out of them =====
/-- a private method of a class that the tables say can be made, by its rows of tables_1 -/
def lw_okq (q : MethodName × Nat) : Prop := (q.1.cls ≠ "java/lang/invoke/MethodHandle" ∧ q.1.cls ≠ "java/lang/invoke/VarHandle") ∧ Cond.instantiable q.1.cls q.2 ∈ tables_1 ∧ Cond.privateMethod q.1 ∈ tables_1 ∧ Cond.instanceMethod q.1 ∈ tables_1
theorem lw_p0 : lw_okq (⟨"FlagWalk", "forget", "()V"⟩, 16) := ⟨⟨by decide +kernel, by decide +kernel⟩, List.mem_of_getElem? (i := 21) (by decide +kernel), List.mem_of_getElem? (i := 434) (by decide +kernel), List.mem_of_getElem? (i := 435) (by decide +kernel)⟩
theorem lw_p1 : lw_okq (⟨"FlagWalk", "isPerson", "(I)Z"⟩, 16) := ⟨⟨by decide +kernel, by decide +kernel⟩, List.mem_of_getElem? (i := 21) (by decide +kernel), List.mem_of_getElem? (i := 478) (by decide +kernel), List.mem_of_getElem? (i := 479) (by decide +kernel)⟩
theorem lw_p2 : lw_okq (⟨"FlagWalk", "goAlong", "()V"⟩, 16) := ⟨⟨by decide +kernel, by decide +kernel⟩, List.mem_of_getElem? (i := 21) (by decide +kernel), List.mem_of_getElem? (i := 634) (by decide +kernel), List.mem_of_getElem? (i := 635) (by decide +kernel)⟩
theorem lw_p3 : lw_okq (⟨"FlagWalk", "writeTrail", "(I)V"⟩, 16) := ⟨⟨by decide +kernel, by decide +kernel⟩, List.mem_of_getElem? (i := 21) (by decide +kernel), List.mem_of_getElem? (i := 718) (by decide +kernel), List.mem_of_getElem? (i := 719) (by decide +kernel)⟩
theorem lw_p4 : lw_okq (⟨"FlagWalk", "seekBest", "(I)V"⟩, 16) := ⟨⟨by decide +kernel, by decide +kernel⟩, List.mem_of_getElem? (i := 21) (by decide +kernel), List.mem_of_getElem? (i := 753) (by decide +kernel), List.mem_of_getElem? (i := 754) (by decide +kernel)⟩
theorem lw_p5 : lw_okq (⟨"FlagWalk", "noteBest", "(IIII)V"⟩, 16) := ⟨⟨by decide +kernel, by decide +kernel⟩, List.mem_of_getElem? (i := 21) (by decide +kernel), List.mem_of_getElem? (i := 773) (by decide +kernel), List.mem_of_getElem? (i := 774) (by decide +kernel)⟩
theorem lw_p6 : lw_okq (⟨"FlagWalkModel", "markAt", "(II)I"⟩, 41) := ⟨⟨by decide +kernel, by decide +kernel⟩, List.mem_of_getElem? (i := 937) (by decide +kernel), List.mem_of_getElem? (i := 1087) (by decide +kernel), List.mem_of_getElem? (i := 1088) (by decide +kernel)⟩
theorem lw_p7 : lw_okq (⟨"FlagWalkModel", "comes", "(III)I"⟩, 41) := ⟨⟨by decide +kernel, by decide +kernel⟩, List.mem_of_getElem? (i := 937) (by decide +kernel), List.mem_of_getElem? (i := 1091) (by decide +kernel), List.mem_of_getElem? (i := 1092) (by decide +kernel)⟩
theorem lw_p8 : lw_okq (⟨"FlagWalkModel", "tail", "()I"⟩, 41) := ⟨⟨by decide +kernel, by decide +kernel⟩, List.mem_of_getElem? (i := 937) (by decide +kernel), List.mem_of_getElem? (i := 1108) (by decide +kernel), List.mem_of_getElem? (i := 1109) (by decide +kernel)⟩
theorem lw_p9 : lw_okq (⟨"FlagWalkModel", "joins", "(III)I"⟩, 41) := ⟨⟨by decide +kernel, by decide +kernel⟩, List.mem_of_getElem? (i := 937) (by decide +kernel), List.mem_of_getElem? (i := 1112) (by decide +kernel), List.mem_of_getElem? (i := 1113) (by decide +kernel)⟩
theorem lw_p10 : lw_okq (⟨"FlagWalkModel", "isOne", "(I)Z"⟩, 41) := ⟨⟨by decide +kernel, by decide +kernel⟩, List.mem_of_getElem? (i := 937) (by decide +kernel), List.mem_of_getElem? (i := 1120) (by decide +kernel), List.mem_of_getElem? (i := 1121) (by decide +kernel)⟩
theorem lw_p11 : lw_okq (⟨"FlagWalkModel", "readAll", "(Z)I"⟩, 41) := ⟨⟨by decide +kernel, by decide +kernel⟩, List.mem_of_getElem? (i := 937) (by decide +kernel), List.mem_of_getElem? (i := 1145) (by decide +kernel), List.mem_of_getElem? (i := 1146) (by decide +kernel)⟩
theorem lw_p12 : lw_okq (⟨"FlagWalkModel", "markClause", "(I)V"⟩, 41) := ⟨⟨by decide +kernel, by decide +kernel⟩, List.mem_of_getElem? (i := 937) (by decide +kernel), List.mem_of_getElem? (i := 1149) (by decide +kernel), List.mem_of_getElem? (i := 1150) (by decide +kernel)⟩
theorem lw_p13 : lw_okq (⟨"FlagWalkModel", "letter", "(IIII)I"⟩, 41) := ⟨⟨by decide +kernel, by decide +kernel⟩, List.mem_of_getElem? (i := 937) (by decide +kernel), List.mem_of_getElem? (i := 1153) (by decide +kernel), List.mem_of_getElem? (i := 1154) (by decide +kernel)⟩
theorem lw_p14 : lw_okq (⟨"FlagWalkModel", "here", "()I"⟩, 41) := ⟨⟨by decide +kernel, by decide +kernel⟩, List.mem_of_getElem? (i := 937) (by decide +kernel), List.mem_of_getElem? (i := 1157) (by decide +kernel), List.mem_of_getElem? (i := 1158) (by decide +kernel)⟩
theorem lw_p15 : lw_okq (⟨"FlagWalkModel", "number", "(II)I"⟩, 41) := ⟨⟨by decide +kernel, by decide +kernel⟩, List.mem_of_getElem? (i := 937) (by decide +kernel), List.mem_of_getElem? (i := 1161) (by decide +kernel), List.mem_of_getElem? (i := 1162) (by decide +kernel)⟩
def lw_privs_1 : List (MethodName × Nat) := [(⟨"FlagWalk", "forget", "()V"⟩, 16), (⟨"FlagWalk", "isPerson", "(I)Z"⟩, 16), (⟨"FlagWalk", "goAlong", "()V"⟩, 16), (⟨"FlagWalk", "writeTrail", "(I)V"⟩, 16), (⟨"FlagWalk", "seekBest", "(I)V"⟩, 16), (⟨"FlagWalk", "noteBest", "(IIII)V"⟩, 16), (⟨"FlagWalkModel", "markAt", "(II)I"⟩, 41), (⟨"FlagWalkModel", "comes", "(III)I"⟩, 41), (⟨"FlagWalkModel", "tail", "()I"⟩, 41), (⟨"FlagWalkModel", "joins", "(III)I"⟩, 41), (⟨"FlagWalkModel", "isOne", "(I)Z"⟩, 41), (⟨"FlagWalkModel", "readAll", "(Z)I"⟩, 41), (⟨"FlagWalkModel", "markClause", "(I)V"⟩, 41), (⟨"FlagWalkModel", "letter", "(IIII)I"⟩, 41), (⟨"FlagWalkModel", "here", "()I"⟩, 41), (⟨"FlagWalkModel", "number", "(II)I"⟩, 41)]
theorem lw_r1 : ∀ q ∈ lw_privs_1, lw_okq q := List.forall_mem_cons.mpr ⟨lw_p0, List.forall_mem_cons.mpr ⟨lw_p1, List.forall_mem_cons.mpr ⟨lw_p2, List.forall_mem_cons.mpr ⟨lw_p3, List.forall_mem_cons.mpr ⟨lw_p4, List.forall_mem_cons.mpr ⟨lw_p5, List.forall_mem_cons.mpr ⟨lw_p6, List.forall_mem_cons.mpr ⟨lw_p7, List.forall_mem_cons.mpr ⟨lw_p8, List.forall_mem_cons.mpr ⟨lw_p9, List.forall_mem_cons.mpr ⟨lw_p10, List.forall_mem_cons.mpr ⟨lw_p11, List.forall_mem_cons.mpr ⟨lw_p12, List.forall_mem_cons.mpr ⟨lw_p13, List.forall_mem_cons.mpr ⟨lw_p14, List.forall_mem_cons.mpr ⟨lw_p15, fun _ h => absurd h List.not_mem_nil⟩⟩⟩⟩⟩⟩⟩⟩⟩⟩⟩⟩⟩⟩⟩⟩
theorem lw_p16 : lw_okq (⟨"FlagWalkModel", "has", "(I)Z"⟩, 41) := ⟨⟨by decide +kernel, by decide +kernel⟩, List.mem_of_getElem? (i := 937) (by decide +kernel), List.mem_of_getElem? (i := 1167) (by decide +kernel), List.mem_of_getElem? (i := 1168) (by decide +kernel)⟩
theorem lw_p17 : lw_okq (⟨"FlagWalkModel", "personClause", "(I)V"⟩, 41) := ⟨⟨by decide +kernel, by decide +kernel⟩, List.mem_of_getElem? (i := 937) (by decide +kernel), List.mem_of_getElem? (i := 1171) (by decide +kernel), List.mem_of_getElem? (i := 1172) (by decide +kernel)⟩
theorem lw_p18 : lw_okq (⟨"FlagWalkModel", "stopsMet", "()I"⟩, 41) := ⟨⟨by decide +kernel, by decide +kernel⟩, List.mem_of_getElem? (i := 937) (by decide +kernel), List.mem_of_getElem? (i := 1185) (by decide +kernel), List.mem_of_getElem? (i := 1186) (by decide +kernel)⟩
theorem lw_p19 : lw_okq (⟨"FlagWalkModel", "walks", "()V"⟩, 41) := ⟨⟨by decide +kernel, by decide +kernel⟩, List.mem_of_getElem? (i := 937) (by decide +kernel), List.mem_of_getElem? (i := 1193) (by decide +kernel), List.mem_of_getElem? (i := 1194) (by decide +kernel)⟩
theorem lw_p20 : lw_okq (⟨"FlagWalkModel", "guideGoes", "(I)V"⟩, 41) := ⟨⟨by decide +kernel, by decide +kernel⟩, List.mem_of_getElem? (i := 937) (by decide +kernel), List.mem_of_getElem? (i := 1197) (by decide +kernel), List.mem_of_getElem? (i := 1198) (by decide +kernel)⟩
theorem lw_p21 : lw_okq (⟨"FlagWalkModel", "isKept", "()Z"⟩, 41) := ⟨⟨by decide +kernel, by decide +kernel⟩, List.mem_of_getElem? (i := 937) (by decide +kernel), List.mem_of_getElem? (i := 1201) (by decide +kernel), List.mem_of_getElem? (i := 1202) (by decide +kernel)⟩
theorem lw_p22 : lw_okq (⟨"FlagWalkModel", "stopHere", "()I"⟩, 41) := ⟨⟨by decide +kernel, by decide +kernel⟩, List.mem_of_getElem? (i := 937) (by decide +kernel), List.mem_of_getElem? (i := 1205) (by decide +kernel), List.mem_of_getElem? (i := 1206) (by decide +kernel)⟩
theorem lw_p23 : lw_okq (⟨"FlagWalkModel", "nearOf", "(Z)I"⟩, 41) := ⟨⟨by decide +kernel, by decide +kernel⟩, List.mem_of_getElem? (i := 937) (by decide +kernel), List.mem_of_getElem? (i := 1209) (by decide +kernel), List.mem_of_getElem? (i := 1210) (by decide +kernel)⟩
theorem lw_p24 : lw_okq (⟨"FlagWalkModel", "isLost", "(I)Z"⟩, 41) := ⟨⟨by decide +kernel, by decide +kernel⟩, List.mem_of_getElem? (i := 937) (by decide +kernel), List.mem_of_getElem? (i := 1213) (by decide +kernel), List.mem_of_getElem? (i := 1214) (by decide +kernel)⟩
theorem lw_p25 : lw_okq (⟨"FlagWalkModel", "isNear", "(II)Z"⟩, 41) := ⟨⟨by decide +kernel, by decide +kernel⟩, List.mem_of_getElem? (i := 937) (by decide +kernel), List.mem_of_getElem? (i := 1217) (by decide +kernel), List.mem_of_getElem? (i := 1218) (by decide +kernel)⟩
theorem lw_p26 : lw_okq (⟨"FlagWalkModel", "isRed", "(II)Z"⟩, 41) := ⟨⟨by decide +kernel, by decide +kernel⟩, List.mem_of_getElem? (i := 937) (by decide +kernel), List.mem_of_getElem? (i := 1221) (by decide +kernel), List.mem_of_getElem? (i := 1222) (by decide +kernel)⟩
theorem lw_p27 : lw_okq (⟨"FlagWalkModel", "goes", "(II)V"⟩, 41) := ⟨⟨by decide +kernel, by decide +kernel⟩, List.mem_of_getElem? (i := 937) (by decide +kernel), List.mem_of_getElem? (i := 1225) (by decide +kernel), List.mem_of_getElem? (i := 1226) (by decide +kernel)⟩
theorem lw_p28 : lw_okq (⟨"FlagWalkModel", "leastOther", "(I)I"⟩, 41) := ⟨⟨by decide +kernel, by decide +kernel⟩, List.mem_of_getElem? (i := 937) (by decide +kernel), List.mem_of_getElem? (i := 1229) (by decide +kernel), List.mem_of_getElem? (i := 1230) (by decide +kernel)⟩
theorem lw_p29 : lw_okq (⟨"FlagWalkModel", "losesWay", "(I)Z"⟩, 41) := ⟨⟨by decide +kernel, by decide +kernel⟩, List.mem_of_getElem? (i := 937) (by decide +kernel), List.mem_of_getElem? (i := 1233) (by decide +kernel), List.mem_of_getElem? (i := 1234) (by decide +kernel)⟩
theorem lw_p30 : lw_okq (⟨"FlagWalkModel", "behind", "(I)V"⟩, 41) := ⟨⟨by decide +kernel, by decide +kernel⟩, List.mem_of_getElem? (i := 937) (by decide +kernel), List.mem_of_getElem? (i := 1237) (by decide +kernel), List.mem_of_getElem? (i := 1238) (by decide +kernel)⟩
theorem lw_p31 : lw_okq (⟨"FlagWalkModel", "heardAll", "()I"⟩, 41) := ⟨⟨by decide +kernel, by decide +kernel⟩, List.mem_of_getElem? (i := 937) (by decide +kernel), List.mem_of_getElem? (i := 1252) (by decide +kernel), List.mem_of_getElem? (i := 1253) (by decide +kernel)⟩
def lw_privs_2 : List (MethodName × Nat) := [(⟨"FlagWalkModel", "has", "(I)Z"⟩, 41), (⟨"FlagWalkModel", "personClause", "(I)V"⟩, 41), (⟨"FlagWalkModel", "stopsMet", "()I"⟩, 41), (⟨"FlagWalkModel", "walks", "()V"⟩, 41), (⟨"FlagWalkModel", "guideGoes", "(I)V"⟩, 41), (⟨"FlagWalkModel", "isKept", "()Z"⟩, 41), (⟨"FlagWalkModel", "stopHere", "()I"⟩, 41), (⟨"FlagWalkModel", "nearOf", "(Z)I"⟩, 41), (⟨"FlagWalkModel", "isLost", "(I)Z"⟩, 41), (⟨"FlagWalkModel", "isNear", "(II)Z"⟩, 41), (⟨"FlagWalkModel", "isRed", "(II)Z"⟩, 41), (⟨"FlagWalkModel", "goes", "(II)V"⟩, 41), (⟨"FlagWalkModel", "leastOther", "(I)I"⟩, 41), (⟨"FlagWalkModel", "losesWay", "(I)Z"⟩, 41), (⟨"FlagWalkModel", "behind", "(I)V"⟩, 41), (⟨"FlagWalkModel", "heardAll", "()I"⟩, 41)]
theorem lw_r2 : ∀ q ∈ lw_privs_2, lw_okq q := List.forall_mem_cons.mpr ⟨lw_p16, List.forall_mem_cons.mpr ⟨lw_p17, List.forall_mem_cons.mpr ⟨lw_p18, List.forall_mem_cons.mpr ⟨lw_p19, List.forall_mem_cons.mpr ⟨lw_p20, List.forall_mem_cons.mpr ⟨lw_p21, List.forall_mem_cons.mpr ⟨lw_p22, List.forall_mem_cons.mpr ⟨lw_p23, List.forall_mem_cons.mpr ⟨lw_p24, List.forall_mem_cons.mpr ⟨lw_p25, List.forall_mem_cons.mpr ⟨lw_p26, List.forall_mem_cons.mpr ⟨lw_p27, List.forall_mem_cons.mpr ⟨lw_p28, List.forall_mem_cons.mpr ⟨lw_p29, List.forall_mem_cons.mpr ⟨lw_p30, List.forall_mem_cons.mpr ⟨lw_p31, fun _ h => absurd h List.not_mem_nil⟩⟩⟩⟩⟩⟩⟩⟩⟩⟩⟩⟩⟩⟩⟩⟩
theorem lw_p32 : lw_okq (⟨"FlagWalkModel", "leastOff", "()I"⟩, 41) := ⟨⟨by decide +kernel, by decide +kernel⟩, List.mem_of_getElem? (i := 937) (by decide +kernel), List.mem_of_getElem? (i := 1256) (by decide +kernel), List.mem_of_getElem? (i := 1257) (by decide +kernel)⟩
theorem lw_p33 : lw_okq (⟨"FlagWalkModel", "allThere", "()I"⟩, 41) := ⟨⟨by decide +kernel, by decide +kernel⟩, List.mem_of_getElem? (i := 937) (by decide +kernel), List.mem_of_getElem? (i := 1260) (by decide +kernel), List.mem_of_getElem? (i := 1261) (by decide +kernel)⟩
theorem lw_p34 : lw_okq (⟨"FlagWalkModel", "farthest", "(I)I"⟩, 41) := ⟨⟨by decide +kernel, by decide +kernel⟩, List.mem_of_getElem? (i := 937) (by decide +kernel), List.mem_of_getElem? (i := 1302) (by decide +kernel), List.mem_of_getElem? (i := 1303) (by decide +kernel)⟩
theorem lw_p35 : lw_okq (⟨"FlagWalkModel", "paints", "(III)Z"⟩, 41) := ⟨⟨by decide +kernel, by decide +kernel⟩, List.mem_of_getElem? (i := 937) (by decide +kernel), List.mem_of_getElem? (i := 1317) (by decide +kernel), List.mem_of_getElem? (i := 1318) (by decide +kernel)⟩
theorem lw_p36 : lw_okq (⟨"FlagWalkModel", "lay", "([II)I"⟩, 41) := ⟨⟨by decide +kernel, by decide +kernel⟩, List.mem_of_getElem? (i := 937) (by decide +kernel), List.mem_of_getElem? (i := 1328) (by decide +kernel), List.mem_of_getElem? (i := 1329) (by decide +kernel)⟩
theorem lw_p37 : lw_okq (⟨"FlagWalkModel", "gives", "(I[I)I"⟩, 41) := ⟨⟨by decide +kernel, by decide +kernel⟩, List.mem_of_getElem? (i := 937) (by decide +kernel), List.mem_of_getElem? (i := 1336) (by decide +kernel), List.mem_of_getElem? (i := 1337) (by decide +kernel)⟩
theorem lw_p38 : lw_okq (⟨"FlagWalkModel", "finds", "(IIII)I"⟩, 41) := ⟨⟨by decide +kernel, by decide +kernel⟩, List.mem_of_getElem? (i := 937) (by decide +kernel), List.mem_of_getElem? (i := 1351) (by decide +kernel), List.mem_of_getElem? (i := 1352) (by decide +kernel)⟩
theorem lw_p39 : lw_okq (⟨"FlagWalkModel", "turns", "(I)Z"⟩, 41) := ⟨⟨by decide +kernel, by decide +kernel⟩, List.mem_of_getElem? (i := 937) (by decide +kernel), List.mem_of_getElem? (i := 1355) (by decide +kernel), List.mem_of_getElem? (i := 1356) (by decide +kernel)⟩
def lw_privs_3 : List (MethodName × Nat) := [(⟨"FlagWalkModel", "leastOff", "()I"⟩, 41), (⟨"FlagWalkModel", "allThere", "()I"⟩, 41), (⟨"FlagWalkModel", "farthest", "(I)I"⟩, 41), (⟨"FlagWalkModel", "paints", "(III)Z"⟩, 41), (⟨"FlagWalkModel", "lay", "([II)I"⟩, 41), (⟨"FlagWalkModel", "gives", "(I[I)I"⟩, 41), (⟨"FlagWalkModel", "finds", "(IIII)I"⟩, 41), (⟨"FlagWalkModel", "turns", "(I)Z"⟩, 41)]
theorem lw_r3 : ∀ q ∈ lw_privs_3, lw_okq q := List.forall_mem_cons.mpr ⟨lw_p32, List.forall_mem_cons.mpr ⟨lw_p33, List.forall_mem_cons.mpr ⟨lw_p34, List.forall_mem_cons.mpr ⟨lw_p35, List.forall_mem_cons.mpr ⟨lw_p36, List.forall_mem_cons.mpr ⟨lw_p37, List.forall_mem_cons.mpr ⟨lw_p38, List.forall_mem_cons.mpr ⟨lw_p39, fun _ h => absurd h List.not_mem_nil⟩⟩⟩⟩⟩⟩⟩⟩
def lw_privs : List (MethodName × Nat) := lw_privs_1 ++ (lw_privs_2 ++ (lw_privs_3))
def lw_tbl : List Cond := k2_sels lw_privs ++ tables_1
theorem lw_privs_ok : ∀ q ∈ lw_privs, lw_okq q := by
  show ∀ q ∈ lw_privs_1 ++ (lw_privs_2 ++ (lw_privs_3)), lw_okq q
  exact List.forall_mem_append.mpr ⟨lw_r1, List.forall_mem_append.mpr ⟨lw_r2, lw_r3⟩⟩
end
section
def RX0 : String := "FlagWalk$Bridge"
def TX0 : u_T := fun k => match k with
  | 0 => ("FlagWalk$Bridge", "size", "I", false)
  | 1 => ("FlagWalk$Bridge", "comes", "[I", true)
  | 2 => ("FlagWalk$Bridge", "needs", "[I", true)
  | 3 => ("FlagWalk$Bridge", "order", "[I", true)
  | 4 => ("FlagWalk$Bridge", "bestOrder", "[I", true)
  | _ => ("FlagWalk$Bridge", "leastWaited", "I", false)
def tyX0 : Nat → FieldType := fun k => match k with
  | 0 => .int
  | 1 => .array .int
  | 2 => .array .int
  | 3 => .array .int
  | 4 => .array .int
  | _ => .int
abbrev wsX00 : List Cond := u_ws RX0 TX0 6
theorem nmX0 : ∀ a, a < 6 → ∀ b, b < 6 → a ≠ b → (TX0 a).2.1 ≠ (TX0 b).2.1 := by decide +kernel
theorem tyX0_ok : ∀ k, k < 6 → parseFieldDescriptor (TX0 k).2.2.1 = some (tyX0 k) := by decide +kernel
abbrev cX0_init : ByteArray := prog_2_method_1_code
def yX0_init : MethodName := ⟨RX0, "<init>", "()V"⟩
abbrev cX0_load : ByteArray := prog_2_method_2_code
def yX0_load : MethodName := ⟨RX0, "load", "([III)Z"⟩
abbrev cX0_seek : ByteArray := prog_2_method_3_code
def yX0_seek : MethodName := ⟨RX0, "seek", "()V"⟩
abbrev cX0_sendFrom : ByteArray := prog_2_method_4_code
def yX0_sendFrom : MethodName := ⟨RX0, "sendFrom", "(LFlagWalk$Bridge;IIII)V"⟩
def RX1 : String := "FlagWalk$Flags"
def TX1 : u_T := fun k => match k with
  | 0 => ("FlagWalk$Flags", "size", "I", false)
  | 1 => ("FlagWalk$Flags", "meets", "[I", true)
  | _ => ("FlagWalk$Flags", "row", "[I", true)
def tyX1 : Nat → FieldType := fun k => match k with
  | 0 => .int
  | 1 => .array .int
  | _ => .array .int
abbrev wsX10 : List Cond := u_ws RX1 TX1 3
theorem nmX1 : ∀ a, a < 3 → ∀ b, b < 3 → a ≠ b → (TX1 a).2.1 ≠ (TX1 b).2.1 := by decide +kernel
theorem tyX1_ok : ∀ k, k < 3 → parseFieldDescriptor (TX1 k).2.2.1 = some (tyX1 k) := by decide +kernel
abbrev cX1_init : ByteArray := prog_3_method_1_code
def yX1_init : MethodName := ⟨RX1, "<init>", "()V"⟩
abbrev cX1_load : ByteArray := prog_3_method_2_code
def yX1_load : MethodName := ⟨RX1, "load", "(II)V"⟩
abbrev cX1_paint : ByteArray := prog_3_method_3_code
def yX1_paint : MethodName := ⟨RX1, "paint", "()I"⟩
abbrev cX1_paintFrom : ByteArray := prog_3_method_4_code
def yX1_paintFrom : MethodName := ⟨RX1, "paintFrom", "(LFlagWalk$Flags;III)Z"⟩
abbrev cX1_isFree : ByteArray := prog_3_method_5_code
def yX1_isFree : MethodName := ⟨RX1, "isFree", "(II)Z"⟩
def RX2 : String := "FlagWalk$Halt"
def TX2 : u_T := fun k => match k with
  | 0 => ("FlagWalk$Halt", "begun", "Z", false)
  | 1 => ("FlagWalk$Halt", "done", "Z", false)
  | 2 => ("FlagWalk$Halt", "waited", "I", false)
  | 3 => ("FlagWalk$Halt", "spoken", "I", false)
  | 4 => ("FlagWalk$Halt", "stayed", "I", false)
  | _ => ("FlagWalk$Halt", "stood", "I", false)
def tyX2 : Nat → FieldType := fun k => match k with
  | 0 => .boolean
  | 1 => .boolean
  | 2 => .int
  | 3 => .int
  | 4 => .int
  | _ => .int
abbrev wsX20 : List Cond := u_ws RX2 TX2 6
theorem nmX2 : ∀ a, a < 6 → ∀ b, b < 6 → a ≠ b → (TX2 a).2.1 ≠ (TX2 b).2.1 := by decide +kernel
theorem tyX2_ok : ∀ k, k < 6 → parseFieldDescriptor (TX2 k).2.2.1 = some (tyX2 k) := by decide +kernel
abbrev cX2_init : ByteArray := prog_4_method_1_code
def yX2_init : MethodName := ⟨RX2, "<init>", "()V"⟩
abbrev cX2_clear : ByteArray := prog_4_method_2_code
def yX2_clear : MethodName := ⟨RX2, "clear", "()V"⟩
def RX3 : String := "FlagWalk$Marks"
def TX3 : u_T := fun k => match k with
  | 0 => ("FlagWalk$Marks", "sizes", "[I", true)
  | 1 => ("FlagWalk$Marks", "places", "[[I", true)
  | 2 => ("FlagWalk$Marks", "lengths", "[[I", true)
  | _ => ("FlagWalk$Marks", "values", "[I", true)
def tyX3 : Nat → FieldType := fun k => match k with
  | 0 => .array .int
  | 1 => .array (.array .int)
  | 2 => .array (.array .int)
  | _ => .array .int
abbrev wsX30 : List Cond := u_ws RX3 TX3 4
theorem nmX3 : ∀ a, a < 4 → ∀ b, b < 4 → a ≠ b → (TX3 a).2.1 ≠ (TX3 b).2.1 := by decide +kernel
theorem tyX3_ok : ∀ k, k < 4 → parseFieldDescriptor (TX3 k).2.2.1 = some (tyX3 k) := by decide +kernel
abbrev cX3_init : ByteArray := prog_5_method_1_code
def yX3_init : MethodName := ⟨RX3, "<init>", "()V"⟩
abbrev cX3_clear : ByteArray := prog_5_method_2_code
def yX3_clear : MethodName := ⟨RX3, "clear", "()V"⟩
abbrev cX3_isTaken : ByteArray := prog_5_method_3_code
def yX3_isTaken : MethodName := ⟨RX3, "isTaken", "(II)Z"⟩
abbrev cX3_add : ByteArray := prog_5_method_4_code
def yX3_add : MethodName := ⟨RX3, "add", "(III)I"⟩
abbrev cX3_take : ByteArray := prog_5_method_5_code
def yX3_take : MethodName := ⟨RX3, "take", "(LFlagWalk$Marks;)V"⟩
def RX4 : String := "FlagWalk$Path"
def TX4 : u_T := fun k => match k with
  | 0 => ("FlagWalk$Path", "end", "I", false)
  | 1 => ("FlagWalk$Path", "stops", "[I", true)
  | 2 => ("FlagWalk$Path", "lights", "[I", true)
  | 3 => ("FlagWalk$Path", "windows", "[I", true)
  | _ => ("FlagWalk$Path", "turns", "[I", true)
def tyX4 : Nat → FieldType := fun k => match k with
  | 0 => .int
  | 1 => .array .int
  | 2 => .array .int
  | 3 => .array .int
  | _ => .array .int
abbrev wsX40 : List Cond := u_ws RX4 TX4 5
theorem nmX4 : ∀ a, a < 5 → ∀ b, b < 5 → a ≠ b → (TX4 a).2.1 ≠ (TX4 b).2.1 := by decide +kernel
theorem tyX4_ok : ∀ k, k < 5 → parseFieldDescriptor (TX4 k).2.2.1 = some (tyX4 k) := by decide +kernel
abbrev cX4_init : ByteArray := prog_6_method_1_code
def yX4_init : MethodName := ⟨RX4, "<init>", "()V"⟩
abbrev cX4_lay : ByteArray := prog_6_method_2_code
def yX4_lay : MethodName := ⟨RX4, "lay", "(LFlagWalk$Marks;I)V"⟩
abbrev cX4_layKind : ByteArray := prog_6_method_3_code
def yX4_layKind : MethodName := ⟨RX4, "layKind", "([ILFlagWalk$Marks;I)V"⟩
abbrev cX4_isRed : ByteArray := prog_6_method_4_code
def yX4_isRed : MethodName := ⟨RX4, "isRed", "(II)Z"⟩
def RX5 : String := "FlagWalk$People"
def TX5 : u_T := fun k => match k with
  | 0 => ("FlagWalk$People", "size", "I", false)
  | 1 => ("FlagWalk$People", "kinds", "[I", true)
  | 2 => ("FlagWalk$People", "paces", "[I", true)
  | _ => ("FlagWalk$People", "ears", "[Z", true)
def tyX5 : Nat → FieldType := fun k => match k with
  | 0 => .int
  | 1 => .array .int
  | 2 => .array .int
  | _ => .array .boolean
abbrev wsX50 : List Cond := u_ws RX5 TX5 4
theorem nmX5 : ∀ a, a < 4 → ∀ b, b < 4 → a ≠ b → (TX5 a).2.1 ≠ (TX5 b).2.1 := by decide +kernel
theorem tyX5_ok : ∀ k, k < 4 → parseFieldDescriptor (TX5 k).2.2.1 = some (tyX5 k) := by decide +kernel
abbrev cX5_init : ByteArray := prog_7_method_1_code
def yX5_init : MethodName := ⟨RX5, "<init>", "()V"⟩
abbrev cX5_tailNumber : ByteArray := prog_7_method_2_code
def yX5_tailNumber : MethodName := ⟨RX5, "tailNumber", "()I"⟩
abbrev cX5_add : ByteArray := prog_7_method_3_code
def yX5_add : MethodName := ⟨RX5, "add", "(IIZ)I"⟩
abbrev cX5_take : ByteArray := prog_7_method_4_code
def yX5_take : MethodName := ⟨RX5, "take", "(LFlagWalk$People;)V"⟩
def RX6 : String := "FlagWalk$Plan"
def TX6 : u_T := fun k => match k with
  | 0 => ("FlagWalk$Plan", "end", "I", false)
  | 1 => ("FlagWalk$Plan", "marks", "LFlagWalk$Marks;", true)
  | 2 => ("FlagWalk$Plan", "people", "LFlagWalk$People;", true)
  | 3 => ("FlagWalk$Plan", "rules", "[I", true)
  | _ => ("FlagWalk$Plan", "ground", "LFlagWalk$Square;", true)
def tyX6 : Nat → FieldType := fun k => match k with
  | 0 => .int
  | 1 => .object "FlagWalk$Marks"
  | 2 => .object "FlagWalk$People"
  | 3 => .array .int
  | _ => .object "FlagWalk$Square"
abbrev wsX60 : List Cond := u_ws RX6 TX6 5
theorem nmX6 : ∀ a, a < 5 → ∀ b, b < 5 → a ≠ b → (TX6 a).2.1 ≠ (TX6 b).2.1 := by decide +kernel
theorem tyX6_ok : ∀ k, k < 5 → parseFieldDescriptor (TX6 k).2.2.1 = some (tyX6 k) := by decide +kernel
abbrev cX6_init : ByteArray := prog_8_method_1_code
def yX6_init : MethodName := ⟨RX6, "<init>", "()V"⟩
abbrev cX6_take : ByteArray := prog_8_method_2_code
def yX6_take : MethodName := ⟨RX6, "take", "(LFlagWalk$Plan;)V"⟩
abbrev cX6_isMet : ByteArray := prog_8_method_3_code
def yX6_isMet : MethodName := ⟨RX6, "isMet", "(I)Z"⟩
abbrev cX6_stopsMet : ByteArray := prog_8_method_4_code
def yX6_stopsMet : MethodName := ⟨RX6, "stopsMet", "()I"⟩
abbrev cX6_minutesSpoken : ByteArray := prog_8_method_5_code
def yX6_minutesSpoken : MethodName := ⟨RX6, "minutesSpoken", "()I"⟩
abbrev cX6_valueIfFits : ByteArray := prog_8_method_6_code
def yX6_valueIfFits : MethodName := ⟨RX6, "valueIfFits", "(II)I"⟩
def RX7 : String := "FlagWalk$Sheet"
def TX7 : u_T := fun k => match k with
  | 0 => ("FlagWalk$Sheet", "lane", "I", false)
  | 1 => ("FlagWalk$Sheet", "size", "I", false)
  | _ => ("FlagWalk$Sheet", "items", "[I", true)
def tyX7 : Nat → FieldType := fun k => match k with
  | 0 => .int
  | 1 => .int
  | _ => .array .int
abbrev wsX70 : List Cond := u_ws RX7 TX7 3
theorem nmX7 : ∀ a, a < 3 → ∀ b, b < 3 → a ≠ b → (TX7 a).2.1 ≠ (TX7 b).2.1 := by decide +kernel
theorem tyX7_ok : ∀ k, k < 3 → parseFieldDescriptor (TX7 k).2.2.1 = some (tyX7 k) := by decide +kernel
abbrev cX7_init : ByteArray := prog_9_method_1_code
def yX7_init : MethodName := ⟨RX7, "<init>", "()V"⟩
abbrev cX7_renew : ByteArray := prog_9_method_2_code
def yX7_renew : MethodName := ⟨RX7, "renew", "(II)V"⟩
abbrev cX7_refusal : ByteArray := prog_9_method_3_code
def yX7_refusal : MethodName := ⟨RX7, "refusal", "(III)I"⟩
abbrev cX7_reaches : ByteArray := prog_9_method_4_code
def yX7_reaches : MethodName := ⟨RX7, "reaches", "(II)Z"⟩
abbrev cX7_put : ByteArray := prog_9_method_5_code
def yX7_put : MethodName := ⟨RX7, "put", "(II)V"⟩
def RX8 : String := "FlagWalk$Square"
def TX8 : u_T := fun k => match k with
  | 0 => ("FlagWalk$Square", "signs", "[I", true)
  | 1 => ("FlagWalk$Square", "standPoints", "I", false)
  | 2 => ("FlagWalk$Square", "bestPoint", "I", false)
  | 3 => ("FlagWalk$Square", "bestFar", "I", false)
  | 4 => ("FlagWalk$Square", "lowX", "I", false)
  | 5 => ("FlagWalk$Square", "highX", "I", false)
  | 6 => ("FlagWalk$Square", "lowY", "I", false)
  | _ => ("FlagWalk$Square", "highY", "I", false)
def tyX8 : Nat → FieldType := fun k => match k with
  | 0 => .array .int
  | 1 => .int
  | 2 => .int
  | 3 => .int
  | 4 => .int
  | 5 => .int
  | 6 => .int
  | _ => .int
abbrev wsX80 : List Cond := u_ws RX8 TX8 8
theorem nmX8 : ∀ a, a < 8 → ∀ b, b < 8 → a ≠ b → (TX8 a).2.1 ≠ (TX8 b).2.1 := by decide +kernel
theorem tyX8_ok : ∀ k, k < 8 → parseFieldDescriptor (TX8 k).2.2.1 = some (tyX8 k) := by decide +kernel
abbrev cX8_init : ByteArray := prog_10_method_1_code
def yX8_init : MethodName := ⟨RX8, "<init>", "()V"⟩
abbrev cX8_survey : ByteArray := prog_10_method_2_code
def yX8_survey : MethodName := ⟨RX8, "survey", "(I)V"⟩
abbrev cX8_findBounds : ByteArray := prog_10_method_3_code
def yX8_findBounds : MethodName := ⟨RX8, "findBounds", "()V"⟩
abbrev cX8_farthest : ByteArray := prog_10_method_4_code
def yX8_farthest : MethodName := ⟨RX8, "farthest", "(II)I"⟩
abbrev cX8_isHeardAllAround : ByteArray := prog_10_method_5_code
def yX8_isHeardAllAround : MethodName := ⟨RX8, "isHeardAllAround", "(II)Z"⟩
abbrev cX8_isListenerHidden : ByteArray := prog_10_method_6_code
def yX8_isListenerHidden : MethodName := ⟨RX8, "isListenerHidden", "(IIII)Z"⟩
def RX9 : String := "FlagWalk$Tape"
def TX9 : u_T := fun k => match k with
  | 0 => ("FlagWalk$Tape", "bytes", "[B", true)
  | 1 => ("FlagWalk$Tape", "length", "I", false)
  | 2 => ("FlagWalk$Tape", "position", "I", false)
  | _ => ("FlagWalk$Tape", "numberStart", "I", false)
def tyX9 : Nat → FieldType := fun k => match k with
  | 0 => .array .byte
  | 1 => .int
  | 2 => .int
  | _ => .int
abbrev wsX90 : List Cond := u_ws RX9 TX9 4
theorem nmX9 : ∀ a, a < 4 → ∀ b, b < 4 → a ≠ b → (TX9 a).2.1 ≠ (TX9 b).2.1 := by decide +kernel
theorem tyX9_ok : ∀ k, k < 4 → parseFieldDescriptor (TX9 k).2.2.1 = some (tyX9 k) := by decide +kernel
abbrev cX9_init : ByteArray := prog_11_method_1_code
def yX9_init : MethodName := ⟨RX9, "<init>", "()V"⟩
abbrev cX9_holdsText : ByteArray := prog_11_method_2_code
def yX9_holdsText : MethodName := ⟨RX9, "holdsText", "(JI)Z"⟩
abbrev cX9_write : ByteArray := prog_11_method_3_code
def yX9_write : MethodName := ⟨RX9, "write", "(JI)I"⟩
abbrev cX9_readWay : ByteArray := prog_11_method_4_code
def yX9_readWay : MethodName := ⟨RX9, "readWay", "(LFlagWalk$Marks;)I"⟩
abbrev cX9_readGroup : ByteArray := prog_11_method_5_code
def yX9_readGroup : MethodName := ⟨RX9, "readGroup", "(LFlagWalk$People;)I"⟩
abbrev cX9_readMark : ByteArray := prog_11_method_6_code
def yX9_readMark : MethodName := ⟨RX9, "readMark", "(LFlagWalk$Marks;)Z"⟩
abbrev cX9_readPerson : ByteArray := prog_11_method_7_code
def yX9_readPerson : MethodName := ⟨RX9, "readPerson", "(LFlagWalk$People;)Z"⟩
abbrev cX9_readNumber : ByteArray := prog_11_method_8_code
def yX9_readNumber : MethodName := ⟨RX9, "readNumber", "(II)I"⟩
abbrev cX9_next : ByteArray := prog_11_method_9_code
def yX9_next : MethodName := ⟨RX9, "next", "()I"⟩
abbrev cX9_passes : ByteArray := prog_11_method_10_code
def yX9_passes : MethodName := ⟨RX9, "passes", "(C)Z"⟩
abbrev cX9_signNumber : ByteArray := prog_11_method_11_code
def yX9_signNumber : MethodName := ⟨RX9, "signNumber", "(Ljava/lang/String;)I"⟩
def RX10 : String := "FlagWalk$Walk"
def TX10 : u_T := fun k => match k with
  | 0 => ("FlagWalk$Walk", "path", "LFlagWalk$Path;", true)
  | 1 => ("FlagWalk$Walk", "people", "LFlagWalk$People;", true)
  | 2 => ("FlagWalk$Walk", "rules", "[I", true)
  | 3 => ("FlagWalk$Walk", "halt", "LFlagWalk$Halt;", true)
  | 4 => ("FlagWalk$Walk", "guide", "I", false)
  | 5 => ("FlagWalk$Walk", "guideThere", "I", false)
  | 6 => ("FlagWalk$Walk", "mostOut", "I", false)
  | 7 => ("FlagWalk$Walk", "tail", "I", false)
  | 8 => ("FlagWalk$Walk", "lostOnes", "I", false)
  | 9 => ("FlagWalk$Walk", "lastPlace", "I", false)
  | 10 => ("FlagWalk$Walk", "place", "[I", true)
  | 11 => ("FlagWalk$Walk", "left", "[I", true)
  | 12 => ("FlagWalk$Walk", "heard", "[I", true)
  | 13 => ("FlagWalk$Walk", "rested", "[I", true)
  | 14 => ("FlagWalk$Walk", "there", "[I", true)
  | _ => ("FlagWalk$Walk", "lostAt", "[I", true)
def tyX10 : Nat → FieldType := fun k => match k with
  | 0 => .object "FlagWalk$Path"
  | 1 => .object "FlagWalk$People"
  | 2 => .array .int
  | 3 => .object "FlagWalk$Halt"
  | 4 => .int
  | 5 => .int
  | 6 => .int
  | 7 => .int
  | 8 => .int
  | 9 => .int
  | 10 => .array .int
  | 11 => .array .int
  | 12 => .array .int
  | 13 => .array .int
  | 14 => .array .int
  | _ => .array .int
abbrev wsX100 : List Cond := u_ws RX10 TX10 16
theorem nmX10 : ∀ a, a < 16 → ∀ b, b < 16 → a ≠ b → (TX10 a).2.1 ≠ (TX10 b).2.1 := by decide +kernel
theorem tyX10_ok : ∀ k, k < 16 → parseFieldDescriptor (TX10 k).2.2.1 = some (tyX10 k) := by decide +kernel
abbrev cX10_init : ByteArray := prog_12_method_1_code
def yX10_init : MethodName := ⟨RX10, "<init>", "()V"⟩
abbrev cX10_load : ByteArray := prog_12_method_2_code
def yX10_load : MethodName := ⟨RX10, "load", "(LFlagWalk$Plan;)V"⟩
abbrev cX10_takeRule : ByteArray := prog_12_method_3_code
def yX10_takeRule : MethodName := ⟨RX10, "takeRule", "(III)V"⟩
abbrev cX10_start : ByteArray := prog_12_method_4_code
def yX10_start : MethodName := ⟨RX10, "start", "()V"⟩
abbrev cX10_isOver : ByteArray := prog_12_method_5_code
def yX10_isOver : MethodName := ⟨RX10, "isOver", "()Z"⟩
abbrev cX10_live : ByteArray := prog_12_method_6_code
def yX10_live : MethodName := ⟨RX10, "live", "(I)V"⟩
abbrev cX10_lead : ByteArray := prog_12_method_7_code
def yX10_lead : MethodName := ⟨RX10, "lead", "(I)V"⟩
abbrev cX10_isAtOpenStop : ByteArray := prog_12_method_8_code
def yX10_isAtOpenStop : MethodName := ⟨RX10, "isAtOpenStop", "()Z"⟩
abbrev cX10_isKept : ByteArray := prog_12_method_9_code
def yX10_isKept : MethodName := ⟨RX10, "isKept", "()Z"⟩
abbrev cX10_isToBegin : ByteArray := prog_12_method_10_code
def yX10_isToBegin : MethodName := ⟨RX10, "isToBegin", "()Z"⟩
abbrev cX10_speak : ByteArray := prog_12_method_11_code
def yX10_speak : MethodName := ⟨RX10, "speak", "()V"⟩
abbrev cX10_follow : ByteArray := prog_12_method_12_code
def yX10_follow : MethodName := ⟨RX10, "follow", "(II)V"⟩
abbrev cX10_lastBeside : ByteArray := prog_12_method_13_code
def yX10_lastBeside : MethodName := ⟨RX10, "lastBeside", "(I)I"⟩
abbrev cX10_losesItsWay : ByteArray := prog_12_method_14_code
def yX10_losesItsWay : MethodName := ⟨RX10, "losesItsWay", "(I)Z"⟩
abbrev cX10_closeMinute : ByteArray := prog_12_method_15_code
def yX10_closeMinute : MethodName := ⟨RX10, "closeMinute", "(I)V"⟩
abbrev cX10_out : ByteArray := prog_12_method_16_code
def yX10_out : MethodName := ⟨RX10, "out", "()I"⟩
abbrev cX10_leastHeardInTime : ByteArray := prog_12_method_17_code
def yX10_leastHeardInTime : MethodName := ⟨RX10, "leastHeardInTime", "(I)I"⟩
abbrev cX10_heardTogether : ByteArray := prog_12_method_18_code
def yX10_heardTogether : MethodName := ⟨RX10, "heardTogether", "()I"⟩
abbrev cX10_leastHeard : ByteArray := prog_12_method_19_code
def yX10_leastHeard : MethodName := ⟨RX10, "leastHeard", "()I"⟩
abbrev cX10_allThere : ByteArray := prog_12_method_20_code
def yX10_allThere : MethodName := ⟨RX10, "allThere", "()I"⟩
abbrev cX10_lostSet : ByteArray := prog_12_method_21_code
def yX10_lostSet : MethodName := ⟨RX10, "lostSet", "()I"⟩
def RX11 : String := "FlagWalk"
def TX11 : u_T := fun k => match k with
  | 0 => ("FlagWalk", "plan", "LFlagWalk$Plan;", true)
  | 1 => ("FlagWalk", "kept", "LFlagWalk$Plan;", true)
  | 2 => ("FlagWalk", "hasImage", "Z", false)
  | 3 => ("FlagWalk", "tape", "LFlagWalk$Tape;", true)
  | 4 => ("FlagWalk", "draftMarks", "LFlagWalk$Marks;", true)
  | 5 => ("FlagWalk", "draftPeople", "LFlagWalk$People;", true)
  | 6 => ("FlagWalk", "walk", "LFlagWalk$Walk;", true)
  | 7 => ("FlagWalk", "trial", "LFlagWalk$Walk;", true)
  | 8 => ("FlagWalk", "walked", "Z", false)
  | 9 => ("FlagWalk", "trail", "[I", true)
  | 10 => ("FlagWalk", "trailRows", "I", false)
  | 11 => ("FlagWalk", "bestFound", "[I", true)
  | 12 => ("FlagWalk", "bestMinute", "I", false)
  | 13 => ("FlagWalk", "flags", "LFlagWalk$Flags;", true)
  | 14 => ("FlagWalk", "bridge", "LFlagWalk$Bridge;", true)
  | _ => ("FlagWalk", "sheets", "[LFlagWalk$Sheet;", true)
def tyX11 : Nat → FieldType := fun k => match k with
  | 0 => .object "FlagWalk$Plan"
  | 1 => .object "FlagWalk$Plan"
  | 2 => .boolean
  | 3 => .object "FlagWalk$Tape"
  | 4 => .object "FlagWalk$Marks"
  | 5 => .object "FlagWalk$People"
  | 6 => .object "FlagWalk$Walk"
  | 7 => .object "FlagWalk$Walk"
  | 8 => .boolean
  | 9 => .array .int
  | 10 => .int
  | 11 => .array .int
  | 12 => .int
  | 13 => .object "FlagWalk$Flags"
  | 14 => .object "FlagWalk$Bridge"
  | _ => .array (.object "FlagWalk$Sheet")
abbrev wsX110 : List Cond := u_ws RX11 TX11 16
theorem nmX11 : ∀ a, a < 16 → ∀ b, b < 16 → a ≠ b → (TX11 a).2.1 ≠ (TX11 b).2.1 := by decide +kernel
theorem tyX11_ok : ∀ k, k < 16 → parseFieldDescriptor (TX11 k).2.2.1 = some (tyX11 k) := by decide +kernel
abbrev cX11_init : ByteArray := prog_1_method_1_code
def yX11_init : MethodName := ⟨RX11, "<init>", "()V"⟩
abbrev cX11_end : ByteArray := prog_1_method_2_code
def yX11_end : MethodName := ⟨RX11, "end", "(I)I"⟩
abbrev cX11_mark : ByteArray := prog_1_method_3_code
def yX11_mark : MethodName := ⟨RX11, "mark", "(III)I"⟩
abbrev cX11_told : ByteArray := prog_1_method_4_code
def yX11_told : MethodName := ⟨RX11, "told", "(III)I"⟩
abbrev cX11_value : ByteArray := prog_1_method_5_code
def yX11_value : MethodName := ⟨RX11, "value", "(II)I"⟩
abbrev cX11_person : ByteArray := prog_1_method_6_code
def yX11_person : MethodName := ⟨RX11, "person", "(IIZ)I"⟩
abbrev cX11_of : ByteArray := prog_1_method_7_code
def yX11_of : MethodName := ⟨RX11, "of", "(II)I"⟩
abbrev cX11_rule : ByteArray := prog_1_method_8_code
def yX11_rule : MethodName := ⟨RX11, "rule", "(II)I"⟩
abbrev cX11_type : ByteArray := prog_1_method_9_code
def yX11_type : MethodName := ⟨RX11, "type", "(JI)I"⟩
abbrev cX11_way : ByteArray := prog_1_method_10_code
def yX11_way : MethodName := ⟨RX11, "way", "()I"⟩
abbrev cX11_group : ByteArray := prog_1_method_11_code
def yX11_group : MethodName := ⟨RX11, "group", "()I"⟩
abbrev cX11_count : ByteArray := prog_1_method_12_code
def yX11_count : MethodName := ⟨RX11, "count", "(I)I"⟩
abbrev cX11_fate : ByteArray := prog_1_method_13_code
def yX11_fate : MethodName := ⟨RX11, "fate", "(II)I"⟩
abbrev cX11_at : ByteArray := prog_1_method_14_code
def yX11_at : MethodName := ⟨RX11, "at", "(II)I"⟩
abbrev cX11_all : ByteArray := prog_1_method_15_code
def yX11_all : MethodName := ⟨RX11, "all", "(I)I"⟩
abbrev cX11_best : ByteArray := prog_1_method_16_code
def yX11_best : MethodName := ⟨RX11, "best", "(II)I"⟩
abbrev cX11_worth : ByteArray := prog_1_method_17_code
def yX11_worth : MethodName := ⟨RX11, "worth", "(I)I"⟩
abbrev cX11_chosen : ByteArray := prog_1_method_18_code
def yX11_chosen : MethodName := ⟨RX11, "chosen", "(II)I"⟩
abbrev cX11_counted : ByteArray := prog_1_method_19_code
def yX11_counted : MethodName := ⟨RX11, "counted", "(IIII)I"⟩
abbrev cX11_often : ByteArray := prog_1_method_20_code
def yX11_often : MethodName := ⟨RX11, "often", "(III)I"⟩
abbrev cX11_square : ByteArray := prog_1_method_21_code
def yX11_square : MethodName := ⟨RX11, "square", "(II)I"⟩
abbrev cX11_stand : ByteArray := prog_1_method_22_code
def yX11_stand : MethodName := ⟨RX11, "stand", "(I)I"⟩
abbrev cX11_colours : ByteArray := prog_1_method_23_code
def yX11_colours : MethodName := ⟨RX11, "colours", "(III)I"⟩
abbrev cX11_image : ByteArray := prog_1_method_24_code
def yX11_image : MethodName := ⟨RX11, "image", "()I"⟩
abbrev cX11_restore : ByteArray := prog_1_method_25_code
def yX11_restore : MethodName := ⟨RX11, "restore", "()I"⟩
abbrev cX11_slots : ByteArray := prog_1_method_26_code
def yX11_slots : MethodName := ⟨RX11, "slots", "(IIIII)I"⟩
abbrev cX11_sheet : ByteArray := prog_1_method_27_code
def yX11_sheet : MethodName := ⟨RX11, "sheet", "(III)I"⟩
abbrev cX11_drop : ByteArray := prog_1_method_28_code
def yX11_drop : MethodName := ⟨RX11, "drop", "(I)I"⟩
abbrev cX11_item : ByteArray := prog_1_method_29_code
def yX11_item : MethodName := ⟨RX11, "item", "(IIII)I"⟩
abbrev cX11_copy : ByteArray := prog_1_method_30_code
def yX11_copy : MethodName := ⟨RX11, "copy", "(IIIII)I"⟩
abbrev cX11_within : ByteArray := prog_1_method_31_code
def yX11_within : MethodName := ⟨RX11, "within", "(III)Z"⟩
abbrev cX11_cutUp : ByteArray := prog_1_method_32_code
def yX11_cutUp : MethodName := ⟨RX11, "cutUp", "(II)I"⟩
abbrev cX11_isSheet : ByteArray := prog_1_method_33_code
def yX11_isSheet : MethodName := ⟨RX11, "isSheet", "(I)Z"⟩
abbrev cX11_isLane : ByteArray := prog_1_method_34_code
def yX11_isLane : MethodName := ⟨RX11, "isLane", "(I)Z"⟩
abbrev cX11_areCosts : ByteArray := prog_1_method_35_code
def yX11_areCosts : MethodName := ⟨RX11, "areCosts", "(III)Z"⟩
abbrev cX11_arePairs : ByteArray := prog_1_method_36_code
def yX11_arePairs : MethodName := ⟨RX11, "arePairs", "(II)Z"⟩
abbrev cX11_costOfCounting : ByteArray := prog_1_method_37_code
def yX11_costOfCounting : MethodName := ⟨RX11, "costOfCounting", "(IIII)I"⟩
abbrev cX11_isPerson : ByteArray := prog_1_method_38_code
def yX11_isPerson : MethodName := ⟨RX11, "isPerson", "(I)Z"⟩
abbrev cX11_forget : ByteArray := prog_1_method_39_code
def yX11_forget : MethodName := ⟨RX11, "forget", "()V"⟩
abbrev cX11_goAlong : ByteArray := prog_1_method_40_code
def yX11_goAlong : MethodName := ⟨RX11, "goAlong", "()V"⟩
abbrev cX11_writeTrail : ByteArray := prog_1_method_41_code
def yX11_writeTrail : MethodName := ⟨RX11, "writeTrail", "(I)V"⟩
abbrev cX11_seekBest : ByteArray := prog_1_method_42_code
def yX11_seekBest : MethodName := ⟨RX11, "seekBest", "(I)V"⟩
abbrev cX11_noteBest : ByteArray := prog_1_method_43_code
def yX11_noteBest : MethodName := ⟨RX11, "noteBest", "(IIII)V"⟩
def RX12 : String := "FlagWalkModel"
def TX12 : u_T := fun k => match k with
  | 0 => ("FlagWalkModel", "end", "I", false)
  | 1 => ("FlagWalkModel", "many", "[I", true)
  | 2 => ("FlagWalkModel", "places", "[I", true)
  | 3 => ("FlagWalkModel", "lengths", "[I", true)
  | 4 => ("FlagWalkModel", "values", "[I", true)
  | 5 => ("FlagWalkModel", "rules", "[I", true)
  | 6 => ("FlagWalkModel", "people", "I", false)
  | 7 => ("FlagWalkModel", "kinds", "[I", true)
  | 8 => ("FlagWalkModel", "paces", "[I", true)
  | 9 => ("FlagWalkModel", "ears", "[I", true)
  | 10 => ("FlagWalkModel", "square", "[I", true)
  | 11 => ("FlagWalkModel", "tape", "[I", true)
  | 12 => ("FlagWalkModel", "taped", "I", false)
  | 13 => ("FlagWalkModel", "at", "I", false)
  | 14 => ("FlagWalkModel", "wrong", "Z", false)
  | 15 => ("FlagWalkModel", "read", "[I", true)
  | 16 => ("FlagWalkModel", "guide", "I", false)
  | 17 => ("FlagWalkModel", "hasBegun", "Z", false)
  | 18 => ("FlagWalkModel", "waited", "I", false)
  | 19 => ("FlagWalkModel", "spoken", "I", false)
  | 20 => ("FlagWalkModel", "stayed", "I", false)
  | 21 => ("FlagWalkModel", "stood", "I", false)
  | 22 => ("FlagWalkModel", "done", "I", false)
  | 23 => ("FlagWalkModel", "place", "[I", true)
  | 24 => ("FlagWalkModel", "left", "[I", true)
  | 25 => ("FlagWalkModel", "lostAt", "[I", true)
  | 26 => ("FlagWalkModel", "heard", "[I", true)
  | 27 => ("FlagWalkModel", "rested", "[I", true)
  | 28 => ("FlagWalkModel", "there", "[I", true)
  | 29 => ("FlagWalkModel", "guideThere", "I", false)
  | 30 => ("FlagWalkModel", "mostOut", "I", false)
  | 31 => ("FlagWalkModel", "film", "[I", true)
  | 32 => ("FlagWalkModel", "colour", "[I", true)
  | 33 => ("FlagWalkModel", "image", "[I", true)
  | 34 => ("FlagWalkModel", "isImage", "Z", false)
  | 35 => ("FlagWalkModel", "lanes", "[I", true)
  | 36 => ("FlagWalkModel", "sizes", "[I", true)
  | 37 => ("FlagWalkModel", "items", "[I", true)
  | 38 => ("FlagWalkModel", "moved", "[I", true)
  | 39 => ("FlagWalkModel", "order", "[I", true)
  | _ => ("FlagWalkModel", "bestOrder", "[I", true)
def tyX12 : Nat → FieldType := fun k => match k with
  | 0 => .int
  | 1 => .array .int
  | 2 => .array .int
  | 3 => .array .int
  | 4 => .array .int
  | 5 => .array .int
  | 6 => .int
  | 7 => .array .int
  | 8 => .array .int
  | 9 => .array .int
  | 10 => .array .int
  | 11 => .array .int
  | 12 => .int
  | 13 => .int
  | 14 => .boolean
  | 15 => .array .int
  | 16 => .int
  | 17 => .boolean
  | 18 => .int
  | 19 => .int
  | 20 => .int
  | 21 => .int
  | 22 => .int
  | 23 => .array .int
  | 24 => .array .int
  | 25 => .array .int
  | 26 => .array .int
  | 27 => .array .int
  | 28 => .array .int
  | 29 => .int
  | 30 => .int
  | 31 => .array .int
  | 32 => .array .int
  | 33 => .array .int
  | 34 => .boolean
  | 35 => .array .int
  | 36 => .array .int
  | 37 => .array .int
  | 38 => .array .int
  | 39 => .array .int
  | _ => .array .int
abbrev wsX120 : List Cond := u_ws RX12 TX12 41
theorem nmX12 : ∀ a, a < 41 → ∀ b, b < 41 → a ≠ b → (TX12 a).2.1 ≠ (TX12 b).2.1 := by decide +kernel
theorem tyX12_ok : ∀ k, k < 41 → parseFieldDescriptor (TX12 k).2.2.1 = some (tyX12 k) := by decide +kernel
abbrev cX12_in : ByteArray := prog_14_method_2_code
def yX12_in : MethodName := ⟨RX12, "in", "(JJJ)Z"⟩
abbrev cX12_init : ByteArray := prog_14_method_3_code
def yX12_init : MethodName := ⟨RX12, "<init>", "()V"⟩
abbrev cX12_isLength : ByteArray := prog_14_method_4_code
def yX12_isLength : MethodName := ⟨RX12, "isLength", "(II)Z"⟩
abbrev cX12_end : ByteArray := prog_14_method_5_code
def yX12_end : MethodName := ⟨RX12, "end", "(I)I"⟩
abbrev cX12_markAt : ByteArray := prog_14_method_6_code
def yX12_markAt : MethodName := ⟨RX12, "markAt", "(II)I"⟩
abbrev cX12_comes : ByteArray := prog_14_method_7_code
def yX12_comes : MethodName := ⟨RX12, "comes", "(III)I"⟩
abbrev cX12_mark : ByteArray := prog_14_method_8_code
def yX12_mark : MethodName := ⟨RX12, "mark", "(III)I"⟩
abbrev cX12_told : ByteArray := prog_14_method_9_code
def yX12_told : MethodName := ⟨RX12, "told", "(III)I"⟩
abbrev cX12_value : ByteArray := prog_14_method_10_code
def yX12_value : MethodName := ⟨RX12, "value", "(II)I"⟩
abbrev cX12_tail : ByteArray := prog_14_method_11_code
def yX12_tail : MethodName := ⟨RX12, "tail", "()I"⟩
abbrev cX12_joins : ByteArray := prog_14_method_12_code
def yX12_joins : MethodName := ⟨RX12, "joins", "(III)I"⟩
abbrev cX12_person : ByteArray := prog_14_method_13_code
def yX12_person : MethodName := ⟨RX12, "person", "(IIZ)I"⟩
abbrev cX12_isOne : ByteArray := prog_14_method_14_code
def yX12_isOne : MethodName := ⟨RX12, "isOne", "(I)Z"⟩
abbrev cX12_of : ByteArray := prog_14_method_15_code
def yX12_of : MethodName := ⟨RX12, "of", "(II)I"⟩
abbrev cX12_isRule : ByteArray := prog_14_method_16_code
def yX12_isRule : MethodName := ⟨RX12, "isRule", "(II)Z"⟩
abbrev cX12_rule : ByteArray := prog_14_method_17_code
def yX12_rule : MethodName := ⟨RX12, "rule", "(II)I"⟩
abbrev cX12_type : ByteArray := prog_14_method_18_code
def yX12_type : MethodName := ⟨RX12, "type", "(JI)I"⟩
abbrev cX12_here : ByteArray := prog_14_method_19_code
def yX12_here : MethodName := ⟨RX12, "here", "()I"⟩
abbrev cX12_has : ByteArray := prog_14_method_20_code
def yX12_has : MethodName := ⟨RX12, "has", "(I)Z"⟩
abbrev cX12_number : ByteArray := prog_14_method_21_code
def yX12_number : MethodName := ⟨RX12, "number", "(II)I"⟩
abbrev cX12_letter : ByteArray := prog_14_method_22_code
def yX12_letter : MethodName := ⟨RX12, "letter", "(IIII)I"⟩
abbrev cX12_markClause : ByteArray := prog_14_method_23_code
def yX12_markClause : MethodName := ⟨RX12, "markClause", "(I)V"⟩
abbrev cX12_personClause : ByteArray := prog_14_method_24_code
def yX12_personClause : MethodName := ⟨RX12, "personClause", "(I)V"⟩
abbrev cX12_readAll : ByteArray := prog_14_method_25_code
def yX12_readAll : MethodName := ⟨RX12, "readAll", "(Z)I"⟩
abbrev cX12_way : ByteArray := prog_14_method_26_code
def yX12_way : MethodName := ⟨RX12, "way", "()I"⟩
abbrev cX12_group : ByteArray := prog_14_method_27_code
def yX12_group : MethodName := ⟨RX12, "group", "()I"⟩
abbrev cX12_stopsMet : ByteArray := prog_14_method_28_code
def yX12_stopsMet : MethodName := ⟨RX12, "stopsMet", "()I"⟩
abbrev cX12_count : ByteArray := prog_14_method_29_code
def yX12_count : MethodName := ⟨RX12, "count", "(I)I"⟩
abbrev cX12_isLost : ByteArray := prog_14_method_30_code
def yX12_isLost : MethodName := ⟨RX12, "isLost", "(I)Z"⟩
abbrev cX12_isNear : ByteArray := prog_14_method_31_code
def yX12_isNear : MethodName := ⟨RX12, "isNear", "(II)Z"⟩
abbrev cX12_nearOf : ByteArray := prog_14_method_32_code
def yX12_nearOf : MethodName := ⟨RX12, "nearOf", "(Z)I"⟩
abbrev cX12_stopHere : ByteArray := prog_14_method_33_code
def yX12_stopHere : MethodName := ⟨RX12, "stopHere", "()I"⟩
abbrev cX12_isRed : ByteArray := prog_14_method_34_code
def yX12_isRed : MethodName := ⟨RX12, "isRed", "(II)Z"⟩
abbrev cX12_isKept : ByteArray := prog_14_method_35_code
def yX12_isKept : MethodName := ⟨RX12, "isKept", "()Z"⟩
abbrev cX12_guideGoes : ByteArray := prog_14_method_36_code
def yX12_guideGoes : MethodName := ⟨RX12, "guideGoes", "(I)V"⟩
abbrev cX12_leastOther : ByteArray := prog_14_method_37_code
def yX12_leastOther : MethodName := ⟨RX12, "leastOther", "(I)I"⟩
abbrev cX12_losesWay : ByteArray := prog_14_method_38_code
def yX12_losesWay : MethodName := ⟨RX12, "losesWay", "(I)Z"⟩
abbrev cX12_goes : ByteArray := prog_14_method_39_code
def yX12_goes : MethodName := ⟨RX12, "goes", "(II)V"⟩
abbrev cX12_behind : ByteArray := prog_14_method_40_code
def yX12_behind : MethodName := ⟨RX12, "behind", "(I)V"⟩
abbrev cX12_walks : ByteArray := prog_14_method_41_code
def yX12_walks : MethodName := ⟨RX12, "walks", "()V"⟩
abbrev cX12_fate : ByteArray := prog_14_method_42_code
def yX12_fate : MethodName := ⟨RX12, "fate", "(II)I"⟩
abbrev cX12_at : ByteArray := prog_14_method_43_code
def yX12_at : MethodName := ⟨RX12, "at", "(II)I"⟩
abbrev cX12_heardAll : ByteArray := prog_14_method_44_code
def yX12_heardAll : MethodName := ⟨RX12, "heardAll", "()I"⟩
abbrev cX12_leastOff : ByteArray := prog_14_method_45_code
def yX12_leastOff : MethodName := ⟨RX12, "leastOff", "()I"⟩
abbrev cX12_allThere : ByteArray := prog_14_method_46_code
def yX12_allThere : MethodName := ⟨RX12, "allThere", "()I"⟩
abbrev cX12_all : ByteArray := prog_14_method_47_code
def yX12_all : MethodName := ⟨RX12, "all", "(I)I"⟩
abbrev cX12_best : ByteArray := prog_14_method_48_code
def yX12_best : MethodName := ⟨RX12, "best", "(II)I"⟩
abbrev cX12_worth : ByteArray := prog_14_method_49_code
def yX12_worth : MethodName := ⟨RX12, "worth", "(I)I"⟩
abbrev cX12_chosen : ByteArray := prog_14_method_50_code
def yX12_chosen : MethodName := ⟨RX12, "chosen", "(II)I"⟩
abbrev cX12_costOf : ByteArray := prog_14_method_51_code
def yX12_costOf : MethodName := ⟨RX12, "costOf", "(IIIII)I"⟩
abbrev cX12_isCost : ByteArray := prog_14_method_52_code
def yX12_isCost : MethodName := ⟨RX12, "isCost", "(III)Z"⟩
abbrev cX12_counted : ByteArray := prog_14_method_53_code
def yX12_counted : MethodName := ⟨RX12, "counted", "(IIII)I"⟩
abbrev cX12_often : ByteArray := prog_14_method_54_code
def yX12_often : MethodName := ⟨RX12, "often", "(III)I"⟩
abbrev cX12_square : ByteArray := prog_14_method_55_code
def yX12_square : MethodName := ⟨RX12, "square", "(II)I"⟩
abbrev cX12_size : ByteArray := prog_14_method_56_code
def yX12_size : MethodName := ⟨RX12, "size", "(I)I"⟩
abbrev cX12_sign : ByteArray := prog_14_method_57_code
def yX12_sign : MethodName := ⟨RX12, "sign", "(I)I"⟩
abbrev cX12_farthest : ByteArray := prog_14_method_58_code
def yX12_farthest : MethodName := ⟨RX12, "farthest", "(I)I"⟩
abbrev cX12_stand : ByteArray := prog_14_method_59_code
def yX12_stand : MethodName := ⟨RX12, "stand", "(I)I"⟩
abbrev cX12_meet : ByteArray := prog_14_method_60_code
def yX12_meet : MethodName := ⟨RX12, "meet", "(IIII)Z"⟩
abbrev cX12_paints : ByteArray := prog_14_method_61_code
def yX12_paints : MethodName := ⟨RX12, "paints", "(III)Z"⟩
abbrev cX12_colours : ByteArray := prog_14_method_62_code
def yX12_colours : MethodName := ⟨RX12, "colours", "(III)I"⟩
abbrev cX12_lay : ByteArray := prog_14_method_63_code
def yX12_lay : MethodName := ⟨RX12, "lay", "([II)I"⟩
abbrev cX12_gives : ByteArray := prog_14_method_64_code
def yX12_gives : MethodName := ⟨RX12, "gives", "(I[I)I"⟩
abbrev cX12_image : ByteArray := prog_14_method_65_code
def yX12_image : MethodName := ⟨RX12, "image", "()I"⟩
abbrev cX12_restore : ByteArray := prog_14_method_66_code
def yX12_restore : MethodName := ⟨RX12, "restore", "()I"⟩
abbrev cX12_isSheet : ByteArray := prog_14_method_67_code
def yX12_isSheet : MethodName := ⟨RX12, "isSheet", "(I)Z"⟩
abbrev cX12_isLane : ByteArray := prog_14_method_68_code
def yX12_isLane : MethodName := ⟨RX12, "isLane", "(I)Z"⟩
abbrev cX12_finds : ByteArray := prog_14_method_69_code
def yX12_finds : MethodName := ⟨RX12, "finds", "(IIII)I"⟩
abbrev cX12_turns : ByteArray := prog_14_method_70_code
def yX12_turns : MethodName := ⟨RX12, "turns", "(I)Z"⟩
abbrev cX12_slots : ByteArray := prog_14_method_71_code
def yX12_slots : MethodName := ⟨RX12, "slots", "(IIIII)I"⟩
abbrev cX12_sheet : ByteArray := prog_14_method_72_code
def yX12_sheet : MethodName := ⟨RX12, "sheet", "(III)I"⟩
abbrev cX12_drop : ByteArray := prog_14_method_73_code
def yX12_drop : MethodName := ⟨RX12, "drop", "(I)I"⟩
abbrev cX12_item : ByteArray := prog_14_method_74_code
def yX12_item : MethodName := ⟨RX12, "item", "(IIII)I"⟩
abbrev cX12_copy : ByteArray := prog_14_method_75_code
def yX12_copy : MethodName := ⟨RX12, "copy", "(IIIII)I"⟩
def RJx8e188 : String := "java/lang/Cloneable"
def TJx8e188 : u_T := fun k => match k with
  | _ => ("", "", "", false)
def tyJx8e188 : Nat → FieldType := fun k => match k with
  | _ => .int
abbrev wsJx8e1880 : List Cond := u_ws RJx8e188 TJx8e188 0
theorem nmJx8e188 : ∀ a, a < 0 → ∀ b, b < 0 → a ≠ b → (TJx8e188 a).2.1 ≠ (TJx8e188 b).2.1 := by decide +kernel
theorem tyJx8e188_ok : ∀ k, k < 0 → parseFieldDescriptor (TJx8e188 k).2.2.1 = some (tyJx8e188 k) := by decide +kernel
def RJ9 : String := "java/lang/Math"
def TJ9 : u_T := fun k => match k with
  | _ => ("", "", "", false)
def tyJ9 : Nat → FieldType := fun k => match k with
  | _ => .int
abbrev wsJ90 : List Cond := u_ws RJ9 TJ9 0
theorem nmJ9 : ∀ a, a < 0 → ∀ b, b < 0 → a ≠ b → (TJ9 a).2.1 ≠ (TJ9 b).2.1 := by decide +kernel
theorem tyJ9_ok : ∀ k, k < 0 → parseFieldDescriptor (TJ9 k).2.2.1 = some (tyJ9 k) := by decide +kernel
abbrev cJ9_max_7cf53 : ByteArray := prog_16_method_65_code
def yJ9_max_7cf53 : MethodName := ⟨RJ9, "max", "(II)I"⟩
abbrev cJ9_min_7cf53 : ByteArray := prog_16_method_69_code
def yJ9_min_7cf53 : MethodName := ⟨RJ9, "min", "(II)I"⟩
def RJ0 : String := "java/lang/String"
def TJ0 : u_T := fun k => match k with
  | _ => ("", "", "", false)
def tyJ0 : Nat → FieldType := fun k => match k with
  | _ => .int
abbrev wsJ00 : List Cond := u_ws RJ0 TJ0 0
theorem nmJ0 : ∀ a, a < 0 → ∀ b, b < 0 → a ≠ b → (TJ0 a).2.1 ≠ (TJ0 b).2.1 := by decide +kernel
theorem tyJ0_ok : ∀ k, k < 0 → parseFieldDescriptor (TJ0 k).2.2.1 = some (tyJ0 k) := by decide +kernel
abbrev cJ0_length_8abf5 : ByteArray := prog_17_method_54_code
def yJ0_length_8abf5 : MethodName := ⟨RJ0, "length", "()I"⟩
abbrev cJ0_charAt_5068e : ByteArray := prog_17_method_56_code
def yJ0_charAt_5068e : MethodName := ⟨RJ0, "charAt", "(I)C"⟩
abbrev cJ0_coder_7d493 : ByteArray := prog_17_method_152_code
def yJ0_coder_7d493 : MethodName := ⟨RJ0, "coder", "()B"⟩
abbrev cJ0_isLatin1_aae02 : ByteArray := prog_17_method_154_code
def yJ0_isLatin1_aae02 : MethodName := ⟨RJ0, "isLatin1", "()Z"⟩
abbrev cJ0_checkIndex_df160 : ByteArray := prog_17_method_155_code
def yJ0_checkIndex_df160 : MethodName := ⟨RJ0, "checkIndex", "(II)V"⟩
def RJ1 : String := "java/lang/StringLatin1"
def TJ1 : u_T := fun k => match k with
  | _ => ("", "", "", false)
def tyJ1 : Nat → FieldType := fun k => match k with
  | _ => .int
abbrev wsJ10 : List Cond := u_ws RJ1 TJ1 0
theorem nmJ1 : ∀ a, a < 0 → ∀ b, b < 0 → a ≠ b → (TJ1 a).2.1 ≠ (TJ1 b).2.1 := by decide +kernel
theorem tyJ1_ok : ∀ k, k < 0 → parseFieldDescriptor (TJ1 k).2.2.1 = some (tyJ1 k) := by decide +kernel
abbrev cJ1_charAt_3b067 : ByteArray := prog_18_method_2_code
def yJ1_charAt_3b067 : MethodName := ⟨RJ1, "charAt", "([BI)C"⟩
def RJ2 : String := "java/lang/StringUTF16"
def TJ2 : u_T := fun k => match k with
  | _ => ("", "", "", false)
def tyJ2 : Nat → FieldType := fun k => match k with
  | _ => .int
abbrev wsJ20 : List Cond := u_ws RJ2 TJ2 0
theorem nmJ2 : ∀ a, a < 0 → ∀ b, b < 0 → a ≠ b → (TJ2 a).2.1 ≠ (TJ2 b).2.1 := by decide +kernel
theorem tyJ2_ok : ∀ k, k < 0 → parseFieldDescriptor (TJ2 k).2.2.1 = some (tyJ2 k) := by decide +kernel
abbrev cJ2_getChar_3b067 : ByteArray := prog_19_method_5_code
def yJ2_getChar_3b067 : MethodName := ⟨RJ2, "getChar", "([BI)C"⟩
abbrev cJ2_length_9d52b : ByteArray := prog_19_method_6_code
def yJ2_length_9d52b : MethodName := ⟨RJ2, "length", "([B)I"⟩
abbrev cJ2_charAt_3b067 : ByteArray := prog_19_method_83_code
def yJ2_charAt_3b067 : MethodName := ⟨RJ2, "charAt", "([BI)C"⟩
abbrev cJ2_checkIndex_2214a : ByteArray := prog_19_method_91_code
def yJ2_checkIndex_2214a : MethodName := ⟨RJ2, "checkIndex", "(I[B)V"⟩
def RJ10 : String := "java/lang/System"
def TJ10 : u_T := fun k => match k with
  | _ => ("", "", "", false)
def tyJ10 : Nat → FieldType := fun k => match k with
  | _ => .int
abbrev wsJ100 : List Cond := u_ws RJ10 TJ10 0
theorem nmJ10 : ∀ a, a < 0 → ∀ b, b < 0 → a ≠ b → (TJ10 a).2.1 ≠ (TJ10 b).2.1 := by decide +kernel
theorem tyJ10_ok : ∀ k, k < 0 → parseFieldDescriptor (TJ10 k).2.2.1 = some (tyJ10 k) := by decide +kernel
def RJ3 : String := "jdk/internal/util/Preconditions"
def TJ3 : u_T := fun k => match k with
  | _ => ("", "", "", false)
def tyJ3 : Nat → FieldType := fun k => match k with
  | _ => .int
abbrev wsJ30 : List Cond := u_ws RJ3 TJ3 0
theorem nmJ3 : ∀ a, a < 0 → ∀ b, b < 0 → a ≠ b → (TJ3 a).2.1 ≠ (TJ3 b).2.1 := by decide +kernel
theorem tyJ3_ok : ∀ k, k < 0 → parseFieldDescriptor (TJ3 k).2.2.1 = some (tyJ3 k) := by decide +kernel
abbrev cJ3_checkIndex_8e157 : ByteArray := prog_21_method_11_code
def yJ3_checkIndex_8e157 : MethodName := ⟨RJ3, "checkIndex", "(IILjava/util/function/BiFunction;)I"⟩
def RL : String := "FlagWalkLaw"
abbrev cL_law : ByteArray := code
def yL_law : MethodName := ⟨RL, "law", "([I)Z"⟩
abbrev vwCl : List vw_C := [(RX0, TX0, 6), (RX1, TX1, 3), (RX2, TX2, 6), (RX3, TX3, 4), (RX4, TX4, 5), (RX5, TX5, 4), (RX6, TX6, 5), (RX7, TX7, 3), (RX8, TX8, 8), (RX9, TX9, 4), (RX10, TX10, 16), (RX11, TX11, 16), (RX12, TX12, 41)]
abbrev gw_MT : Type := MethodName × ByteArray × Nat × Option FieldType
abbrev gw_mY (t : gw_MT) : MethodName := t.1
abbrev gw_mC (t : gw_MT) : ByteArray := t.2.1
abbrev gw_mL (t : gw_MT) : Nat := t.2.2.1
abbrev gw_mR (t : gw_MT) : Option FieldType := t.2.2.2
def gw_tb : List Cond := lw_tbl.filter goodWord
theorem gw_tbm {w : Cond} (h : w ∈ tables_1) (g : goodWord w = true) : w ∈ gw_tb := List.mem_filter.mpr ⟨List.mem_append_right _ h, g⟩
theorem gw_tb0 {w : Cond} (h : w ∈ k2_sels lw_privs) (g : goodWord w = true) : w ∈ gw_tb := List.mem_filter.mpr ⟨List.mem_append_left _ h, g⟩
theorem gw_tb1 {w : Cond} (h : w ∈ tables_1_1) (g : goodWord w = true) : w ∈ gw_tb := gw_tbm (List.mem_append_left _ h) g
theorem gw_tb2 {w : Cond} (h : w ∈ tables_1_2) (g : goodWord w = true) : w ∈ gw_tb := gw_tbm (List.mem_append_right _ (List.mem_append_left _ h)) g
theorem gw_tb3 {w : Cond} (h : w ∈ tables_1_3) (g : goodWord w = true) : w ∈ gw_tb := gw_tbm (List.mem_append_right _ (List.mem_append_right _ (List.mem_append_left _ h))) g
theorem gw_tb4 {w : Cond} (h : w ∈ tables_1_4) (g : goodWord w = true) : w ∈ gw_tb := gw_tbm (List.mem_append_right _ (List.mem_append_right _ (List.mem_append_right _ (List.mem_append_left _ h)))) g
theorem gw_tb5 {w : Cond} (h : w ∈ tables_1_5) (g : goodWord w = true) : w ∈ gw_tb := gw_tbm (List.mem_append_right _ (List.mem_append_right _ (List.mem_append_right _ (List.mem_append_right _ (List.mem_append_left _ h))))) g
theorem gw_tb6 {w : Cond} (h : w ∈ tables_1_6) (g : goodWord w = true) : w ∈ gw_tb := gw_tbm (List.mem_append_right _ (List.mem_append_right _ (List.mem_append_right _ (List.mem_append_right _ (List.mem_append_right _ h))))) g
theorem gw_tb_hts {args : Array Value} {s : State} (h : ∀ w ∈ lw_tbl, w.before args s = true) : ∀ w ∈ gw_tb, w.before args s = true := fun w hw => h w (List.mem_filter.mp hw).1
theorem gw_tb_good : ∀ w ∈ gw_tb, goodWord w = true := fun _ hw => (List.mem_filter.mp hw).2

def M_X0_init : gw_MT := (yX0_init, cX0_init, 1, none)
def M_X0_load : gw_MT := (yX0_load, cX0_load, 5, some .boolean)
def M_X0_seek : gw_MT := (yX0_seek, cX0_seek, 1, none)
def M_X0_sendFrom : gw_MT := (yX0_sendFrom, cX0_sendFrom, 7, none)
def M_X1_init : gw_MT := (yX1_init, cX1_init, 1, none)
def M_X1_load : gw_MT := (yX1_load, cX1_load, 6, none)
def M_X1_paint : gw_MT := (yX1_paint, cX1_paint, 2, some .int)
def M_X1_paintFrom : gw_MT := (yX1_paintFrom, cX1_paintFrom, 5, some .boolean)
def M_X1_isFree : gw_MT := (yX1_isFree, cX1_isFree, 4, some .boolean)
def M_X2_init : gw_MT := (yX2_init, cX2_init, 1, none)
def M_X2_clear : gw_MT := (yX2_clear, cX2_clear, 1, none)
def M_X3_init : gw_MT := (yX3_init, cX3_init, 1, none)
def M_X3_clear : gw_MT := (yX3_clear, cX3_clear, 2, none)
def M_X3_isTaken : gw_MT := (yX3_isTaken, cX3_isTaken, 4, some .boolean)
def M_X3_add : gw_MT := (yX3_add, cX3_add, 5, some .int)
def M_X3_take : gw_MT := (yX3_take, cX3_take, 3, none)
def M_X4_init : gw_MT := (yX4_init, cX4_init, 1, none)
def M_X4_lay : gw_MT := (yX4_lay, cX4_lay, 3, none)
def M_X4_layKind : gw_MT := (yX4_layKind, cX4_layKind, 6, none)
def M_X4_isRed : gw_MT := (yX4_isRed, cX4_isRed, 4, some .boolean)
def M_X5_init : gw_MT := (yX5_init, cX5_init, 1, none)
def M_X5_tailNumber : gw_MT := (yX5_tailNumber, cX5_tailNumber, 2, some .int)
def M_X5_add : gw_MT := (yX5_add, cX5_add, 4, some .int)
def M_X5_take : gw_MT := (yX5_take, cX5_take, 2, none)
def M_X6_init : gw_MT := (yX6_init, cX6_init, 1, none)
def M_X6_take : gw_MT := (yX6_take, cX6_take, 2, none)
def M_X6_isMet : gw_MT := (yX6_isMet, cX6_isMet, 2, some .boolean)
def M_X6_stopsMet : gw_MT := (yX6_stopsMet, cX6_stopsMet, 3, some .int)
def M_X6_minutesSpoken : gw_MT := (yX6_minutesSpoken, cX6_minutesSpoken, 3, some .int)
def M_X6_valueIfFits : gw_MT := (yX6_valueIfFits, cX6_valueIfFits, 6, some .int)
def M_X7_init : gw_MT := (yX7_init, cX7_init, 1, none)
def M_X7_renew : gw_MT := (yX7_renew, cX7_renew, 4, none)
def M_X7_refusal : gw_MT := (yX7_refusal, cX7_refusal, 4, some .int)
def M_X7_reaches : gw_MT := (yX7_reaches, cX7_reaches, 3, some .boolean)
def M_X7_put : gw_MT := (yX7_put, cX7_put, 3, none)
def M_X8_init : gw_MT := (yX8_init, cX8_init, 1, none)
def M_X8_survey : gw_MT := (yX8_survey, cX8_survey, 4, none)
def M_X8_findBounds : gw_MT := (yX8_findBounds, cX8_findBounds, 2, none)
def M_X8_farthest : gw_MT := (yX8_farthest, cX8_farthest, 3, some .int)
def M_X8_isHeardAllAround : gw_MT := (yX8_isHeardAllAround, cX8_isHeardAllAround, 5, some .boolean)
def M_X8_isListenerHidden : gw_MT := (yX8_isListenerHidden, cX8_isListenerHidden, 10, some .boolean)
def M_X9_init : gw_MT := (yX9_init, cX9_init, 1, none)
def M_X9_holdsText : gw_MT := (yX9_holdsText, cX9_holdsText, 4, some .boolean)
def M_X9_write : gw_MT := (yX9_write, cX9_write, 5, some .int)
def M_X9_readWay : gw_MT := (yX9_readWay, cX9_readWay, 5, some .int)
def M_X9_readGroup : gw_MT := (yX9_readGroup, cX9_readGroup, 5, some .int)
def M_X9_readMark : gw_MT := (yX9_readMark, cX9_readMark, 5, some .boolean)
def M_X9_readPerson : gw_MT := (yX9_readPerson, cX9_readPerson, 5, some .boolean)
def M_X9_readNumber : gw_MT := (yX9_readNumber, cX9_readNumber, 5, some .int)
def M_X9_next : gw_MT := (yX9_next, cX9_next, 1, some .int)
def M_X9_passes : gw_MT := (yX9_passes, cX9_passes, 2, some .boolean)
def M_X9_signNumber : gw_MT := (yX9_signNumber, cX9_signNumber, 4, some .int)
def M_X10_init : gw_MT := (yX10_init, cX10_init, 1, none)
def M_X10_load : gw_MT := (yX10_load, cX10_load, 2, none)
def M_X10_takeRule : gw_MT := (yX10_takeRule, cX10_takeRule, 4, none)
def M_X10_start : gw_MT := (yX10_start, cX10_start, 2, none)
def M_X10_isOver : gw_MT := (yX10_isOver, cX10_isOver, 1, some .boolean)
def M_X10_live : gw_MT := (yX10_live, cX10_live, 3, none)
def M_X10_lead : gw_MT := (yX10_lead, cX10_lead, 3, none)
def M_X10_isAtOpenStop : gw_MT := (yX10_isAtOpenStop, cX10_isAtOpenStop, 1, some .boolean)
def M_X10_isKept : gw_MT := (yX10_isKept, cX10_isKept, 1, some .boolean)
def M_X10_isToBegin : gw_MT := (yX10_isToBegin, cX10_isToBegin, 3, some .boolean)
def M_X10_speak : gw_MT := (yX10_speak, cX10_speak, 3, none)
def M_X10_follow : gw_MT := (yX10_follow, cX10_follow, 7, none)
def M_X10_lastBeside : gw_MT := (yX10_lastBeside, cX10_lastBeside, 4, some .int)
def M_X10_losesItsWay : gw_MT := (yX10_losesItsWay, cX10_losesItsWay, 4, some .boolean)
def M_X10_closeMinute : gw_MT := (yX10_closeMinute, cX10_closeMinute, 5, none)
def M_X10_out : gw_MT := (yX10_out, cX10_out, 1, some .int)
def M_X10_leastHeardInTime : gw_MT := (yX10_leastHeardInTime, cX10_leastHeardInTime, 3, some .int)
def M_X10_heardTogether : gw_MT := (yX10_heardTogether, cX10_heardTogether, 3, some .int)
def M_X10_leastHeard : gw_MT := (yX10_leastHeard, cX10_leastHeard, 3, some .int)
def M_X10_allThere : gw_MT := (yX10_allThere, cX10_allThere, 3, some .int)
def M_X10_lostSet : gw_MT := (yX10_lostSet, cX10_lostSet, 3, some .int)
def M_X11_init : gw_MT := (yX11_init, cX11_init, 2, none)
def M_X11_end : gw_MT := (yX11_end, cX11_end, 3, some .int)
def M_X11_mark : gw_MT := (yX11_mark, cX11_mark, 5, some .int)
def M_X11_told : gw_MT := (yX11_told, cX11_told, 4, some .int)
def M_X11_value : gw_MT := (yX11_value, cX11_value, 4, some .int)
def M_X11_person : gw_MT := (yX11_person, cX11_person, 5, some .int)
def M_X11_of : gw_MT := (yX11_of, cX11_of, 3, some .int)
def M_X11_rule : gw_MT := (yX11_rule, cX11_rule, 4, some .int)
def M_X11_type : gw_MT := (yX11_type, cX11_type, 4, some .int)
def M_X11_way : gw_MT := (yX11_way, cX11_way, 2, some .int)
def M_X11_group : gw_MT := (yX11_group, cX11_group, 2, some .int)
def M_X11_count : gw_MT := (yX11_count, cX11_count, 2, some .int)
def M_X11_fate : gw_MT := (yX11_fate, cX11_fate, 3, some .int)
def M_X11_at : gw_MT := (yX11_at, cX11_at, 4, some .int)
def M_X11_all : gw_MT := (yX11_all, cX11_all, 2, some .int)
def M_X11_best : gw_MT := (yX11_best, cX11_best, 3, some .int)
def M_X11_worth : gw_MT := (yX11_worth, cX11_worth, 4, some .int)
def M_X11_chosen : gw_MT := (yX11_chosen, cX11_chosen, 9, some .int)
def M_X11_counted : gw_MT := (yX11_counted, cX11_counted, 6, some .int)
def M_X11_often : gw_MT := (yX11_often, cX11_often, 9, some .int)
def M_X11_square : gw_MT := (yX11_square, cX11_square, 4, some .int)
def M_X11_stand : gw_MT := (yX11_stand, cX11_stand, 2, some .int)
def M_X11_colours : gw_MT := (yX11_colours, cX11_colours, 5, some .int)
def M_X11_image : gw_MT := (yX11_image, cX11_image, 1, some .int)
def M_X11_restore : gw_MT := (yX11_restore, cX11_restore, 1, some .int)
def M_X11_slots : gw_MT := (yX11_slots, cX11_slots, 7, some .int)
def M_X11_sheet : gw_MT := (yX11_sheet, cX11_sheet, 4, some .int)
def M_X11_drop : gw_MT := (yX11_drop, cX11_drop, 3, some .int)
def M_X11_item : gw_MT := (yX11_item, cX11_item, 6, some .int)
def M_X11_copy : gw_MT := (yX11_copy, cX11_copy, 8, some .int)
def M_X11_within : gw_MT := (yX11_within, cX11_within, 3, some .boolean)
def M_X11_cutUp : gw_MT := (yX11_cutUp, cX11_cutUp, 2, some .int)
def M_X11_isSheet : gw_MT := (yX11_isSheet, cX11_isSheet, 1, some .boolean)
def M_X11_isLane : gw_MT := (yX11_isLane, cX11_isLane, 1, some .boolean)
def M_X11_areCosts : gw_MT := (yX11_areCosts, cX11_areCosts, 3, some .boolean)
def M_X11_arePairs : gw_MT := (yX11_arePairs, cX11_arePairs, 2, some .boolean)
def M_X11_costOfCounting : gw_MT := (yX11_costOfCounting, cX11_costOfCounting, 6, some .int)
def M_X11_isPerson : gw_MT := (yX11_isPerson, cX11_isPerson, 2, some .boolean)
def M_X11_forget : gw_MT := (yX11_forget, cX11_forget, 1, none)
def M_X11_goAlong : gw_MT := (yX11_goAlong, cX11_goAlong, 2, none)
def M_X11_writeTrail : gw_MT := (yX11_writeTrail, cX11_writeTrail, 3, none)
def M_X11_seekBest : gw_MT := (yX11_seekBest, cX11_seekBest, 8, none)
def M_X11_noteBest : gw_MT := (yX11_noteBest, cX11_noteBest, 5, none)
def M_X12_in : gw_MT := (yX12_in, cX12_in, 6, some .boolean)
def M_X12_init : gw_MT := (yX12_init, cX12_init, 2, none)
def M_X12_isLength : gw_MT := (yX12_isLength, cX12_isLength, 2, some .boolean)
def M_X12_end : gw_MT := (yX12_end, cX12_end, 3, some .int)
def M_X12_markAt : gw_MT := (yX12_markAt, cX12_markAt, 5, some .int)
def M_X12_comes : gw_MT := (yX12_comes, cX12_comes, 5, some .int)
def M_X12_mark : gw_MT := (yX12_mark, cX12_mark, 4, some .int)
def M_X12_told : gw_MT := (yX12_told, cX12_told, 4, some .int)
def M_X12_value : gw_MT := (yX12_value, cX12_value, 4, some .int)
def M_X12_tail : gw_MT := (yX12_tail, cX12_tail, 3, some .int)
def M_X12_joins : gw_MT := (yX12_joins, cX12_joins, 4, some .int)
def M_X12_person : gw_MT := (yX12_person, cX12_person, 4, some .int)
def M_X12_isOne : gw_MT := (yX12_isOne, cX12_isOne, 2, some .boolean)
def M_X12_of : gw_MT := (yX12_of, cX12_of, 3, some .int)
def M_X12_isRule : gw_MT := (yX12_isRule, cX12_isRule, 2, some .boolean)
def M_X12_rule : gw_MT := (yX12_rule, cX12_rule, 4, some .int)
def M_X12_type : gw_MT := (yX12_type, cX12_type, 5, some .int)
def M_X12_here : gw_MT := (yX12_here, cX12_here, 1, some .int)
def M_X12_has : gw_MT := (yX12_has, cX12_has, 3, some .boolean)
def M_X12_number : gw_MT := (yX12_number, cX12_number, 5, some .int)
def M_X12_letter : gw_MT := (yX12_letter, cX12_letter, 7, some .int)
def M_X12_markClause : gw_MT := (yX12_markClause, cX12_markClause, 6, none)
def M_X12_personClause : gw_MT := (yX12_personClause, cX12_personClause, 5, none)
def M_X12_readAll : gw_MT := (yX12_readAll, cX12_readAll, 4, some .int)
def M_X12_way : gw_MT := (yX12_way, cX12_way, 3, some .int)
def M_X12_group : gw_MT := (yX12_group, cX12_group, 3, some .int)
def M_X12_stopsMet : gw_MT := (yX12_stopsMet, cX12_stopsMet, 3, some .int)
def M_X12_count : gw_MT := (yX12_count, cX12_count, 2, some .int)
def M_X12_isLost : gw_MT := (yX12_isLost, cX12_isLost, 2, some .boolean)
def M_X12_isNear : gw_MT := (yX12_isNear, cX12_isNear, 3, some .boolean)
def M_X12_nearOf : gw_MT := (yX12_nearOf, cX12_nearOf, 5, some .int)
def M_X12_stopHere : gw_MT := (yX12_stopHere, cX12_stopHere, 2, some .int)
def M_X12_isRed : gw_MT := (yX12_isRed, cX12_isRed, 4, some .boolean)
def M_X12_isKept : gw_MT := (yX12_isKept, cX12_isKept, 4, some .boolean)
def M_X12_guideGoes : gw_MT := (yX12_guideGoes, cX12_guideGoes, 4, none)
def M_X12_leastOther : gw_MT := (yX12_leastOther, cX12_leastOther, 4, some .int)
def M_X12_losesWay : gw_MT := (yX12_losesWay, cX12_losesWay, 4, some .boolean)
def M_X12_goes : gw_MT := (yX12_goes, cX12_goes, 5, none)
def M_X12_behind : gw_MT := (yX12_behind, cX12_behind, 5, none)
def M_X12_walks : gw_MT := (yX12_walks, cX12_walks, 3, none)
def M_X12_fate : gw_MT := (yX12_fate, cX12_fate, 3, some .int)
def M_X12_at : gw_MT := (yX12_at, cX12_at, 3, some .int)
def M_X12_heardAll : gw_MT := (yX12_heardAll, cX12_heardAll, 3, some .int)
def M_X12_leastOff : gw_MT := (yX12_leastOff, cX12_leastOff, 3, some .int)
def M_X12_allThere : gw_MT := (yX12_allThere, cX12_allThere, 3, some .int)
def M_X12_all : gw_MT := (yX12_all, cX12_all, 4, some .int)
def M_X12_best : gw_MT := (yX12_best, cX12_best, 11, some .int)
def M_X12_worth : gw_MT := (yX12_worth, cX12_worth, 5, some .int)
def M_X12_chosen : gw_MT := (yX12_chosen, cX12_chosen, 11, some .int)
def M_X12_costOf : gw_MT := (yX12_costOf, cX12_costOf, 9, some .int)
def M_X12_isCost : gw_MT := (yX12_isCost, cX12_isCost, 3, some .boolean)
def M_X12_counted : gw_MT := (yX12_counted, cX12_counted, 6, some .int)
def M_X12_often : gw_MT := (yX12_often, cX12_often, 7, some .int)
def M_X12_square : gw_MT := (yX12_square, cX12_square, 4, some .int)
def M_X12_size : gw_MT := (yX12_size, cX12_size, 1, some .int)
def M_X12_sign : gw_MT := (yX12_sign, cX12_sign, 1, some .int)
def M_X12_farthest : gw_MT := (yX12_farthest, cX12_farthest, 10, some .int)
def M_X12_stand : gw_MT := (yX12_stand, cX12_stand, 8, some .int)
def M_X12_meet : gw_MT := (yX12_meet, cX12_meet, 6, some .boolean)
def M_X12_paints : gw_MT := (yX12_paints, cX12_paints, 7, some .boolean)
def M_X12_colours : gw_MT := (yX12_colours, cX12_colours, 5, some .int)
def M_X12_lay : gw_MT := (yX12_lay, cX12_lay, 4, some .int)
def M_X12_gives : gw_MT := (yX12_gives, cX12_gives, 4, some .int)
def M_X12_image : gw_MT := (yX12_image, cX12_image, 2, some .int)
def M_X12_restore : gw_MT := (yX12_restore, cX12_restore, 2, some .int)
def M_X12_isSheet : gw_MT := (yX12_isSheet, cX12_isSheet, 1, some .boolean)
def M_X12_isLane : gw_MT := (yX12_isLane, cX12_isLane, 1, some .boolean)
def M_X12_finds : gw_MT := (yX12_finds, cX12_finds, 5, some .int)
def M_X12_turns : gw_MT := (yX12_turns, cX12_turns, 7, some .boolean)
def M_X12_slots : gw_MT := (yX12_slots, cX12_slots, 15, some .int)
def M_X12_sheet : gw_MT := (yX12_sheet, cX12_sheet, 5, some .int)
def M_X12_drop : gw_MT := (yX12_drop, cX12_drop, 2, some .int)
def M_X12_item : gw_MT := (yX12_item, cX12_item, 6, some .int)
def M_X12_copy : gw_MT := (yX12_copy, cX12_copy, 7, some .int)
def M_law : gw_MT := (yL_law, cL_law, 4, some .boolean)
end
section
theorem inX0 : ∀ w ∈ u_ws RX0 TX0 6, w ∈ gw_tb := by
  intro w hw
  obtain ⟨k, hk, rfl⟩ := List.mem_map.mp hw
  have hk := List.mem_range.mp hk
  match k, hk with
  | 0, _ => exact gw_tb2 (List.mem_of_getElem? (i := 104) (by decide +kernel)) rfl
  | 1, _ => exact gw_tb2 (List.mem_of_getElem? (i := 106) (by decide +kernel)) rfl
  | 2, _ => exact gw_tb2 (List.mem_of_getElem? (i := 108) (by decide +kernel)) rfl
  | 3, _ => exact gw_tb2 (List.mem_of_getElem? (i := 110) (by decide +kernel)) rfl
  | 4, _ => exact gw_tb2 (List.mem_of_getElem? (i := 112) (by decide +kernel)) rfl
  | 5, _ => exact gw_tb2 (List.mem_of_getElem? (i := 114) (by decide +kernel)) rfl
  | k + 6, h => exact absurd h (by omega)
theorem inX1 : ∀ w ∈ u_ws RX1 TX1 3, w ∈ gw_tb := by
  intro w hw
  obtain ⟨k, hk, rfl⟩ := List.mem_map.mp hw
  have hk := List.mem_range.mp hk
  match k, hk with
  | 0, _ => exact gw_tb2 (List.mem_of_getElem? (i := 83) (by decide +kernel)) rfl
  | 1, _ => exact gw_tb2 (List.mem_of_getElem? (i := 85) (by decide +kernel)) rfl
  | 2, _ => exact gw_tb2 (List.mem_of_getElem? (i := 87) (by decide +kernel)) rfl
  | k + 3, h => exact absurd h (by omega)
theorem inX2 : ∀ w ∈ u_ws RX2 TX2 6, w ∈ gw_tb := by
  intro w hw
  obtain ⟨k, hk, rfl⟩ := List.mem_map.mp hw
  have hk := List.mem_range.mp hk
  match k, hk with
  | 0, _ => exact gw_tb2 (List.mem_of_getElem? (i := 2) (by decide +kernel)) rfl
  | 1, _ => exact gw_tb2 (List.mem_of_getElem? (i := 4) (by decide +kernel)) rfl
  | 2, _ => exact gw_tb2 (List.mem_of_getElem? (i := 6) (by decide +kernel)) rfl
  | 3, _ => exact gw_tb2 (List.mem_of_getElem? (i := 8) (by decide +kernel)) rfl
  | 4, _ => exact gw_tb2 (List.mem_of_getElem? (i := 10) (by decide +kernel)) rfl
  | 5, _ => exact gw_tb2 (List.mem_of_getElem? (i := 12) (by decide +kernel)) rfl
  | k + 6, h => exact absurd h (by omega)
theorem inX3 : ∀ w ∈ u_ws RX3 TX3 4, w ∈ gw_tb := by
  intro w hw
  obtain ⟨k, hk, rfl⟩ := List.mem_map.mp hw
  have hk := List.mem_range.mp hk
  match k, hk with
  | 0, _ => exact gw_tb1 (List.mem_of_getElem? (i := 57) (by decide +kernel)) rfl
  | 1, _ => exact gw_tb1 (List.mem_of_getElem? (i := 59) (by decide +kernel)) rfl
  | 2, _ => exact gw_tb1 (List.mem_of_getElem? (i := 61) (by decide +kernel)) rfl
  | 3, _ => exact gw_tb1 (List.mem_of_getElem? (i := 63) (by decide +kernel)) rfl
  | k + 4, h => exact absurd h (by omega)
theorem inX4 : ∀ w ∈ u_ws RX4 TX4 5, w ∈ gw_tb := by
  intro w hw
  obtain ⟨k, hk, rfl⟩ := List.mem_map.mp hw
  have hk := List.mem_range.mp hk
  match k, hk with
  | 0, _ => exact gw_tb1 (List.mem_of_getElem? (i := 211) (by decide +kernel)) rfl
  | 1, _ => exact gw_tb1 (List.mem_of_getElem? (i := 213) (by decide +kernel)) rfl
  | 2, _ => exact gw_tb1 (List.mem_of_getElem? (i := 215) (by decide +kernel)) rfl
  | 3, _ => exact gw_tb1 (List.mem_of_getElem? (i := 217) (by decide +kernel)) rfl
  | 4, _ => exact gw_tb1 (List.mem_of_getElem? (i := 219) (by decide +kernel)) rfl
  | k + 5, h => exact absurd h (by omega)
theorem inX5 : ∀ w ∈ u_ws RX5 TX5 4, w ∈ gw_tb := by
  intro w hw
  obtain ⟨k, hk, rfl⟩ := List.mem_map.mp hw
  have hk := List.mem_range.mp hk
  match k, hk with
  | 0, _ => exact gw_tb1 (List.mem_of_getElem? (i := 86) (by decide +kernel)) rfl
  | 1, _ => exact gw_tb1 (List.mem_of_getElem? (i := 88) (by decide +kernel)) rfl
  | 2, _ => exact gw_tb1 (List.mem_of_getElem? (i := 90) (by decide +kernel)) rfl
  | 3, _ => exact gw_tb1 (List.mem_of_getElem? (i := 92) (by decide +kernel)) rfl
  | k + 4, h => exact absurd h (by omega)
theorem inX6 : ∀ w ∈ u_ws RX6 TX6 5, w ∈ gw_tb := by
  intro w hw
  obtain ⟨k, hk, rfl⟩ := List.mem_map.mp hw
  have hk := List.mem_range.mp hk
  match k, hk with
  | 0, _ => exact gw_tb1 (List.mem_of_getElem? (i := 155) (by decide +kernel)) rfl
  | 1, _ => exact gw_tb1 (List.mem_of_getElem? (i := 157) (by decide +kernel)) rfl
  | 2, _ => exact gw_tb1 (List.mem_of_getElem? (i := 159) (by decide +kernel)) rfl
  | 3, _ => exact gw_tb1 (List.mem_of_getElem? (i := 161) (by decide +kernel)) rfl
  | 4, _ => exact gw_tb1 (List.mem_of_getElem? (i := 163) (by decide +kernel)) rfl
  | k + 5, h => exact absurd h (by omega)
theorem inX7 : ∀ w ∈ u_ws RX7 TX7 3, w ∈ gw_tb := by
  intro w hw
  obtain ⟨k, hk, rfl⟩ := List.mem_map.mp hw
  have hk := List.mem_range.mp hk
  match k, hk with
  | 0, _ => exact gw_tb2 (List.mem_of_getElem? (i := 130) (by decide +kernel)) rfl
  | 1, _ => exact gw_tb2 (List.mem_of_getElem? (i := 132) (by decide +kernel)) rfl
  | 2, _ => exact gw_tb2 (List.mem_of_getElem? (i := 134) (by decide +kernel)) rfl
  | k + 3, h => exact absurd h (by omega)
theorem inX8 : ∀ w ∈ u_ws RX8 TX8 8, w ∈ gw_tb := by
  intro w hw
  obtain ⟨k, hk, rfl⟩ := List.mem_map.mp hw
  have hk := List.mem_range.mp hk
  match k, hk with
  | 0, _ => exact gw_tb1 (List.mem_of_getElem? (i := 124) (by decide +kernel)) rfl
  | 1, _ => exact gw_tb1 (List.mem_of_getElem? (i := 126) (by decide +kernel)) rfl
  | 2, _ => exact gw_tb1 (List.mem_of_getElem? (i := 128) (by decide +kernel)) rfl
  | 3, _ => exact gw_tb1 (List.mem_of_getElem? (i := 130) (by decide +kernel)) rfl
  | 4, _ => exact gw_tb1 (List.mem_of_getElem? (i := 132) (by decide +kernel)) rfl
  | 5, _ => exact gw_tb1 (List.mem_of_getElem? (i := 134) (by decide +kernel)) rfl
  | 6, _ => exact gw_tb1 (List.mem_of_getElem? (i := 136) (by decide +kernel)) rfl
  | 7, _ => exact gw_tb1 (List.mem_of_getElem? (i := 138) (by decide +kernel)) rfl
  | k + 8, h => exact absurd h (by omega)
theorem inX9 : ∀ w ∈ u_ws RX9 TX9 4, w ∈ gw_tb := by
  intro w hw
  obtain ⟨k, hk, rfl⟩ := List.mem_map.mp hw
  have hk := List.mem_range.mp hk
  match k, hk with
  | 0, _ => exact gw_tb1 (List.mem_of_getElem? (i := 176) (by decide +kernel)) rfl
  | 1, _ => exact gw_tb1 (List.mem_of_getElem? (i := 178) (by decide +kernel)) rfl
  | 2, _ => exact gw_tb1 (List.mem_of_getElem? (i := 180) (by decide +kernel)) rfl
  | 3, _ => exact gw_tb1 (List.mem_of_getElem? (i := 182) (by decide +kernel)) rfl
  | k + 4, h => exact absurd h (by omega)
theorem inX10 : ∀ w ∈ u_ws RX10 TX10 16, w ∈ gw_tb := by
  intro w hw
  obtain ⟨k, hk, rfl⟩ := List.mem_map.mp hw
  have hk := List.mem_range.mp hk
  match k, hk with
  | 0, _ => exact gw_tb2 (List.mem_of_getElem? (i := 40) (by decide +kernel)) rfl
  | 1, _ => exact gw_tb2 (List.mem_of_getElem? (i := 42) (by decide +kernel)) rfl
  | 2, _ => exact gw_tb2 (List.mem_of_getElem? (i := 44) (by decide +kernel)) rfl
  | 3, _ => exact gw_tb2 (List.mem_of_getElem? (i := 46) (by decide +kernel)) rfl
  | 4, _ => exact gw_tb2 (List.mem_of_getElem? (i := 48) (by decide +kernel)) rfl
  | 5, _ => exact gw_tb2 (List.mem_of_getElem? (i := 50) (by decide +kernel)) rfl
  | 6, _ => exact gw_tb2 (List.mem_of_getElem? (i := 52) (by decide +kernel)) rfl
  | 7, _ => exact gw_tb2 (List.mem_of_getElem? (i := 54) (by decide +kernel)) rfl
  | 8, _ => exact gw_tb2 (List.mem_of_getElem? (i := 56) (by decide +kernel)) rfl
  | 9, _ => exact gw_tb2 (List.mem_of_getElem? (i := 58) (by decide +kernel)) rfl
  | 10, _ => exact gw_tb2 (List.mem_of_getElem? (i := 60) (by decide +kernel)) rfl
  | 11, _ => exact gw_tb2 (List.mem_of_getElem? (i := 62) (by decide +kernel)) rfl
  | 12, _ => exact gw_tb2 (List.mem_of_getElem? (i := 64) (by decide +kernel)) rfl
  | 13, _ => exact gw_tb2 (List.mem_of_getElem? (i := 66) (by decide +kernel)) rfl
  | 14, _ => exact gw_tb2 (List.mem_of_getElem? (i := 68) (by decide +kernel)) rfl
  | 15, _ => exact gw_tb2 (List.mem_of_getElem? (i := 70) (by decide +kernel)) rfl
  | k + 16, h => exact absurd h (by omega)
theorem inX11 : ∀ w ∈ u_ws RX11 TX11 16, w ∈ gw_tb := by
  intro w hw
  obtain ⟨k, hk, rfl⟩ := List.mem_map.mp hw
  have hk := List.mem_range.mp hk
  match k, hk with
  | 0, _ => exact gw_tb2 (List.mem_of_getElem? (i := 153) (by decide +kernel)) rfl
  | 1, _ => exact gw_tb2 (List.mem_of_getElem? (i := 155) (by decide +kernel)) rfl
  | 2, _ => exact gw_tb2 (List.mem_of_getElem? (i := 157) (by decide +kernel)) rfl
  | 3, _ => exact gw_tb2 (List.mem_of_getElem? (i := 159) (by decide +kernel)) rfl
  | 4, _ => exact gw_tb2 (List.mem_of_getElem? (i := 161) (by decide +kernel)) rfl
  | 5, _ => exact gw_tb2 (List.mem_of_getElem? (i := 163) (by decide +kernel)) rfl
  | 6, _ => exact gw_tb2 (List.mem_of_getElem? (i := 165) (by decide +kernel)) rfl
  | 7, _ => exact gw_tb2 (List.mem_of_getElem? (i := 167) (by decide +kernel)) rfl
  | 8, _ => exact gw_tb2 (List.mem_of_getElem? (i := 169) (by decide +kernel)) rfl
  | 9, _ => exact gw_tb2 (List.mem_of_getElem? (i := 171) (by decide +kernel)) rfl
  | 10, _ => exact gw_tb2 (List.mem_of_getElem? (i := 173) (by decide +kernel)) rfl
  | 11, _ => exact gw_tb2 (List.mem_of_getElem? (i := 175) (by decide +kernel)) rfl
  | 12, _ => exact gw_tb2 (List.mem_of_getElem? (i := 177) (by decide +kernel)) rfl
  | 13, _ => exact gw_tb2 (List.mem_of_getElem? (i := 179) (by decide +kernel)) rfl
  | 14, _ => exact gw_tb2 (List.mem_of_getElem? (i := 181) (by decide +kernel)) rfl
  | 15, _ => exact gw_tb2 (List.mem_of_getElem? (i := 183) (by decide +kernel)) rfl
  | k + 16, h => exact absurd h (by omega)
theorem inX12 : ∀ w ∈ u_ws RX12 TX12 41, w ∈ gw_tb := by
  intro w hw
  obtain ⟨k, hk, rfl⟩ := List.mem_map.mp hw
  have hk := List.mem_range.mp hk
  match k, hk with
  | 0, _ => exact gw_tb5 (List.mem_of_getElem? (i := 23) (by decide +kernel)) rfl
  | 1, _ => exact gw_tb5 (List.mem_of_getElem? (i := 25) (by decide +kernel)) rfl
  | 2, _ => exact gw_tb5 (List.mem_of_getElem? (i := 27) (by decide +kernel)) rfl
  | 3, _ => exact gw_tb5 (List.mem_of_getElem? (i := 29) (by decide +kernel)) rfl
  | 4, _ => exact gw_tb5 (List.mem_of_getElem? (i := 31) (by decide +kernel)) rfl
  | 5, _ => exact gw_tb5 (List.mem_of_getElem? (i := 33) (by decide +kernel)) rfl
  | 6, _ => exact gw_tb5 (List.mem_of_getElem? (i := 35) (by decide +kernel)) rfl
  | 7, _ => exact gw_tb5 (List.mem_of_getElem? (i := 37) (by decide +kernel)) rfl
  | 8, _ => exact gw_tb5 (List.mem_of_getElem? (i := 39) (by decide +kernel)) rfl
  | 9, _ => exact gw_tb5 (List.mem_of_getElem? (i := 41) (by decide +kernel)) rfl
  | 10, _ => exact gw_tb5 (List.mem_of_getElem? (i := 43) (by decide +kernel)) rfl
  | 11, _ => exact gw_tb5 (List.mem_of_getElem? (i := 45) (by decide +kernel)) rfl
  | 12, _ => exact gw_tb5 (List.mem_of_getElem? (i := 47) (by decide +kernel)) rfl
  | 13, _ => exact gw_tb5 (List.mem_of_getElem? (i := 49) (by decide +kernel)) rfl
  | 14, _ => exact gw_tb5 (List.mem_of_getElem? (i := 51) (by decide +kernel)) rfl
  | 15, _ => exact gw_tb5 (List.mem_of_getElem? (i := 53) (by decide +kernel)) rfl
  | 16, _ => exact gw_tb5 (List.mem_of_getElem? (i := 55) (by decide +kernel)) rfl
  | 17, _ => exact gw_tb5 (List.mem_of_getElem? (i := 57) (by decide +kernel)) rfl
  | 18, _ => exact gw_tb5 (List.mem_of_getElem? (i := 59) (by decide +kernel)) rfl
  | 19, _ => exact gw_tb5 (List.mem_of_getElem? (i := 61) (by decide +kernel)) rfl
  | 20, _ => exact gw_tb5 (List.mem_of_getElem? (i := 63) (by decide +kernel)) rfl
  | 21, _ => exact gw_tb5 (List.mem_of_getElem? (i := 65) (by decide +kernel)) rfl
  | 22, _ => exact gw_tb5 (List.mem_of_getElem? (i := 67) (by decide +kernel)) rfl
  | 23, _ => exact gw_tb5 (List.mem_of_getElem? (i := 69) (by decide +kernel)) rfl
  | 24, _ => exact gw_tb5 (List.mem_of_getElem? (i := 71) (by decide +kernel)) rfl
  | 25, _ => exact gw_tb5 (List.mem_of_getElem? (i := 73) (by decide +kernel)) rfl
  | 26, _ => exact gw_tb5 (List.mem_of_getElem? (i := 75) (by decide +kernel)) rfl
  | 27, _ => exact gw_tb5 (List.mem_of_getElem? (i := 77) (by decide +kernel)) rfl
  | 28, _ => exact gw_tb5 (List.mem_of_getElem? (i := 79) (by decide +kernel)) rfl
  | 29, _ => exact gw_tb5 (List.mem_of_getElem? (i := 81) (by decide +kernel)) rfl
  | 30, _ => exact gw_tb5 (List.mem_of_getElem? (i := 83) (by decide +kernel)) rfl
  | 31, _ => exact gw_tb5 (List.mem_of_getElem? (i := 85) (by decide +kernel)) rfl
  | 32, _ => exact gw_tb5 (List.mem_of_getElem? (i := 87) (by decide +kernel)) rfl
  | 33, _ => exact gw_tb5 (List.mem_of_getElem? (i := 89) (by decide +kernel)) rfl
  | 34, _ => exact gw_tb5 (List.mem_of_getElem? (i := 91) (by decide +kernel)) rfl
  | 35, _ => exact gw_tb5 (List.mem_of_getElem? (i := 93) (by decide +kernel)) rfl
  | 36, _ => exact gw_tb5 (List.mem_of_getElem? (i := 95) (by decide +kernel)) rfl
  | 37, _ => exact gw_tb5 (List.mem_of_getElem? (i := 97) (by decide +kernel)) rfl
  | 38, _ => exact gw_tb5 (List.mem_of_getElem? (i := 99) (by decide +kernel)) rfl
  | 39, _ => exact gw_tb5 (List.mem_of_getElem? (i := 101) (by decide +kernel)) rfl
  | 40, _ => exact gw_tb5 (List.mem_of_getElem? (i := 103) (by decide +kernel)) rfl
  | k + 41, h => exact absurd h (by omega)
theorem fl_3_9 : Cond.fieldLink RX3 9 (TX3 0).1 (TX3 0).2.1 (TX3 0).2.2.1 ∈ gw_tb := gw_tb1 (List.mem_of_getElem? (i := 42) (by decide +kernel)) rfl
theorem fl_4_32 : Cond.fieldLink RX4 32 (TX3 0).1 (TX3 0).2.1 (TX3 0).2.2.1 ∈ gw_tb := gw_tb1 (List.mem_of_getElem? (i := 43) (by decide +kernel)) rfl
theorem fl_6_68 : Cond.fieldLink RX6 68 (TX3 0).1 (TX3 0).2.1 (TX3 0).2.2.1 ∈ gw_tb := gw_tb1 (List.mem_of_getElem? (i := 44) (by decide +kernel)) rfl
theorem fl_11_115 : Cond.fieldLink RX11 115 (TX3 0).1 (TX3 0).2.1 (TX3 0).2.2.1 ∈ gw_tb := gw_tb1 (List.mem_of_getElem? (i := 45) (by decide +kernel)) rfl
theorem fl_3_17 : Cond.fieldLink RX3 17 (TX3 1).1 (TX3 1).2.1 (TX3 1).2.2.1 ∈ gw_tb := gw_tb1 (List.mem_of_getElem? (i := 46) (by decide +kernel)) rfl
theorem fl_6_64 : Cond.fieldLink RX6 64 (TX3 1).1 (TX3 1).2.1 (TX3 1).2.2.1 ∈ gw_tb := gw_tb1 (List.mem_of_getElem? (i := 47) (by decide +kernel)) rfl
theorem fl_4_37 : Cond.fieldLink RX4 37 (TX3 1).1 (TX3 1).2.1 (TX3 1).2.2.1 ∈ gw_tb := gw_tb1 (List.mem_of_getElem? (i := 48) (by decide +kernel)) rfl
theorem fl_11_118 : Cond.fieldLink RX11 118 (TX3 1).1 (TX3 1).2.1 (TX3 1).2.2.1 ∈ gw_tb := gw_tb1 (List.mem_of_getElem? (i := 49) (by decide +kernel)) rfl
theorem fl_3_20 : Cond.fieldLink RX3 20 (TX3 2).1 (TX3 2).2.1 (TX3 2).2.2.1 ∈ gw_tb := gw_tb1 (List.mem_of_getElem? (i := 50) (by decide +kernel)) rfl
theorem fl_4_45 : Cond.fieldLink RX4 45 (TX3 2).1 (TX3 2).2.1 (TX3 2).2.2.1 ∈ gw_tb := gw_tb1 (List.mem_of_getElem? (i := 51) (by decide +kernel)) rfl
theorem fl_11_122 : Cond.fieldLink RX11 122 (TX3 2).1 (TX3 2).2.1 (TX3 2).2.2.1 ∈ gw_tb := gw_tb1 (List.mem_of_getElem? (i := 52) (by decide +kernel)) rfl
theorem fl_6_75 : Cond.fieldLink RX6 75 (TX3 2).1 (TX3 2).2.1 (TX3 2).2.2.1 ∈ gw_tb := gw_tb1 (List.mem_of_getElem? (i := 53) (by decide +kernel)) rfl
theorem fl_3_23 : Cond.fieldLink RX3 23 (TX3 3).1 (TX3 3).2.1 (TX3 3).2.2.1 ∈ gw_tb := gw_tb1 (List.mem_of_getElem? (i := 54) (by decide +kernel)) rfl
theorem fl_11_125 : Cond.fieldLink RX11 125 (TX3 3).1 (TX3 3).2.1 (TX3 3).2.2.1 ∈ gw_tb := gw_tb1 (List.mem_of_getElem? (i := 55) (by decide +kernel)) rfl
theorem fl_6_78 : Cond.fieldLink RX6 78 (TX3 3).1 (TX3 3).2.1 (TX3 3).2.2.1 ∈ gw_tb := gw_tb1 (List.mem_of_getElem? (i := 56) (by decide +kernel)) rfl
theorem fl_5_9 : Cond.fieldLink RX5 9 (TX5 0).1 (TX5 0).2.1 (TX5 0).2.2.1 ∈ gw_tb := gw_tb1 (List.mem_of_getElem? (i := 73) (by decide +kernel)) rfl
theorem fl_10_105 : Cond.fieldLink RX10 105 (TX5 0).1 (TX5 0).2.1 (TX5 0).2.2.1 ∈ gw_tb := gw_tb1 (List.mem_of_getElem? (i := 74) (by decide +kernel)) rfl
theorem fl_9_48 : Cond.fieldLink RX9 48 (TX5 0).1 (TX5 0).2.1 (TX5 0).2.2.1 ∈ gw_tb := gw_tb1 (List.mem_of_getElem? (i := 75) (by decide +kernel)) rfl
theorem fl_11_180 : Cond.fieldLink RX11 180 (TX5 0).1 (TX5 0).2.1 (TX5 0).2.2.1 ∈ gw_tb := gw_tb1 (List.mem_of_getElem? (i := 76) (by decide +kernel)) rfl
theorem fl_5_15 : Cond.fieldLink RX5 15 (TX5 1).1 (TX5 1).2.1 (TX5 1).2.2.1 ∈ gw_tb := gw_tb1 (List.mem_of_getElem? (i := 77) (by decide +kernel)) rfl
theorem fl_11_138 : Cond.fieldLink RX11 138 (TX5 1).1 (TX5 1).2.1 (TX5 1).2.2.1 ∈ gw_tb := gw_tb1 (List.mem_of_getElem? (i := 78) (by decide +kernel)) rfl
theorem fl_10_163 : Cond.fieldLink RX10 163 (TX5 1).1 (TX5 1).2.1 (TX5 1).2.2.1 ∈ gw_tb := gw_tb1 (List.mem_of_getElem? (i := 79) (by decide +kernel)) rfl
theorem fl_5_19 : Cond.fieldLink RX5 19 (TX5 2).1 (TX5 2).2.1 (TX5 2).2.2.1 ∈ gw_tb := gw_tb1 (List.mem_of_getElem? (i := 80) (by decide +kernel)) rfl
theorem fl_11_141 : Cond.fieldLink RX11 141 (TX5 2).1 (TX5 2).2.1 (TX5 2).2.2.1 ∈ gw_tb := gw_tb1 (List.mem_of_getElem? (i := 81) (by decide +kernel)) rfl
theorem fl_10_176 : Cond.fieldLink RX10 176 (TX5 2).1 (TX5 2).2.1 (TX5 2).2.2.1 ∈ gw_tb := gw_tb1 (List.mem_of_getElem? (i := 82) (by decide +kernel)) rfl
theorem fl_5_22 : Cond.fieldLink RX5 22 (TX5 3).1 (TX5 3).2.1 (TX5 3).2.2.1 ∈ gw_tb := gw_tb1 (List.mem_of_getElem? (i := 83) (by decide +kernel)) rfl
theorem fl_11_144 : Cond.fieldLink RX11 144 (TX5 3).1 (TX5 3).2.1 (TX5 3).2.2.1 ∈ gw_tb := gw_tb1 (List.mem_of_getElem? (i := 84) (by decide +kernel)) rfl
theorem fl_10_159 : Cond.fieldLink RX10 159 (TX5 3).1 (TX5 3).2.1 (TX5 3).2.2.1 ∈ gw_tb := gw_tb1 (List.mem_of_getElem? (i := 85) (by decide +kernel)) rfl
theorem fl_8_9 : Cond.fieldLink RX8 9 (TX8 0).1 (TX8 0).2.1 (TX8 0).2.2.1 ∈ gw_tb := gw_tb1 (List.mem_of_getElem? (i := 111) (by decide +kernel)) rfl
theorem fl_6_61 : Cond.fieldLink RX6 61 (TX8 0).1 (TX8 0).2.1 (TX8 0).2.2.1 ∈ gw_tb := gw_tb1 (List.mem_of_getElem? (i := 112) (by decide +kernel)) rfl
theorem fl_11_267 : Cond.fieldLink RX11 267 (TX8 0).1 (TX8 0).2.1 (TX8 0).2.2.1 ∈ gw_tb := gw_tb1 (List.mem_of_getElem? (i := 113) (by decide +kernel)) rfl
theorem fl_8_15 : Cond.fieldLink RX8 15 (TX8 1).1 (TX8 1).2.1 (TX8 1).2.2.1 ∈ gw_tb := gw_tb1 (List.mem_of_getElem? (i := 114) (by decide +kernel)) rfl
theorem fl_11_275 : Cond.fieldLink RX11 275 (TX8 1).1 (TX8 1).2.1 (TX8 1).2.2.1 ∈ gw_tb := gw_tb1 (List.mem_of_getElem? (i := 115) (by decide +kernel)) rfl
theorem fl_8_19 : Cond.fieldLink RX8 19 (TX8 2).1 (TX8 2).2.1 (TX8 2).2.2.1 ∈ gw_tb := gw_tb1 (List.mem_of_getElem? (i := 116) (by decide +kernel)) rfl
theorem fl_11_278 : Cond.fieldLink RX11 278 (TX8 2).1 (TX8 2).2.1 (TX8 2).2.2.1 ∈ gw_tb := gw_tb1 (List.mem_of_getElem? (i := 117) (by decide +kernel)) rfl
theorem fl_8_22 : Cond.fieldLink RX8 22 (TX8 3).1 (TX8 3).2.1 (TX8 3).2.2.1 ∈ gw_tb := gw_tb1 (List.mem_of_getElem? (i := 118) (by decide +kernel)) rfl
theorem fl_11_281 : Cond.fieldLink RX11 281 (TX8 3).1 (TX8 3).2.1 (TX8 3).2.2.1 ∈ gw_tb := gw_tb1 (List.mem_of_getElem? (i := 119) (by decide +kernel)) rfl
theorem fl_8_25 : Cond.fieldLink RX8 25 (TX8 4).1 (TX8 4).2.1 (TX8 4).2.2.1 ∈ gw_tb := gw_tb1 (List.mem_of_getElem? (i := 120) (by decide +kernel)) rfl
theorem fl_8_28 : Cond.fieldLink RX8 28 (TX8 5).1 (TX8 5).2.1 (TX8 5).2.2.1 ∈ gw_tb := gw_tb1 (List.mem_of_getElem? (i := 121) (by decide +kernel)) rfl
theorem fl_8_31 : Cond.fieldLink RX8 31 (TX8 6).1 (TX8 6).2.1 (TX8 6).2.2.1 ∈ gw_tb := gw_tb1 (List.mem_of_getElem? (i := 122) (by decide +kernel)) rfl
theorem fl_8_34 : Cond.fieldLink RX8 34 (TX8 7).1 (TX8 7).2.1 (TX8 7).2.2.1 ∈ gw_tb := gw_tb1 (List.mem_of_getElem? (i := 123) (by decide +kernel)) rfl
theorem fl_6_9 : Cond.fieldLink RX6 9 (TX6 0).1 (TX6 0).2.1 (TX6 0).2.2.1 ∈ gw_tb := gw_tb1 (List.mem_of_getElem? (i := 141) (by decide +kernel)) rfl
theorem fl_10_79 : Cond.fieldLink RX10 79 (TX6 0).1 (TX6 0).2.1 (TX6 0).2.2.1 ∈ gw_tb := gw_tb1 (List.mem_of_getElem? (i := 142) (by decide +kernel)) rfl
theorem fl_11_96 : Cond.fieldLink RX11 96 (TX6 0).1 (TX6 0).2.1 (TX6 0).2.2.1 ∈ gw_tb := gw_tb1 (List.mem_of_getElem? (i := 143) (by decide +kernel)) rfl
theorem fl_6_18 : Cond.fieldLink RX6 18 (TX6 1).1 (TX6 1).2.1 (TX6 1).2.2.1 ∈ gw_tb := gw_tb1 (List.mem_of_getElem? (i := 144) (by decide +kernel)) rfl
theorem fl_10_73 : Cond.fieldLink RX10 73 (TX6 1).1 (TX6 1).2.1 (TX6 1).2.2.1 ∈ gw_tb := gw_tb1 (List.mem_of_getElem? (i := 145) (by decide +kernel)) rfl
theorem fl_11_108 : Cond.fieldLink RX11 108 (TX6 1).1 (TX6 1).2.1 (TX6 1).2.2.1 ∈ gw_tb := gw_tb1 (List.mem_of_getElem? (i := 146) (by decide +kernel)) rfl
theorem fl_6_25 : Cond.fieldLink RX6 25 (TX6 2).1 (TX6 2).2.1 (TX6 2).2.2.1 ∈ gw_tb := gw_tb1 (List.mem_of_getElem? (i := 147) (by decide +kernel)) rfl
theorem fl_10_86 : Cond.fieldLink RX10 86 (TX6 2).1 (TX6 2).2.1 (TX6 2).2.2.1 ∈ gw_tb := gw_tb1 (List.mem_of_getElem? (i := 148) (by decide +kernel)) rfl
theorem fl_11_128 : Cond.fieldLink RX11 128 (TX6 2).1 (TX6 2).2.1 (TX6 2).2.2.1 ∈ gw_tb := gw_tb1 (List.mem_of_getElem? (i := 149) (by decide +kernel)) rfl
theorem fl_6_38 : Cond.fieldLink RX6 38 (TX6 3).1 (TX6 3).2.1 (TX6 3).2.2.1 ∈ gw_tb := gw_tb1 (List.mem_of_getElem? (i := 150) (by decide +kernel)) rfl
theorem fl_10_91 : Cond.fieldLink RX10 91 (TX6 3).1 (TX6 3).2.1 (TX6 3).2.2.1 ∈ gw_tb := gw_tb1 (List.mem_of_getElem? (i := 151) (by decide +kernel)) rfl
theorem fl_11_154 : Cond.fieldLink RX11 154 (TX6 3).1 (TX6 3).2.1 (TX6 3).2.2.1 ∈ gw_tb := gw_tb1 (List.mem_of_getElem? (i := 152) (by decide +kernel)) rfl
theorem fl_6_44 : Cond.fieldLink RX6 44 (TX6 4).1 (TX6 4).2.1 (TX6 4).2.2.1 ∈ gw_tb := gw_tb1 (List.mem_of_getElem? (i := 153) (by decide +kernel)) rfl
theorem fl_11_263 : Cond.fieldLink RX11 263 (TX6 4).1 (TX6 4).2.1 (TX6 4).2.2.1 ∈ gw_tb := gw_tb1 (List.mem_of_getElem? (i := 154) (by decide +kernel)) rfl
theorem fl_9_9 : Cond.fieldLink RX9 9 (TX9 0).1 (TX9 0).2.1 (TX9 0).2.2.1 ∈ gw_tb := gw_tb1 (List.mem_of_getElem? (i := 172) (by decide +kernel)) rfl
theorem fl_9_15 : Cond.fieldLink RX9 15 (TX9 1).1 (TX9 1).2.1 (TX9 1).2.2.1 ∈ gw_tb := gw_tb1 (List.mem_of_getElem? (i := 173) (by decide +kernel)) rfl
theorem fl_9_19 : Cond.fieldLink RX9 19 (TX9 2).1 (TX9 2).2.1 (TX9 2).2.2.1 ∈ gw_tb := gw_tb1 (List.mem_of_getElem? (i := 174) (by decide +kernel)) rfl
theorem fl_9_22 : Cond.fieldLink RX9 22 (TX9 3).1 (TX9 3).2.1 (TX9 3).2.2.1 ∈ gw_tb := gw_tb1 (List.mem_of_getElem? (i := 175) (by decide +kernel)) rfl
theorem fl_4_9 : Cond.fieldLink RX4 9 (TX4 0).1 (TX4 0).2.1 (TX4 0).2.2.1 ∈ gw_tb := gw_tb1 (List.mem_of_getElem? (i := 202) (by decide +kernel)) rfl
theorem fl_10_108 : Cond.fieldLink RX10 108 (TX4 0).1 (TX4 0).2.1 (TX4 0).2.2.1 ∈ gw_tb := gw_tb1 (List.mem_of_getElem? (i := 203) (by decide +kernel)) rfl
theorem fl_4_15 : Cond.fieldLink RX4 15 (TX4 1).1 (TX4 1).2.1 (TX4 1).2.2.1 ∈ gw_tb := gw_tb1 (List.mem_of_getElem? (i := 204) (by decide +kernel)) rfl
theorem fl_10_131 : Cond.fieldLink RX10 131 (TX4 1).1 (TX4 1).2.1 (TX4 1).2.2.1 ∈ gw_tb := gw_tb1 (List.mem_of_getElem? (i := 205) (by decide +kernel)) rfl
theorem fl_4_19 : Cond.fieldLink RX4 19 (TX4 2).1 (TX4 2).2.1 (TX4 2).2.2.1 ∈ gw_tb := gw_tb1 (List.mem_of_getElem? (i := 206) (by decide +kernel)) rfl
theorem fl_4_22 : Cond.fieldLink RX4 22 (TX4 3).1 (TX4 3).2.1 (TX4 3).2.2.1 ∈ gw_tb := gw_tb1 (List.mem_of_getElem? (i := 207) (by decide +kernel)) rfl
theorem fl_10_183 : Cond.fieldLink RX10 183 (TX4 3).1 (TX4 3).2.1 (TX4 3).2.2.1 ∈ gw_tb := gw_tb1 (List.mem_of_getElem? (i := 208) (by decide +kernel)) rfl
theorem fl_4_25 : Cond.fieldLink RX4 25 (TX4 4).1 (TX4 4).2.1 (TX4 4).2.2.1 ∈ gw_tb := gw_tb1 (List.mem_of_getElem? (i := 209) (by decide +kernel)) rfl
theorem fl_10_186 : Cond.fieldLink RX10 186 (TX4 4).1 (TX4 4).2.1 (TX4 4).2.2.1 ∈ gw_tb := gw_tb1 (List.mem_of_getElem? (i := 210) (by decide +kernel)) rfl
theorem fl_2_7 : Cond.fieldLink RX2 7 (TX2 0).1 (TX2 0).2.1 (TX2 0).2.2.1 ∈ gw_tb := gw_tb1 (List.mem_of_getElem? (i := 230) (by decide +kernel)) rfl
theorem fl_10_138 : Cond.fieldLink RX10 138 (TX2 0).1 (TX2 0).2.1 (TX2 0).2.2.1 ∈ gw_tb := gw_tb1 (List.mem_of_getElem? (i := 231) (by decide +kernel)) rfl
theorem fl_2_13 : Cond.fieldLink RX2 13 (TX2 1).1 (TX2 1).2.1 (TX2 1).2.2.1 ∈ gw_tb := gw_tb1 (List.mem_of_getElem? (i := 232) (by decide +kernel)) rfl
theorem fl_10_134 : Cond.fieldLink RX10 134 (TX2 1).1 (TX2 1).2.1 (TX2 1).2.2.1 ∈ gw_tb := gw_tb1 (List.mem_of_getElem? (i := 233) (by decide +kernel)) rfl
theorem fl_2_16 : Cond.fieldLink RX2 16 (TX2 2).1 (TX2 2).2.1 (TX2 2).2.2.1 ∈ gw_tb := gw_tb1 (List.mem_of_getElem? (i := 234) (by decide +kernel)) rfl
theorem fl_10_144 : Cond.fieldLink RX10 144 (TX2 2).1 (TX2 2).2.1 (TX2 2).2.2.1 ∈ gw_tb := gw_tb1 (List.mem_of_getElem? (i := 235) (by decide +kernel)) rfl
theorem fl_2_20 : Cond.fieldLink RX2 20 (TX2 3).1 (TX2 3).2.1 (TX2 3).2.2.1 ∈ gw_tb := gw_tb1 (List.mem_of_getElem? (i := 236) (by decide +kernel)) rfl
theorem fl_10_147 : Cond.fieldLink RX10 147 (TX2 3).1 (TX2 3).2.1 (TX2 3).2.2.1 ∈ gw_tb := gw_tb1 (List.mem_of_getElem? (i := 237) (by decide +kernel)) rfl
theorem fl_2_23 : Cond.fieldLink RX2 23 (TX2 4).1 (TX2 4).2.1 (TX2 4).2.2.1 ∈ gw_tb := gw_tb1 (List.mem_of_getElem? (i := 238) (by decide +kernel)) rfl
theorem fl_10_156 : Cond.fieldLink RX10 156 (TX2 4).1 (TX2 4).2.1 (TX2 4).2.2.1 ∈ gw_tb := gw_tb1 (List.mem_of_getElem? (i := 239) (by decide +kernel)) rfl
theorem fl_2_26 : Cond.fieldLink RX2 26 (TX2 5).1 (TX2 5).2.1 (TX2 5).2.2.1 ∈ gw_tb := gw_tb2 (List.mem_of_getElem? (i := 0) (by decide +kernel)) rfl
theorem fl_10_153 : Cond.fieldLink RX10 153 (TX2 5).1 (TX2 5).2.1 (TX2 5).2.2.1 ∈ gw_tb := gw_tb2 (List.mem_of_getElem? (i := 1) (by decide +kernel)) rfl
theorem fl_10_12 : Cond.fieldLink RX10 12 (TX10 0).1 (TX10 0).2.1 (TX10 0).2.2.1 ∈ gw_tb := gw_tb2 (List.mem_of_getElem? (i := 15) (by decide +kernel)) rfl
theorem fl_10_21 : Cond.fieldLink RX10 21 (TX10 1).1 (TX10 1).2.1 (TX10 1).2.2.1 ∈ gw_tb := gw_tb2 (List.mem_of_getElem? (i := 16) (by decide +kernel)) rfl
theorem fl_11_239 : Cond.fieldLink RX11 239 (TX10 1).1 (TX10 1).2.1 (TX10 1).2.2.1 ∈ gw_tb := gw_tb2 (List.mem_of_getElem? (i := 17) (by decide +kernel)) rfl
theorem fl_10_25 : Cond.fieldLink RX10 25 (TX10 2).1 (TX10 2).2.1 (TX10 2).2.2.1 ∈ gw_tb := gw_tb2 (List.mem_of_getElem? (i := 18) (by decide +kernel)) rfl
theorem fl_10_32 : Cond.fieldLink RX10 32 (TX10 3).1 (TX10 3).2.1 (TX10 3).2.2.1 ∈ gw_tb := gw_tb2 (List.mem_of_getElem? (i := 19) (by decide +kernel)) rfl
theorem fl_10_36 : Cond.fieldLink RX10 36 (TX10 4).1 (TX10 4).2.1 (TX10 4).2.2.1 ∈ gw_tb := gw_tb2 (List.mem_of_getElem? (i := 20) (by decide +kernel)) rfl
theorem fl_11_348 : Cond.fieldLink RX11 348 (TX10 4).1 (TX10 4).2.1 (TX10 4).2.2.1 ∈ gw_tb := gw_tb2 (List.mem_of_getElem? (i := 21) (by decide +kernel)) rfl
theorem fl_10_40 : Cond.fieldLink RX10 40 (TX10 5).1 (TX10 5).2.1 (TX10 5).2.2.1 ∈ gw_tb := gw_tb2 (List.mem_of_getElem? (i := 22) (by decide +kernel)) rfl
theorem fl_11_217 : Cond.fieldLink RX11 217 (TX10 5).1 (TX10 5).2.1 (TX10 5).2.2.1 ∈ gw_tb := gw_tb2 (List.mem_of_getElem? (i := 23) (by decide +kernel)) rfl
theorem fl_10_43 : Cond.fieldLink RX10 43 (TX10 6).1 (TX10 6).2.1 (TX10 6).2.2.1 ∈ gw_tb := gw_tb2 (List.mem_of_getElem? (i := 24) (by decide +kernel)) rfl
theorem fl_11_223 : Cond.fieldLink RX11 223 (TX10 6).1 (TX10 6).2.1 (TX10 6).2.2.1 ∈ gw_tb := gw_tb2 (List.mem_of_getElem? (i := 25) (by decide +kernel)) rfl
theorem fl_10_46 : Cond.fieldLink RX10 46 (TX10 7).1 (TX10 7).2.1 (TX10 7).2.2.1 ∈ gw_tb := gw_tb2 (List.mem_of_getElem? (i := 26) (by decide +kernel)) rfl
theorem fl_10_49 : Cond.fieldLink RX10 49 (TX10 8).1 (TX10 8).2.1 (TX10 8).2.2.1 ∈ gw_tb := gw_tb2 (List.mem_of_getElem? (i := 27) (by decide +kernel)) rfl
theorem fl_10_52 : Cond.fieldLink RX10 52 (TX10 9).1 (TX10 9).2.1 (TX10 9).2.2.1 ∈ gw_tb := gw_tb2 (List.mem_of_getElem? (i := 28) (by decide +kernel)) rfl
theorem fl_10_55 : Cond.fieldLink RX10 55 (TX10 10).1 (TX10 10).2.1 (TX10 10).2.2.1 ∈ gw_tb := gw_tb2 (List.mem_of_getElem? (i := 29) (by decide +kernel)) rfl
theorem fl_11_351 : Cond.fieldLink RX11 351 (TX10 10).1 (TX10 10).2.1 (TX10 10).2.2.1 ∈ gw_tb := gw_tb2 (List.mem_of_getElem? (i := 30) (by decide +kernel)) rfl
theorem fl_10_58 : Cond.fieldLink RX10 58 (TX10 11).1 (TX10 11).2.1 (TX10 11).2.2.1 ∈ gw_tb := gw_tb2 (List.mem_of_getElem? (i := 31) (by decide +kernel)) rfl
theorem fl_10_61 : Cond.fieldLink RX10 61 (TX10 12).1 (TX10 12).2.1 (TX10 12).2.2.1 ∈ gw_tb := gw_tb2 (List.mem_of_getElem? (i := 32) (by decide +kernel)) rfl
theorem fl_11_190 : Cond.fieldLink RX11 190 (TX10 12).1 (TX10 12).2.1 (TX10 12).2.2.1 ∈ gw_tb := gw_tb2 (List.mem_of_getElem? (i := 33) (by decide +kernel)) rfl
theorem fl_10_64 : Cond.fieldLink RX10 64 (TX10 13).1 (TX10 13).2.1 (TX10 13).2.2.1 ∈ gw_tb := gw_tb2 (List.mem_of_getElem? (i := 34) (by decide +kernel)) rfl
theorem fl_11_193 : Cond.fieldLink RX11 193 (TX10 13).1 (TX10 13).2.1 (TX10 13).2.2.1 ∈ gw_tb := gw_tb2 (List.mem_of_getElem? (i := 35) (by decide +kernel)) rfl
theorem fl_10_67 : Cond.fieldLink RX10 67 (TX10 14).1 (TX10 14).2.1 (TX10 14).2.2.1 ∈ gw_tb := gw_tb2 (List.mem_of_getElem? (i := 36) (by decide +kernel)) rfl
theorem fl_11_196 : Cond.fieldLink RX11 196 (TX10 14).1 (TX10 14).2.1 (TX10 14).2.2.1 ∈ gw_tb := gw_tb2 (List.mem_of_getElem? (i := 37) (by decide +kernel)) rfl
theorem fl_10_70 : Cond.fieldLink RX10 70 (TX10 15).1 (TX10 15).2.1 (TX10 15).2.2.1 ∈ gw_tb := gw_tb2 (List.mem_of_getElem? (i := 38) (by decide +kernel)) rfl
theorem fl_11_199 : Cond.fieldLink RX11 199 (TX10 15).1 (TX10 15).2.1 (TX10 15).2.2.1 ∈ gw_tb := gw_tb2 (List.mem_of_getElem? (i := 39) (by decide +kernel)) rfl
theorem fl_1_9 : Cond.fieldLink RX1 9 (TX1 0).1 (TX1 0).2.1 (TX1 0).2.2.1 ∈ gw_tb := gw_tb2 (List.mem_of_getElem? (i := 79) (by decide +kernel)) rfl
theorem fl_1_15 : Cond.fieldLink RX1 15 (TX1 1).1 (TX1 1).2.1 (TX1 1).2.2.1 ∈ gw_tb := gw_tb2 (List.mem_of_getElem? (i := 80) (by decide +kernel)) rfl
theorem fl_1_19 : Cond.fieldLink RX1 19 (TX1 2).1 (TX1 2).2.1 (TX1 2).2.2.1 ∈ gw_tb := gw_tb2 (List.mem_of_getElem? (i := 81) (by decide +kernel)) rfl
theorem fl_11_294 : Cond.fieldLink RX11 294 (TX1 2).1 (TX1 2).2.1 (TX1 2).2.2.1 ∈ gw_tb := gw_tb2 (List.mem_of_getElem? (i := 82) (by decide +kernel)) rfl
theorem fl_0_9 : Cond.fieldLink RX0 9 (TX0 0).1 (TX0 0).2.1 (TX0 0).2.2.1 ∈ gw_tb := gw_tb2 (List.mem_of_getElem? (i := 96) (by decide +kernel)) rfl
theorem fl_0_15 : Cond.fieldLink RX0 15 (TX0 1).1 (TX0 1).2.1 (TX0 1).2.2.1 ∈ gw_tb := gw_tb2 (List.mem_of_getElem? (i := 97) (by decide +kernel)) rfl
theorem fl_0_19 : Cond.fieldLink RX0 19 (TX0 2).1 (TX0 2).2.1 (TX0 2).2.2.1 ∈ gw_tb := gw_tb2 (List.mem_of_getElem? (i := 98) (by decide +kernel)) rfl
theorem fl_0_22 : Cond.fieldLink RX0 22 (TX0 3).1 (TX0 3).2.1 (TX0 3).2.2.1 ∈ gw_tb := gw_tb2 (List.mem_of_getElem? (i := 99) (by decide +kernel)) rfl
theorem fl_0_25 : Cond.fieldLink RX0 25 (TX0 4).1 (TX0 4).2.1 (TX0 4).2.2.1 ∈ gw_tb := gw_tb2 (List.mem_of_getElem? (i := 100) (by decide +kernel)) rfl
theorem fl_11_320 : Cond.fieldLink RX11 320 (TX0 4).1 (TX0 4).2.1 (TX0 4).2.2.1 ∈ gw_tb := gw_tb2 (List.mem_of_getElem? (i := 101) (by decide +kernel)) rfl
theorem fl_0_28 : Cond.fieldLink RX0 28 (TX0 5).1 (TX0 5).2.1 (TX0 5).2.2.1 ∈ gw_tb := gw_tb2 (List.mem_of_getElem? (i := 102) (by decide +kernel)) rfl
theorem fl_11_317 : Cond.fieldLink RX11 317 (TX0 5).1 (TX0 5).2.1 (TX0 5).2.2.1 ∈ gw_tb := gw_tb2 (List.mem_of_getElem? (i := 103) (by decide +kernel)) rfl
theorem fl_7_9 : Cond.fieldLink RX7 9 (TX7 0).1 (TX7 0).2.1 (TX7 0).2.2.1 ∈ gw_tb := gw_tb2 (List.mem_of_getElem? (i := 124) (by decide +kernel)) rfl
theorem fl_11_326 : Cond.fieldLink RX11 326 (TX7 0).1 (TX7 0).2.1 (TX7 0).2.2.1 ∈ gw_tb := gw_tb2 (List.mem_of_getElem? (i := 125) (by decide +kernel)) rfl
theorem fl_7_15 : Cond.fieldLink RX7 15 (TX7 1).1 (TX7 1).2.1 (TX7 1).2.2.1 ∈ gw_tb := gw_tb2 (List.mem_of_getElem? (i := 126) (by decide +kernel)) rfl
theorem fl_11_329 : Cond.fieldLink RX11 329 (TX7 1).1 (TX7 1).2.1 (TX7 1).2.2.1 ∈ gw_tb := gw_tb2 (List.mem_of_getElem? (i := 127) (by decide +kernel)) rfl
theorem fl_7_18 : Cond.fieldLink RX7 18 (TX7 2).1 (TX7 2).2.1 (TX7 2).2.2.1 ∈ gw_tb := gw_tb2 (List.mem_of_getElem? (i := 128) (by decide +kernel)) rfl
theorem fl_11_308 : Cond.fieldLink RX11 308 (TX7 2).1 (TX7 2).2.1 (TX7 2).2.2.1 ∈ gw_tb := gw_tb2 (List.mem_of_getElem? (i := 129) (by decide +kernel)) rfl
theorem fl_11_10 : Cond.fieldLink RX11 10 (TX11 0).1 (TX11 0).2.1 (TX11 0).2.2.1 ∈ gw_tb := gw_tb2 (List.mem_of_getElem? (i := 137) (by decide +kernel)) rfl
theorem fl_11_16 : Cond.fieldLink RX11 16 (TX11 1).1 (TX11 1).2.1 (TX11 1).2.2.1 ∈ gw_tb := gw_tb2 (List.mem_of_getElem? (i := 138) (by decide +kernel)) rfl
theorem fl_11_19 : Cond.fieldLink RX11 19 (TX11 2).1 (TX11 2).2.1 (TX11 2).2.2.1 ∈ gw_tb := gw_tb2 (List.mem_of_getElem? (i := 139) (by decide +kernel)) rfl
theorem fl_11_26 : Cond.fieldLink RX11 26 (TX11 3).1 (TX11 3).2.1 (TX11 3).2.2.1 ∈ gw_tb := gw_tb2 (List.mem_of_getElem? (i := 140) (by decide +kernel)) rfl
theorem fl_11_33 : Cond.fieldLink RX11 33 (TX11 4).1 (TX11 4).2.1 (TX11 4).2.2.1 ∈ gw_tb := gw_tb2 (List.mem_of_getElem? (i := 141) (by decide +kernel)) rfl
theorem fl_11_40 : Cond.fieldLink RX11 40 (TX11 5).1 (TX11 5).2.1 (TX11 5).2.2.1 ∈ gw_tb := gw_tb2 (List.mem_of_getElem? (i := 142) (by decide +kernel)) rfl
theorem fl_11_47 : Cond.fieldLink RX11 47 (TX11 6).1 (TX11 6).2.1 (TX11 6).2.2.1 ∈ gw_tb := gw_tb2 (List.mem_of_getElem? (i := 143) (by decide +kernel)) rfl
theorem fl_11_51 : Cond.fieldLink RX11 51 (TX11 7).1 (TX11 7).2.1 (TX11 7).2.2.1 ∈ gw_tb := gw_tb2 (List.mem_of_getElem? (i := 144) (by decide +kernel)) rfl
theorem fl_11_54 : Cond.fieldLink RX11 54 (TX11 8).1 (TX11 8).2.1 (TX11 8).2.2.1 ∈ gw_tb := gw_tb2 (List.mem_of_getElem? (i := 145) (by decide +kernel)) rfl
theorem fl_11_57 : Cond.fieldLink RX11 57 (TX11 9).1 (TX11 9).2.1 (TX11 9).2.2.1 ∈ gw_tb := gw_tb2 (List.mem_of_getElem? (i := 146) (by decide +kernel)) rfl
theorem fl_11_61 : Cond.fieldLink RX11 61 (TX11 10).1 (TX11 10).2.1 (TX11 10).2.2.1 ∈ gw_tb := gw_tb2 (List.mem_of_getElem? (i := 147) (by decide +kernel)) rfl
theorem fl_11_65 : Cond.fieldLink RX11 65 (TX11 11).1 (TX11 11).2.1 (TX11 11).2.2.1 ∈ gw_tb := gw_tb2 (List.mem_of_getElem? (i := 148) (by decide +kernel)) rfl
theorem fl_11_68 : Cond.fieldLink RX11 68 (TX11 12).1 (TX11 12).2.1 (TX11 12).2.2.1 ∈ gw_tb := gw_tb2 (List.mem_of_getElem? (i := 149) (by decide +kernel)) rfl
theorem fl_11_74 : Cond.fieldLink RX11 74 (TX11 13).1 (TX11 13).2.1 (TX11 13).2.2.1 ∈ gw_tb := gw_tb2 (List.mem_of_getElem? (i := 150) (by decide +kernel)) rfl
theorem fl_11_81 : Cond.fieldLink RX11 81 (TX11 14).1 (TX11 14).2.1 (TX11 14).2.2.1 ∈ gw_tb := gw_tb2 (List.mem_of_getElem? (i := 151) (by decide +kernel)) rfl
theorem fl_11_87 : Cond.fieldLink RX11 87 (TX11 15).1 (TX11 15).2.1 (TX11 15).2.2.1 ∈ gw_tb := gw_tb2 (List.mem_of_getElem? (i := 152) (by decide +kernel)) rfl
theorem fl_12_88 : Cond.fieldLink RX12 88 (TX12 0).1 (TX12 0).2.1 (TX12 0).2.2.1 ∈ gw_tb := gw_tb4 (List.mem_of_getElem? (i := 222) (by decide +kernel)) rfl
theorem fl_12_7 : Cond.fieldLink RX12 7 (TX12 1).1 (TX12 1).2.1 (TX12 1).2.2.1 ∈ gw_tb := gw_tb4 (List.mem_of_getElem? (i := 223) (by decide +kernel)) rfl
theorem fl_12_13 : Cond.fieldLink RX12 13 (TX12 2).1 (TX12 2).2.1 (TX12 2).2.2.1 ∈ gw_tb := gw_tb4 (List.mem_of_getElem? (i := 224) (by decide +kernel)) rfl
theorem fl_12_16 : Cond.fieldLink RX12 16 (TX12 3).1 (TX12 3).2.1 (TX12 3).2.2.1 ∈ gw_tb := gw_tb4 (List.mem_of_getElem? (i := 225) (by decide +kernel)) rfl
theorem fl_12_19 : Cond.fieldLink RX12 19 (TX12 4).1 (TX12 4).2.1 (TX12 4).2.2.1 ∈ gw_tb := gw_tb4 (List.mem_of_getElem? (i := 226) (by decide +kernel)) rfl
theorem fl_12_22 : Cond.fieldLink RX12 22 (TX12 5).1 (TX12 5).2.1 (TX12 5).2.2.1 ∈ gw_tb := gw_tb4 (List.mem_of_getElem? (i := 227) (by decide +kernel)) rfl
theorem fl_12_120 : Cond.fieldLink RX12 120 (TX12 6).1 (TX12 6).2.1 (TX12 6).2.2.1 ∈ gw_tb := gw_tb4 (List.mem_of_getElem? (i := 228) (by decide +kernel)) rfl
theorem fl_12_25 : Cond.fieldLink RX12 25 (TX12 7).1 (TX12 7).2.1 (TX12 7).2.2.1 ∈ gw_tb := gw_tb4 (List.mem_of_getElem? (i := 229) (by decide +kernel)) rfl
theorem fl_12_28 : Cond.fieldLink RX12 28 (TX12 8).1 (TX12 8).2.1 (TX12 8).2.2.1 ∈ gw_tb := gw_tb4 (List.mem_of_getElem? (i := 230) (by decide +kernel)) rfl
theorem fl_12_31 : Cond.fieldLink RX12 31 (TX12 9).1 (TX12 9).2.1 (TX12 9).2.2.1 ∈ gw_tb := gw_tb4 (List.mem_of_getElem? (i := 231) (by decide +kernel)) rfl
theorem fl_12_34 : Cond.fieldLink RX12 34 (TX12 10).1 (TX12 10).2.1 (TX12 10).2.2.1 ∈ gw_tb := gw_tb4 (List.mem_of_getElem? (i := 232) (by decide +kernel)) rfl
theorem fl_12_37 : Cond.fieldLink RX12 37 (TX12 11).1 (TX12 11).2.1 (TX12 11).2.2.1 ∈ gw_tb := gw_tb4 (List.mem_of_getElem? (i := 233) (by decide +kernel)) rfl
theorem fl_12_151 : Cond.fieldLink RX12 151 (TX12 12).1 (TX12 12).2.1 (TX12 12).2.2.1 ∈ gw_tb := gw_tb4 (List.mem_of_getElem? (i := 234) (by decide +kernel)) rfl
theorem fl_12_154 : Cond.fieldLink RX12 154 (TX12 13).1 (TX12 13).2.1 (TX12 13).2.2.1 ∈ gw_tb := gw_tb4 (List.mem_of_getElem? (i := 235) (by decide +kernel)) rfl
theorem fl_12_157 : Cond.fieldLink RX12 157 (TX12 14).1 (TX12 14).2.1 (TX12 14).2.2.1 ∈ gw_tb := gw_tb4 (List.mem_of_getElem? (i := 236) (by decide +kernel)) rfl
theorem fl_12_40 : Cond.fieldLink RX12 40 (TX12 15).1 (TX12 15).2.1 (TX12 15).2.2.1 ∈ gw_tb := gw_tb4 (List.mem_of_getElem? (i := 237) (by decide +kernel)) rfl
theorem fl_12_199 : Cond.fieldLink RX12 199 (TX12 16).1 (TX12 16).2.1 (TX12 16).2.2.1 ∈ gw_tb := gw_tb4 (List.mem_of_getElem? (i := 238) (by decide +kernel)) rfl
theorem fl_12_211 : Cond.fieldLink RX12 211 (TX12 17).1 (TX12 17).2.1 (TX12 17).2.2.1 ∈ gw_tb := gw_tb4 (List.mem_of_getElem? (i := 239) (by decide +kernel)) rfl
theorem fl_12_217 : Cond.fieldLink RX12 217 (TX12 18).1 (TX12 18).2.1 (TX12 18).2.2.1 ∈ gw_tb := gw_tb5 (List.mem_of_getElem? (i := 0) (by decide +kernel)) rfl
theorem fl_12_220 : Cond.fieldLink RX12 220 (TX12 19).1 (TX12 19).2.1 (TX12 19).2.2.1 ∈ gw_tb := gw_tb5 (List.mem_of_getElem? (i := 1) (by decide +kernel)) rfl
theorem fl_12_226 : Cond.fieldLink RX12 226 (TX12 20).1 (TX12 20).2.1 (TX12 20).2.2.1 ∈ gw_tb := gw_tb5 (List.mem_of_getElem? (i := 2) (by decide +kernel)) rfl
theorem fl_12_223 : Cond.fieldLink RX12 223 (TX12 21).1 (TX12 21).2.1 (TX12 21).2.2.1 ∈ gw_tb := gw_tb5 (List.mem_of_getElem? (i := 3) (by decide +kernel)) rfl
theorem fl_12_205 : Cond.fieldLink RX12 205 (TX12 22).1 (TX12 22).2.1 (TX12 22).2.2.1 ∈ gw_tb := gw_tb5 (List.mem_of_getElem? (i := 4) (by decide +kernel)) rfl
theorem fl_12_43 : Cond.fieldLink RX12 43 (TX12 23).1 (TX12 23).2.1 (TX12 23).2.2.1 ∈ gw_tb := gw_tb5 (List.mem_of_getElem? (i := 5) (by decide +kernel)) rfl
theorem fl_12_46 : Cond.fieldLink RX12 46 (TX12 24).1 (TX12 24).2.1 (TX12 24).2.2.1 ∈ gw_tb := gw_tb5 (List.mem_of_getElem? (i := 6) (by decide +kernel)) rfl
theorem fl_12_49 : Cond.fieldLink RX12 49 (TX12 25).1 (TX12 25).2.1 (TX12 25).2.2.1 ∈ gw_tb := gw_tb5 (List.mem_of_getElem? (i := 7) (by decide +kernel)) rfl
theorem fl_12_52 : Cond.fieldLink RX12 52 (TX12 26).1 (TX12 26).2.1 (TX12 26).2.2.1 ∈ gw_tb := gw_tb5 (List.mem_of_getElem? (i := 8) (by decide +kernel)) rfl
theorem fl_12_55 : Cond.fieldLink RX12 55 (TX12 27).1 (TX12 27).2.1 (TX12 27).2.2.1 ∈ gw_tb := gw_tb5 (List.mem_of_getElem? (i := 9) (by decide +kernel)) rfl
theorem fl_12_58 : Cond.fieldLink RX12 58 (TX12 28).1 (TX12 28).2.1 (TX12 28).2.2.1 ∈ gw_tb := gw_tb5 (List.mem_of_getElem? (i := 10) (by decide +kernel)) rfl
theorem fl_12_236 : Cond.fieldLink RX12 236 (TX12 29).1 (TX12 29).2.1 (TX12 29).2.2.1 ∈ gw_tb := gw_tb5 (List.mem_of_getElem? (i := 11) (by decide +kernel)) rfl
theorem fl_12_246 : Cond.fieldLink RX12 246 (TX12 30).1 (TX12 30).2.1 (TX12 30).2.2.1 ∈ gw_tb := gw_tb5 (List.mem_of_getElem? (i := 12) (by decide +kernel)) rfl
theorem fl_12_61 : Cond.fieldLink RX12 61 (TX12 31).1 (TX12 31).2.1 (TX12 31).2.2.1 ∈ gw_tb := gw_tb5 (List.mem_of_getElem? (i := 13) (by decide +kernel)) rfl
theorem fl_12_64 : Cond.fieldLink RX12 64 (TX12 32).1 (TX12 32).2.1 (TX12 32).2.2.1 ∈ gw_tb := gw_tb5 (List.mem_of_getElem? (i := 14) (by decide +kernel)) rfl
theorem fl_12_67 : Cond.fieldLink RX12 67 (TX12 33).1 (TX12 33).2.1 (TX12 33).2.2.1 ∈ gw_tb := gw_tb5 (List.mem_of_getElem? (i := 15) (by decide +kernel)) rfl
theorem fl_12_313 : Cond.fieldLink RX12 313 (TX12 34).1 (TX12 34).2.1 (TX12 34).2.2.1 ∈ gw_tb := gw_tb5 (List.mem_of_getElem? (i := 16) (by decide +kernel)) rfl
theorem fl_12_70 : Cond.fieldLink RX12 70 (TX12 35).1 (TX12 35).2.1 (TX12 35).2.2.1 ∈ gw_tb := gw_tb5 (List.mem_of_getElem? (i := 17) (by decide +kernel)) rfl
theorem fl_12_73 : Cond.fieldLink RX12 73 (TX12 36).1 (TX12 36).2.1 (TX12 36).2.2.1 ∈ gw_tb := gw_tb5 (List.mem_of_getElem? (i := 18) (by decide +kernel)) rfl
theorem fl_12_76 : Cond.fieldLink RX12 76 (TX12 37).1 (TX12 37).2.1 (TX12 37).2.2.1 ∈ gw_tb := gw_tb5 (List.mem_of_getElem? (i := 19) (by decide +kernel)) rfl
theorem fl_12_79 : Cond.fieldLink RX12 79 (TX12 38).1 (TX12 38).2.1 (TX12 38).2.2.1 ∈ gw_tb := gw_tb5 (List.mem_of_getElem? (i := 20) (by decide +kernel)) rfl
theorem fl_12_82 : Cond.fieldLink RX12 82 (TX12 39).1 (TX12 39).2.1 (TX12 39).2.2.1 ∈ gw_tb := gw_tb5 (List.mem_of_getElem? (i := 21) (by decide +kernel)) rfl
theorem fl_12_85 : Cond.fieldLink RX12 85 (TX12 40).1 (TX12 40).2.1 (TX12 40).2.2.1 ∈ gw_tb := gw_tb5 (List.mem_of_getElem? (i := 22) (by decide +kernel)) rfl
theorem ml_L_9 : Cond.methodLink RL 9 (gw_mY M_X11_init) ∈ gw_tb := gw_tb1 (List.mem_of_getElem? (i := 22) (by decide +kernel)) rfl
theorem ml_L_13 : Cond.methodLink RL 13 (gw_mY M_X11_end) ∈ gw_tb := gw_tb2 (List.mem_of_getElem? (i := 186) (by decide +kernel)) rfl
theorem ml_11_92 : Cond.methodLink RX11 92 (gw_mY M_X11_within) ∈ gw_tb := gw_tb2 (List.mem_of_getElem? (i := 190) (by decide +kernel)) rfl
theorem ml_11_99 : Cond.methodLink RX11 99 (gw_mY M_X11_forget) ∈ gw_tb := gw_tb2 (List.mem_of_getElem? (i := 193) (by decide +kernel)) rfl
theorem ml_L_18 : Cond.methodLink RL 18 (gw_mY M_X11_mark) ∈ gw_tb := gw_tb2 (List.mem_of_getElem? (i := 197) (by decide +kernel)) rfl
theorem ml_11_111 : Cond.methodLink RX11 111 (gw_mY M_X3_add) ∈ gw_tb := gw_tb2 (List.mem_of_getElem? (i := 205) (by decide +kernel)) rfl
theorem ml_3_26 : Cond.methodLink RX3 26 (gw_mY M_X3_isTaken) ∈ gw_tb := gw_tb2 (List.mem_of_getElem? (i := 209) (by decide +kernel)) rfl
theorem ml_L_23 : Cond.methodLink RL 23 (gw_mY M_X11_told) ∈ gw_tb := gw_tb2 (List.mem_of_getElem? (i := 213) (by decide +kernel)) rfl
theorem ml_L_27 : Cond.methodLink RL 27 (gw_mY M_X11_value) ∈ gw_tb := gw_tb2 (List.mem_of_getElem? (i := 217) (by decide +kernel)) rfl
theorem ml_L_32 : Cond.methodLink RL 32 (gw_mY M_X11_person) ∈ gw_tb := gw_tb2 (List.mem_of_getElem? (i := 221) (by decide +kernel)) rfl
theorem ml_11_131 : Cond.methodLink RX11 131 (gw_mY M_X5_add) ∈ gw_tb := gw_tb2 (List.mem_of_getElem? (i := 225) (by decide +kernel)) rfl
theorem ml_5_26 : Cond.methodLink RX5 26 (gw_mY M_X5_tailNumber) ∈ gw_tb := gw_tb2 (List.mem_of_getElem? (i := 229) (by decide +kernel)) rfl
theorem ml_L_37 : Cond.methodLink RL 37 (gw_mY M_X11_of) ∈ gw_tb := gw_tb2 (List.mem_of_getElem? (i := 233) (by decide +kernel)) rfl
theorem ml_11_134 : Cond.methodLink RX11 134 (gw_mY M_X11_isPerson) ∈ gw_tb := gw_tb2 (List.mem_of_getElem? (i := 237) (by decide +kernel)) rfl
theorem ml_L_41 : Cond.methodLink RL 41 (gw_mY M_X11_rule) ∈ gw_tb := gw_tb3 (List.mem_of_getElem? (i := 1) (by decide +kernel)) rfl
theorem ml_L_47 : Cond.methodLink RL 47 (gw_mY M_X11_type) ∈ gw_tb := gw_tb3 (List.mem_of_getElem? (i := 9) (by decide +kernel)) rfl
theorem ml_11_157 : Cond.methodLink RX11 157 (gw_mY M_X9_holdsText) ∈ gw_tb := gw_tb3 (List.mem_of_getElem? (i := 13) (by decide +kernel)) rfl
theorem ml_11_161 : Cond.methodLink RX11 161 (gw_mY M_X9_write) ∈ gw_tb := gw_tb3 (List.mem_of_getElem? (i := 18) (by decide +kernel)) rfl
theorem ml_L_52 : Cond.methodLink RL 52 (gw_mY M_X11_way) ∈ gw_tb := gw_tb3 (List.mem_of_getElem? (i := 22) (by decide +kernel)) rfl
theorem ml_11_165 : Cond.methodLink RX11 165 (gw_mY M_X9_readWay) ∈ gw_tb := gw_tb3 (List.mem_of_getElem? (i := 26) (by decide +kernel)) rfl
theorem ml_9_31 : Cond.methodLink RX9 31 (gw_mY M_X3_clear) ∈ gw_tb := gw_tb3 (List.mem_of_getElem? (i := 30) (by decide +kernel)) rfl
theorem ml_9_36 : Cond.methodLink RX9 36 (gw_mY M_X9_readMark) ∈ gw_tb := gw_tb3 (List.mem_of_getElem? (i := 34) (by decide +kernel)) rfl
theorem ml_9_59 : Cond.methodLink RX9 59 (gw_mY M_X9_signNumber) ∈ gw_tb := gw_tb3 (List.mem_of_getElem? (i := 39) (by decide +kernel)) rfl
theorem ml_9_40 : Cond.methodLink RX9 40 (gw_mY M_X9_next) ∈ gw_tb := gw_tb3 (List.mem_of_getElem? (i := 43) (by decide +kernel)) rfl
theorem ml_9_63 : Cond.methodLink RX9 63 (gw_mY M_X9_readNumber) ∈ gw_tb := gw_tb3 (List.mem_of_getElem? (i := 95) (by decide +kernel)) rfl
theorem ml_9_67 : Cond.methodLink RX9 67 (gw_mY M_X3_isTaken) ∈ gw_tb := gw_tb3 (List.mem_of_getElem? (i := 102) (by decide +kernel)) rfl
theorem ml_9_44 : Cond.methodLink RX9 44 (gw_mY M_X9_passes) ∈ gw_tb := gw_tb3 (List.mem_of_getElem? (i := 103) (by decide +kernel)) rfl
theorem ml_9_78 : Cond.methodLink RX9 78 (gw_mY M_X3_add) ∈ gw_tb := gw_tb3 (List.mem_of_getElem? (i := 109) (by decide +kernel)) rfl
theorem ml_11_169 : Cond.methodLink RX11 169 (gw_mY M_X3_take) ∈ gw_tb := gw_tb3 (List.mem_of_getElem? (i := 110) (by decide +kernel)) rfl
theorem ml_L_57 : Cond.methodLink RL 57 (gw_mY M_X11_group) ∈ gw_tb := gw_tb3 (List.mem_of_getElem? (i := 117) (by decide +kernel)) rfl
theorem ml_11_173 : Cond.methodLink RX11 173 (gw_mY M_X9_readGroup) ∈ gw_tb := gw_tb3 (List.mem_of_getElem? (i := 121) (by decide +kernel)) rfl
theorem ml_9_53 : Cond.methodLink RX9 53 (gw_mY M_X9_readPerson) ∈ gw_tb := gw_tb3 (List.mem_of_getElem? (i := 125) (by decide +kernel)) rfl
theorem ml_9_84 : Cond.methodLink RX9 84 (gw_mY M_X5_tailNumber) ∈ gw_tb := gw_tb3 (List.mem_of_getElem? (i := 130) (by decide +kernel)) rfl
theorem ml_9_87 : Cond.methodLink RX9 87 (gw_mY M_X5_add) ∈ gw_tb := gw_tb3 (List.mem_of_getElem? (i := 131) (by decide +kernel)) rfl
theorem ml_11_177 : Cond.methodLink RX11 177 (gw_mY M_X5_take) ∈ gw_tb := gw_tb3 (List.mem_of_getElem? (i := 132) (by decide +kernel)) rfl
theorem ml_L_61 : Cond.methodLink RL 61 (gw_mY M_X11_count) ∈ gw_tb := gw_tb3 (List.mem_of_getElem? (i := 137) (by decide +kernel)) rfl
theorem ml_11_183 : Cond.methodLink RX11 183 (gw_mY M_X6_stopsMet) ∈ gw_tb := gw_tb3 (List.mem_of_getElem? (i := 141) (by decide +kernel)) rfl
theorem ml_6_71 : Cond.methodLink RX6 71 (gw_mY M_X6_isMet) ∈ gw_tb := gw_tb3 (List.mem_of_getElem? (i := 145) (by decide +kernel)) rfl
theorem ml_L_65 : Cond.methodLink RL 65 (gw_mY M_X11_fate) ∈ gw_tb := gw_tb3 (List.mem_of_getElem? (i := 149) (by decide +kernel)) rfl
theorem ml_11_187 : Cond.methodLink RX11 187 (gw_mY M_X11_goAlong) ∈ gw_tb := gw_tb3 (List.mem_of_getElem? (i := 153) (by decide +kernel)) rfl
theorem ml_11_235 : Cond.methodLink RX11 235 (gw_mY M_X10_load) ∈ gw_tb := gw_tb3 (List.mem_of_getElem? (i := 157) (by decide +kernel)) rfl
theorem ml_10_82 : Cond.methodLink RX10 82 (gw_mY M_X4_lay) ∈ gw_tb := gw_tb3 (List.mem_of_getElem? (i := 161) (by decide +kernel)) rfl
theorem ml_4_28 : Cond.methodLink RX4 28 (gw_mY M_X4_layKind) ∈ gw_tb := gw_tb3 (List.mem_of_getElem? (i := 165) (by decide +kernel)) rfl
theorem ml_10_87 : Cond.methodLink RX10 87 (gw_mY M_X5_take) ∈ gw_tb := gw_tb3 (List.mem_of_getElem? (i := 170) (by decide +kernel)) rfl
theorem ml_11_240 : Cond.methodLink RX11 240 (gw_mY M_X10_start) ∈ gw_tb := gw_tb3 (List.mem_of_getElem? (i := 172) (by decide +kernel)) rfl
theorem ml_10_98 : Cond.methodLink RX10 98 (gw_mY M_X2_clear) ∈ gw_tb := gw_tb3 (List.mem_of_getElem? (i := 176) (by decide +kernel)) rfl
theorem ml_10_101 : Cond.methodLink RX10 101 (gw_mY M_X5_tailNumber) ∈ gw_tb := gw_tb3 (List.mem_of_getElem? (i := 180) (by decide +kernel)) rfl
theorem ml_11_243 : Cond.methodLink RX11 243 (gw_mY M_X10_isOver) ∈ gw_tb := gw_tb3 (List.mem_of_getElem? (i := 181) (by decide +kernel)) rfl
theorem ml_11_247 : Cond.methodLink RX11 247 (gw_mY M_X10_live) ∈ gw_tb := gw_tb3 (List.mem_of_getElem? (i := 185) (by decide +kernel)) rfl
theorem ml_10_109 : Cond.methodLink RX10 109 (gw_mY M_X10_lead) ∈ gw_tb := gw_tb3 (List.mem_of_getElem? (i := 189) (by decide +kernel)) rfl
theorem ml_10_120 : Cond.methodLink RX10 120 (gw_mY M_X10_isAtOpenStop) ∈ gw_tb := gw_tb3 (List.mem_of_getElem? (i := 193) (by decide +kernel)) rfl
theorem ml_10_124 : Cond.methodLink RX10 124 (gw_mY M_X10_isKept) ∈ gw_tb := gw_tb3 (List.mem_of_getElem? (i := 197) (by decide +kernel)) rfl
theorem ml_10_141 : Cond.methodLink RX10 141 (gw_mY M_X10_isToBegin) ∈ gw_tb := gw_tb3 (List.mem_of_getElem? (i := 201) (by decide +kernel)) rfl
theorem ml_10_150 : Cond.methodLink RX10 150 (gw_mY M_X10_speak) ∈ gw_tb := gw_tb3 (List.mem_of_getElem? (i := 205) (by decide +kernel)) rfl
theorem ml_10_127 : Cond.methodLink RX10 127 (gw_mY M_X4_isRed) ∈ gw_tb := gw_tb3 (List.mem_of_getElem? (i := 209) (by decide +kernel)) rfl
theorem ml_10_113 : Cond.methodLink RX10 113 (gw_mY M_X10_follow) ∈ gw_tb := gw_tb3 (List.mem_of_getElem? (i := 213) (by decide +kernel)) rfl
theorem ml_10_166 : Cond.methodLink RX10 166 (gw_mY M_X10_lastBeside) ∈ gw_tb := gw_tb3 (List.mem_of_getElem? (i := 217) (by decide +kernel)) rfl
theorem ml_10_179 : Cond.methodLink RX10 179 (gw_mY M_X10_losesItsWay) ∈ gw_tb := gw_tb3 (List.mem_of_getElem? (i := 222) (by decide +kernel)) rfl
theorem ml_10_117 : Cond.methodLink RX10 117 (gw_mY M_X10_closeMinute) ∈ gw_tb := gw_tb3 (List.mem_of_getElem? (i := 226) (by decide +kernel)) rfl
theorem ml_10_189 : Cond.methodLink RX10 189 (gw_mY M_X10_out) ∈ gw_tb := gw_tb3 (List.mem_of_getElem? (i := 230) (by decide +kernel)) rfl
theorem ml_11_342 : Cond.methodLink RX11 342 (gw_mY M_X11_writeTrail) ∈ gw_tb := gw_tb3 (List.mem_of_getElem? (i := 237) (by decide +kernel)) rfl
theorem ml_11_345 : Cond.methodLink RX11 345 (gw_mY M_X10_out) ∈ gw_tb := gw_tb4 (List.mem_of_getElem? (i := 1) (by decide +kernel)) rfl
theorem ml_L_69 : Cond.methodLink RL 69 (gw_mY M_X11_at) ∈ gw_tb := gw_tb4 (List.mem_of_getElem? (i := 2) (by decide +kernel)) rfl
theorem ml_L_73 : Cond.methodLink RL 73 (gw_mY M_X11_all) ∈ gw_tb := gw_tb4 (List.mem_of_getElem? (i := 8) (by decide +kernel)) rfl
theorem ml_11_211 : Cond.methodLink RX11 211 (gw_mY M_X10_heardTogether) ∈ gw_tb := gw_tb4 (List.mem_of_getElem? (i := 12) (by decide +kernel)) rfl
theorem ml_11_214 : Cond.methodLink RX11 214 (gw_mY M_X10_leastHeard) ∈ gw_tb := gw_tb4 (List.mem_of_getElem? (i := 16) (by decide +kernel)) rfl
theorem ml_11_220 : Cond.methodLink RX11 220 (gw_mY M_X10_allThere) ∈ gw_tb := gw_tb4 (List.mem_of_getElem? (i := 20) (by decide +kernel)) rfl
theorem ml_11_226 : Cond.methodLink RX11 226 (gw_mY M_X10_lostSet) ∈ gw_tb := gw_tb4 (List.mem_of_getElem? (i := 24) (by decide +kernel)) rfl
theorem ml_L_77 : Cond.methodLink RL 77 (gw_mY M_X11_best) ∈ gw_tb := gw_tb4 (List.mem_of_getElem? (i := 28) (by decide +kernel)) rfl
theorem ml_11_229 : Cond.methodLink RX11 229 (gw_mY M_X11_seekBest) ∈ gw_tb := gw_tb4 (List.mem_of_getElem? (i := 32) (by decide +kernel)) rfl
theorem ml_11_354 : Cond.methodLink RX11 354 (gw_mY M_X6_minutesSpoken) ∈ gw_tb := gw_tb4 (List.mem_of_getElem? (i := 36) (by decide +kernel)) rfl
theorem ml_11_357 : Cond.methodLink RX11 357 (gw_mY M_X10_takeRule) ∈ gw_tb := gw_tb4 (List.mem_of_getElem? (i := 40) (by decide +kernel)) rfl
theorem ml_11_361 : Cond.methodLink RX11 361 (gw_mY M_X10_leastHeardInTime) ∈ gw_tb := gw_tb4 (List.mem_of_getElem? (i := 44) (by decide +kernel)) rfl
theorem ml_10_195 : Cond.methodLink RX10 195 (gw_mY M_X10_start) ∈ gw_tb := gw_tb4 (List.mem_of_getElem? (i := 48) (by decide +kernel)) rfl
theorem ml_10_198 : Cond.methodLink RX10 198 (gw_mY M_X10_live) ∈ gw_tb := gw_tb4 (List.mem_of_getElem? (i := 49) (by decide +kernel)) rfl
theorem ml_10_201 : Cond.methodLink RX10 201 (gw_mY M_X10_isOver) ∈ gw_tb := gw_tb4 (List.mem_of_getElem? (i := 50) (by decide +kernel)) rfl
theorem ml_10_204 : Cond.methodLink RX10 204 (gw_mY M_X10_leastHeard) ∈ gw_tb := gw_tb4 (List.mem_of_getElem? (i := 51) (by decide +kernel)) rfl
theorem ml_11_365 : Cond.methodLink RX11 365 (gw_mY M_X11_noteBest) ∈ gw_tb := gw_tb4 (List.mem_of_getElem? (i := 52) (by decide +kernel)) rfl
theorem ml_L_81 : Cond.methodLink RL 81 (gw_mY M_X11_worth) ∈ gw_tb := gw_tb4 (List.mem_of_getElem? (i := 56) (by decide +kernel)) rfl
theorem ml_L_85 : Cond.methodLink RL 85 (gw_mY M_X11_chosen) ∈ gw_tb := gw_tb4 (List.mem_of_getElem? (i := 62) (by decide +kernel)) rfl
theorem ml_11_250 : Cond.methodLink RX11 250 (gw_mY M_X11_cutUp) ∈ gw_tb := gw_tb4 (List.mem_of_getElem? (i := 66) (by decide +kernel)) rfl
theorem ml_11_253 : Cond.methodLink RX11 253 (gw_mY M_X6_valueIfFits) ∈ gw_tb := gw_tb4 (List.mem_of_getElem? (i := 69) (by decide +kernel)) rfl
theorem ml_L_89 : Cond.methodLink RL 89 (gw_mY M_X11_counted) ∈ gw_tb := gw_tb4 (List.mem_of_getElem? (i := 73) (by decide +kernel)) rfl
theorem ml_11_256 : Cond.methodLink RX11 256 (gw_mY M_X11_areCosts) ∈ gw_tb := gw_tb4 (List.mem_of_getElem? (i := 77) (by decide +kernel)) rfl
theorem ml_11_259 : Cond.methodLink RX11 259 (gw_mY M_X11_costOfCounting) ∈ gw_tb := gw_tb4 (List.mem_of_getElem? (i := 80) (by decide +kernel)) rfl
theorem ml_L_94 : Cond.methodLink RL 94 (gw_mY M_X11_often) ∈ gw_tb := gw_tb4 (List.mem_of_getElem? (i := 83) (by decide +kernel)) rfl
theorem ml_L_98 : Cond.methodLink RL 98 (gw_mY M_X11_square) ∈ gw_tb := gw_tb4 (List.mem_of_getElem? (i := 87) (by decide +kernel)) rfl
theorem ml_L_102 : Cond.methodLink RL 102 (gw_mY M_X11_stand) ∈ gw_tb := gw_tb4 (List.mem_of_getElem? (i := 91) (by decide +kernel)) rfl
theorem ml_11_272 : Cond.methodLink RX11 272 (gw_mY M_X8_survey) ∈ gw_tb := gw_tb4 (List.mem_of_getElem? (i := 95) (by decide +kernel)) rfl
theorem ml_8_37 : Cond.methodLink RX8 37 (gw_mY M_X8_findBounds) ∈ gw_tb := gw_tb4 (List.mem_of_getElem? (i := 99) (by decide +kernel)) rfl
theorem ml_8_40 : Cond.methodLink RX8 40 (gw_mY M_X8_farthest) ∈ gw_tb := gw_tb4 (List.mem_of_getElem? (i := 105) (by decide +kernel)) rfl
theorem ml_8_44 : Cond.methodLink RX8 44 (gw_mY M_X8_isHeardAllAround) ∈ gw_tb := gw_tb4 (List.mem_of_getElem? (i := 109) (by decide +kernel)) rfl
theorem ml_8_56 : Cond.methodLink RX8 56 (gw_mY M_X8_isListenerHidden) ∈ gw_tb := gw_tb4 (List.mem_of_getElem? (i := 113) (by decide +kernel)) rfl
theorem ml_L_106 : Cond.methodLink RL 106 (gw_mY M_X11_colours) ∈ gw_tb := gw_tb4 (List.mem_of_getElem? (i := 118) (by decide +kernel)) rfl
theorem ml_11_284 : Cond.methodLink RX11 284 (gw_mY M_X11_arePairs) ∈ gw_tb := gw_tb4 (List.mem_of_getElem? (i := 122) (by decide +kernel)) rfl
theorem ml_11_288 : Cond.methodLink RX11 288 (gw_mY M_X1_load) ∈ gw_tb := gw_tb4 (List.mem_of_getElem? (i := 125) (by decide +kernel)) rfl
theorem ml_11_291 : Cond.methodLink RX11 291 (gw_mY M_X1_paint) ∈ gw_tb := gw_tb4 (List.mem_of_getElem? (i := 129) (by decide +kernel)) rfl
theorem ml_1_22 : Cond.methodLink RX1 22 (gw_mY M_X1_paintFrom) ∈ gw_tb := gw_tb4 (List.mem_of_getElem? (i := 133) (by decide +kernel)) rfl
theorem ml_1_26 : Cond.methodLink RX1 26 (gw_mY M_X1_isFree) ∈ gw_tb := gw_tb4 (List.mem_of_getElem? (i := 136) (by decide +kernel)) rfl
theorem ml_L_110 : Cond.methodLink RL 110 (gw_mY M_X11_image) ∈ gw_tb := gw_tb4 (List.mem_of_getElem? (i := 141) (by decide +kernel)) rfl
theorem ml_11_297 : Cond.methodLink RX11 297 (gw_mY M_X6_take) ∈ gw_tb := gw_tb4 (List.mem_of_getElem? (i := 145) (by decide +kernel)) rfl
theorem ml_6_48 : Cond.methodLink RX6 48 (gw_mY M_X3_take) ∈ gw_tb := gw_tb4 (List.mem_of_getElem? (i := 149) (by decide +kernel)) rfl
theorem ml_6_52 : Cond.methodLink RX6 52 (gw_mY M_X5_take) ∈ gw_tb := gw_tb4 (List.mem_of_getElem? (i := 150) (by decide +kernel)) rfl
theorem ml_L_114 : Cond.methodLink RL 114 (gw_mY M_X11_restore) ∈ gw_tb := gw_tb4 (List.mem_of_getElem? (i := 152) (by decide +kernel)) rfl
theorem ml_L_118 : Cond.methodLink RL 118 (gw_mY M_X11_slots) ∈ gw_tb := gw_tb4 (List.mem_of_getElem? (i := 156) (by decide +kernel)) rfl
theorem ml_11_299 : Cond.methodLink RX11 299 (gw_mY M_X11_isSheet) ∈ gw_tb := gw_tb4 (List.mem_of_getElem? (i := 160) (by decide +kernel)) rfl
theorem ml_11_302 : Cond.methodLink RX11 302 (gw_mY M_X11_isLane) ∈ gw_tb := gw_tb4 (List.mem_of_getElem? (i := 163) (by decide +kernel)) rfl
theorem ml_11_305 : Cond.methodLink RX11 305 (gw_mY M_X7_refusal) ∈ gw_tb := gw_tb4 (List.mem_of_getElem? (i := 166) (by decide +kernel)) rfl
theorem ml_7_22 : Cond.methodLink RX7 22 (gw_mY M_X7_reaches) ∈ gw_tb := gw_tb4 (List.mem_of_getElem? (i := 170) (by decide +kernel)) rfl
theorem ml_11_311 : Cond.methodLink RX11 311 (gw_mY M_X0_load) ∈ gw_tb := gw_tb4 (List.mem_of_getElem? (i := 175) (by decide +kernel)) rfl
theorem ml_11_314 : Cond.methodLink RX11 314 (gw_mY M_X0_seek) ∈ gw_tb := gw_tb4 (List.mem_of_getElem? (i := 180) (by decide +kernel)) rfl
theorem ml_0_38 : Cond.methodLink RX0 38 (gw_mY M_X0_sendFrom) ∈ gw_tb := gw_tb4 (List.mem_of_getElem? (i := 185) (by decide +kernel)) rfl
theorem ml_L_123 : Cond.methodLink RL 123 (gw_mY M_X11_sheet) ∈ gw_tb := gw_tb4 (List.mem_of_getElem? (i := 190) (by decide +kernel)) rfl
theorem ml_11_323 : Cond.methodLink RX11 323 (gw_mY M_X7_renew) ∈ gw_tb := gw_tb4 (List.mem_of_getElem? (i := 194) (by decide +kernel)) rfl
theorem ml_L_127 : Cond.methodLink RL 127 (gw_mY M_X11_drop) ∈ gw_tb := gw_tb4 (List.mem_of_getElem? (i := 198) (by decide +kernel)) rfl
theorem ml_L_131 : Cond.methodLink RL 131 (gw_mY M_X11_item) ∈ gw_tb := gw_tb4 (List.mem_of_getElem? (i := 202) (by decide +kernel)) rfl
theorem ml_11_330 : Cond.methodLink RX11 330 (gw_mY M_X7_put) ∈ gw_tb := gw_tb4 (List.mem_of_getElem? (i := 206) (by decide +kernel)) rfl
theorem ml_L_135 : Cond.methodLink RL 135 (gw_mY M_X11_copy) ∈ gw_tb := gw_tb4 (List.mem_of_getElem? (i := 210) (by decide +kernel)) rfl
theorem ml_11_333 : Cond.methodLink RX11 333 (gw_mY M_X7_reaches) ∈ gw_tb := gw_tb4 (List.mem_of_getElem? (i := 214) (by decide +kernel)) rfl
theorem ml_L_12 : Cond.methodLink RL 12 (gw_mY M_X12_init) ∈ gw_tb := gw_tb4 (List.mem_of_getElem? (i := 218) (by decide +kernel)) rfl
theorem ml_L_17 : Cond.methodLink RL 17 (gw_mY M_X12_end) ∈ gw_tb := gw_tb5 (List.mem_of_getElem? (i := 106) (by decide +kernel)) rfl
theorem ml_12_98 : Cond.methodLink RX12 98 (gw_mY M_X12_in) ∈ gw_tb := gw_tb5 (List.mem_of_getElem? (i := 112) (by decide +kernel)) rfl
theorem ml_L_22 : Cond.methodLink RL 22 (gw_mY M_X12_mark) ∈ gw_tb := gw_tb5 (List.mem_of_getElem? (i := 115) (by decide +kernel)) rfl
theorem ml_12_108 : Cond.methodLink RX12 108 (gw_mY M_X12_isLength) ∈ gw_tb := gw_tb5 (List.mem_of_getElem? (i := 120) (by decide +kernel)) rfl
theorem ml_12_112 : Cond.methodLink RX12 112 (gw_mY M_X12_markAt) ∈ gw_tb := gw_tb5 (List.mem_of_getElem? (i := 126) (by decide +kernel)) rfl
theorem ml_12_116 : Cond.methodLink RX12 116 (gw_mY M_X12_comes) ∈ gw_tb := gw_tb5 (List.mem_of_getElem? (i := 130) (by decide +kernel)) rfl
theorem ml_L_26 : Cond.methodLink RL 26 (gw_mY M_X12_told) ∈ gw_tb := gw_tb5 (List.mem_of_getElem? (i := 134) (by decide +kernel)) rfl
theorem ml_L_31 : Cond.methodLink RL 31 (gw_mY M_X12_value) ∈ gw_tb := gw_tb5 (List.mem_of_getElem? (i := 138) (by decide +kernel)) rfl
theorem ml_L_36 : Cond.methodLink RL 36 (gw_mY M_X12_person) ∈ gw_tb := gw_tb5 (List.mem_of_getElem? (i := 142) (by decide +kernel)) rfl
theorem ml_12_125 : Cond.methodLink RX12 125 (gw_mY M_X12_tail) ∈ gw_tb := gw_tb5 (List.mem_of_getElem? (i := 147) (by decide +kernel)) rfl
theorem ml_12_129 : Cond.methodLink RX12 129 (gw_mY M_X12_joins) ∈ gw_tb := gw_tb5 (List.mem_of_getElem? (i := 151) (by decide +kernel)) rfl
theorem ml_L_40 : Cond.methodLink RL 40 (gw_mY M_X12_of) ∈ gw_tb := gw_tb5 (List.mem_of_getElem? (i := 155) (by decide +kernel)) rfl
theorem ml_12_132 : Cond.methodLink RX12 132 (gw_mY M_X12_isOne) ∈ gw_tb := gw_tb5 (List.mem_of_getElem? (i := 159) (by decide +kernel)) rfl
theorem ml_L_44 : Cond.methodLink RL 44 (gw_mY M_X12_rule) ∈ gw_tb := gw_tb5 (List.mem_of_getElem? (i := 163) (by decide +kernel)) rfl
theorem ml_12_140 : Cond.methodLink RX12 140 (gw_mY M_X12_isRule) ∈ gw_tb := gw_tb5 (List.mem_of_getElem? (i := 167) (by decide +kernel)) rfl
theorem ml_L_51 : Cond.methodLink RL 51 (gw_mY M_X12_type) ∈ gw_tb := gw_tb5 (List.mem_of_getElem? (i := 172) (by decide +kernel)) rfl
theorem ml_L_56 : Cond.methodLink RL 56 (gw_mY M_X12_way) ∈ gw_tb := gw_tb5 (List.mem_of_getElem? (i := 180) (by decide +kernel)) rfl
theorem ml_12_189 : Cond.methodLink RX12 189 (gw_mY M_X12_readAll) ∈ gw_tb := gw_tb5 (List.mem_of_getElem? (i := 184) (by decide +kernel)) rfl
theorem ml_12_182 : Cond.methodLink RX12 182 (gw_mY M_X12_markClause) ∈ gw_tb := gw_tb5 (List.mem_of_getElem? (i := 188) (by decide +kernel)) rfl
theorem ml_12_168 : Cond.methodLink RX12 168 (gw_mY M_X12_letter) ∈ gw_tb := gw_tb5 (List.mem_of_getElem? (i := 192) (by decide +kernel)) rfl
theorem ml_12_161 : Cond.methodLink RX12 161 (gw_mY M_X12_here) ∈ gw_tb := gw_tb5 (List.mem_of_getElem? (i := 196) (by decide +kernel)) rfl
theorem ml_12_172 : Cond.methodLink RX12 172 (gw_mY M_X12_number) ∈ gw_tb := gw_tb5 (List.mem_of_getElem? (i := 200) (by decide +kernel)) rfl
theorem ml_12_175 : Cond.methodLink RX12 175 (gw_mY M_X12_has) ∈ gw_tb := gw_tb5 (List.mem_of_getElem? (i := 206) (by decide +kernel)) rfl
theorem ml_12_186 : Cond.methodLink RX12 186 (gw_mY M_X12_personClause) ∈ gw_tb := gw_tb5 (List.mem_of_getElem? (i := 210) (by decide +kernel)) rfl
theorem ml_L_60 : Cond.methodLink RL 60 (gw_mY M_X12_group) ∈ gw_tb := gw_tb5 (List.mem_of_getElem? (i := 216) (by decide +kernel)) rfl
theorem ml_L_64 : Cond.methodLink RL 64 (gw_mY M_X12_count) ∈ gw_tb := gw_tb5 (List.mem_of_getElem? (i := 220) (by decide +kernel)) rfl
theorem ml_12_193 : Cond.methodLink RX12 193 (gw_mY M_X12_stopsMet) ∈ gw_tb := gw_tb5 (List.mem_of_getElem? (i := 224) (by decide +kernel)) rfl
theorem ml_L_68 : Cond.methodLink RL 68 (gw_mY M_X12_fate) ∈ gw_tb := gw_tb5 (List.mem_of_getElem? (i := 228) (by decide +kernel)) rfl
theorem ml_12_259 : Cond.methodLink RX12 259 (gw_mY M_X12_walks) ∈ gw_tb := gw_tb5 (List.mem_of_getElem? (i := 232) (by decide +kernel)) rfl
theorem ml_12_249 : Cond.methodLink RX12 249 (gw_mY M_X12_guideGoes) ∈ gw_tb := gw_tb5 (List.mem_of_getElem? (i := 236) (by decide +kernel)) rfl
theorem ml_12_229 : Cond.methodLink RX12 229 (gw_mY M_X12_isKept) ∈ gw_tb := gw_tb6 (List.mem_of_getElem? (i := 0) (by decide +kernel)) rfl
theorem ml_12_208 : Cond.methodLink RX12 208 (gw_mY M_X12_stopHere) ∈ gw_tb := gw_tb6 (List.mem_of_getElem? (i := 4) (by decide +kernel)) rfl
theorem ml_12_214 : Cond.methodLink RX12 214 (gw_mY M_X12_nearOf) ∈ gw_tb := gw_tb6 (List.mem_of_getElem? (i := 8) (by decide +kernel)) rfl
theorem ml_12_196 : Cond.methodLink RX12 196 (gw_mY M_X12_isLost) ∈ gw_tb := gw_tb6 (List.mem_of_getElem? (i := 12) (by decide +kernel)) rfl
theorem ml_12_202 : Cond.methodLink RX12 202 (gw_mY M_X12_isNear) ∈ gw_tb := gw_tb6 (List.mem_of_getElem? (i := 16) (by decide +kernel)) rfl
theorem ml_12_233 : Cond.methodLink RX12 233 (gw_mY M_X12_isRed) ∈ gw_tb := gw_tb6 (List.mem_of_getElem? (i := 20) (by decide +kernel)) rfl
theorem ml_12_252 : Cond.methodLink RX12 252 (gw_mY M_X12_goes) ∈ gw_tb := gw_tb6 (List.mem_of_getElem? (i := 24) (by decide +kernel)) rfl
theorem ml_12_239 : Cond.methodLink RX12 239 (gw_mY M_X12_leastOther) ∈ gw_tb := gw_tb6 (List.mem_of_getElem? (i := 28) (by decide +kernel)) rfl
theorem ml_12_243 : Cond.methodLink RX12 243 (gw_mY M_X12_losesWay) ∈ gw_tb := gw_tb6 (List.mem_of_getElem? (i := 32) (by decide +kernel)) rfl
theorem ml_12_256 : Cond.methodLink RX12 256 (gw_mY M_X12_behind) ∈ gw_tb := gw_tb6 (List.mem_of_getElem? (i := 36) (by decide +kernel)) rfl
theorem ml_L_72 : Cond.methodLink RL 72 (gw_mY M_X12_at) ∈ gw_tb := gw_tb6 (List.mem_of_getElem? (i := 40) (by decide +kernel)) rfl
theorem ml_L_76 : Cond.methodLink RL 76 (gw_mY M_X12_all) ∈ gw_tb := gw_tb6 (List.mem_of_getElem? (i := 46) (by decide +kernel)) rfl
theorem ml_12_268 : Cond.methodLink RX12 268 (gw_mY M_X12_heardAll) ∈ gw_tb := gw_tb6 (List.mem_of_getElem? (i := 51) (by decide +kernel)) rfl
theorem ml_12_271 : Cond.methodLink RX12 271 (gw_mY M_X12_leastOff) ∈ gw_tb := gw_tb6 (List.mem_of_getElem? (i := 55) (by decide +kernel)) rfl
theorem ml_12_274 : Cond.methodLink RX12 274 (gw_mY M_X12_allThere) ∈ gw_tb := gw_tb6 (List.mem_of_getElem? (i := 59) (by decide +kernel)) rfl
theorem ml_L_80 : Cond.methodLink RL 80 (gw_mY M_X12_best) ∈ gw_tb := gw_tb6 (List.mem_of_getElem? (i := 63) (by decide +kernel)) rfl
theorem ml_L_84 : Cond.methodLink RL 84 (gw_mY M_X12_worth) ∈ gw_tb := gw_tb6 (List.mem_of_getElem? (i := 67) (by decide +kernel)) rfl
theorem ml_L_88 : Cond.methodLink RL 88 (gw_mY M_X12_chosen) ∈ gw_tb := gw_tb6 (List.mem_of_getElem? (i := 73) (by decide +kernel)) rfl
theorem ml_L_93 : Cond.methodLink RL 93 (gw_mY M_X12_counted) ∈ gw_tb := gw_tb6 (List.mem_of_getElem? (i := 78) (by decide +kernel)) rfl
theorem ml_12_281 : Cond.methodLink RX12 281 (gw_mY M_X12_isCost) ∈ gw_tb := gw_tb6 (List.mem_of_getElem? (i := 82) (by decide +kernel)) rfl
theorem ml_12_285 : Cond.methodLink RX12 285 (gw_mY M_X12_costOf) ∈ gw_tb := gw_tb6 (List.mem_of_getElem? (i := 85) (by decide +kernel)) rfl
theorem ml_L_97 : Cond.methodLink RL 97 (gw_mY M_X12_often) ∈ gw_tb := gw_tb6 (List.mem_of_getElem? (i := 88) (by decide +kernel)) rfl
theorem ml_L_101 : Cond.methodLink RL 101 (gw_mY M_X12_square) ∈ gw_tb := gw_tb6 (List.mem_of_getElem? (i := 92) (by decide +kernel)) rfl
theorem ml_L_105 : Cond.methodLink RL 105 (gw_mY M_X12_stand) ∈ gw_tb := gw_tb6 (List.mem_of_getElem? (i := 97) (by decide +kernel)) rfl
theorem ml_12_297 : Cond.methodLink RX12 297 (gw_mY M_X12_farthest) ∈ gw_tb := gw_tb6 (List.mem_of_getElem? (i := 101) (by decide +kernel)) rfl
theorem ml_12_291 : Cond.methodLink RX12 291 (gw_mY M_X12_size) ∈ gw_tb := gw_tb6 (List.mem_of_getElem? (i := 105) (by decide +kernel)) rfl
theorem ml_12_294 : Cond.methodLink RX12 294 (gw_mY M_X12_sign) ∈ gw_tb := gw_tb6 (List.mem_of_getElem? (i := 108) (by decide +kernel)) rfl
theorem ml_L_109 : Cond.methodLink RL 109 (gw_mY M_X12_colours) ∈ gw_tb := gw_tb6 (List.mem_of_getElem? (i := 111) (by decide +kernel)) rfl
theorem ml_12_306 : Cond.methodLink RX12 306 (gw_mY M_X12_paints) ∈ gw_tb := gw_tb6 (List.mem_of_getElem? (i := 116) (by decide +kernel)) rfl
theorem ml_12_300 : Cond.methodLink RX12 300 (gw_mY M_X12_meet) ∈ gw_tb := gw_tb6 (List.mem_of_getElem? (i := 120) (by decide +kernel)) rfl
theorem ml_L_113 : Cond.methodLink RL 113 (gw_mY M_X12_image) ∈ gw_tb := gw_tb6 (List.mem_of_getElem? (i := 123) (by decide +kernel)) rfl
theorem ml_12_309 : Cond.methodLink RX12 309 (gw_mY M_X12_lay) ∈ gw_tb := gw_tb6 (List.mem_of_getElem? (i := 127) (by decide +kernel)) rfl
theorem ml_L_117 : Cond.methodLink RL 117 (gw_mY M_X12_restore) ∈ gw_tb := gw_tb6 (List.mem_of_getElem? (i := 131) (by decide +kernel)) rfl
theorem ml_12_316 : Cond.methodLink RX12 316 (gw_mY M_X12_gives) ∈ gw_tb := gw_tb6 (List.mem_of_getElem? (i := 135) (by decide +kernel)) rfl
theorem ml_L_122 : Cond.methodLink RL 122 (gw_mY M_X12_slots) ∈ gw_tb := gw_tb6 (List.mem_of_getElem? (i := 139) (by decide +kernel)) rfl
theorem ml_12_320 : Cond.methodLink RX12 320 (gw_mY M_X12_isSheet) ∈ gw_tb := gw_tb6 (List.mem_of_getElem? (i := 143) (by decide +kernel)) rfl
theorem ml_12_323 : Cond.methodLink RX12 323 (gw_mY M_X12_isLane) ∈ gw_tb := gw_tb6 (List.mem_of_getElem? (i := 146) (by decide +kernel)) rfl
theorem ml_12_328 : Cond.methodLink RX12 328 (gw_mY M_X12_finds) ∈ gw_tb := gw_tb6 (List.mem_of_getElem? (i := 150) (by decide +kernel)) rfl
theorem ml_12_331 : Cond.methodLink RX12 331 (gw_mY M_X12_turns) ∈ gw_tb := gw_tb6 (List.mem_of_getElem? (i := 154) (by decide +kernel)) rfl
theorem ml_L_126 : Cond.methodLink RL 126 (gw_mY M_X12_sheet) ∈ gw_tb := gw_tb6 (List.mem_of_getElem? (i := 158) (by decide +kernel)) rfl
theorem ml_L_130 : Cond.methodLink RL 130 (gw_mY M_X12_drop) ∈ gw_tb := gw_tb6 (List.mem_of_getElem? (i := 162) (by decide +kernel)) rfl
theorem ml_L_134 : Cond.methodLink RL 134 (gw_mY M_X12_item) ∈ gw_tb := gw_tb6 (List.mem_of_getElem? (i := 166) (by decide +kernel)) rfl
theorem ml_L_138 : Cond.methodLink RL 138 (gw_mY M_X12_copy) ∈ gw_tb := gw_tb6 (List.mem_of_getElem? (i := 170) (by decide +kernel)) rfl
theorem mc_X0_init : Cond.code (gw_mY M_X0_init) (gw_mC M_X0_init) (gw_mL M_X0_init) (gw_mR M_X0_init) ∈ gw_tb := gw_tb2 (List.mem_of_getElem? (i := 94) (by decide +kernel)) rfl
theorem mi_X0_init : Cond.instanceMethod (gw_mY M_X0_init) ∈ gw_tb := gw_tb2 (List.mem_of_getElem? (i := 93) (by decide +kernel)) rfl
theorem mc_X0_load : Cond.code (gw_mY M_X0_load) (gw_mC M_X0_load) (gw_mL M_X0_load) (gw_mR M_X0_load) ∈ gw_tb := gw_tb4 (List.mem_of_getElem? (i := 178) (by decide +kernel)) rfl
theorem mi_X0_load : Cond.instanceMethod (gw_mY M_X0_load) ∈ gw_tb := gw_tb4 (List.mem_of_getElem? (i := 176) (by decide +kernel)) rfl
theorem ms_X0_load : Cond.selects RX0 (gw_mY M_X0_load) (gw_mY M_X0_load) ∈ gw_tb := gw_tb4 (List.mem_of_getElem? (i := 177) (by decide +kernel)) rfl
theorem mc_X0_seek : Cond.code (gw_mY M_X0_seek) (gw_mC M_X0_seek) (gw_mL M_X0_seek) (gw_mR M_X0_seek) ∈ gw_tb := gw_tb4 (List.mem_of_getElem? (i := 183) (by decide +kernel)) rfl
theorem mi_X0_seek : Cond.instanceMethod (gw_mY M_X0_seek) ∈ gw_tb := gw_tb4 (List.mem_of_getElem? (i := 181) (by decide +kernel)) rfl
theorem ms_X0_seek : Cond.selects RX0 (gw_mY M_X0_seek) (gw_mY M_X0_seek) ∈ gw_tb := gw_tb4 (List.mem_of_getElem? (i := 182) (by decide +kernel)) rfl
theorem mc_X0_sendFrom : Cond.code (gw_mY M_X0_sendFrom) (gw_mC M_X0_sendFrom) (gw_mL M_X0_sendFrom) (gw_mR M_X0_sendFrom) ∈ gw_tb := gw_tb4 (List.mem_of_getElem? (i := 187) (by decide +kernel)) rfl
theorem mS_X0_sendFrom : Cond.static (gw_mY M_X0_sendFrom) ∈ gw_tb := gw_tb4 (List.mem_of_getElem? (i := 186) (by decide +kernel)) rfl
theorem mc_X1_init : Cond.code (gw_mY M_X1_init) (gw_mC M_X1_init) (gw_mL M_X1_init) (gw_mR M_X1_init) ∈ gw_tb := gw_tb2 (List.mem_of_getElem? (i := 77) (by decide +kernel)) rfl
theorem mi_X1_init : Cond.instanceMethod (gw_mY M_X1_init) ∈ gw_tb := gw_tb2 (List.mem_of_getElem? (i := 76) (by decide +kernel)) rfl
theorem mc_X1_load : Cond.code (gw_mY M_X1_load) (gw_mC M_X1_load) (gw_mL M_X1_load) (gw_mR M_X1_load) ∈ gw_tb := gw_tb4 (List.mem_of_getElem? (i := 128) (by decide +kernel)) rfl
theorem mi_X1_load : Cond.instanceMethod (gw_mY M_X1_load) ∈ gw_tb := gw_tb4 (List.mem_of_getElem? (i := 126) (by decide +kernel)) rfl
theorem ms_X1_load : Cond.selects RX1 (gw_mY M_X1_load) (gw_mY M_X1_load) ∈ gw_tb := gw_tb4 (List.mem_of_getElem? (i := 127) (by decide +kernel)) rfl
theorem mc_X1_paint : Cond.code (gw_mY M_X1_paint) (gw_mC M_X1_paint) (gw_mL M_X1_paint) (gw_mR M_X1_paint) ∈ gw_tb := gw_tb4 (List.mem_of_getElem? (i := 132) (by decide +kernel)) rfl
theorem mi_X1_paint : Cond.instanceMethod (gw_mY M_X1_paint) ∈ gw_tb := gw_tb4 (List.mem_of_getElem? (i := 130) (by decide +kernel)) rfl
theorem ms_X1_paint : Cond.selects RX1 (gw_mY M_X1_paint) (gw_mY M_X1_paint) ∈ gw_tb := gw_tb4 (List.mem_of_getElem? (i := 131) (by decide +kernel)) rfl
theorem mc_X1_paintFrom : Cond.code (gw_mY M_X1_paintFrom) (gw_mC M_X1_paintFrom) (gw_mL M_X1_paintFrom) (gw_mR M_X1_paintFrom) ∈ gw_tb := gw_tb4 (List.mem_of_getElem? (i := 135) (by decide +kernel)) rfl
theorem mS_X1_paintFrom : Cond.static (gw_mY M_X1_paintFrom) ∈ gw_tb := gw_tb4 (List.mem_of_getElem? (i := 134) (by decide +kernel)) rfl
theorem mc_X1_isFree : Cond.code (gw_mY M_X1_isFree) (gw_mC M_X1_isFree) (gw_mL M_X1_isFree) (gw_mR M_X1_isFree) ∈ gw_tb := gw_tb4 (List.mem_of_getElem? (i := 139) (by decide +kernel)) rfl
theorem mi_X1_isFree : Cond.instanceMethod (gw_mY M_X1_isFree) ∈ gw_tb := gw_tb4 (List.mem_of_getElem? (i := 137) (by decide +kernel)) rfl
theorem ms_X1_isFree : Cond.selects RX1 (gw_mY M_X1_isFree) (gw_mY M_X1_isFree) ∈ gw_tb := gw_tb4 (List.mem_of_getElem? (i := 138) (by decide +kernel)) rfl
theorem mc_X2_init : Cond.code (gw_mY M_X2_init) (gw_mC M_X2_init) (gw_mL M_X2_init) (gw_mR M_X2_init) ∈ gw_tb := gw_tb1 (List.mem_of_getElem? (i := 228) (by decide +kernel)) rfl
theorem mi_X2_init : Cond.instanceMethod (gw_mY M_X2_init) ∈ gw_tb := gw_tb1 (List.mem_of_getElem? (i := 227) (by decide +kernel)) rfl
theorem mc_X2_clear : Cond.code (gw_mY M_X2_clear) (gw_mC M_X2_clear) (gw_mL M_X2_clear) (gw_mR M_X2_clear) ∈ gw_tb := gw_tb3 (List.mem_of_getElem? (i := 179) (by decide +kernel)) rfl
theorem mi_X2_clear : Cond.instanceMethod (gw_mY M_X2_clear) ∈ gw_tb := gw_tb3 (List.mem_of_getElem? (i := 177) (by decide +kernel)) rfl
theorem ms_X2_clear : Cond.selects RX2 (gw_mY M_X2_clear) (gw_mY M_X2_clear) ∈ gw_tb := gw_tb3 (List.mem_of_getElem? (i := 178) (by decide +kernel)) rfl
theorem mc_X3_init : Cond.code (gw_mY M_X3_init) (gw_mC M_X3_init) (gw_mL M_X3_init) (gw_mR M_X3_init) ∈ gw_tb := gw_tb1 (List.mem_of_getElem? (i := 38) (by decide +kernel)) rfl
theorem mi_X3_init : Cond.instanceMethod (gw_mY M_X3_init) ∈ gw_tb := gw_tb1 (List.mem_of_getElem? (i := 37) (by decide +kernel)) rfl
theorem mc_X3_clear : Cond.code (gw_mY M_X3_clear) (gw_mC M_X3_clear) (gw_mL M_X3_clear) (gw_mR M_X3_clear) ∈ gw_tb := gw_tb3 (List.mem_of_getElem? (i := 33) (by decide +kernel)) rfl
theorem mi_X3_clear : Cond.instanceMethod (gw_mY M_X3_clear) ∈ gw_tb := gw_tb3 (List.mem_of_getElem? (i := 31) (by decide +kernel)) rfl
theorem ms_X3_clear : Cond.selects RX3 (gw_mY M_X3_clear) (gw_mY M_X3_clear) ∈ gw_tb := gw_tb3 (List.mem_of_getElem? (i := 32) (by decide +kernel)) rfl
theorem mc_X3_isTaken : Cond.code (gw_mY M_X3_isTaken) (gw_mC M_X3_isTaken) (gw_mL M_X3_isTaken) (gw_mR M_X3_isTaken) ∈ gw_tb := gw_tb2 (List.mem_of_getElem? (i := 212) (by decide +kernel)) rfl
theorem mi_X3_isTaken : Cond.instanceMethod (gw_mY M_X3_isTaken) ∈ gw_tb := gw_tb2 (List.mem_of_getElem? (i := 210) (by decide +kernel)) rfl
theorem ms_X3_isTaken : Cond.selects RX3 (gw_mY M_X3_isTaken) (gw_mY M_X3_isTaken) ∈ gw_tb := gw_tb2 (List.mem_of_getElem? (i := 211) (by decide +kernel)) rfl
theorem mc_X3_add : Cond.code (gw_mY M_X3_add) (gw_mC M_X3_add) (gw_mL M_X3_add) (gw_mR M_X3_add) ∈ gw_tb := gw_tb2 (List.mem_of_getElem? (i := 208) (by decide +kernel)) rfl
theorem mi_X3_add : Cond.instanceMethod (gw_mY M_X3_add) ∈ gw_tb := gw_tb2 (List.mem_of_getElem? (i := 206) (by decide +kernel)) rfl
theorem ms_X3_add : Cond.selects RX3 (gw_mY M_X3_add) (gw_mY M_X3_add) ∈ gw_tb := gw_tb2 (List.mem_of_getElem? (i := 207) (by decide +kernel)) rfl
theorem mc_X3_take : Cond.code (gw_mY M_X3_take) (gw_mC M_X3_take) (gw_mL M_X3_take) (gw_mR M_X3_take) ∈ gw_tb := gw_tb3 (List.mem_of_getElem? (i := 113) (by decide +kernel)) rfl
theorem mi_X3_take : Cond.instanceMethod (gw_mY M_X3_take) ∈ gw_tb := gw_tb3 (List.mem_of_getElem? (i := 111) (by decide +kernel)) rfl
theorem ms_X3_take : Cond.selects RX3 (gw_mY M_X3_take) (gw_mY M_X3_take) ∈ gw_tb := gw_tb3 (List.mem_of_getElem? (i := 112) (by decide +kernel)) rfl
theorem mc_X4_init : Cond.code (gw_mY M_X4_init) (gw_mC M_X4_init) (gw_mL M_X4_init) (gw_mR M_X4_init) ∈ gw_tb := gw_tb1 (List.mem_of_getElem? (i := 200) (by decide +kernel)) rfl
theorem mi_X4_init : Cond.instanceMethod (gw_mY M_X4_init) ∈ gw_tb := gw_tb1 (List.mem_of_getElem? (i := 199) (by decide +kernel)) rfl
theorem mc_X4_lay : Cond.code (gw_mY M_X4_lay) (gw_mC M_X4_lay) (gw_mL M_X4_lay) (gw_mR M_X4_lay) ∈ gw_tb := gw_tb3 (List.mem_of_getElem? (i := 164) (by decide +kernel)) rfl
theorem mi_X4_lay : Cond.instanceMethod (gw_mY M_X4_lay) ∈ gw_tb := gw_tb3 (List.mem_of_getElem? (i := 162) (by decide +kernel)) rfl
theorem ms_X4_lay : Cond.selects RX4 (gw_mY M_X4_lay) (gw_mY M_X4_lay) ∈ gw_tb := gw_tb3 (List.mem_of_getElem? (i := 163) (by decide +kernel)) rfl
theorem mc_X4_layKind : Cond.code (gw_mY M_X4_layKind) (gw_mC M_X4_layKind) (gw_mL M_X4_layKind) (gw_mR M_X4_layKind) ∈ gw_tb := gw_tb3 (List.mem_of_getElem? (i := 168) (by decide +kernel)) rfl
theorem mi_X4_layKind : Cond.instanceMethod (gw_mY M_X4_layKind) ∈ gw_tb := gw_tb3 (List.mem_of_getElem? (i := 166) (by decide +kernel)) rfl
theorem ms_X4_layKind : Cond.selects RX4 (gw_mY M_X4_layKind) (gw_mY M_X4_layKind) ∈ gw_tb := gw_tb3 (List.mem_of_getElem? (i := 167) (by decide +kernel)) rfl
theorem mc_X4_isRed : Cond.code (gw_mY M_X4_isRed) (gw_mC M_X4_isRed) (gw_mL M_X4_isRed) (gw_mR M_X4_isRed) ∈ gw_tb := gw_tb3 (List.mem_of_getElem? (i := 212) (by decide +kernel)) rfl
theorem mi_X4_isRed : Cond.instanceMethod (gw_mY M_X4_isRed) ∈ gw_tb := gw_tb3 (List.mem_of_getElem? (i := 210) (by decide +kernel)) rfl
theorem ms_X4_isRed : Cond.selects RX4 (gw_mY M_X4_isRed) (gw_mY M_X4_isRed) ∈ gw_tb := gw_tb3 (List.mem_of_getElem? (i := 211) (by decide +kernel)) rfl
theorem mc_X5_init : Cond.code (gw_mY M_X5_init) (gw_mC M_X5_init) (gw_mL M_X5_init) (gw_mR M_X5_init) ∈ gw_tb := gw_tb1 (List.mem_of_getElem? (i := 71) (by decide +kernel)) rfl
theorem mi_X5_init : Cond.instanceMethod (gw_mY M_X5_init) ∈ gw_tb := gw_tb1 (List.mem_of_getElem? (i := 70) (by decide +kernel)) rfl
theorem mc_X5_tailNumber : Cond.code (gw_mY M_X5_tailNumber) (gw_mC M_X5_tailNumber) (gw_mL M_X5_tailNumber) (gw_mR M_X5_tailNumber) ∈ gw_tb := gw_tb2 (List.mem_of_getElem? (i := 232) (by decide +kernel)) rfl
theorem mi_X5_tailNumber : Cond.instanceMethod (gw_mY M_X5_tailNumber) ∈ gw_tb := gw_tb2 (List.mem_of_getElem? (i := 230) (by decide +kernel)) rfl
theorem ms_X5_tailNumber : Cond.selects RX5 (gw_mY M_X5_tailNumber) (gw_mY M_X5_tailNumber) ∈ gw_tb := gw_tb2 (List.mem_of_getElem? (i := 231) (by decide +kernel)) rfl
theorem mc_X5_add : Cond.code (gw_mY M_X5_add) (gw_mC M_X5_add) (gw_mL M_X5_add) (gw_mR M_X5_add) ∈ gw_tb := gw_tb2 (List.mem_of_getElem? (i := 228) (by decide +kernel)) rfl
theorem mi_X5_add : Cond.instanceMethod (gw_mY M_X5_add) ∈ gw_tb := gw_tb2 (List.mem_of_getElem? (i := 226) (by decide +kernel)) rfl
theorem ms_X5_add : Cond.selects RX5 (gw_mY M_X5_add) (gw_mY M_X5_add) ∈ gw_tb := gw_tb2 (List.mem_of_getElem? (i := 227) (by decide +kernel)) rfl
theorem mc_X5_take : Cond.code (gw_mY M_X5_take) (gw_mC M_X5_take) (gw_mL M_X5_take) (gw_mR M_X5_take) ∈ gw_tb := gw_tb3 (List.mem_of_getElem? (i := 135) (by decide +kernel)) rfl
theorem mi_X5_take : Cond.instanceMethod (gw_mY M_X5_take) ∈ gw_tb := gw_tb3 (List.mem_of_getElem? (i := 133) (by decide +kernel)) rfl
theorem ms_X5_take : Cond.selects RX5 (gw_mY M_X5_take) (gw_mY M_X5_take) ∈ gw_tb := gw_tb3 (List.mem_of_getElem? (i := 134) (by decide +kernel)) rfl
theorem mc_X6_init : Cond.code (gw_mY M_X6_init) (gw_mC M_X6_init) (gw_mL M_X6_init) (gw_mR M_X6_init) ∈ gw_tb := gw_tb1 (List.mem_of_getElem? (i := 32) (by decide +kernel)) rfl
theorem mi_X6_init : Cond.instanceMethod (gw_mY M_X6_init) ∈ gw_tb := gw_tb1 (List.mem_of_getElem? (i := 31) (by decide +kernel)) rfl
theorem mc_X6_take : Cond.code (gw_mY M_X6_take) (gw_mC M_X6_take) (gw_mL M_X6_take) (gw_mR M_X6_take) ∈ gw_tb := gw_tb4 (List.mem_of_getElem? (i := 148) (by decide +kernel)) rfl
theorem mi_X6_take : Cond.instanceMethod (gw_mY M_X6_take) ∈ gw_tb := gw_tb4 (List.mem_of_getElem? (i := 146) (by decide +kernel)) rfl
theorem ms_X6_take : Cond.selects RX6 (gw_mY M_X6_take) (gw_mY M_X6_take) ∈ gw_tb := gw_tb4 (List.mem_of_getElem? (i := 147) (by decide +kernel)) rfl
theorem mc_X6_isMet : Cond.code (gw_mY M_X6_isMet) (gw_mC M_X6_isMet) (gw_mL M_X6_isMet) (gw_mR M_X6_isMet) ∈ gw_tb := gw_tb3 (List.mem_of_getElem? (i := 148) (by decide +kernel)) rfl
theorem mi_X6_isMet : Cond.instanceMethod (gw_mY M_X6_isMet) ∈ gw_tb := gw_tb3 (List.mem_of_getElem? (i := 146) (by decide +kernel)) rfl
theorem ms_X6_isMet : Cond.selects RX6 (gw_mY M_X6_isMet) (gw_mY M_X6_isMet) ∈ gw_tb := gw_tb3 (List.mem_of_getElem? (i := 147) (by decide +kernel)) rfl
theorem mc_X6_stopsMet : Cond.code (gw_mY M_X6_stopsMet) (gw_mC M_X6_stopsMet) (gw_mL M_X6_stopsMet) (gw_mR M_X6_stopsMet) ∈ gw_tb := gw_tb3 (List.mem_of_getElem? (i := 144) (by decide +kernel)) rfl
theorem mi_X6_stopsMet : Cond.instanceMethod (gw_mY M_X6_stopsMet) ∈ gw_tb := gw_tb3 (List.mem_of_getElem? (i := 142) (by decide +kernel)) rfl
theorem ms_X6_stopsMet : Cond.selects RX6 (gw_mY M_X6_stopsMet) (gw_mY M_X6_stopsMet) ∈ gw_tb := gw_tb3 (List.mem_of_getElem? (i := 143) (by decide +kernel)) rfl
theorem mc_X6_minutesSpoken : Cond.code (gw_mY M_X6_minutesSpoken) (gw_mC M_X6_minutesSpoken) (gw_mL M_X6_minutesSpoken) (gw_mR M_X6_minutesSpoken) ∈ gw_tb := gw_tb4 (List.mem_of_getElem? (i := 39) (by decide +kernel)) rfl
theorem mi_X6_minutesSpoken : Cond.instanceMethod (gw_mY M_X6_minutesSpoken) ∈ gw_tb := gw_tb4 (List.mem_of_getElem? (i := 37) (by decide +kernel)) rfl
theorem ms_X6_minutesSpoken : Cond.selects RX6 (gw_mY M_X6_minutesSpoken) (gw_mY M_X6_minutesSpoken) ∈ gw_tb := gw_tb4 (List.mem_of_getElem? (i := 38) (by decide +kernel)) rfl
theorem mc_X6_valueIfFits : Cond.code (gw_mY M_X6_valueIfFits) (gw_mC M_X6_valueIfFits) (gw_mL M_X6_valueIfFits) (gw_mR M_X6_valueIfFits) ∈ gw_tb := gw_tb4 (List.mem_of_getElem? (i := 72) (by decide +kernel)) rfl
theorem mi_X6_valueIfFits : Cond.instanceMethod (gw_mY M_X6_valueIfFits) ∈ gw_tb := gw_tb4 (List.mem_of_getElem? (i := 70) (by decide +kernel)) rfl
theorem ms_X6_valueIfFits : Cond.selects RX6 (gw_mY M_X6_valueIfFits) (gw_mY M_X6_valueIfFits) ∈ gw_tb := gw_tb4 (List.mem_of_getElem? (i := 71) (by decide +kernel)) rfl
theorem mc_X7_init : Cond.code (gw_mY M_X7_init) (gw_mC M_X7_init) (gw_mL M_X7_init) (gw_mR M_X7_init) ∈ gw_tb := gw_tb2 (List.mem_of_getElem? (i := 122) (by decide +kernel)) rfl
theorem mi_X7_init : Cond.instanceMethod (gw_mY M_X7_init) ∈ gw_tb := gw_tb2 (List.mem_of_getElem? (i := 121) (by decide +kernel)) rfl
theorem mc_X7_renew : Cond.code (gw_mY M_X7_renew) (gw_mC M_X7_renew) (gw_mL M_X7_renew) (gw_mR M_X7_renew) ∈ gw_tb := gw_tb4 (List.mem_of_getElem? (i := 197) (by decide +kernel)) rfl
theorem mi_X7_renew : Cond.instanceMethod (gw_mY M_X7_renew) ∈ gw_tb := gw_tb4 (List.mem_of_getElem? (i := 195) (by decide +kernel)) rfl
theorem ms_X7_renew : Cond.selects RX7 (gw_mY M_X7_renew) (gw_mY M_X7_renew) ∈ gw_tb := gw_tb4 (List.mem_of_getElem? (i := 196) (by decide +kernel)) rfl
theorem mc_X7_refusal : Cond.code (gw_mY M_X7_refusal) (gw_mC M_X7_refusal) (gw_mL M_X7_refusal) (gw_mR M_X7_refusal) ∈ gw_tb := gw_tb4 (List.mem_of_getElem? (i := 169) (by decide +kernel)) rfl
theorem mi_X7_refusal : Cond.instanceMethod (gw_mY M_X7_refusal) ∈ gw_tb := gw_tb4 (List.mem_of_getElem? (i := 167) (by decide +kernel)) rfl
theorem ms_X7_refusal : Cond.selects RX7 (gw_mY M_X7_refusal) (gw_mY M_X7_refusal) ∈ gw_tb := gw_tb4 (List.mem_of_getElem? (i := 168) (by decide +kernel)) rfl
theorem mc_X7_reaches : Cond.code (gw_mY M_X7_reaches) (gw_mC M_X7_reaches) (gw_mL M_X7_reaches) (gw_mR M_X7_reaches) ∈ gw_tb := gw_tb4 (List.mem_of_getElem? (i := 173) (by decide +kernel)) rfl
theorem mi_X7_reaches : Cond.instanceMethod (gw_mY M_X7_reaches) ∈ gw_tb := gw_tb4 (List.mem_of_getElem? (i := 171) (by decide +kernel)) rfl
theorem ms_X7_reaches : Cond.selects RX7 (gw_mY M_X7_reaches) (gw_mY M_X7_reaches) ∈ gw_tb := gw_tb4 (List.mem_of_getElem? (i := 172) (by decide +kernel)) rfl
theorem mc_X7_put : Cond.code (gw_mY M_X7_put) (gw_mC M_X7_put) (gw_mL M_X7_put) (gw_mR M_X7_put) ∈ gw_tb := gw_tb4 (List.mem_of_getElem? (i := 209) (by decide +kernel)) rfl
theorem mi_X7_put : Cond.instanceMethod (gw_mY M_X7_put) ∈ gw_tb := gw_tb4 (List.mem_of_getElem? (i := 207) (by decide +kernel)) rfl
theorem ms_X7_put : Cond.selects RX7 (gw_mY M_X7_put) (gw_mY M_X7_put) ∈ gw_tb := gw_tb4 (List.mem_of_getElem? (i := 208) (by decide +kernel)) rfl
theorem mc_X8_init : Cond.code (gw_mY M_X8_init) (gw_mC M_X8_init) (gw_mL M_X8_init) (gw_mR M_X8_init) ∈ gw_tb := gw_tb1 (List.mem_of_getElem? (i := 109) (by decide +kernel)) rfl
theorem mi_X8_init : Cond.instanceMethod (gw_mY M_X8_init) ∈ gw_tb := gw_tb1 (List.mem_of_getElem? (i := 108) (by decide +kernel)) rfl
theorem mc_X8_survey : Cond.code (gw_mY M_X8_survey) (gw_mC M_X8_survey) (gw_mL M_X8_survey) (gw_mR M_X8_survey) ∈ gw_tb := gw_tb4 (List.mem_of_getElem? (i := 98) (by decide +kernel)) rfl
theorem mi_X8_survey : Cond.instanceMethod (gw_mY M_X8_survey) ∈ gw_tb := gw_tb4 (List.mem_of_getElem? (i := 96) (by decide +kernel)) rfl
theorem ms_X8_survey : Cond.selects RX8 (gw_mY M_X8_survey) (gw_mY M_X8_survey) ∈ gw_tb := gw_tb4 (List.mem_of_getElem? (i := 97) (by decide +kernel)) rfl
theorem mc_X8_findBounds : Cond.code (gw_mY M_X8_findBounds) (gw_mC M_X8_findBounds) (gw_mL M_X8_findBounds) (gw_mR M_X8_findBounds) ∈ gw_tb := gw_tb4 (List.mem_of_getElem? (i := 102) (by decide +kernel)) rfl
theorem mi_X8_findBounds : Cond.instanceMethod (gw_mY M_X8_findBounds) ∈ gw_tb := gw_tb4 (List.mem_of_getElem? (i := 100) (by decide +kernel)) rfl
theorem ms_X8_findBounds : Cond.selects RX8 (gw_mY M_X8_findBounds) (gw_mY M_X8_findBounds) ∈ gw_tb := gw_tb4 (List.mem_of_getElem? (i := 101) (by decide +kernel)) rfl
theorem mc_X8_farthest : Cond.code (gw_mY M_X8_farthest) (gw_mC M_X8_farthest) (gw_mL M_X8_farthest) (gw_mR M_X8_farthest) ∈ gw_tb := gw_tb4 (List.mem_of_getElem? (i := 108) (by decide +kernel)) rfl
theorem mi_X8_farthest : Cond.instanceMethod (gw_mY M_X8_farthest) ∈ gw_tb := gw_tb4 (List.mem_of_getElem? (i := 106) (by decide +kernel)) rfl
theorem ms_X8_farthest : Cond.selects RX8 (gw_mY M_X8_farthest) (gw_mY M_X8_farthest) ∈ gw_tb := gw_tb4 (List.mem_of_getElem? (i := 107) (by decide +kernel)) rfl
theorem mc_X8_isHeardAllAround : Cond.code (gw_mY M_X8_isHeardAllAround) (gw_mC M_X8_isHeardAllAround) (gw_mL M_X8_isHeardAllAround) (gw_mR M_X8_isHeardAllAround) ∈ gw_tb := gw_tb4 (List.mem_of_getElem? (i := 112) (by decide +kernel)) rfl
theorem mi_X8_isHeardAllAround : Cond.instanceMethod (gw_mY M_X8_isHeardAllAround) ∈ gw_tb := gw_tb4 (List.mem_of_getElem? (i := 110) (by decide +kernel)) rfl
theorem ms_X8_isHeardAllAround : Cond.selects RX8 (gw_mY M_X8_isHeardAllAround) (gw_mY M_X8_isHeardAllAround) ∈ gw_tb := gw_tb4 (List.mem_of_getElem? (i := 111) (by decide +kernel)) rfl
theorem mc_X8_isListenerHidden : Cond.code (gw_mY M_X8_isListenerHidden) (gw_mC M_X8_isListenerHidden) (gw_mL M_X8_isListenerHidden) (gw_mR M_X8_isListenerHidden) ∈ gw_tb := gw_tb4 (List.mem_of_getElem? (i := 116) (by decide +kernel)) rfl
theorem mi_X8_isListenerHidden : Cond.instanceMethod (gw_mY M_X8_isListenerHidden) ∈ gw_tb := gw_tb4 (List.mem_of_getElem? (i := 114) (by decide +kernel)) rfl
theorem ms_X8_isListenerHidden : Cond.selects RX8 (gw_mY M_X8_isListenerHidden) (gw_mY M_X8_isListenerHidden) ∈ gw_tb := gw_tb4 (List.mem_of_getElem? (i := 115) (by decide +kernel)) rfl
theorem mc_X9_init : Cond.code (gw_mY M_X9_init) (gw_mC M_X9_init) (gw_mL M_X9_init) (gw_mR M_X9_init) ∈ gw_tb := gw_tb1 (List.mem_of_getElem? (i := 170) (by decide +kernel)) rfl
theorem mi_X9_init : Cond.instanceMethod (gw_mY M_X9_init) ∈ gw_tb := gw_tb1 (List.mem_of_getElem? (i := 169) (by decide +kernel)) rfl
theorem mc_X9_holdsText : Cond.code (gw_mY M_X9_holdsText) (gw_mC M_X9_holdsText) (gw_mL M_X9_holdsText) (gw_mR M_X9_holdsText) ∈ gw_tb := gw_tb3 (List.mem_of_getElem? (i := 15) (by decide +kernel)) rfl
theorem mS_X9_holdsText : Cond.static (gw_mY M_X9_holdsText) ∈ gw_tb := gw_tb3 (List.mem_of_getElem? (i := 14) (by decide +kernel)) rfl
theorem mc_X9_write : Cond.code (gw_mY M_X9_write) (gw_mC M_X9_write) (gw_mL M_X9_write) (gw_mR M_X9_write) ∈ gw_tb := gw_tb3 (List.mem_of_getElem? (i := 21) (by decide +kernel)) rfl
theorem mi_X9_write : Cond.instanceMethod (gw_mY M_X9_write) ∈ gw_tb := gw_tb3 (List.mem_of_getElem? (i := 19) (by decide +kernel)) rfl
theorem ms_X9_write : Cond.selects RX9 (gw_mY M_X9_write) (gw_mY M_X9_write) ∈ gw_tb := gw_tb3 (List.mem_of_getElem? (i := 20) (by decide +kernel)) rfl
theorem mc_X9_readWay : Cond.code (gw_mY M_X9_readWay) (gw_mC M_X9_readWay) (gw_mL M_X9_readWay) (gw_mR M_X9_readWay) ∈ gw_tb := gw_tb3 (List.mem_of_getElem? (i := 29) (by decide +kernel)) rfl
theorem mi_X9_readWay : Cond.instanceMethod (gw_mY M_X9_readWay) ∈ gw_tb := gw_tb3 (List.mem_of_getElem? (i := 27) (by decide +kernel)) rfl
theorem ms_X9_readWay : Cond.selects RX9 (gw_mY M_X9_readWay) (gw_mY M_X9_readWay) ∈ gw_tb := gw_tb3 (List.mem_of_getElem? (i := 28) (by decide +kernel)) rfl
theorem mc_X9_readGroup : Cond.code (gw_mY M_X9_readGroup) (gw_mC M_X9_readGroup) (gw_mL M_X9_readGroup) (gw_mR M_X9_readGroup) ∈ gw_tb := gw_tb3 (List.mem_of_getElem? (i := 124) (by decide +kernel)) rfl
theorem mi_X9_readGroup : Cond.instanceMethod (gw_mY M_X9_readGroup) ∈ gw_tb := gw_tb3 (List.mem_of_getElem? (i := 122) (by decide +kernel)) rfl
theorem ms_X9_readGroup : Cond.selects RX9 (gw_mY M_X9_readGroup) (gw_mY M_X9_readGroup) ∈ gw_tb := gw_tb3 (List.mem_of_getElem? (i := 123) (by decide +kernel)) rfl
theorem mc_X9_readMark : Cond.code (gw_mY M_X9_readMark) (gw_mC M_X9_readMark) (gw_mL M_X9_readMark) (gw_mR M_X9_readMark) ∈ gw_tb := gw_tb3 (List.mem_of_getElem? (i := 37) (by decide +kernel)) rfl
theorem mi_X9_readMark : Cond.instanceMethod (gw_mY M_X9_readMark) ∈ gw_tb := gw_tb3 (List.mem_of_getElem? (i := 35) (by decide +kernel)) rfl
theorem ms_X9_readMark : Cond.selects RX9 (gw_mY M_X9_readMark) (gw_mY M_X9_readMark) ∈ gw_tb := gw_tb3 (List.mem_of_getElem? (i := 36) (by decide +kernel)) rfl
theorem mc_X9_readPerson : Cond.code (gw_mY M_X9_readPerson) (gw_mC M_X9_readPerson) (gw_mL M_X9_readPerson) (gw_mR M_X9_readPerson) ∈ gw_tb := gw_tb3 (List.mem_of_getElem? (i := 128) (by decide +kernel)) rfl
theorem mi_X9_readPerson : Cond.instanceMethod (gw_mY M_X9_readPerson) ∈ gw_tb := gw_tb3 (List.mem_of_getElem? (i := 126) (by decide +kernel)) rfl
theorem ms_X9_readPerson : Cond.selects RX9 (gw_mY M_X9_readPerson) (gw_mY M_X9_readPerson) ∈ gw_tb := gw_tb3 (List.mem_of_getElem? (i := 127) (by decide +kernel)) rfl
theorem mc_X9_readNumber : Cond.code (gw_mY M_X9_readNumber) (gw_mC M_X9_readNumber) (gw_mL M_X9_readNumber) (gw_mR M_X9_readNumber) ∈ gw_tb := gw_tb3 (List.mem_of_getElem? (i := 98) (by decide +kernel)) rfl
theorem mi_X9_readNumber : Cond.instanceMethod (gw_mY M_X9_readNumber) ∈ gw_tb := gw_tb3 (List.mem_of_getElem? (i := 96) (by decide +kernel)) rfl
theorem ms_X9_readNumber : Cond.selects RX9 (gw_mY M_X9_readNumber) (gw_mY M_X9_readNumber) ∈ gw_tb := gw_tb3 (List.mem_of_getElem? (i := 97) (by decide +kernel)) rfl
theorem mc_X9_next : Cond.code (gw_mY M_X9_next) (gw_mC M_X9_next) (gw_mL M_X9_next) (gw_mR M_X9_next) ∈ gw_tb := gw_tb3 (List.mem_of_getElem? (i := 46) (by decide +kernel)) rfl
theorem mi_X9_next : Cond.instanceMethod (gw_mY M_X9_next) ∈ gw_tb := gw_tb3 (List.mem_of_getElem? (i := 44) (by decide +kernel)) rfl
theorem ms_X9_next : Cond.selects RX9 (gw_mY M_X9_next) (gw_mY M_X9_next) ∈ gw_tb := gw_tb3 (List.mem_of_getElem? (i := 45) (by decide +kernel)) rfl
theorem mc_X9_passes : Cond.code (gw_mY M_X9_passes) (gw_mC M_X9_passes) (gw_mL M_X9_passes) (gw_mR M_X9_passes) ∈ gw_tb := gw_tb3 (List.mem_of_getElem? (i := 106) (by decide +kernel)) rfl
theorem mi_X9_passes : Cond.instanceMethod (gw_mY M_X9_passes) ∈ gw_tb := gw_tb3 (List.mem_of_getElem? (i := 104) (by decide +kernel)) rfl
theorem ms_X9_passes : Cond.selects RX9 (gw_mY M_X9_passes) (gw_mY M_X9_passes) ∈ gw_tb := gw_tb3 (List.mem_of_getElem? (i := 105) (by decide +kernel)) rfl
theorem mc_X9_signNumber : Cond.code (gw_mY M_X9_signNumber) (gw_mC M_X9_signNumber) (gw_mL M_X9_signNumber) (gw_mR M_X9_signNumber) ∈ gw_tb := gw_tb3 (List.mem_of_getElem? (i := 42) (by decide +kernel)) rfl
theorem mi_X9_signNumber : Cond.instanceMethod (gw_mY M_X9_signNumber) ∈ gw_tb := gw_tb3 (List.mem_of_getElem? (i := 40) (by decide +kernel)) rfl
theorem ms_X9_signNumber : Cond.selects RX9 (gw_mY M_X9_signNumber) (gw_mY M_X9_signNumber) ∈ gw_tb := gw_tb3 (List.mem_of_getElem? (i := 41) (by decide +kernel)) rfl
theorem mc_X10_init : Cond.code (gw_mY M_X10_init) (gw_mC M_X10_init) (gw_mL M_X10_init) (gw_mR M_X10_init) ∈ gw_tb := gw_tb1 (List.mem_of_getElem? (i := 194) (by decide +kernel)) rfl
theorem mi_X10_init : Cond.instanceMethod (gw_mY M_X10_init) ∈ gw_tb := gw_tb1 (List.mem_of_getElem? (i := 193) (by decide +kernel)) rfl
theorem mc_X10_load : Cond.code (gw_mY M_X10_load) (gw_mC M_X10_load) (gw_mL M_X10_load) (gw_mR M_X10_load) ∈ gw_tb := gw_tb3 (List.mem_of_getElem? (i := 160) (by decide +kernel)) rfl
theorem mi_X10_load : Cond.instanceMethod (gw_mY M_X10_load) ∈ gw_tb := gw_tb3 (List.mem_of_getElem? (i := 158) (by decide +kernel)) rfl
theorem ms_X10_load : Cond.selects RX10 (gw_mY M_X10_load) (gw_mY M_X10_load) ∈ gw_tb := gw_tb3 (List.mem_of_getElem? (i := 159) (by decide +kernel)) rfl
theorem mc_X10_takeRule : Cond.code (gw_mY M_X10_takeRule) (gw_mC M_X10_takeRule) (gw_mL M_X10_takeRule) (gw_mR M_X10_takeRule) ∈ gw_tb := gw_tb4 (List.mem_of_getElem? (i := 43) (by decide +kernel)) rfl
theorem mi_X10_takeRule : Cond.instanceMethod (gw_mY M_X10_takeRule) ∈ gw_tb := gw_tb4 (List.mem_of_getElem? (i := 41) (by decide +kernel)) rfl
theorem ms_X10_takeRule : Cond.selects RX10 (gw_mY M_X10_takeRule) (gw_mY M_X10_takeRule) ∈ gw_tb := gw_tb4 (List.mem_of_getElem? (i := 42) (by decide +kernel)) rfl
theorem mc_X10_start : Cond.code (gw_mY M_X10_start) (gw_mC M_X10_start) (gw_mL M_X10_start) (gw_mR M_X10_start) ∈ gw_tb := gw_tb3 (List.mem_of_getElem? (i := 175) (by decide +kernel)) rfl
theorem mi_X10_start : Cond.instanceMethod (gw_mY M_X10_start) ∈ gw_tb := gw_tb3 (List.mem_of_getElem? (i := 173) (by decide +kernel)) rfl
theorem ms_X10_start : Cond.selects RX10 (gw_mY M_X10_start) (gw_mY M_X10_start) ∈ gw_tb := gw_tb3 (List.mem_of_getElem? (i := 174) (by decide +kernel)) rfl
theorem mc_X10_isOver : Cond.code (gw_mY M_X10_isOver) (gw_mC M_X10_isOver) (gw_mL M_X10_isOver) (gw_mR M_X10_isOver) ∈ gw_tb := gw_tb3 (List.mem_of_getElem? (i := 184) (by decide +kernel)) rfl
theorem mi_X10_isOver : Cond.instanceMethod (gw_mY M_X10_isOver) ∈ gw_tb := gw_tb3 (List.mem_of_getElem? (i := 182) (by decide +kernel)) rfl
theorem ms_X10_isOver : Cond.selects RX10 (gw_mY M_X10_isOver) (gw_mY M_X10_isOver) ∈ gw_tb := gw_tb3 (List.mem_of_getElem? (i := 183) (by decide +kernel)) rfl
theorem mc_X10_live : Cond.code (gw_mY M_X10_live) (gw_mC M_X10_live) (gw_mL M_X10_live) (gw_mR M_X10_live) ∈ gw_tb := gw_tb3 (List.mem_of_getElem? (i := 188) (by decide +kernel)) rfl
theorem mi_X10_live : Cond.instanceMethod (gw_mY M_X10_live) ∈ gw_tb := gw_tb3 (List.mem_of_getElem? (i := 186) (by decide +kernel)) rfl
theorem ms_X10_live : Cond.selects RX10 (gw_mY M_X10_live) (gw_mY M_X10_live) ∈ gw_tb := gw_tb3 (List.mem_of_getElem? (i := 187) (by decide +kernel)) rfl
theorem mc_X10_lead : Cond.code (gw_mY M_X10_lead) (gw_mC M_X10_lead) (gw_mL M_X10_lead) (gw_mR M_X10_lead) ∈ gw_tb := gw_tb3 (List.mem_of_getElem? (i := 192) (by decide +kernel)) rfl
theorem mi_X10_lead : Cond.instanceMethod (gw_mY M_X10_lead) ∈ gw_tb := gw_tb3 (List.mem_of_getElem? (i := 190) (by decide +kernel)) rfl
theorem ms_X10_lead : Cond.selects RX10 (gw_mY M_X10_lead) (gw_mY M_X10_lead) ∈ gw_tb := gw_tb3 (List.mem_of_getElem? (i := 191) (by decide +kernel)) rfl
theorem mc_X10_isAtOpenStop : Cond.code (gw_mY M_X10_isAtOpenStop) (gw_mC M_X10_isAtOpenStop) (gw_mL M_X10_isAtOpenStop) (gw_mR M_X10_isAtOpenStop) ∈ gw_tb := gw_tb3 (List.mem_of_getElem? (i := 196) (by decide +kernel)) rfl
theorem mi_X10_isAtOpenStop : Cond.instanceMethod (gw_mY M_X10_isAtOpenStop) ∈ gw_tb := gw_tb3 (List.mem_of_getElem? (i := 194) (by decide +kernel)) rfl
theorem ms_X10_isAtOpenStop : Cond.selects RX10 (gw_mY M_X10_isAtOpenStop) (gw_mY M_X10_isAtOpenStop) ∈ gw_tb := gw_tb3 (List.mem_of_getElem? (i := 195) (by decide +kernel)) rfl
theorem mc_X10_isKept : Cond.code (gw_mY M_X10_isKept) (gw_mC M_X10_isKept) (gw_mL M_X10_isKept) (gw_mR M_X10_isKept) ∈ gw_tb := gw_tb3 (List.mem_of_getElem? (i := 200) (by decide +kernel)) rfl
theorem mi_X10_isKept : Cond.instanceMethod (gw_mY M_X10_isKept) ∈ gw_tb := gw_tb3 (List.mem_of_getElem? (i := 198) (by decide +kernel)) rfl
theorem ms_X10_isKept : Cond.selects RX10 (gw_mY M_X10_isKept) (gw_mY M_X10_isKept) ∈ gw_tb := gw_tb3 (List.mem_of_getElem? (i := 199) (by decide +kernel)) rfl
theorem mc_X10_isToBegin : Cond.code (gw_mY M_X10_isToBegin) (gw_mC M_X10_isToBegin) (gw_mL M_X10_isToBegin) (gw_mR M_X10_isToBegin) ∈ gw_tb := gw_tb3 (List.mem_of_getElem? (i := 204) (by decide +kernel)) rfl
theorem mi_X10_isToBegin : Cond.instanceMethod (gw_mY M_X10_isToBegin) ∈ gw_tb := gw_tb3 (List.mem_of_getElem? (i := 202) (by decide +kernel)) rfl
theorem ms_X10_isToBegin : Cond.selects RX10 (gw_mY M_X10_isToBegin) (gw_mY M_X10_isToBegin) ∈ gw_tb := gw_tb3 (List.mem_of_getElem? (i := 203) (by decide +kernel)) rfl
theorem mc_X10_speak : Cond.code (gw_mY M_X10_speak) (gw_mC M_X10_speak) (gw_mL M_X10_speak) (gw_mR M_X10_speak) ∈ gw_tb := gw_tb3 (List.mem_of_getElem? (i := 208) (by decide +kernel)) rfl
theorem mi_X10_speak : Cond.instanceMethod (gw_mY M_X10_speak) ∈ gw_tb := gw_tb3 (List.mem_of_getElem? (i := 206) (by decide +kernel)) rfl
theorem ms_X10_speak : Cond.selects RX10 (gw_mY M_X10_speak) (gw_mY M_X10_speak) ∈ gw_tb := gw_tb3 (List.mem_of_getElem? (i := 207) (by decide +kernel)) rfl
theorem mc_X10_follow : Cond.code (gw_mY M_X10_follow) (gw_mC M_X10_follow) (gw_mL M_X10_follow) (gw_mR M_X10_follow) ∈ gw_tb := gw_tb3 (List.mem_of_getElem? (i := 216) (by decide +kernel)) rfl
theorem mi_X10_follow : Cond.instanceMethod (gw_mY M_X10_follow) ∈ gw_tb := gw_tb3 (List.mem_of_getElem? (i := 214) (by decide +kernel)) rfl
theorem ms_X10_follow : Cond.selects RX10 (gw_mY M_X10_follow) (gw_mY M_X10_follow) ∈ gw_tb := gw_tb3 (List.mem_of_getElem? (i := 215) (by decide +kernel)) rfl
theorem mc_X10_lastBeside : Cond.code (gw_mY M_X10_lastBeside) (gw_mC M_X10_lastBeside) (gw_mL M_X10_lastBeside) (gw_mR M_X10_lastBeside) ∈ gw_tb := gw_tb3 (List.mem_of_getElem? (i := 220) (by decide +kernel)) rfl
theorem mi_X10_lastBeside : Cond.instanceMethod (gw_mY M_X10_lastBeside) ∈ gw_tb := gw_tb3 (List.mem_of_getElem? (i := 218) (by decide +kernel)) rfl
theorem ms_X10_lastBeside : Cond.selects RX10 (gw_mY M_X10_lastBeside) (gw_mY M_X10_lastBeside) ∈ gw_tb := gw_tb3 (List.mem_of_getElem? (i := 219) (by decide +kernel)) rfl
theorem mc_X10_losesItsWay : Cond.code (gw_mY M_X10_losesItsWay) (gw_mC M_X10_losesItsWay) (gw_mL M_X10_losesItsWay) (gw_mR M_X10_losesItsWay) ∈ gw_tb := gw_tb3 (List.mem_of_getElem? (i := 225) (by decide +kernel)) rfl
theorem mi_X10_losesItsWay : Cond.instanceMethod (gw_mY M_X10_losesItsWay) ∈ gw_tb := gw_tb3 (List.mem_of_getElem? (i := 223) (by decide +kernel)) rfl
theorem ms_X10_losesItsWay : Cond.selects RX10 (gw_mY M_X10_losesItsWay) (gw_mY M_X10_losesItsWay) ∈ gw_tb := gw_tb3 (List.mem_of_getElem? (i := 224) (by decide +kernel)) rfl
theorem mc_X10_closeMinute : Cond.code (gw_mY M_X10_closeMinute) (gw_mC M_X10_closeMinute) (gw_mL M_X10_closeMinute) (gw_mR M_X10_closeMinute) ∈ gw_tb := gw_tb3 (List.mem_of_getElem? (i := 229) (by decide +kernel)) rfl
theorem mi_X10_closeMinute : Cond.instanceMethod (gw_mY M_X10_closeMinute) ∈ gw_tb := gw_tb3 (List.mem_of_getElem? (i := 227) (by decide +kernel)) rfl
theorem ms_X10_closeMinute : Cond.selects RX10 (gw_mY M_X10_closeMinute) (gw_mY M_X10_closeMinute) ∈ gw_tb := gw_tb3 (List.mem_of_getElem? (i := 228) (by decide +kernel)) rfl
theorem mc_X10_out : Cond.code (gw_mY M_X10_out) (gw_mC M_X10_out) (gw_mL M_X10_out) (gw_mR M_X10_out) ∈ gw_tb := gw_tb3 (List.mem_of_getElem? (i := 233) (by decide +kernel)) rfl
theorem mi_X10_out : Cond.instanceMethod (gw_mY M_X10_out) ∈ gw_tb := gw_tb3 (List.mem_of_getElem? (i := 231) (by decide +kernel)) rfl
theorem ms_X10_out : Cond.selects RX10 (gw_mY M_X10_out) (gw_mY M_X10_out) ∈ gw_tb := gw_tb3 (List.mem_of_getElem? (i := 232) (by decide +kernel)) rfl
theorem mc_X10_leastHeardInTime : Cond.code (gw_mY M_X10_leastHeardInTime) (gw_mC M_X10_leastHeardInTime) (gw_mL M_X10_leastHeardInTime) (gw_mR M_X10_leastHeardInTime) ∈ gw_tb := gw_tb4 (List.mem_of_getElem? (i := 47) (by decide +kernel)) rfl
theorem mi_X10_leastHeardInTime : Cond.instanceMethod (gw_mY M_X10_leastHeardInTime) ∈ gw_tb := gw_tb4 (List.mem_of_getElem? (i := 45) (by decide +kernel)) rfl
theorem ms_X10_leastHeardInTime : Cond.selects RX10 (gw_mY M_X10_leastHeardInTime) (gw_mY M_X10_leastHeardInTime) ∈ gw_tb := gw_tb4 (List.mem_of_getElem? (i := 46) (by decide +kernel)) rfl
theorem mc_X10_heardTogether : Cond.code (gw_mY M_X10_heardTogether) (gw_mC M_X10_heardTogether) (gw_mL M_X10_heardTogether) (gw_mR M_X10_heardTogether) ∈ gw_tb := gw_tb4 (List.mem_of_getElem? (i := 15) (by decide +kernel)) rfl
theorem mi_X10_heardTogether : Cond.instanceMethod (gw_mY M_X10_heardTogether) ∈ gw_tb := gw_tb4 (List.mem_of_getElem? (i := 13) (by decide +kernel)) rfl
theorem ms_X10_heardTogether : Cond.selects RX10 (gw_mY M_X10_heardTogether) (gw_mY M_X10_heardTogether) ∈ gw_tb := gw_tb4 (List.mem_of_getElem? (i := 14) (by decide +kernel)) rfl
theorem mc_X10_leastHeard : Cond.code (gw_mY M_X10_leastHeard) (gw_mC M_X10_leastHeard) (gw_mL M_X10_leastHeard) (gw_mR M_X10_leastHeard) ∈ gw_tb := gw_tb4 (List.mem_of_getElem? (i := 19) (by decide +kernel)) rfl
theorem mi_X10_leastHeard : Cond.instanceMethod (gw_mY M_X10_leastHeard) ∈ gw_tb := gw_tb4 (List.mem_of_getElem? (i := 17) (by decide +kernel)) rfl
theorem ms_X10_leastHeard : Cond.selects RX10 (gw_mY M_X10_leastHeard) (gw_mY M_X10_leastHeard) ∈ gw_tb := gw_tb4 (List.mem_of_getElem? (i := 18) (by decide +kernel)) rfl
theorem mc_X10_allThere : Cond.code (gw_mY M_X10_allThere) (gw_mC M_X10_allThere) (gw_mL M_X10_allThere) (gw_mR M_X10_allThere) ∈ gw_tb := gw_tb4 (List.mem_of_getElem? (i := 23) (by decide +kernel)) rfl
theorem mi_X10_allThere : Cond.instanceMethod (gw_mY M_X10_allThere) ∈ gw_tb := gw_tb4 (List.mem_of_getElem? (i := 21) (by decide +kernel)) rfl
theorem ms_X10_allThere : Cond.selects RX10 (gw_mY M_X10_allThere) (gw_mY M_X10_allThere) ∈ gw_tb := gw_tb4 (List.mem_of_getElem? (i := 22) (by decide +kernel)) rfl
theorem mc_X10_lostSet : Cond.code (gw_mY M_X10_lostSet) (gw_mC M_X10_lostSet) (gw_mL M_X10_lostSet) (gw_mR M_X10_lostSet) ∈ gw_tb := gw_tb4 (List.mem_of_getElem? (i := 27) (by decide +kernel)) rfl
theorem mi_X10_lostSet : Cond.instanceMethod (gw_mY M_X10_lostSet) ∈ gw_tb := gw_tb4 (List.mem_of_getElem? (i := 25) (by decide +kernel)) rfl
theorem ms_X10_lostSet : Cond.selects RX10 (gw_mY M_X10_lostSet) (gw_mY M_X10_lostSet) ∈ gw_tb := gw_tb4 (List.mem_of_getElem? (i := 26) (by decide +kernel)) rfl
theorem mc_X11_init : Cond.code (gw_mY M_X11_init) (gw_mC M_X11_init) (gw_mL M_X11_init) (gw_mR M_X11_init) ∈ gw_tb := gw_tb1 (List.mem_of_getElem? (i := 24) (by decide +kernel)) rfl
theorem mi_X11_init : Cond.instanceMethod (gw_mY M_X11_init) ∈ gw_tb := gw_tb1 (List.mem_of_getElem? (i := 23) (by decide +kernel)) rfl
theorem mc_X11_end : Cond.code (gw_mY M_X11_end) (gw_mC M_X11_end) (gw_mL M_X11_end) (gw_mR M_X11_end) ∈ gw_tb := gw_tb2 (List.mem_of_getElem? (i := 189) (by decide +kernel)) rfl
theorem mi_X11_end : Cond.instanceMethod (gw_mY M_X11_end) ∈ gw_tb := gw_tb2 (List.mem_of_getElem? (i := 187) (by decide +kernel)) rfl
theorem ms_X11_end : Cond.selects RX11 (gw_mY M_X11_end) (gw_mY M_X11_end) ∈ gw_tb := gw_tb2 (List.mem_of_getElem? (i := 188) (by decide +kernel)) rfl
theorem mc_X11_mark : Cond.code (gw_mY M_X11_mark) (gw_mC M_X11_mark) (gw_mL M_X11_mark) (gw_mR M_X11_mark) ∈ gw_tb := gw_tb2 (List.mem_of_getElem? (i := 200) (by decide +kernel)) rfl
theorem mi_X11_mark : Cond.instanceMethod (gw_mY M_X11_mark) ∈ gw_tb := gw_tb2 (List.mem_of_getElem? (i := 198) (by decide +kernel)) rfl
theorem ms_X11_mark : Cond.selects RX11 (gw_mY M_X11_mark) (gw_mY M_X11_mark) ∈ gw_tb := gw_tb2 (List.mem_of_getElem? (i := 199) (by decide +kernel)) rfl
theorem mc_X11_told : Cond.code (gw_mY M_X11_told) (gw_mC M_X11_told) (gw_mL M_X11_told) (gw_mR M_X11_told) ∈ gw_tb := gw_tb2 (List.mem_of_getElem? (i := 216) (by decide +kernel)) rfl
theorem mi_X11_told : Cond.instanceMethod (gw_mY M_X11_told) ∈ gw_tb := gw_tb2 (List.mem_of_getElem? (i := 214) (by decide +kernel)) rfl
theorem ms_X11_told : Cond.selects RX11 (gw_mY M_X11_told) (gw_mY M_X11_told) ∈ gw_tb := gw_tb2 (List.mem_of_getElem? (i := 215) (by decide +kernel)) rfl
theorem mc_X11_value : Cond.code (gw_mY M_X11_value) (gw_mC M_X11_value) (gw_mL M_X11_value) (gw_mR M_X11_value) ∈ gw_tb := gw_tb2 (List.mem_of_getElem? (i := 220) (by decide +kernel)) rfl
theorem mi_X11_value : Cond.instanceMethod (gw_mY M_X11_value) ∈ gw_tb := gw_tb2 (List.mem_of_getElem? (i := 218) (by decide +kernel)) rfl
theorem ms_X11_value : Cond.selects RX11 (gw_mY M_X11_value) (gw_mY M_X11_value) ∈ gw_tb := gw_tb2 (List.mem_of_getElem? (i := 219) (by decide +kernel)) rfl
theorem mc_X11_person : Cond.code (gw_mY M_X11_person) (gw_mC M_X11_person) (gw_mL M_X11_person) (gw_mR M_X11_person) ∈ gw_tb := gw_tb2 (List.mem_of_getElem? (i := 224) (by decide +kernel)) rfl
theorem mi_X11_person : Cond.instanceMethod (gw_mY M_X11_person) ∈ gw_tb := gw_tb2 (List.mem_of_getElem? (i := 222) (by decide +kernel)) rfl
theorem ms_X11_person : Cond.selects RX11 (gw_mY M_X11_person) (gw_mY M_X11_person) ∈ gw_tb := gw_tb2 (List.mem_of_getElem? (i := 223) (by decide +kernel)) rfl
theorem mc_X11_of : Cond.code (gw_mY M_X11_of) (gw_mC M_X11_of) (gw_mL M_X11_of) (gw_mR M_X11_of) ∈ gw_tb := gw_tb2 (List.mem_of_getElem? (i := 236) (by decide +kernel)) rfl
theorem mi_X11_of : Cond.instanceMethod (gw_mY M_X11_of) ∈ gw_tb := gw_tb2 (List.mem_of_getElem? (i := 234) (by decide +kernel)) rfl
theorem ms_X11_of : Cond.selects RX11 (gw_mY M_X11_of) (gw_mY M_X11_of) ∈ gw_tb := gw_tb2 (List.mem_of_getElem? (i := 235) (by decide +kernel)) rfl
theorem mc_X11_rule : Cond.code (gw_mY M_X11_rule) (gw_mC M_X11_rule) (gw_mL M_X11_rule) (gw_mR M_X11_rule) ∈ gw_tb := gw_tb3 (List.mem_of_getElem? (i := 4) (by decide +kernel)) rfl
theorem mi_X11_rule : Cond.instanceMethod (gw_mY M_X11_rule) ∈ gw_tb := gw_tb3 (List.mem_of_getElem? (i := 2) (by decide +kernel)) rfl
theorem ms_X11_rule : Cond.selects RX11 (gw_mY M_X11_rule) (gw_mY M_X11_rule) ∈ gw_tb := gw_tb3 (List.mem_of_getElem? (i := 3) (by decide +kernel)) rfl
theorem mc_X11_type : Cond.code (gw_mY M_X11_type) (gw_mC M_X11_type) (gw_mL M_X11_type) (gw_mR M_X11_type) ∈ gw_tb := gw_tb3 (List.mem_of_getElem? (i := 12) (by decide +kernel)) rfl
theorem mi_X11_type : Cond.instanceMethod (gw_mY M_X11_type) ∈ gw_tb := gw_tb3 (List.mem_of_getElem? (i := 10) (by decide +kernel)) rfl
theorem ms_X11_type : Cond.selects RX11 (gw_mY M_X11_type) (gw_mY M_X11_type) ∈ gw_tb := gw_tb3 (List.mem_of_getElem? (i := 11) (by decide +kernel)) rfl
theorem mc_X11_way : Cond.code (gw_mY M_X11_way) (gw_mC M_X11_way) (gw_mL M_X11_way) (gw_mR M_X11_way) ∈ gw_tb := gw_tb3 (List.mem_of_getElem? (i := 25) (by decide +kernel)) rfl
theorem mi_X11_way : Cond.instanceMethod (gw_mY M_X11_way) ∈ gw_tb := gw_tb3 (List.mem_of_getElem? (i := 23) (by decide +kernel)) rfl
theorem ms_X11_way : Cond.selects RX11 (gw_mY M_X11_way) (gw_mY M_X11_way) ∈ gw_tb := gw_tb3 (List.mem_of_getElem? (i := 24) (by decide +kernel)) rfl
theorem mc_X11_group : Cond.code (gw_mY M_X11_group) (gw_mC M_X11_group) (gw_mL M_X11_group) (gw_mR M_X11_group) ∈ gw_tb := gw_tb3 (List.mem_of_getElem? (i := 120) (by decide +kernel)) rfl
theorem mi_X11_group : Cond.instanceMethod (gw_mY M_X11_group) ∈ gw_tb := gw_tb3 (List.mem_of_getElem? (i := 118) (by decide +kernel)) rfl
theorem ms_X11_group : Cond.selects RX11 (gw_mY M_X11_group) (gw_mY M_X11_group) ∈ gw_tb := gw_tb3 (List.mem_of_getElem? (i := 119) (by decide +kernel)) rfl
theorem mc_X11_count : Cond.code (gw_mY M_X11_count) (gw_mC M_X11_count) (gw_mL M_X11_count) (gw_mR M_X11_count) ∈ gw_tb := gw_tb3 (List.mem_of_getElem? (i := 140) (by decide +kernel)) rfl
theorem mi_X11_count : Cond.instanceMethod (gw_mY M_X11_count) ∈ gw_tb := gw_tb3 (List.mem_of_getElem? (i := 138) (by decide +kernel)) rfl
theorem ms_X11_count : Cond.selects RX11 (gw_mY M_X11_count) (gw_mY M_X11_count) ∈ gw_tb := gw_tb3 (List.mem_of_getElem? (i := 139) (by decide +kernel)) rfl
theorem mc_X11_fate : Cond.code (gw_mY M_X11_fate) (gw_mC M_X11_fate) (gw_mL M_X11_fate) (gw_mR M_X11_fate) ∈ gw_tb := gw_tb3 (List.mem_of_getElem? (i := 152) (by decide +kernel)) rfl
theorem mi_X11_fate : Cond.instanceMethod (gw_mY M_X11_fate) ∈ gw_tb := gw_tb3 (List.mem_of_getElem? (i := 150) (by decide +kernel)) rfl
theorem ms_X11_fate : Cond.selects RX11 (gw_mY M_X11_fate) (gw_mY M_X11_fate) ∈ gw_tb := gw_tb3 (List.mem_of_getElem? (i := 151) (by decide +kernel)) rfl
theorem mc_X11_at : Cond.code (gw_mY M_X11_at) (gw_mC M_X11_at) (gw_mL M_X11_at) (gw_mR M_X11_at) ∈ gw_tb := gw_tb4 (List.mem_of_getElem? (i := 5) (by decide +kernel)) rfl
theorem mi_X11_at : Cond.instanceMethod (gw_mY M_X11_at) ∈ gw_tb := gw_tb4 (List.mem_of_getElem? (i := 3) (by decide +kernel)) rfl
theorem ms_X11_at : Cond.selects RX11 (gw_mY M_X11_at) (gw_mY M_X11_at) ∈ gw_tb := gw_tb4 (List.mem_of_getElem? (i := 4) (by decide +kernel)) rfl
theorem mc_X11_all : Cond.code (gw_mY M_X11_all) (gw_mC M_X11_all) (gw_mL M_X11_all) (gw_mR M_X11_all) ∈ gw_tb := gw_tb4 (List.mem_of_getElem? (i := 11) (by decide +kernel)) rfl
theorem mi_X11_all : Cond.instanceMethod (gw_mY M_X11_all) ∈ gw_tb := gw_tb4 (List.mem_of_getElem? (i := 9) (by decide +kernel)) rfl
theorem ms_X11_all : Cond.selects RX11 (gw_mY M_X11_all) (gw_mY M_X11_all) ∈ gw_tb := gw_tb4 (List.mem_of_getElem? (i := 10) (by decide +kernel)) rfl
theorem mc_X11_best : Cond.code (gw_mY M_X11_best) (gw_mC M_X11_best) (gw_mL M_X11_best) (gw_mR M_X11_best) ∈ gw_tb := gw_tb4 (List.mem_of_getElem? (i := 31) (by decide +kernel)) rfl
theorem mi_X11_best : Cond.instanceMethod (gw_mY M_X11_best) ∈ gw_tb := gw_tb4 (List.mem_of_getElem? (i := 29) (by decide +kernel)) rfl
theorem ms_X11_best : Cond.selects RX11 (gw_mY M_X11_best) (gw_mY M_X11_best) ∈ gw_tb := gw_tb4 (List.mem_of_getElem? (i := 30) (by decide +kernel)) rfl
theorem mc_X11_worth : Cond.code (gw_mY M_X11_worth) (gw_mC M_X11_worth) (gw_mL M_X11_worth) (gw_mR M_X11_worth) ∈ gw_tb := gw_tb4 (List.mem_of_getElem? (i := 59) (by decide +kernel)) rfl
theorem mi_X11_worth : Cond.instanceMethod (gw_mY M_X11_worth) ∈ gw_tb := gw_tb4 (List.mem_of_getElem? (i := 57) (by decide +kernel)) rfl
theorem ms_X11_worth : Cond.selects RX11 (gw_mY M_X11_worth) (gw_mY M_X11_worth) ∈ gw_tb := gw_tb4 (List.mem_of_getElem? (i := 58) (by decide +kernel)) rfl
theorem mc_X11_chosen : Cond.code (gw_mY M_X11_chosen) (gw_mC M_X11_chosen) (gw_mL M_X11_chosen) (gw_mR M_X11_chosen) ∈ gw_tb := gw_tb4 (List.mem_of_getElem? (i := 65) (by decide +kernel)) rfl
theorem mi_X11_chosen : Cond.instanceMethod (gw_mY M_X11_chosen) ∈ gw_tb := gw_tb4 (List.mem_of_getElem? (i := 63) (by decide +kernel)) rfl
theorem ms_X11_chosen : Cond.selects RX11 (gw_mY M_X11_chosen) (gw_mY M_X11_chosen) ∈ gw_tb := gw_tb4 (List.mem_of_getElem? (i := 64) (by decide +kernel)) rfl
theorem mc_X11_counted : Cond.code (gw_mY M_X11_counted) (gw_mC M_X11_counted) (gw_mL M_X11_counted) (gw_mR M_X11_counted) ∈ gw_tb := gw_tb4 (List.mem_of_getElem? (i := 76) (by decide +kernel)) rfl
theorem mi_X11_counted : Cond.instanceMethod (gw_mY M_X11_counted) ∈ gw_tb := gw_tb4 (List.mem_of_getElem? (i := 74) (by decide +kernel)) rfl
theorem ms_X11_counted : Cond.selects RX11 (gw_mY M_X11_counted) (gw_mY M_X11_counted) ∈ gw_tb := gw_tb4 (List.mem_of_getElem? (i := 75) (by decide +kernel)) rfl
theorem mc_X11_often : Cond.code (gw_mY M_X11_often) (gw_mC M_X11_often) (gw_mL M_X11_often) (gw_mR M_X11_often) ∈ gw_tb := gw_tb4 (List.mem_of_getElem? (i := 86) (by decide +kernel)) rfl
theorem mi_X11_often : Cond.instanceMethod (gw_mY M_X11_often) ∈ gw_tb := gw_tb4 (List.mem_of_getElem? (i := 84) (by decide +kernel)) rfl
theorem ms_X11_often : Cond.selects RX11 (gw_mY M_X11_often) (gw_mY M_X11_often) ∈ gw_tb := gw_tb4 (List.mem_of_getElem? (i := 85) (by decide +kernel)) rfl
theorem mc_X11_square : Cond.code (gw_mY M_X11_square) (gw_mC M_X11_square) (gw_mL M_X11_square) (gw_mR M_X11_square) ∈ gw_tb := gw_tb4 (List.mem_of_getElem? (i := 90) (by decide +kernel)) rfl
theorem mi_X11_square : Cond.instanceMethod (gw_mY M_X11_square) ∈ gw_tb := gw_tb4 (List.mem_of_getElem? (i := 88) (by decide +kernel)) rfl
theorem ms_X11_square : Cond.selects RX11 (gw_mY M_X11_square) (gw_mY M_X11_square) ∈ gw_tb := gw_tb4 (List.mem_of_getElem? (i := 89) (by decide +kernel)) rfl
theorem mc_X11_stand : Cond.code (gw_mY M_X11_stand) (gw_mC M_X11_stand) (gw_mL M_X11_stand) (gw_mR M_X11_stand) ∈ gw_tb := gw_tb4 (List.mem_of_getElem? (i := 94) (by decide +kernel)) rfl
theorem mi_X11_stand : Cond.instanceMethod (gw_mY M_X11_stand) ∈ gw_tb := gw_tb4 (List.mem_of_getElem? (i := 92) (by decide +kernel)) rfl
theorem ms_X11_stand : Cond.selects RX11 (gw_mY M_X11_stand) (gw_mY M_X11_stand) ∈ gw_tb := gw_tb4 (List.mem_of_getElem? (i := 93) (by decide +kernel)) rfl
theorem mc_X11_colours : Cond.code (gw_mY M_X11_colours) (gw_mC M_X11_colours) (gw_mL M_X11_colours) (gw_mR M_X11_colours) ∈ gw_tb := gw_tb4 (List.mem_of_getElem? (i := 121) (by decide +kernel)) rfl
theorem mi_X11_colours : Cond.instanceMethod (gw_mY M_X11_colours) ∈ gw_tb := gw_tb4 (List.mem_of_getElem? (i := 119) (by decide +kernel)) rfl
theorem ms_X11_colours : Cond.selects RX11 (gw_mY M_X11_colours) (gw_mY M_X11_colours) ∈ gw_tb := gw_tb4 (List.mem_of_getElem? (i := 120) (by decide +kernel)) rfl
theorem mc_X11_image : Cond.code (gw_mY M_X11_image) (gw_mC M_X11_image) (gw_mL M_X11_image) (gw_mR M_X11_image) ∈ gw_tb := gw_tb4 (List.mem_of_getElem? (i := 144) (by decide +kernel)) rfl
theorem mi_X11_image : Cond.instanceMethod (gw_mY M_X11_image) ∈ gw_tb := gw_tb4 (List.mem_of_getElem? (i := 142) (by decide +kernel)) rfl
theorem ms_X11_image : Cond.selects RX11 (gw_mY M_X11_image) (gw_mY M_X11_image) ∈ gw_tb := gw_tb4 (List.mem_of_getElem? (i := 143) (by decide +kernel)) rfl
theorem mc_X11_restore : Cond.code (gw_mY M_X11_restore) (gw_mC M_X11_restore) (gw_mL M_X11_restore) (gw_mR M_X11_restore) ∈ gw_tb := gw_tb4 (List.mem_of_getElem? (i := 155) (by decide +kernel)) rfl
theorem mi_X11_restore : Cond.instanceMethod (gw_mY M_X11_restore) ∈ gw_tb := gw_tb4 (List.mem_of_getElem? (i := 153) (by decide +kernel)) rfl
theorem ms_X11_restore : Cond.selects RX11 (gw_mY M_X11_restore) (gw_mY M_X11_restore) ∈ gw_tb := gw_tb4 (List.mem_of_getElem? (i := 154) (by decide +kernel)) rfl
theorem mc_X11_slots : Cond.code (gw_mY M_X11_slots) (gw_mC M_X11_slots) (gw_mL M_X11_slots) (gw_mR M_X11_slots) ∈ gw_tb := gw_tb4 (List.mem_of_getElem? (i := 159) (by decide +kernel)) rfl
theorem mi_X11_slots : Cond.instanceMethod (gw_mY M_X11_slots) ∈ gw_tb := gw_tb4 (List.mem_of_getElem? (i := 157) (by decide +kernel)) rfl
theorem ms_X11_slots : Cond.selects RX11 (gw_mY M_X11_slots) (gw_mY M_X11_slots) ∈ gw_tb := gw_tb4 (List.mem_of_getElem? (i := 158) (by decide +kernel)) rfl
theorem mc_X11_sheet : Cond.code (gw_mY M_X11_sheet) (gw_mC M_X11_sheet) (gw_mL M_X11_sheet) (gw_mR M_X11_sheet) ∈ gw_tb := gw_tb4 (List.mem_of_getElem? (i := 193) (by decide +kernel)) rfl
theorem mi_X11_sheet : Cond.instanceMethod (gw_mY M_X11_sheet) ∈ gw_tb := gw_tb4 (List.mem_of_getElem? (i := 191) (by decide +kernel)) rfl
theorem ms_X11_sheet : Cond.selects RX11 (gw_mY M_X11_sheet) (gw_mY M_X11_sheet) ∈ gw_tb := gw_tb4 (List.mem_of_getElem? (i := 192) (by decide +kernel)) rfl
theorem mc_X11_drop : Cond.code (gw_mY M_X11_drop) (gw_mC M_X11_drop) (gw_mL M_X11_drop) (gw_mR M_X11_drop) ∈ gw_tb := gw_tb4 (List.mem_of_getElem? (i := 201) (by decide +kernel)) rfl
theorem mi_X11_drop : Cond.instanceMethod (gw_mY M_X11_drop) ∈ gw_tb := gw_tb4 (List.mem_of_getElem? (i := 199) (by decide +kernel)) rfl
theorem ms_X11_drop : Cond.selects RX11 (gw_mY M_X11_drop) (gw_mY M_X11_drop) ∈ gw_tb := gw_tb4 (List.mem_of_getElem? (i := 200) (by decide +kernel)) rfl
theorem mc_X11_item : Cond.code (gw_mY M_X11_item) (gw_mC M_X11_item) (gw_mL M_X11_item) (gw_mR M_X11_item) ∈ gw_tb := gw_tb4 (List.mem_of_getElem? (i := 205) (by decide +kernel)) rfl
theorem mi_X11_item : Cond.instanceMethod (gw_mY M_X11_item) ∈ gw_tb := gw_tb4 (List.mem_of_getElem? (i := 203) (by decide +kernel)) rfl
theorem ms_X11_item : Cond.selects RX11 (gw_mY M_X11_item) (gw_mY M_X11_item) ∈ gw_tb := gw_tb4 (List.mem_of_getElem? (i := 204) (by decide +kernel)) rfl
theorem mc_X11_copy : Cond.code (gw_mY M_X11_copy) (gw_mC M_X11_copy) (gw_mL M_X11_copy) (gw_mR M_X11_copy) ∈ gw_tb := gw_tb4 (List.mem_of_getElem? (i := 213) (by decide +kernel)) rfl
theorem mi_X11_copy : Cond.instanceMethod (gw_mY M_X11_copy) ∈ gw_tb := gw_tb4 (List.mem_of_getElem? (i := 211) (by decide +kernel)) rfl
theorem ms_X11_copy : Cond.selects RX11 (gw_mY M_X11_copy) (gw_mY M_X11_copy) ∈ gw_tb := gw_tb4 (List.mem_of_getElem? (i := 212) (by decide +kernel)) rfl
theorem mc_X11_within : Cond.code (gw_mY M_X11_within) (gw_mC M_X11_within) (gw_mL M_X11_within) (gw_mR M_X11_within) ∈ gw_tb := gw_tb2 (List.mem_of_getElem? (i := 192) (by decide +kernel)) rfl
theorem mS_X11_within : Cond.static (gw_mY M_X11_within) ∈ gw_tb := gw_tb2 (List.mem_of_getElem? (i := 191) (by decide +kernel)) rfl
theorem mc_X11_cutUp : Cond.code (gw_mY M_X11_cutUp) (gw_mC M_X11_cutUp) (gw_mL M_X11_cutUp) (gw_mR M_X11_cutUp) ∈ gw_tb := gw_tb4 (List.mem_of_getElem? (i := 68) (by decide +kernel)) rfl
theorem mS_X11_cutUp : Cond.static (gw_mY M_X11_cutUp) ∈ gw_tb := gw_tb4 (List.mem_of_getElem? (i := 67) (by decide +kernel)) rfl
theorem mc_X11_isSheet : Cond.code (gw_mY M_X11_isSheet) (gw_mC M_X11_isSheet) (gw_mL M_X11_isSheet) (gw_mR M_X11_isSheet) ∈ gw_tb := gw_tb4 (List.mem_of_getElem? (i := 162) (by decide +kernel)) rfl
theorem mS_X11_isSheet : Cond.static (gw_mY M_X11_isSheet) ∈ gw_tb := gw_tb4 (List.mem_of_getElem? (i := 161) (by decide +kernel)) rfl
theorem mc_X11_isLane : Cond.code (gw_mY M_X11_isLane) (gw_mC M_X11_isLane) (gw_mL M_X11_isLane) (gw_mR M_X11_isLane) ∈ gw_tb := gw_tb4 (List.mem_of_getElem? (i := 165) (by decide +kernel)) rfl
theorem mS_X11_isLane : Cond.static (gw_mY M_X11_isLane) ∈ gw_tb := gw_tb4 (List.mem_of_getElem? (i := 164) (by decide +kernel)) rfl
theorem mc_X11_areCosts : Cond.code (gw_mY M_X11_areCosts) (gw_mC M_X11_areCosts) (gw_mL M_X11_areCosts) (gw_mR M_X11_areCosts) ∈ gw_tb := gw_tb4 (List.mem_of_getElem? (i := 79) (by decide +kernel)) rfl
theorem mS_X11_areCosts : Cond.static (gw_mY M_X11_areCosts) ∈ gw_tb := gw_tb4 (List.mem_of_getElem? (i := 78) (by decide +kernel)) rfl
theorem mc_X11_arePairs : Cond.code (gw_mY M_X11_arePairs) (gw_mC M_X11_arePairs) (gw_mL M_X11_arePairs) (gw_mR M_X11_arePairs) ∈ gw_tb := gw_tb4 (List.mem_of_getElem? (i := 124) (by decide +kernel)) rfl
theorem mS_X11_arePairs : Cond.static (gw_mY M_X11_arePairs) ∈ gw_tb := gw_tb4 (List.mem_of_getElem? (i := 123) (by decide +kernel)) rfl
theorem mc_X11_costOfCounting : Cond.code (gw_mY M_X11_costOfCounting) (gw_mC M_X11_costOfCounting) (gw_mL M_X11_costOfCounting) (gw_mR M_X11_costOfCounting) ∈ gw_tb := gw_tb4 (List.mem_of_getElem? (i := 82) (by decide +kernel)) rfl
theorem mS_X11_costOfCounting : Cond.static (gw_mY M_X11_costOfCounting) ∈ gw_tb := gw_tb4 (List.mem_of_getElem? (i := 81) (by decide +kernel)) rfl
theorem mc_X11_isPerson : Cond.code (gw_mY M_X11_isPerson) (gw_mC M_X11_isPerson) (gw_mL M_X11_isPerson) (gw_mR M_X11_isPerson) ∈ gw_tb := gw_tb3 (List.mem_of_getElem? (i := 0) (by decide +kernel)) rfl
theorem mi_X11_isPerson : Cond.instanceMethod (gw_mY M_X11_isPerson) ∈ gw_tb := gw_tb2 (List.mem_of_getElem? (i := 239) (by decide +kernel)) rfl
theorem ms_X11_isPerson : Cond.selects RX11 (gw_mY M_X11_isPerson) (gw_mY M_X11_isPerson) ∈ gw_tb := gw_tb0 (List.mem_map.mpr ⟨(gw_mY M_X11_isPerson, 16), List.mem_of_getElem? (i := 1) (by decide +kernel), rfl⟩) rfl
theorem mc_X11_forget : Cond.code (gw_mY M_X11_forget) (gw_mC M_X11_forget) (gw_mL M_X11_forget) (gw_mR M_X11_forget) ∈ gw_tb := gw_tb2 (List.mem_of_getElem? (i := 196) (by decide +kernel)) rfl
theorem mi_X11_forget : Cond.instanceMethod (gw_mY M_X11_forget) ∈ gw_tb := gw_tb2 (List.mem_of_getElem? (i := 195) (by decide +kernel)) rfl
theorem ms_X11_forget : Cond.selects RX11 (gw_mY M_X11_forget) (gw_mY M_X11_forget) ∈ gw_tb := gw_tb0 (List.mem_map.mpr ⟨(gw_mY M_X11_forget, 16), List.mem_of_getElem? (i := 0) (by decide +kernel), rfl⟩) rfl
theorem mc_X11_goAlong : Cond.code (gw_mY M_X11_goAlong) (gw_mC M_X11_goAlong) (gw_mL M_X11_goAlong) (gw_mR M_X11_goAlong) ∈ gw_tb := gw_tb3 (List.mem_of_getElem? (i := 156) (by decide +kernel)) rfl
theorem mi_X11_goAlong : Cond.instanceMethod (gw_mY M_X11_goAlong) ∈ gw_tb := gw_tb3 (List.mem_of_getElem? (i := 155) (by decide +kernel)) rfl
theorem ms_X11_goAlong : Cond.selects RX11 (gw_mY M_X11_goAlong) (gw_mY M_X11_goAlong) ∈ gw_tb := gw_tb0 (List.mem_map.mpr ⟨(gw_mY M_X11_goAlong, 16), List.mem_of_getElem? (i := 2) (by decide +kernel), rfl⟩) rfl
theorem mc_X11_writeTrail : Cond.code (gw_mY M_X11_writeTrail) (gw_mC M_X11_writeTrail) (gw_mL M_X11_writeTrail) (gw_mR M_X11_writeTrail) ∈ gw_tb := gw_tb4 (List.mem_of_getElem? (i := 0) (by decide +kernel)) rfl
theorem mi_X11_writeTrail : Cond.instanceMethod (gw_mY M_X11_writeTrail) ∈ gw_tb := gw_tb3 (List.mem_of_getElem? (i := 239) (by decide +kernel)) rfl
theorem ms_X11_writeTrail : Cond.selects RX11 (gw_mY M_X11_writeTrail) (gw_mY M_X11_writeTrail) ∈ gw_tb := gw_tb0 (List.mem_map.mpr ⟨(gw_mY M_X11_writeTrail, 16), List.mem_of_getElem? (i := 3) (by decide +kernel), rfl⟩) rfl
theorem mc_X11_seekBest : Cond.code (gw_mY M_X11_seekBest) (gw_mC M_X11_seekBest) (gw_mL M_X11_seekBest) (gw_mR M_X11_seekBest) ∈ gw_tb := gw_tb4 (List.mem_of_getElem? (i := 35) (by decide +kernel)) rfl
theorem mi_X11_seekBest : Cond.instanceMethod (gw_mY M_X11_seekBest) ∈ gw_tb := gw_tb4 (List.mem_of_getElem? (i := 34) (by decide +kernel)) rfl
theorem ms_X11_seekBest : Cond.selects RX11 (gw_mY M_X11_seekBest) (gw_mY M_X11_seekBest) ∈ gw_tb := gw_tb0 (List.mem_map.mpr ⟨(gw_mY M_X11_seekBest, 16), List.mem_of_getElem? (i := 4) (by decide +kernel), rfl⟩) rfl
theorem mc_X11_noteBest : Cond.code (gw_mY M_X11_noteBest) (gw_mC M_X11_noteBest) (gw_mL M_X11_noteBest) (gw_mR M_X11_noteBest) ∈ gw_tb := gw_tb4 (List.mem_of_getElem? (i := 55) (by decide +kernel)) rfl
theorem mi_X11_noteBest : Cond.instanceMethod (gw_mY M_X11_noteBest) ∈ gw_tb := gw_tb4 (List.mem_of_getElem? (i := 54) (by decide +kernel)) rfl
theorem ms_X11_noteBest : Cond.selects RX11 (gw_mY M_X11_noteBest) (gw_mY M_X11_noteBest) ∈ gw_tb := gw_tb0 (List.mem_map.mpr ⟨(gw_mY M_X11_noteBest, 16), List.mem_of_getElem? (i := 5) (by decide +kernel), rfl⟩) rfl
theorem mc_X12_in : Cond.code (gw_mY M_X12_in) (gw_mC M_X12_in) (gw_mL M_X12_in) (gw_mR M_X12_in) ∈ gw_tb := gw_tb5 (List.mem_of_getElem? (i := 114) (by decide +kernel)) rfl
theorem mS_X12_in : Cond.static (gw_mY M_X12_in) ∈ gw_tb := gw_tb5 (List.mem_of_getElem? (i := 113) (by decide +kernel)) rfl
theorem mc_X12_init : Cond.code (gw_mY M_X12_init) (gw_mC M_X12_init) (gw_mL M_X12_init) (gw_mR M_X12_init) ∈ gw_tb := gw_tb4 (List.mem_of_getElem? (i := 220) (by decide +kernel)) rfl
theorem mi_X12_init : Cond.instanceMethod (gw_mY M_X12_init) ∈ gw_tb := gw_tb4 (List.mem_of_getElem? (i := 219) (by decide +kernel)) rfl
theorem mc_X12_isLength : Cond.code (gw_mY M_X12_isLength) (gw_mC M_X12_isLength) (gw_mL M_X12_isLength) (gw_mR M_X12_isLength) ∈ gw_tb := gw_tb5 (List.mem_of_getElem? (i := 122) (by decide +kernel)) rfl
theorem mS_X12_isLength : Cond.static (gw_mY M_X12_isLength) ∈ gw_tb := gw_tb5 (List.mem_of_getElem? (i := 121) (by decide +kernel)) rfl
theorem mc_X12_end : Cond.code (gw_mY M_X12_end) (gw_mC M_X12_end) (gw_mL M_X12_end) (gw_mR M_X12_end) ∈ gw_tb := gw_tb5 (List.mem_of_getElem? (i := 109) (by decide +kernel)) rfl
theorem mi_X12_end : Cond.instanceMethod (gw_mY M_X12_end) ∈ gw_tb := gw_tb5 (List.mem_of_getElem? (i := 107) (by decide +kernel)) rfl
theorem ms_X12_end : Cond.selects RX12 (gw_mY M_X12_end) (gw_mY M_X12_end) ∈ gw_tb := gw_tb5 (List.mem_of_getElem? (i := 108) (by decide +kernel)) rfl
theorem mc_X12_markAt : Cond.code (gw_mY M_X12_markAt) (gw_mC M_X12_markAt) (gw_mL M_X12_markAt) (gw_mR M_X12_markAt) ∈ gw_tb := gw_tb5 (List.mem_of_getElem? (i := 129) (by decide +kernel)) rfl
theorem mi_X12_markAt : Cond.instanceMethod (gw_mY M_X12_markAt) ∈ gw_tb := gw_tb5 (List.mem_of_getElem? (i := 128) (by decide +kernel)) rfl
theorem ms_X12_markAt : Cond.selects RX12 (gw_mY M_X12_markAt) (gw_mY M_X12_markAt) ∈ gw_tb := gw_tb0 (List.mem_map.mpr ⟨(gw_mY M_X12_markAt, 41), List.mem_of_getElem? (i := 6) (by decide +kernel), rfl⟩) rfl
theorem mc_X12_comes : Cond.code (gw_mY M_X12_comes) (gw_mC M_X12_comes) (gw_mL M_X12_comes) (gw_mR M_X12_comes) ∈ gw_tb := gw_tb5 (List.mem_of_getElem? (i := 133) (by decide +kernel)) rfl
theorem mi_X12_comes : Cond.instanceMethod (gw_mY M_X12_comes) ∈ gw_tb := gw_tb5 (List.mem_of_getElem? (i := 132) (by decide +kernel)) rfl
theorem ms_X12_comes : Cond.selects RX12 (gw_mY M_X12_comes) (gw_mY M_X12_comes) ∈ gw_tb := gw_tb0 (List.mem_map.mpr ⟨(gw_mY M_X12_comes, 41), List.mem_of_getElem? (i := 7) (by decide +kernel), rfl⟩) rfl
theorem mc_X12_mark : Cond.code (gw_mY M_X12_mark) (gw_mC M_X12_mark) (gw_mL M_X12_mark) (gw_mR M_X12_mark) ∈ gw_tb := gw_tb5 (List.mem_of_getElem? (i := 118) (by decide +kernel)) rfl
theorem mi_X12_mark : Cond.instanceMethod (gw_mY M_X12_mark) ∈ gw_tb := gw_tb5 (List.mem_of_getElem? (i := 116) (by decide +kernel)) rfl
theorem ms_X12_mark : Cond.selects RX12 (gw_mY M_X12_mark) (gw_mY M_X12_mark) ∈ gw_tb := gw_tb5 (List.mem_of_getElem? (i := 117) (by decide +kernel)) rfl
theorem mc_X12_told : Cond.code (gw_mY M_X12_told) (gw_mC M_X12_told) (gw_mL M_X12_told) (gw_mR M_X12_told) ∈ gw_tb := gw_tb5 (List.mem_of_getElem? (i := 137) (by decide +kernel)) rfl
theorem mi_X12_told : Cond.instanceMethod (gw_mY M_X12_told) ∈ gw_tb := gw_tb5 (List.mem_of_getElem? (i := 135) (by decide +kernel)) rfl
theorem ms_X12_told : Cond.selects RX12 (gw_mY M_X12_told) (gw_mY M_X12_told) ∈ gw_tb := gw_tb5 (List.mem_of_getElem? (i := 136) (by decide +kernel)) rfl
theorem mc_X12_value : Cond.code (gw_mY M_X12_value) (gw_mC M_X12_value) (gw_mL M_X12_value) (gw_mR M_X12_value) ∈ gw_tb := gw_tb5 (List.mem_of_getElem? (i := 141) (by decide +kernel)) rfl
theorem mi_X12_value : Cond.instanceMethod (gw_mY M_X12_value) ∈ gw_tb := gw_tb5 (List.mem_of_getElem? (i := 139) (by decide +kernel)) rfl
theorem ms_X12_value : Cond.selects RX12 (gw_mY M_X12_value) (gw_mY M_X12_value) ∈ gw_tb := gw_tb5 (List.mem_of_getElem? (i := 140) (by decide +kernel)) rfl
theorem mc_X12_tail : Cond.code (gw_mY M_X12_tail) (gw_mC M_X12_tail) (gw_mL M_X12_tail) (gw_mR M_X12_tail) ∈ gw_tb := gw_tb5 (List.mem_of_getElem? (i := 150) (by decide +kernel)) rfl
theorem mi_X12_tail : Cond.instanceMethod (gw_mY M_X12_tail) ∈ gw_tb := gw_tb5 (List.mem_of_getElem? (i := 149) (by decide +kernel)) rfl
theorem ms_X12_tail : Cond.selects RX12 (gw_mY M_X12_tail) (gw_mY M_X12_tail) ∈ gw_tb := gw_tb0 (List.mem_map.mpr ⟨(gw_mY M_X12_tail, 41), List.mem_of_getElem? (i := 8) (by decide +kernel), rfl⟩) rfl
theorem mc_X12_joins : Cond.code (gw_mY M_X12_joins) (gw_mC M_X12_joins) (gw_mL M_X12_joins) (gw_mR M_X12_joins) ∈ gw_tb := gw_tb5 (List.mem_of_getElem? (i := 154) (by decide +kernel)) rfl
theorem mi_X12_joins : Cond.instanceMethod (gw_mY M_X12_joins) ∈ gw_tb := gw_tb5 (List.mem_of_getElem? (i := 153) (by decide +kernel)) rfl
theorem ms_X12_joins : Cond.selects RX12 (gw_mY M_X12_joins) (gw_mY M_X12_joins) ∈ gw_tb := gw_tb0 (List.mem_map.mpr ⟨(gw_mY M_X12_joins, 41), List.mem_of_getElem? (i := 9) (by decide +kernel), rfl⟩) rfl
theorem mc_X12_person : Cond.code (gw_mY M_X12_person) (gw_mC M_X12_person) (gw_mL M_X12_person) (gw_mR M_X12_person) ∈ gw_tb := gw_tb5 (List.mem_of_getElem? (i := 145) (by decide +kernel)) rfl
theorem mi_X12_person : Cond.instanceMethod (gw_mY M_X12_person) ∈ gw_tb := gw_tb5 (List.mem_of_getElem? (i := 143) (by decide +kernel)) rfl
theorem ms_X12_person : Cond.selects RX12 (gw_mY M_X12_person) (gw_mY M_X12_person) ∈ gw_tb := gw_tb5 (List.mem_of_getElem? (i := 144) (by decide +kernel)) rfl
theorem mc_X12_isOne : Cond.code (gw_mY M_X12_isOne) (gw_mC M_X12_isOne) (gw_mL M_X12_isOne) (gw_mR M_X12_isOne) ∈ gw_tb := gw_tb5 (List.mem_of_getElem? (i := 162) (by decide +kernel)) rfl
theorem mi_X12_isOne : Cond.instanceMethod (gw_mY M_X12_isOne) ∈ gw_tb := gw_tb5 (List.mem_of_getElem? (i := 161) (by decide +kernel)) rfl
theorem ms_X12_isOne : Cond.selects RX12 (gw_mY M_X12_isOne) (gw_mY M_X12_isOne) ∈ gw_tb := gw_tb0 (List.mem_map.mpr ⟨(gw_mY M_X12_isOne, 41), List.mem_of_getElem? (i := 10) (by decide +kernel), rfl⟩) rfl
theorem mc_X12_of : Cond.code (gw_mY M_X12_of) (gw_mC M_X12_of) (gw_mL M_X12_of) (gw_mR M_X12_of) ∈ gw_tb := gw_tb5 (List.mem_of_getElem? (i := 158) (by decide +kernel)) rfl
theorem mi_X12_of : Cond.instanceMethod (gw_mY M_X12_of) ∈ gw_tb := gw_tb5 (List.mem_of_getElem? (i := 156) (by decide +kernel)) rfl
theorem ms_X12_of : Cond.selects RX12 (gw_mY M_X12_of) (gw_mY M_X12_of) ∈ gw_tb := gw_tb5 (List.mem_of_getElem? (i := 157) (by decide +kernel)) rfl
theorem mc_X12_isRule : Cond.code (gw_mY M_X12_isRule) (gw_mC M_X12_isRule) (gw_mL M_X12_isRule) (gw_mR M_X12_isRule) ∈ gw_tb := gw_tb5 (List.mem_of_getElem? (i := 169) (by decide +kernel)) rfl
theorem mS_X12_isRule : Cond.static (gw_mY M_X12_isRule) ∈ gw_tb := gw_tb5 (List.mem_of_getElem? (i := 168) (by decide +kernel)) rfl
theorem mc_X12_rule : Cond.code (gw_mY M_X12_rule) (gw_mC M_X12_rule) (gw_mL M_X12_rule) (gw_mR M_X12_rule) ∈ gw_tb := gw_tb5 (List.mem_of_getElem? (i := 166) (by decide +kernel)) rfl
theorem mi_X12_rule : Cond.instanceMethod (gw_mY M_X12_rule) ∈ gw_tb := gw_tb5 (List.mem_of_getElem? (i := 164) (by decide +kernel)) rfl
theorem ms_X12_rule : Cond.selects RX12 (gw_mY M_X12_rule) (gw_mY M_X12_rule) ∈ gw_tb := gw_tb5 (List.mem_of_getElem? (i := 165) (by decide +kernel)) rfl
theorem mc_X12_type : Cond.code (gw_mY M_X12_type) (gw_mC M_X12_type) (gw_mL M_X12_type) (gw_mR M_X12_type) ∈ gw_tb := gw_tb5 (List.mem_of_getElem? (i := 175) (by decide +kernel)) rfl
theorem mi_X12_type : Cond.instanceMethod (gw_mY M_X12_type) ∈ gw_tb := gw_tb5 (List.mem_of_getElem? (i := 173) (by decide +kernel)) rfl
theorem ms_X12_type : Cond.selects RX12 (gw_mY M_X12_type) (gw_mY M_X12_type) ∈ gw_tb := gw_tb5 (List.mem_of_getElem? (i := 174) (by decide +kernel)) rfl
theorem mc_X12_here : Cond.code (gw_mY M_X12_here) (gw_mC M_X12_here) (gw_mL M_X12_here) (gw_mR M_X12_here) ∈ gw_tb := gw_tb5 (List.mem_of_getElem? (i := 199) (by decide +kernel)) rfl
theorem mi_X12_here : Cond.instanceMethod (gw_mY M_X12_here) ∈ gw_tb := gw_tb5 (List.mem_of_getElem? (i := 198) (by decide +kernel)) rfl
theorem ms_X12_here : Cond.selects RX12 (gw_mY M_X12_here) (gw_mY M_X12_here) ∈ gw_tb := gw_tb0 (List.mem_map.mpr ⟨(gw_mY M_X12_here, 41), List.mem_of_getElem? (i := 14) (by decide +kernel), rfl⟩) rfl
theorem mc_X12_has : Cond.code (gw_mY M_X12_has) (gw_mC M_X12_has) (gw_mL M_X12_has) (gw_mR M_X12_has) ∈ gw_tb := gw_tb5 (List.mem_of_getElem? (i := 209) (by decide +kernel)) rfl
theorem mi_X12_has : Cond.instanceMethod (gw_mY M_X12_has) ∈ gw_tb := gw_tb5 (List.mem_of_getElem? (i := 208) (by decide +kernel)) rfl
theorem ms_X12_has : Cond.selects RX12 (gw_mY M_X12_has) (gw_mY M_X12_has) ∈ gw_tb := gw_tb0 (List.mem_map.mpr ⟨(gw_mY M_X12_has, 41), List.mem_of_getElem? (i := 16) (by decide +kernel), rfl⟩) rfl
theorem mc_X12_number : Cond.code (gw_mY M_X12_number) (gw_mC M_X12_number) (gw_mL M_X12_number) (gw_mR M_X12_number) ∈ gw_tb := gw_tb5 (List.mem_of_getElem? (i := 203) (by decide +kernel)) rfl
theorem mi_X12_number : Cond.instanceMethod (gw_mY M_X12_number) ∈ gw_tb := gw_tb5 (List.mem_of_getElem? (i := 202) (by decide +kernel)) rfl
theorem ms_X12_number : Cond.selects RX12 (gw_mY M_X12_number) (gw_mY M_X12_number) ∈ gw_tb := gw_tb0 (List.mem_map.mpr ⟨(gw_mY M_X12_number, 41), List.mem_of_getElem? (i := 15) (by decide +kernel), rfl⟩) rfl
theorem mc_X12_letter : Cond.code (gw_mY M_X12_letter) (gw_mC M_X12_letter) (gw_mL M_X12_letter) (gw_mR M_X12_letter) ∈ gw_tb := gw_tb5 (List.mem_of_getElem? (i := 195) (by decide +kernel)) rfl
theorem mi_X12_letter : Cond.instanceMethod (gw_mY M_X12_letter) ∈ gw_tb := gw_tb5 (List.mem_of_getElem? (i := 194) (by decide +kernel)) rfl
theorem ms_X12_letter : Cond.selects RX12 (gw_mY M_X12_letter) (gw_mY M_X12_letter) ∈ gw_tb := gw_tb0 (List.mem_map.mpr ⟨(gw_mY M_X12_letter, 41), List.mem_of_getElem? (i := 13) (by decide +kernel), rfl⟩) rfl
theorem mc_X12_markClause : Cond.code (gw_mY M_X12_markClause) (gw_mC M_X12_markClause) (gw_mL M_X12_markClause) (gw_mR M_X12_markClause) ∈ gw_tb := gw_tb5 (List.mem_of_getElem? (i := 191) (by decide +kernel)) rfl
theorem mi_X12_markClause : Cond.instanceMethod (gw_mY M_X12_markClause) ∈ gw_tb := gw_tb5 (List.mem_of_getElem? (i := 190) (by decide +kernel)) rfl
theorem ms_X12_markClause : Cond.selects RX12 (gw_mY M_X12_markClause) (gw_mY M_X12_markClause) ∈ gw_tb := gw_tb0 (List.mem_map.mpr ⟨(gw_mY M_X12_markClause, 41), List.mem_of_getElem? (i := 12) (by decide +kernel), rfl⟩) rfl
theorem mc_X12_personClause : Cond.code (gw_mY M_X12_personClause) (gw_mC M_X12_personClause) (gw_mL M_X12_personClause) (gw_mR M_X12_personClause) ∈ gw_tb := gw_tb5 (List.mem_of_getElem? (i := 213) (by decide +kernel)) rfl
theorem mi_X12_personClause : Cond.instanceMethod (gw_mY M_X12_personClause) ∈ gw_tb := gw_tb5 (List.mem_of_getElem? (i := 212) (by decide +kernel)) rfl
theorem ms_X12_personClause : Cond.selects RX12 (gw_mY M_X12_personClause) (gw_mY M_X12_personClause) ∈ gw_tb := gw_tb0 (List.mem_map.mpr ⟨(gw_mY M_X12_personClause, 41), List.mem_of_getElem? (i := 17) (by decide +kernel), rfl⟩) rfl
theorem mc_X12_readAll : Cond.code (gw_mY M_X12_readAll) (gw_mC M_X12_readAll) (gw_mL M_X12_readAll) (gw_mR M_X12_readAll) ∈ gw_tb := gw_tb5 (List.mem_of_getElem? (i := 187) (by decide +kernel)) rfl
theorem mi_X12_readAll : Cond.instanceMethod (gw_mY M_X12_readAll) ∈ gw_tb := gw_tb5 (List.mem_of_getElem? (i := 186) (by decide +kernel)) rfl
theorem ms_X12_readAll : Cond.selects RX12 (gw_mY M_X12_readAll) (gw_mY M_X12_readAll) ∈ gw_tb := gw_tb0 (List.mem_map.mpr ⟨(gw_mY M_X12_readAll, 41), List.mem_of_getElem? (i := 11) (by decide +kernel), rfl⟩) rfl
theorem mc_X12_way : Cond.code (gw_mY M_X12_way) (gw_mC M_X12_way) (gw_mL M_X12_way) (gw_mR M_X12_way) ∈ gw_tb := gw_tb5 (List.mem_of_getElem? (i := 183) (by decide +kernel)) rfl
theorem mi_X12_way : Cond.instanceMethod (gw_mY M_X12_way) ∈ gw_tb := gw_tb5 (List.mem_of_getElem? (i := 181) (by decide +kernel)) rfl
theorem ms_X12_way : Cond.selects RX12 (gw_mY M_X12_way) (gw_mY M_X12_way) ∈ gw_tb := gw_tb5 (List.mem_of_getElem? (i := 182) (by decide +kernel)) rfl
theorem mc_X12_group : Cond.code (gw_mY M_X12_group) (gw_mC M_X12_group) (gw_mL M_X12_group) (gw_mR M_X12_group) ∈ gw_tb := gw_tb5 (List.mem_of_getElem? (i := 219) (by decide +kernel)) rfl
theorem mi_X12_group : Cond.instanceMethod (gw_mY M_X12_group) ∈ gw_tb := gw_tb5 (List.mem_of_getElem? (i := 217) (by decide +kernel)) rfl
theorem ms_X12_group : Cond.selects RX12 (gw_mY M_X12_group) (gw_mY M_X12_group) ∈ gw_tb := gw_tb5 (List.mem_of_getElem? (i := 218) (by decide +kernel)) rfl
theorem mc_X12_stopsMet : Cond.code (gw_mY M_X12_stopsMet) (gw_mC M_X12_stopsMet) (gw_mL M_X12_stopsMet) (gw_mR M_X12_stopsMet) ∈ gw_tb := gw_tb5 (List.mem_of_getElem? (i := 227) (by decide +kernel)) rfl
theorem mi_X12_stopsMet : Cond.instanceMethod (gw_mY M_X12_stopsMet) ∈ gw_tb := gw_tb5 (List.mem_of_getElem? (i := 226) (by decide +kernel)) rfl
theorem ms_X12_stopsMet : Cond.selects RX12 (gw_mY M_X12_stopsMet) (gw_mY M_X12_stopsMet) ∈ gw_tb := gw_tb0 (List.mem_map.mpr ⟨(gw_mY M_X12_stopsMet, 41), List.mem_of_getElem? (i := 18) (by decide +kernel), rfl⟩) rfl
theorem mc_X12_count : Cond.code (gw_mY M_X12_count) (gw_mC M_X12_count) (gw_mL M_X12_count) (gw_mR M_X12_count) ∈ gw_tb := gw_tb5 (List.mem_of_getElem? (i := 223) (by decide +kernel)) rfl
theorem mi_X12_count : Cond.instanceMethod (gw_mY M_X12_count) ∈ gw_tb := gw_tb5 (List.mem_of_getElem? (i := 221) (by decide +kernel)) rfl
theorem ms_X12_count : Cond.selects RX12 (gw_mY M_X12_count) (gw_mY M_X12_count) ∈ gw_tb := gw_tb5 (List.mem_of_getElem? (i := 222) (by decide +kernel)) rfl
theorem mc_X12_isLost : Cond.code (gw_mY M_X12_isLost) (gw_mC M_X12_isLost) (gw_mL M_X12_isLost) (gw_mR M_X12_isLost) ∈ gw_tb := gw_tb6 (List.mem_of_getElem? (i := 15) (by decide +kernel)) rfl
theorem mi_X12_isLost : Cond.instanceMethod (gw_mY M_X12_isLost) ∈ gw_tb := gw_tb6 (List.mem_of_getElem? (i := 14) (by decide +kernel)) rfl
theorem ms_X12_isLost : Cond.selects RX12 (gw_mY M_X12_isLost) (gw_mY M_X12_isLost) ∈ gw_tb := gw_tb0 (List.mem_map.mpr ⟨(gw_mY M_X12_isLost, 41), List.mem_of_getElem? (i := 24) (by decide +kernel), rfl⟩) rfl
theorem mc_X12_isNear : Cond.code (gw_mY M_X12_isNear) (gw_mC M_X12_isNear) (gw_mL M_X12_isNear) (gw_mR M_X12_isNear) ∈ gw_tb := gw_tb6 (List.mem_of_getElem? (i := 19) (by decide +kernel)) rfl
theorem mi_X12_isNear : Cond.instanceMethod (gw_mY M_X12_isNear) ∈ gw_tb := gw_tb6 (List.mem_of_getElem? (i := 18) (by decide +kernel)) rfl
theorem ms_X12_isNear : Cond.selects RX12 (gw_mY M_X12_isNear) (gw_mY M_X12_isNear) ∈ gw_tb := gw_tb0 (List.mem_map.mpr ⟨(gw_mY M_X12_isNear, 41), List.mem_of_getElem? (i := 25) (by decide +kernel), rfl⟩) rfl
theorem mc_X12_nearOf : Cond.code (gw_mY M_X12_nearOf) (gw_mC M_X12_nearOf) (gw_mL M_X12_nearOf) (gw_mR M_X12_nearOf) ∈ gw_tb := gw_tb6 (List.mem_of_getElem? (i := 11) (by decide +kernel)) rfl
theorem mi_X12_nearOf : Cond.instanceMethod (gw_mY M_X12_nearOf) ∈ gw_tb := gw_tb6 (List.mem_of_getElem? (i := 10) (by decide +kernel)) rfl
theorem ms_X12_nearOf : Cond.selects RX12 (gw_mY M_X12_nearOf) (gw_mY M_X12_nearOf) ∈ gw_tb := gw_tb0 (List.mem_map.mpr ⟨(gw_mY M_X12_nearOf, 41), List.mem_of_getElem? (i := 23) (by decide +kernel), rfl⟩) rfl
theorem mc_X12_stopHere : Cond.code (gw_mY M_X12_stopHere) (gw_mC M_X12_stopHere) (gw_mL M_X12_stopHere) (gw_mR M_X12_stopHere) ∈ gw_tb := gw_tb6 (List.mem_of_getElem? (i := 7) (by decide +kernel)) rfl
theorem mi_X12_stopHere : Cond.instanceMethod (gw_mY M_X12_stopHere) ∈ gw_tb := gw_tb6 (List.mem_of_getElem? (i := 6) (by decide +kernel)) rfl
theorem ms_X12_stopHere : Cond.selects RX12 (gw_mY M_X12_stopHere) (gw_mY M_X12_stopHere) ∈ gw_tb := gw_tb0 (List.mem_map.mpr ⟨(gw_mY M_X12_stopHere, 41), List.mem_of_getElem? (i := 22) (by decide +kernel), rfl⟩) rfl
theorem mc_X12_isRed : Cond.code (gw_mY M_X12_isRed) (gw_mC M_X12_isRed) (gw_mL M_X12_isRed) (gw_mR M_X12_isRed) ∈ gw_tb := gw_tb6 (List.mem_of_getElem? (i := 23) (by decide +kernel)) rfl
theorem mi_X12_isRed : Cond.instanceMethod (gw_mY M_X12_isRed) ∈ gw_tb := gw_tb6 (List.mem_of_getElem? (i := 22) (by decide +kernel)) rfl
theorem ms_X12_isRed : Cond.selects RX12 (gw_mY M_X12_isRed) (gw_mY M_X12_isRed) ∈ gw_tb := gw_tb0 (List.mem_map.mpr ⟨(gw_mY M_X12_isRed, 41), List.mem_of_getElem? (i := 26) (by decide +kernel), rfl⟩) rfl
theorem mc_X12_isKept : Cond.code (gw_mY M_X12_isKept) (gw_mC M_X12_isKept) (gw_mL M_X12_isKept) (gw_mR M_X12_isKept) ∈ gw_tb := gw_tb6 (List.mem_of_getElem? (i := 3) (by decide +kernel)) rfl
theorem mi_X12_isKept : Cond.instanceMethod (gw_mY M_X12_isKept) ∈ gw_tb := gw_tb6 (List.mem_of_getElem? (i := 2) (by decide +kernel)) rfl
theorem ms_X12_isKept : Cond.selects RX12 (gw_mY M_X12_isKept) (gw_mY M_X12_isKept) ∈ gw_tb := gw_tb0 (List.mem_map.mpr ⟨(gw_mY M_X12_isKept, 41), List.mem_of_getElem? (i := 21) (by decide +kernel), rfl⟩) rfl
theorem mc_X12_guideGoes : Cond.code (gw_mY M_X12_guideGoes) (gw_mC M_X12_guideGoes) (gw_mL M_X12_guideGoes) (gw_mR M_X12_guideGoes) ∈ gw_tb := gw_tb5 (List.mem_of_getElem? (i := 239) (by decide +kernel)) rfl
theorem mi_X12_guideGoes : Cond.instanceMethod (gw_mY M_X12_guideGoes) ∈ gw_tb := gw_tb5 (List.mem_of_getElem? (i := 238) (by decide +kernel)) rfl
theorem ms_X12_guideGoes : Cond.selects RX12 (gw_mY M_X12_guideGoes) (gw_mY M_X12_guideGoes) ∈ gw_tb := gw_tb0 (List.mem_map.mpr ⟨(gw_mY M_X12_guideGoes, 41), List.mem_of_getElem? (i := 20) (by decide +kernel), rfl⟩) rfl
theorem mc_X12_leastOther : Cond.code (gw_mY M_X12_leastOther) (gw_mC M_X12_leastOther) (gw_mL M_X12_leastOther) (gw_mR M_X12_leastOther) ∈ gw_tb := gw_tb6 (List.mem_of_getElem? (i := 31) (by decide +kernel)) rfl
theorem mi_X12_leastOther : Cond.instanceMethod (gw_mY M_X12_leastOther) ∈ gw_tb := gw_tb6 (List.mem_of_getElem? (i := 30) (by decide +kernel)) rfl
theorem ms_X12_leastOther : Cond.selects RX12 (gw_mY M_X12_leastOther) (gw_mY M_X12_leastOther) ∈ gw_tb := gw_tb0 (List.mem_map.mpr ⟨(gw_mY M_X12_leastOther, 41), List.mem_of_getElem? (i := 28) (by decide +kernel), rfl⟩) rfl
theorem mc_X12_losesWay : Cond.code (gw_mY M_X12_losesWay) (gw_mC M_X12_losesWay) (gw_mL M_X12_losesWay) (gw_mR M_X12_losesWay) ∈ gw_tb := gw_tb6 (List.mem_of_getElem? (i := 35) (by decide +kernel)) rfl
theorem mi_X12_losesWay : Cond.instanceMethod (gw_mY M_X12_losesWay) ∈ gw_tb := gw_tb6 (List.mem_of_getElem? (i := 34) (by decide +kernel)) rfl
theorem ms_X12_losesWay : Cond.selects RX12 (gw_mY M_X12_losesWay) (gw_mY M_X12_losesWay) ∈ gw_tb := gw_tb0 (List.mem_map.mpr ⟨(gw_mY M_X12_losesWay, 41), List.mem_of_getElem? (i := 29) (by decide +kernel), rfl⟩) rfl
theorem mc_X12_goes : Cond.code (gw_mY M_X12_goes) (gw_mC M_X12_goes) (gw_mL M_X12_goes) (gw_mR M_X12_goes) ∈ gw_tb := gw_tb6 (List.mem_of_getElem? (i := 27) (by decide +kernel)) rfl
theorem mi_X12_goes : Cond.instanceMethod (gw_mY M_X12_goes) ∈ gw_tb := gw_tb6 (List.mem_of_getElem? (i := 26) (by decide +kernel)) rfl
theorem ms_X12_goes : Cond.selects RX12 (gw_mY M_X12_goes) (gw_mY M_X12_goes) ∈ gw_tb := gw_tb0 (List.mem_map.mpr ⟨(gw_mY M_X12_goes, 41), List.mem_of_getElem? (i := 27) (by decide +kernel), rfl⟩) rfl
theorem mc_X12_behind : Cond.code (gw_mY M_X12_behind) (gw_mC M_X12_behind) (gw_mL M_X12_behind) (gw_mR M_X12_behind) ∈ gw_tb := gw_tb6 (List.mem_of_getElem? (i := 39) (by decide +kernel)) rfl
theorem mi_X12_behind : Cond.instanceMethod (gw_mY M_X12_behind) ∈ gw_tb := gw_tb6 (List.mem_of_getElem? (i := 38) (by decide +kernel)) rfl
theorem ms_X12_behind : Cond.selects RX12 (gw_mY M_X12_behind) (gw_mY M_X12_behind) ∈ gw_tb := gw_tb0 (List.mem_map.mpr ⟨(gw_mY M_X12_behind, 41), List.mem_of_getElem? (i := 30) (by decide +kernel), rfl⟩) rfl
theorem mc_X12_walks : Cond.code (gw_mY M_X12_walks) (gw_mC M_X12_walks) (gw_mL M_X12_walks) (gw_mR M_X12_walks) ∈ gw_tb := gw_tb5 (List.mem_of_getElem? (i := 235) (by decide +kernel)) rfl
theorem mi_X12_walks : Cond.instanceMethod (gw_mY M_X12_walks) ∈ gw_tb := gw_tb5 (List.mem_of_getElem? (i := 234) (by decide +kernel)) rfl
theorem ms_X12_walks : Cond.selects RX12 (gw_mY M_X12_walks) (gw_mY M_X12_walks) ∈ gw_tb := gw_tb0 (List.mem_map.mpr ⟨(gw_mY M_X12_walks, 41), List.mem_of_getElem? (i := 19) (by decide +kernel), rfl⟩) rfl
theorem mc_X12_fate : Cond.code (gw_mY M_X12_fate) (gw_mC M_X12_fate) (gw_mL M_X12_fate) (gw_mR M_X12_fate) ∈ gw_tb := gw_tb5 (List.mem_of_getElem? (i := 231) (by decide +kernel)) rfl
theorem mi_X12_fate : Cond.instanceMethod (gw_mY M_X12_fate) ∈ gw_tb := gw_tb5 (List.mem_of_getElem? (i := 229) (by decide +kernel)) rfl
theorem ms_X12_fate : Cond.selects RX12 (gw_mY M_X12_fate) (gw_mY M_X12_fate) ∈ gw_tb := gw_tb5 (List.mem_of_getElem? (i := 230) (by decide +kernel)) rfl
theorem mc_X12_at : Cond.code (gw_mY M_X12_at) (gw_mC M_X12_at) (gw_mL M_X12_at) (gw_mR M_X12_at) ∈ gw_tb := gw_tb6 (List.mem_of_getElem? (i := 43) (by decide +kernel)) rfl
theorem mi_X12_at : Cond.instanceMethod (gw_mY M_X12_at) ∈ gw_tb := gw_tb6 (List.mem_of_getElem? (i := 41) (by decide +kernel)) rfl
theorem ms_X12_at : Cond.selects RX12 (gw_mY M_X12_at) (gw_mY M_X12_at) ∈ gw_tb := gw_tb6 (List.mem_of_getElem? (i := 42) (by decide +kernel)) rfl
theorem mc_X12_heardAll : Cond.code (gw_mY M_X12_heardAll) (gw_mC M_X12_heardAll) (gw_mL M_X12_heardAll) (gw_mR M_X12_heardAll) ∈ gw_tb := gw_tb6 (List.mem_of_getElem? (i := 54) (by decide +kernel)) rfl
theorem mi_X12_heardAll : Cond.instanceMethod (gw_mY M_X12_heardAll) ∈ gw_tb := gw_tb6 (List.mem_of_getElem? (i := 53) (by decide +kernel)) rfl
theorem ms_X12_heardAll : Cond.selects RX12 (gw_mY M_X12_heardAll) (gw_mY M_X12_heardAll) ∈ gw_tb := gw_tb0 (List.mem_map.mpr ⟨(gw_mY M_X12_heardAll, 41), List.mem_of_getElem? (i := 31) (by decide +kernel), rfl⟩) rfl
theorem mc_X12_leastOff : Cond.code (gw_mY M_X12_leastOff) (gw_mC M_X12_leastOff) (gw_mL M_X12_leastOff) (gw_mR M_X12_leastOff) ∈ gw_tb := gw_tb6 (List.mem_of_getElem? (i := 58) (by decide +kernel)) rfl
theorem mi_X12_leastOff : Cond.instanceMethod (gw_mY M_X12_leastOff) ∈ gw_tb := gw_tb6 (List.mem_of_getElem? (i := 57) (by decide +kernel)) rfl
theorem ms_X12_leastOff : Cond.selects RX12 (gw_mY M_X12_leastOff) (gw_mY M_X12_leastOff) ∈ gw_tb := gw_tb0 (List.mem_map.mpr ⟨(gw_mY M_X12_leastOff, 41), List.mem_of_getElem? (i := 32) (by decide +kernel), rfl⟩) rfl
theorem mc_X12_allThere : Cond.code (gw_mY M_X12_allThere) (gw_mC M_X12_allThere) (gw_mL M_X12_allThere) (gw_mR M_X12_allThere) ∈ gw_tb := gw_tb6 (List.mem_of_getElem? (i := 62) (by decide +kernel)) rfl
theorem mi_X12_allThere : Cond.instanceMethod (gw_mY M_X12_allThere) ∈ gw_tb := gw_tb6 (List.mem_of_getElem? (i := 61) (by decide +kernel)) rfl
theorem ms_X12_allThere : Cond.selects RX12 (gw_mY M_X12_allThere) (gw_mY M_X12_allThere) ∈ gw_tb := gw_tb0 (List.mem_map.mpr ⟨(gw_mY M_X12_allThere, 41), List.mem_of_getElem? (i := 33) (by decide +kernel), rfl⟩) rfl
theorem mc_X12_all : Cond.code (gw_mY M_X12_all) (gw_mC M_X12_all) (gw_mL M_X12_all) (gw_mR M_X12_all) ∈ gw_tb := gw_tb6 (List.mem_of_getElem? (i := 49) (by decide +kernel)) rfl
theorem mi_X12_all : Cond.instanceMethod (gw_mY M_X12_all) ∈ gw_tb := gw_tb6 (List.mem_of_getElem? (i := 47) (by decide +kernel)) rfl
theorem ms_X12_all : Cond.selects RX12 (gw_mY M_X12_all) (gw_mY M_X12_all) ∈ gw_tb := gw_tb6 (List.mem_of_getElem? (i := 48) (by decide +kernel)) rfl
theorem mc_X12_best : Cond.code (gw_mY M_X12_best) (gw_mC M_X12_best) (gw_mL M_X12_best) (gw_mR M_X12_best) ∈ gw_tb := gw_tb6 (List.mem_of_getElem? (i := 66) (by decide +kernel)) rfl
theorem mi_X12_best : Cond.instanceMethod (gw_mY M_X12_best) ∈ gw_tb := gw_tb6 (List.mem_of_getElem? (i := 64) (by decide +kernel)) rfl
theorem ms_X12_best : Cond.selects RX12 (gw_mY M_X12_best) (gw_mY M_X12_best) ∈ gw_tb := gw_tb6 (List.mem_of_getElem? (i := 65) (by decide +kernel)) rfl
theorem mc_X12_worth : Cond.code (gw_mY M_X12_worth) (gw_mC M_X12_worth) (gw_mL M_X12_worth) (gw_mR M_X12_worth) ∈ gw_tb := gw_tb6 (List.mem_of_getElem? (i := 70) (by decide +kernel)) rfl
theorem mi_X12_worth : Cond.instanceMethod (gw_mY M_X12_worth) ∈ gw_tb := gw_tb6 (List.mem_of_getElem? (i := 68) (by decide +kernel)) rfl
theorem ms_X12_worth : Cond.selects RX12 (gw_mY M_X12_worth) (gw_mY M_X12_worth) ∈ gw_tb := gw_tb6 (List.mem_of_getElem? (i := 69) (by decide +kernel)) rfl
theorem mc_X12_chosen : Cond.code (gw_mY M_X12_chosen) (gw_mC M_X12_chosen) (gw_mL M_X12_chosen) (gw_mR M_X12_chosen) ∈ gw_tb := gw_tb6 (List.mem_of_getElem? (i := 76) (by decide +kernel)) rfl
theorem mi_X12_chosen : Cond.instanceMethod (gw_mY M_X12_chosen) ∈ gw_tb := gw_tb6 (List.mem_of_getElem? (i := 74) (by decide +kernel)) rfl
theorem ms_X12_chosen : Cond.selects RX12 (gw_mY M_X12_chosen) (gw_mY M_X12_chosen) ∈ gw_tb := gw_tb6 (List.mem_of_getElem? (i := 75) (by decide +kernel)) rfl
theorem mc_X12_costOf : Cond.code (gw_mY M_X12_costOf) (gw_mC M_X12_costOf) (gw_mL M_X12_costOf) (gw_mR M_X12_costOf) ∈ gw_tb := gw_tb6 (List.mem_of_getElem? (i := 87) (by decide +kernel)) rfl
theorem mS_X12_costOf : Cond.static (gw_mY M_X12_costOf) ∈ gw_tb := gw_tb6 (List.mem_of_getElem? (i := 86) (by decide +kernel)) rfl
theorem mc_X12_isCost : Cond.code (gw_mY M_X12_isCost) (gw_mC M_X12_isCost) (gw_mL M_X12_isCost) (gw_mR M_X12_isCost) ∈ gw_tb := gw_tb6 (List.mem_of_getElem? (i := 84) (by decide +kernel)) rfl
theorem mS_X12_isCost : Cond.static (gw_mY M_X12_isCost) ∈ gw_tb := gw_tb6 (List.mem_of_getElem? (i := 83) (by decide +kernel)) rfl
theorem mc_X12_counted : Cond.code (gw_mY M_X12_counted) (gw_mC M_X12_counted) (gw_mL M_X12_counted) (gw_mR M_X12_counted) ∈ gw_tb := gw_tb6 (List.mem_of_getElem? (i := 81) (by decide +kernel)) rfl
theorem mi_X12_counted : Cond.instanceMethod (gw_mY M_X12_counted) ∈ gw_tb := gw_tb6 (List.mem_of_getElem? (i := 79) (by decide +kernel)) rfl
theorem ms_X12_counted : Cond.selects RX12 (gw_mY M_X12_counted) (gw_mY M_X12_counted) ∈ gw_tb := gw_tb6 (List.mem_of_getElem? (i := 80) (by decide +kernel)) rfl
theorem mc_X12_often : Cond.code (gw_mY M_X12_often) (gw_mC M_X12_often) (gw_mL M_X12_often) (gw_mR M_X12_often) ∈ gw_tb := gw_tb6 (List.mem_of_getElem? (i := 91) (by decide +kernel)) rfl
theorem mi_X12_often : Cond.instanceMethod (gw_mY M_X12_often) ∈ gw_tb := gw_tb6 (List.mem_of_getElem? (i := 89) (by decide +kernel)) rfl
theorem ms_X12_often : Cond.selects RX12 (gw_mY M_X12_often) (gw_mY M_X12_often) ∈ gw_tb := gw_tb6 (List.mem_of_getElem? (i := 90) (by decide +kernel)) rfl
theorem mc_X12_square : Cond.code (gw_mY M_X12_square) (gw_mC M_X12_square) (gw_mL M_X12_square) (gw_mR M_X12_square) ∈ gw_tb := gw_tb6 (List.mem_of_getElem? (i := 95) (by decide +kernel)) rfl
theorem mi_X12_square : Cond.instanceMethod (gw_mY M_X12_square) ∈ gw_tb := gw_tb6 (List.mem_of_getElem? (i := 93) (by decide +kernel)) rfl
theorem ms_X12_square : Cond.selects RX12 (gw_mY M_X12_square) (gw_mY M_X12_square) ∈ gw_tb := gw_tb6 (List.mem_of_getElem? (i := 94) (by decide +kernel)) rfl
theorem mc_X12_size : Cond.code (gw_mY M_X12_size) (gw_mC M_X12_size) (gw_mL M_X12_size) (gw_mR M_X12_size) ∈ gw_tb := gw_tb6 (List.mem_of_getElem? (i := 107) (by decide +kernel)) rfl
theorem mS_X12_size : Cond.static (gw_mY M_X12_size) ∈ gw_tb := gw_tb6 (List.mem_of_getElem? (i := 106) (by decide +kernel)) rfl
theorem mc_X12_sign : Cond.code (gw_mY M_X12_sign) (gw_mC M_X12_sign) (gw_mL M_X12_sign) (gw_mR M_X12_sign) ∈ gw_tb := gw_tb6 (List.mem_of_getElem? (i := 110) (by decide +kernel)) rfl
theorem mS_X12_sign : Cond.static (gw_mY M_X12_sign) ∈ gw_tb := gw_tb6 (List.mem_of_getElem? (i := 109) (by decide +kernel)) rfl
theorem mc_X12_farthest : Cond.code (gw_mY M_X12_farthest) (gw_mC M_X12_farthest) (gw_mL M_X12_farthest) (gw_mR M_X12_farthest) ∈ gw_tb := gw_tb6 (List.mem_of_getElem? (i := 104) (by decide +kernel)) rfl
theorem mi_X12_farthest : Cond.instanceMethod (gw_mY M_X12_farthest) ∈ gw_tb := gw_tb6 (List.mem_of_getElem? (i := 103) (by decide +kernel)) rfl
theorem ms_X12_farthest : Cond.selects RX12 (gw_mY M_X12_farthest) (gw_mY M_X12_farthest) ∈ gw_tb := gw_tb0 (List.mem_map.mpr ⟨(gw_mY M_X12_farthest, 41), List.mem_of_getElem? (i := 34) (by decide +kernel), rfl⟩) rfl
theorem mc_X12_stand : Cond.code (gw_mY M_X12_stand) (gw_mC M_X12_stand) (gw_mL M_X12_stand) (gw_mR M_X12_stand) ∈ gw_tb := gw_tb6 (List.mem_of_getElem? (i := 100) (by decide +kernel)) rfl
theorem mi_X12_stand : Cond.instanceMethod (gw_mY M_X12_stand) ∈ gw_tb := gw_tb6 (List.mem_of_getElem? (i := 98) (by decide +kernel)) rfl
theorem ms_X12_stand : Cond.selects RX12 (gw_mY M_X12_stand) (gw_mY M_X12_stand) ∈ gw_tb := gw_tb6 (List.mem_of_getElem? (i := 99) (by decide +kernel)) rfl
theorem mc_X12_meet : Cond.code (gw_mY M_X12_meet) (gw_mC M_X12_meet) (gw_mL M_X12_meet) (gw_mR M_X12_meet) ∈ gw_tb := gw_tb6 (List.mem_of_getElem? (i := 122) (by decide +kernel)) rfl
theorem mS_X12_meet : Cond.static (gw_mY M_X12_meet) ∈ gw_tb := gw_tb6 (List.mem_of_getElem? (i := 121) (by decide +kernel)) rfl
theorem mc_X12_paints : Cond.code (gw_mY M_X12_paints) (gw_mC M_X12_paints) (gw_mL M_X12_paints) (gw_mR M_X12_paints) ∈ gw_tb := gw_tb6 (List.mem_of_getElem? (i := 119) (by decide +kernel)) rfl
theorem mi_X12_paints : Cond.instanceMethod (gw_mY M_X12_paints) ∈ gw_tb := gw_tb6 (List.mem_of_getElem? (i := 118) (by decide +kernel)) rfl
theorem ms_X12_paints : Cond.selects RX12 (gw_mY M_X12_paints) (gw_mY M_X12_paints) ∈ gw_tb := gw_tb0 (List.mem_map.mpr ⟨(gw_mY M_X12_paints, 41), List.mem_of_getElem? (i := 35) (by decide +kernel), rfl⟩) rfl
theorem mc_X12_colours : Cond.code (gw_mY M_X12_colours) (gw_mC M_X12_colours) (gw_mL M_X12_colours) (gw_mR M_X12_colours) ∈ gw_tb := gw_tb6 (List.mem_of_getElem? (i := 114) (by decide +kernel)) rfl
theorem mi_X12_colours : Cond.instanceMethod (gw_mY M_X12_colours) ∈ gw_tb := gw_tb6 (List.mem_of_getElem? (i := 112) (by decide +kernel)) rfl
theorem ms_X12_colours : Cond.selects RX12 (gw_mY M_X12_colours) (gw_mY M_X12_colours) ∈ gw_tb := gw_tb6 (List.mem_of_getElem? (i := 113) (by decide +kernel)) rfl
theorem mc_X12_lay : Cond.code (gw_mY M_X12_lay) (gw_mC M_X12_lay) (gw_mL M_X12_lay) (gw_mR M_X12_lay) ∈ gw_tb := gw_tb6 (List.mem_of_getElem? (i := 130) (by decide +kernel)) rfl
theorem mi_X12_lay : Cond.instanceMethod (gw_mY M_X12_lay) ∈ gw_tb := gw_tb6 (List.mem_of_getElem? (i := 129) (by decide +kernel)) rfl
theorem ms_X12_lay : Cond.selects RX12 (gw_mY M_X12_lay) (gw_mY M_X12_lay) ∈ gw_tb := gw_tb0 (List.mem_map.mpr ⟨(gw_mY M_X12_lay, 41), List.mem_of_getElem? (i := 36) (by decide +kernel), rfl⟩) rfl
theorem mc_X12_gives : Cond.code (gw_mY M_X12_gives) (gw_mC M_X12_gives) (gw_mL M_X12_gives) (gw_mR M_X12_gives) ∈ gw_tb := gw_tb6 (List.mem_of_getElem? (i := 138) (by decide +kernel)) rfl
theorem mi_X12_gives : Cond.instanceMethod (gw_mY M_X12_gives) ∈ gw_tb := gw_tb6 (List.mem_of_getElem? (i := 137) (by decide +kernel)) rfl
theorem ms_X12_gives : Cond.selects RX12 (gw_mY M_X12_gives) (gw_mY M_X12_gives) ∈ gw_tb := gw_tb0 (List.mem_map.mpr ⟨(gw_mY M_X12_gives, 41), List.mem_of_getElem? (i := 37) (by decide +kernel), rfl⟩) rfl
theorem mc_X12_image : Cond.code (gw_mY M_X12_image) (gw_mC M_X12_image) (gw_mL M_X12_image) (gw_mR M_X12_image) ∈ gw_tb := gw_tb6 (List.mem_of_getElem? (i := 126) (by decide +kernel)) rfl
theorem mi_X12_image : Cond.instanceMethod (gw_mY M_X12_image) ∈ gw_tb := gw_tb6 (List.mem_of_getElem? (i := 124) (by decide +kernel)) rfl
theorem ms_X12_image : Cond.selects RX12 (gw_mY M_X12_image) (gw_mY M_X12_image) ∈ gw_tb := gw_tb6 (List.mem_of_getElem? (i := 125) (by decide +kernel)) rfl
theorem mc_X12_restore : Cond.code (gw_mY M_X12_restore) (gw_mC M_X12_restore) (gw_mL M_X12_restore) (gw_mR M_X12_restore) ∈ gw_tb := gw_tb6 (List.mem_of_getElem? (i := 134) (by decide +kernel)) rfl
theorem mi_X12_restore : Cond.instanceMethod (gw_mY M_X12_restore) ∈ gw_tb := gw_tb6 (List.mem_of_getElem? (i := 132) (by decide +kernel)) rfl
theorem ms_X12_restore : Cond.selects RX12 (gw_mY M_X12_restore) (gw_mY M_X12_restore) ∈ gw_tb := gw_tb6 (List.mem_of_getElem? (i := 133) (by decide +kernel)) rfl
theorem mc_X12_isSheet : Cond.code (gw_mY M_X12_isSheet) (gw_mC M_X12_isSheet) (gw_mL M_X12_isSheet) (gw_mR M_X12_isSheet) ∈ gw_tb := gw_tb6 (List.mem_of_getElem? (i := 145) (by decide +kernel)) rfl
theorem mS_X12_isSheet : Cond.static (gw_mY M_X12_isSheet) ∈ gw_tb := gw_tb6 (List.mem_of_getElem? (i := 144) (by decide +kernel)) rfl
theorem mc_X12_isLane : Cond.code (gw_mY M_X12_isLane) (gw_mC M_X12_isLane) (gw_mL M_X12_isLane) (gw_mR M_X12_isLane) ∈ gw_tb := gw_tb6 (List.mem_of_getElem? (i := 148) (by decide +kernel)) rfl
theorem mS_X12_isLane : Cond.static (gw_mY M_X12_isLane) ∈ gw_tb := gw_tb6 (List.mem_of_getElem? (i := 147) (by decide +kernel)) rfl
theorem mc_X12_finds : Cond.code (gw_mY M_X12_finds) (gw_mC M_X12_finds) (gw_mL M_X12_finds) (gw_mR M_X12_finds) ∈ gw_tb := gw_tb6 (List.mem_of_getElem? (i := 153) (by decide +kernel)) rfl
theorem mi_X12_finds : Cond.instanceMethod (gw_mY M_X12_finds) ∈ gw_tb := gw_tb6 (List.mem_of_getElem? (i := 152) (by decide +kernel)) rfl
theorem ms_X12_finds : Cond.selects RX12 (gw_mY M_X12_finds) (gw_mY M_X12_finds) ∈ gw_tb := gw_tb0 (List.mem_map.mpr ⟨(gw_mY M_X12_finds, 41), List.mem_of_getElem? (i := 38) (by decide +kernel), rfl⟩) rfl
theorem mc_X12_turns : Cond.code (gw_mY M_X12_turns) (gw_mC M_X12_turns) (gw_mL M_X12_turns) (gw_mR M_X12_turns) ∈ gw_tb := gw_tb6 (List.mem_of_getElem? (i := 157) (by decide +kernel)) rfl
theorem mi_X12_turns : Cond.instanceMethod (gw_mY M_X12_turns) ∈ gw_tb := gw_tb6 (List.mem_of_getElem? (i := 156) (by decide +kernel)) rfl
theorem ms_X12_turns : Cond.selects RX12 (gw_mY M_X12_turns) (gw_mY M_X12_turns) ∈ gw_tb := gw_tb0 (List.mem_map.mpr ⟨(gw_mY M_X12_turns, 41), List.mem_of_getElem? (i := 39) (by decide +kernel), rfl⟩) rfl
theorem mc_X12_slots : Cond.code (gw_mY M_X12_slots) (gw_mC M_X12_slots) (gw_mL M_X12_slots) (gw_mR M_X12_slots) ∈ gw_tb := gw_tb6 (List.mem_of_getElem? (i := 142) (by decide +kernel)) rfl
theorem mi_X12_slots : Cond.instanceMethod (gw_mY M_X12_slots) ∈ gw_tb := gw_tb6 (List.mem_of_getElem? (i := 140) (by decide +kernel)) rfl
theorem ms_X12_slots : Cond.selects RX12 (gw_mY M_X12_slots) (gw_mY M_X12_slots) ∈ gw_tb := gw_tb6 (List.mem_of_getElem? (i := 141) (by decide +kernel)) rfl
theorem mc_X12_sheet : Cond.code (gw_mY M_X12_sheet) (gw_mC M_X12_sheet) (gw_mL M_X12_sheet) (gw_mR M_X12_sheet) ∈ gw_tb := gw_tb6 (List.mem_of_getElem? (i := 161) (by decide +kernel)) rfl
theorem mi_X12_sheet : Cond.instanceMethod (gw_mY M_X12_sheet) ∈ gw_tb := gw_tb6 (List.mem_of_getElem? (i := 159) (by decide +kernel)) rfl
theorem ms_X12_sheet : Cond.selects RX12 (gw_mY M_X12_sheet) (gw_mY M_X12_sheet) ∈ gw_tb := gw_tb6 (List.mem_of_getElem? (i := 160) (by decide +kernel)) rfl
theorem mc_X12_drop : Cond.code (gw_mY M_X12_drop) (gw_mC M_X12_drop) (gw_mL M_X12_drop) (gw_mR M_X12_drop) ∈ gw_tb := gw_tb6 (List.mem_of_getElem? (i := 165) (by decide +kernel)) rfl
theorem mi_X12_drop : Cond.instanceMethod (gw_mY M_X12_drop) ∈ gw_tb := gw_tb6 (List.mem_of_getElem? (i := 163) (by decide +kernel)) rfl
theorem ms_X12_drop : Cond.selects RX12 (gw_mY M_X12_drop) (gw_mY M_X12_drop) ∈ gw_tb := gw_tb6 (List.mem_of_getElem? (i := 164) (by decide +kernel)) rfl
theorem mc_X12_item : Cond.code (gw_mY M_X12_item) (gw_mC M_X12_item) (gw_mL M_X12_item) (gw_mR M_X12_item) ∈ gw_tb := gw_tb6 (List.mem_of_getElem? (i := 169) (by decide +kernel)) rfl
theorem mi_X12_item : Cond.instanceMethod (gw_mY M_X12_item) ∈ gw_tb := gw_tb6 (List.mem_of_getElem? (i := 167) (by decide +kernel)) rfl
theorem ms_X12_item : Cond.selects RX12 (gw_mY M_X12_item) (gw_mY M_X12_item) ∈ gw_tb := gw_tb6 (List.mem_of_getElem? (i := 168) (by decide +kernel)) rfl
theorem mc_X12_copy : Cond.code (gw_mY M_X12_copy) (gw_mC M_X12_copy) (gw_mL M_X12_copy) (gw_mR M_X12_copy) ∈ gw_tb := gw_tb6 (List.mem_of_getElem? (i := 173) (by decide +kernel)) rfl
theorem mi_X12_copy : Cond.instanceMethod (gw_mY M_X12_copy) ∈ gw_tb := gw_tb6 (List.mem_of_getElem? (i := 171) (by decide +kernel)) rfl
theorem ms_X12_copy : Cond.selects RX12 (gw_mY M_X12_copy) (gw_mY M_X12_copy) ∈ gw_tb := gw_tb6 (List.mem_of_getElem? (i := 172) (by decide +kernel)) rfl
theorem ini_FlagWalkLaw : Cond.initialized "FlagWalkLaw" ∈ gw_tb := gw_tb1 (List.mem_of_getElem? (i := 0) (by decide +kernel)) rfl
theorem ini_11 : Cond.initialized RX11 ∈ gw_tb := gw_tb1 (List.mem_of_getElem? (i := 1) (by decide +kernel)) rfl
theorem ini_6 : Cond.initialized RX6 ∈ gw_tb := gw_tb1 (List.mem_of_getElem? (i := 2) (by decide +kernel)) rfl
theorem ini_3 : Cond.initialized RX3 ∈ gw_tb := gw_tb1 (List.mem_of_getElem? (i := 3) (by decide +kernel)) rfl
theorem ini_5 : Cond.initialized RX5 ∈ gw_tb := gw_tb1 (List.mem_of_getElem? (i := 4) (by decide +kernel)) rfl
theorem ini_8 : Cond.initialized RX8 ∈ gw_tb := gw_tb1 (List.mem_of_getElem? (i := 5) (by decide +kernel)) rfl
theorem ini_9 : Cond.initialized RX9 ∈ gw_tb := gw_tb1 (List.mem_of_getElem? (i := 6) (by decide +kernel)) rfl
theorem ini_10 : Cond.initialized RX10 ∈ gw_tb := gw_tb1 (List.mem_of_getElem? (i := 7) (by decide +kernel)) rfl
theorem ini_4 : Cond.initialized RX4 ∈ gw_tb := gw_tb1 (List.mem_of_getElem? (i := 8) (by decide +kernel)) rfl
theorem ini_2 : Cond.initialized RX2 ∈ gw_tb := gw_tb1 (List.mem_of_getElem? (i := 9) (by decide +kernel)) rfl
theorem ini_1 : Cond.initialized RX1 ∈ gw_tb := gw_tb1 (List.mem_of_getElem? (i := 10) (by decide +kernel)) rfl
theorem ini_0 : Cond.initialized RX0 ∈ gw_tb := gw_tb1 (List.mem_of_getElem? (i := 11) (by decide +kernel)) rfl
theorem ini_7 : Cond.initialized RX7 ∈ gw_tb := gw_tb1 (List.mem_of_getElem? (i := 12) (by decide +kernel)) rfl
theorem ini_12 : Cond.initialized RX12 ∈ gw_tb := gw_tb1 (List.mem_of_getElem? (i := 13) (by decide +kernel)) rfl
theorem ini_java_lang_String : Cond.initialized "java/lang/String" ∈ gw_tb := gw_tb1 (List.mem_of_getElem? (i := 14) (by decide +kernel)) rfl
theorem ini_java_lang_StringLatin1 : Cond.initialized "java/lang/StringLatin1" ∈ gw_tb := gw_tb1 (List.mem_of_getElem? (i := 15) (by decide +kernel)) rfl
theorem ini_jdk_internal_util_Preconditions : Cond.initialized "jdk/internal/util/Preconditions" ∈ gw_tb := gw_tb1 (List.mem_of_getElem? (i := 16) (by decide +kernel)) rfl
theorem ini_java_lang_StringUTF16 : Cond.initialized "java/lang/StringUTF16" ∈ gw_tb := gw_tb1 (List.mem_of_getElem? (i := 17) (by decide +kernel)) rfl
theorem ini_java_lang_Math : Cond.initialized "java/lang/Math" ∈ gw_tb := gw_tb1 (List.mem_of_getElem? (i := 18) (by decide +kernel)) rfl
theorem ini_java_lang_System : Cond.initialized "java/lang/System" ∈ gw_tb := gw_tb1 (List.mem_of_getElem? (i := 19) (by decide +kernel)) rfl
theorem cl_L_7 : Cond.classLink RL 7 RX11 ∈ gw_tb := gw_tb1 (List.mem_of_getElem? (i := 20) (by decide +kernel)) rfl
theorem inst_11 : Cond.instantiable RX11 16 ∈ gw_tb := gw_tb1 (List.mem_of_getElem? (i := 21) (by decide +kernel)) rfl
theorem cl_11_7 : Cond.classLink RX11 7 RX6 ∈ gw_tb := gw_tb1 (List.mem_of_getElem? (i := 28) (by decide +kernel)) rfl
theorem inst_6 : Cond.instantiable RX6 5 ∈ gw_tb := gw_tb1 (List.mem_of_getElem? (i := 29) (by decide +kernel)) rfl
theorem cl_6_15 : Cond.classLink RX6 15 RX3 ∈ gw_tb := gw_tb1 (List.mem_of_getElem? (i := 34) (by decide +kernel)) rfl
theorem inst_3 : Cond.instantiable RX3 4 ∈ gw_tb := gw_tb1 (List.mem_of_getElem? (i := 35) (by decide +kernel)) rfl
theorem cl_3_15 : Cond.classLink RX3 15 "[[I" ∈ gw_tb := gw_tb1 (List.mem_of_getElem? (i := 40) (by decide +kernel)) rfl
theorem cl_6_22 : Cond.classLink RX6 22 RX5 ∈ gw_tb := gw_tb1 (List.mem_of_getElem? (i := 67) (by decide +kernel)) rfl
theorem inst_5 : Cond.instantiable RX5 4 ∈ gw_tb := gw_tb1 (List.mem_of_getElem? (i := 68) (by decide +kernel)) rfl
theorem cl_6_34 : Cond.classLink RX6 34 "[I" ∈ gw_tb := gw_tb1 (List.mem_of_getElem? (i := 104) (by decide +kernel)) rfl
theorem cl_6_41 : Cond.classLink RX6 41 RX8 ∈ gw_tb := gw_tb1 (List.mem_of_getElem? (i := 105) (by decide +kernel)) rfl
theorem inst_8 : Cond.instantiable RX8 8 ∈ gw_tb := gw_tb1 (List.mem_of_getElem? (i := 106) (by decide +kernel)) rfl
theorem cl_11_23 : Cond.classLink RX11 23 RX9 ∈ gw_tb := gw_tb1 (List.mem_of_getElem? (i := 166) (by decide +kernel)) rfl
theorem inst_9 : Cond.instantiable RX9 4 ∈ gw_tb := gw_tb1 (List.mem_of_getElem? (i := 167) (by decide +kernel)) rfl
theorem cl_11_30 : Cond.classLink RX11 30 RX3 ∈ gw_tb := gw_tb1 (List.mem_of_getElem? (i := 186) (by decide +kernel)) rfl
theorem cl_11_37 : Cond.classLink RX11 37 RX5 ∈ gw_tb := gw_tb1 (List.mem_of_getElem? (i := 188) (by decide +kernel)) rfl
theorem cl_11_44 : Cond.classLink RX11 44 RX10 ∈ gw_tb := gw_tb1 (List.mem_of_getElem? (i := 190) (by decide +kernel)) rfl
theorem inst_10 : Cond.instantiable RX10 16 ∈ gw_tb := gw_tb1 (List.mem_of_getElem? (i := 191) (by decide +kernel)) rfl
theorem cl_10_9 : Cond.classLink RX10 9 RX4 ∈ gw_tb := gw_tb1 (List.mem_of_getElem? (i := 196) (by decide +kernel)) rfl
theorem inst_4 : Cond.instantiable RX4 5 ∈ gw_tb := gw_tb1 (List.mem_of_getElem? (i := 197) (by decide +kernel)) rfl
theorem cl_10_18 : Cond.classLink RX10 18 RX5 ∈ gw_tb := gw_tb1 (List.mem_of_getElem? (i := 222) (by decide +kernel)) rfl
theorem cl_10_29 : Cond.classLink RX10 29 RX2 ∈ gw_tb := gw_tb1 (List.mem_of_getElem? (i := 224) (by decide +kernel)) rfl
theorem inst_2 : Cond.instantiable RX2 6 ∈ gw_tb := gw_tb1 (List.mem_of_getElem? (i := 225) (by decide +kernel)) rfl
theorem cl_11_71 : Cond.classLink RX11 71 RX1 ∈ gw_tb := gw_tb2 (List.mem_of_getElem? (i := 73) (by decide +kernel)) rfl
theorem inst_1 : Cond.instantiable RX1 3 ∈ gw_tb := gw_tb2 (List.mem_of_getElem? (i := 74) (by decide +kernel)) rfl
theorem cl_11_78 : Cond.classLink RX11 78 RX0 ∈ gw_tb := gw_tb2 (List.mem_of_getElem? (i := 90) (by decide +kernel)) rfl
theorem inst_0 : Cond.instantiable RX0 6 ∈ gw_tb := gw_tb2 (List.mem_of_getElem? (i := 91) (by decide +kernel)) rfl
theorem cl_11_85 : Cond.classLink RX11 85 RX7 ∈ gw_tb := gw_tb2 (List.mem_of_getElem? (i := 117) (by decide +kernel)) rfl
theorem inst_7 : Cond.instantiable RX7 3 ∈ gw_tb := gw_tb2 (List.mem_of_getElem? (i := 119) (by decide +kernel)) rfl
theorem ct_9_25 : Cond.constantLong RX9 25 (255) ∈ gw_tb := gw_tb3 (List.mem_of_getElem? (i := 16) (by decide +kernel)) rfl
theorem ct_11_233 : Cond.constant RX11 233 (-100001) ∈ gw_tb := gw_tb4 (List.mem_of_getElem? (i := 60) (by decide +kernel)) rfl
theorem ct_11_234 : Cond.constant RX11 234 (-100002) ∈ gw_tb := gw_tb4 (List.mem_of_getElem? (i := 61) (by decide +kernel)) rfl
theorem ct_0_37 : Cond.constant RX0 37 (2147483647) ∈ gw_tb := gw_tb4 (List.mem_of_getElem? (i := 184) (by decide +kernel)) rfl
theorem cl_L_10 : Cond.classLink RL 10 RX12 ∈ gw_tb := gw_tb4 (List.mem_of_getElem? (i := 216) (by decide +kernel)) rfl
theorem inst_12 : Cond.instantiable RX12 41 ∈ gw_tb := gw_tb4 (List.mem_of_getElem? (i := 217) (by decide +kernel)) rfl
theorem ct_12_102 : Cond.constantLong RX12 102 (10) ∈ gw_tb := gw_tb5 (List.mem_of_getElem? (i := 110) (by decide +kernel)) rfl
theorem ct_12_104 : Cond.constantLong RX12 104 (99) ∈ gw_tb := gw_tb5 (List.mem_of_getElem? (i := 111) (by decide +kernel)) rfl
theorem ct_12_106 : Cond.constantLong RX12 106 (3) ∈ gw_tb := gw_tb5 (List.mem_of_getElem? (i := 119) (by decide +kernel)) rfl
theorem ct_12_92 : Cond.constantLong RX12 92 (2) ∈ gw_tb := gw_tb5 (List.mem_of_getElem? (i := 123) (by decide +kernel)) rfl
theorem ct_12_94 : Cond.constantLong RX12 94 (50) ∈ gw_tb := gw_tb5 (List.mem_of_getElem? (i := 124) (by decide +kernel)) rfl
theorem ct_12_96 : Cond.constantLong RX12 96 (20) ∈ gw_tb := gw_tb5 (List.mem_of_getElem? (i := 125) (by decide +kernel)) rfl
theorem ct_12_123 : Cond.constantLong RX12 123 (4) ∈ gw_tb := gw_tb5 (List.mem_of_getElem? (i := 146) (by decide +kernel)) rfl
theorem ct_12_136 : Cond.constantLong RX12 136 (9) ∈ gw_tb := gw_tb5 (List.mem_of_getElem? (i := 170) (by decide +kernel)) rfl
theorem ct_12_138 : Cond.constantLong RX12 138 (30) ∈ gw_tb := gw_tb5 (List.mem_of_getElem? (i := 171) (by decide +kernel)) rfl
theorem ct_12_143 : Cond.constantLong RX12 143 (8) ∈ gw_tb := gw_tb5 (List.mem_of_getElem? (i := 176) (by decide +kernel)) rfl
theorem ct_12_145 : Cond.constantLong RX12 145 (255) ∈ gw_tb := gw_tb5 (List.mem_of_getElem? (i := 177) (by decide +kernel)) rfl
theorem ct_12_147 : Cond.constantLong RX12 147 (32) ∈ gw_tb := gw_tb5 (List.mem_of_getElem? (i := 178) (by decide +kernel)) rfl
theorem ct_12_149 : Cond.constantLong RX12 149 (126) ∈ gw_tb := gw_tb5 (List.mem_of_getElem? (i := 179) (by decide +kernel)) rfl
theorem ct_12_164 : Cond.constantLong RX12 164 (48) ∈ gw_tb := gw_tb5 (List.mem_of_getElem? (i := 204) (by decide +kernel)) rfl
theorem ct_12_166 : Cond.constantLong RX12 166 (57) ∈ gw_tb := gw_tb5 (List.mem_of_getElem? (i := 205) (by decide +kernel)) rfl
theorem ct_12_178 : Cond.constantLong RX12 178 (49) ∈ gw_tb := gw_tb5 (List.mem_of_getElem? (i := 214) (by decide +kernel)) rfl
theorem ct_12_180 : Cond.constantLong RX12 180 (52) ∈ gw_tb := gw_tb5 (List.mem_of_getElem? (i := 215) (by decide +kernel)) rfl
theorem ct_12_262 : Cond.constantLong RX12 262 (299) ∈ gw_tb := gw_tb6 (List.mem_of_getElem? (i := 44) (by decide +kernel)) rfl
theorem ct_12_264 : Cond.constantLong RX12 264 (-2) ∈ gw_tb := gw_tb6 (List.mem_of_getElem? (i := 45) (by decide +kernel)) rfl
theorem ct_12_266 : Cond.constantLong RX12 266 (5) ∈ gw_tb := gw_tb6 (List.mem_of_getElem? (i := 50) (by decide +kernel)) rfl
theorem ct_12_277 : Cond.constant RX12 277 (-100001) ∈ gw_tb := gw_tb6 (List.mem_of_getElem? (i := 71) (by decide +kernel)) rfl
theorem ct_12_278 : Cond.constant RX12 278 (-100002) ∈ gw_tb := gw_tb6 (List.mem_of_getElem? (i := 72) (by decide +kernel)) rfl
theorem ct_12_279 : Cond.constantLong RX12 279 (999) ∈ gw_tb := gw_tb6 (List.mem_of_getElem? (i := 77) (by decide +kernel)) rfl
theorem ct_12_289 : Cond.constantLong RX12 289 (143) ∈ gw_tb := gw_tb6 (List.mem_of_getElem? (i := 96) (by decide +kernel)) rfl
theorem ct_12_304 : Cond.constantLong RX12 304 (-1) ∈ gw_tb := gw_tb6 (List.mem_of_getElem? (i := 115) (by decide +kernel)) rfl
theorem ct_12_326 : Cond.constantLong RX12 326 (6) ∈ gw_tb := gw_tb6 (List.mem_of_getElem? (i := 149) (by decide +kernel)) rfl
theorem ct_L_45 : Cond.constantLong RL 45 (4294967295) ∈ gw_tb := gw_tb6 (List.mem_of_getElem? (i := 174) (by decide +kernel)) rfl
theorem mj_11_1 : Cond.methodLink RX11 1 Lib.objectInit ∈ gw_tb := gw_tb1 (List.mem_of_getElem? (i := 25) (by decide +kernel)) rfl
theorem mj_6_3 : Cond.methodLink RX6 3 Lib.objectInit ∈ gw_tb := gw_tb1 (List.mem_of_getElem? (i := 33) (by decide +kernel)) rfl
theorem mj_3_3 : Cond.methodLink RX3 3 Lib.objectInit ∈ gw_tb := gw_tb1 (List.mem_of_getElem? (i := 39) (by decide +kernel)) rfl
theorem mj_5_3 : Cond.methodLink RX5 3 Lib.objectInit ∈ gw_tb := gw_tb1 (List.mem_of_getElem? (i := 72) (by decide +kernel)) rfl
theorem mj_6_33 : Cond.methodLink RX6 33 ⟨"[I", "clone", "()Ljava/lang/Object;"⟩ ∈ gw_tb := gw_tb1 (List.mem_of_getElem? (i := 98) (by decide +kernel)) rfl
theorem mj_8_3 : Cond.methodLink RX8 3 Lib.objectInit ∈ gw_tb := gw_tb1 (List.mem_of_getElem? (i := 110) (by decide +kernel)) rfl
theorem mj_9_3 : Cond.methodLink RX9 3 Lib.objectInit ∈ gw_tb := gw_tb1 (List.mem_of_getElem? (i := 171) (by decide +kernel)) rfl
theorem mj_10_3 : Cond.methodLink RX10 3 Lib.objectInit ∈ gw_tb := gw_tb1 (List.mem_of_getElem? (i := 195) (by decide +kernel)) rfl
theorem mj_4_3 : Cond.methodLink RX4 3 Lib.objectInit ∈ gw_tb := gw_tb1 (List.mem_of_getElem? (i := 201) (by decide +kernel)) rfl
theorem mj_2_1 : Cond.methodLink RX2 1 Lib.objectInit ∈ gw_tb := gw_tb1 (List.mem_of_getElem? (i := 229) (by decide +kernel)) rfl
theorem mj_1_3 : Cond.methodLink RX1 3 Lib.objectInit ∈ gw_tb := gw_tb2 (List.mem_of_getElem? (i := 78) (by decide +kernel)) rfl
theorem mj_0_3 : Cond.methodLink RX0 3 Lib.objectInit ∈ gw_tb := gw_tb2 (List.mem_of_getElem? (i := 95) (by decide +kernel)) rfl
theorem mj_7_3 : Cond.methodLink RX7 3 Lib.objectInit ∈ gw_tb := gw_tb2 (List.mem_of_getElem? (i := 123) (by decide +kernel)) rfl
theorem mj_9_95 : Cond.methodLink RX9 95 ⟨"java/lang/String", "length", "()I"⟩ ∈ gw_tb := gw_tb3 (List.mem_of_getElem? (i := 47) (by decide +kernel)) rfl
theorem mj_9_99 : Cond.methodLink RX9 99 ⟨"java/lang/String", "charAt", "(I)C"⟩ ∈ gw_tb := gw_tb3 (List.mem_of_getElem? (i := 57) (by decide +kernel)) rfl
theorem mj_9_90 : Cond.methodLink RX9 90 Lib.Math.min.name ∈ gw_tb := gw_tb3 (List.mem_of_getElem? (i := 99) (by decide +kernel)) rfl
theorem mj_3_30 : Cond.methodLink RX3 30 arraycopyName ∈ gw_tb := gw_tb3 (List.mem_of_getElem? (i := 114) (by decide +kernel)) rfl
theorem mj_5_30 : Cond.methodLink RX5 30 arraycopyName ∈ gw_tb := gw_tb3 (List.mem_of_getElem? (i := 136) (by decide +kernel)) rfl
theorem mj_10_92 : Cond.methodLink RX10 92 arraycopyName ∈ gw_tb := gw_tb3 (List.mem_of_getElem? (i := 171) (by decide +kernel)) rfl
theorem mj_10_170 : Cond.methodLink RX10 170 Lib.Math.min.name ∈ gw_tb := gw_tb3 (List.mem_of_getElem? (i := 221) (by decide +kernel)) rfl
theorem mj_10_192 : Cond.methodLink RX10 192 Lib.Math.max.name ∈ gw_tb := gw_tb3 (List.mem_of_getElem? (i := 234) (by decide +kernel)) rfl
theorem mj_11_202 : Cond.methodLink RX11 202 Lib.Math.min.name ∈ gw_tb := gw_tb4 (List.mem_of_getElem? (i := 6) (by decide +kernel)) rfl
theorem mj_11_208 : Cond.methodLink RX11 208 Lib.Math.max.name ∈ gw_tb := gw_tb4 (List.mem_of_getElem? (i := 7) (by decide +kernel)) rfl
theorem mj_8_48 : Cond.methodLink RX8 48 Lib.Math.min.name ∈ gw_tb := gw_tb4 (List.mem_of_getElem? (i := 103) (by decide +kernel)) rfl
theorem mj_8_53 : Cond.methodLink RX8 53 Lib.Math.max.name ∈ gw_tb := gw_tb4 (List.mem_of_getElem? (i := 104) (by decide +kernel)) rfl
theorem mj_1_30 : Cond.methodLink RX1 30 Lib.Math.max.name ∈ gw_tb := gw_tb4 (List.mem_of_getElem? (i := 140) (by decide +kernel)) rfl
theorem mj_6_55 : Cond.methodLink RX6 55 arraycopyName ∈ gw_tb := gw_tb4 (List.mem_of_getElem? (i := 151) (by decide +kernel)) rfl
theorem mj_0_42 : Cond.methodLink RX0 42 arraycopyName ∈ gw_tb := gw_tb4 (List.mem_of_getElem? (i := 188) (by decide +kernel)) rfl
theorem mj_0_48 : Cond.methodLink RX0 48 Lib.Math.max.name ∈ gw_tb := gw_tb4 (List.mem_of_getElem? (i := 189) (by decide +kernel)) rfl
theorem mj_11_336 : Cond.methodLink RX11 336 arraycopyName ∈ gw_tb := gw_tb4 (List.mem_of_getElem? (i := 215) (by decide +kernel)) rfl
theorem mj_12_1 : Cond.methodLink RX12 1 Lib.objectInit ∈ gw_tb := gw_tb4 (List.mem_of_getElem? (i := 221) (by decide +kernel)) rfl
theorem jS_max : Cond.static Lib.Math.max.name ∈ gw_tb := gw_tb3 (List.mem_of_getElem? (i := 235) (by decide +kernel)) rfl
theorem jS_min : Cond.static Lib.Math.min.name ∈ gw_tb := gw_tb3 (List.mem_of_getElem? (i := 100) (by decide +kernel)) rfl
theorem jC_max : Cond.code Lib.Math.max.name Lib.Math.max.code 2 (some .int) ∈ gw_tb := gw_tb3 (List.mem_of_getElem? (i := 236) (by decide +kernel)) rfl
theorem jC_min : Cond.code Lib.Math.min.name Lib.Math.min.code 2 (some .int) ∈ gw_tb := gw_tb3 (List.mem_of_getElem? (i := 101) (by decide +kernel)) rfl
theorem jN_copy : Cond.native arraycopyName ∈ gw_tb := gw_tb3 (List.mem_of_getElem? (i := 116) (by decide +kernel)) rfl
theorem jS_copy : Cond.static arraycopyName ∈ gw_tb := gw_tb3 (List.mem_of_getElem? (i := 115) (by decide +kernel)) rfl
theorem jI_obj : Cond.instanceMethod Lib.objectInit ∈ gw_tb := gw_tb1 (List.mem_of_getElem? (i := 26) (by decide +kernel)) rfl
theorem jC_obj : Cond.code Lib.objectInit ⟨#[0xb1]⟩ 1 none ∈ gw_tb := gw_tb1 (List.mem_of_getElem? (i := 27) (by decide +kernel)) rfl
theorem arc_int : Cond.arrayClass .int ∈ gw_tb := gw_tb1 (List.mem_of_getElem? (i := 66) (by decide +kernel)) rfl
theorem arc_byte : Cond.arrayClass .byte ∈ gw_tb := gw_tb1 (List.mem_of_getElem? (i := 185) (by decide +kernel)) rfl
theorem arc_boolean : Cond.arrayClass .boolean ∈ gw_tb := gw_tb1 (List.mem_of_getElem? (i := 95) (by decide +kernel)) rfl
def gw_nwM : List (String × Nat × MethodName × String) := [(RX11, 9, gw_mY M_X6_init, "FlagWalk"), (RX6, 17, gw_mY M_X3_init, "FlagWalk"), (RX6, 24, gw_mY M_X5_init, "FlagWalk"), (RX6, 43, gw_mY M_X8_init, "FlagWalk"), (RX11, 25, gw_mY M_X9_init, "FlagWalk"), (RX11, 32, gw_mY M_X3_init, "FlagWalk"), (RX11, 39, gw_mY M_X5_init, "FlagWalk"), (RX11, 46, gw_mY M_X10_init, "FlagWalk"), (RX10, 11, gw_mY M_X4_init, "FlagWalk"), (RX10, 20, gw_mY M_X5_init, "FlagWalk"), (RX10, 31, gw_mY M_X2_init, "FlagWalk"), (RX11, 73, gw_mY M_X1_init, "FlagWalk"), (RX11, 80, gw_mY M_X0_init, "FlagWalk"), (RX11, 91, gw_mY M_X7_init, "FlagWalk"), (RX9, 27, gw_mY M_X11_within, "FlagWalk"), (RX4, 41, gw_mY M_X11_within, "FlagWalk"), (RX8, 60, gw_mY M_X11_within, "FlagWalk"), (RX7, 26, gw_mY M_X11_within, "FlagWalk"), (RX0, 31, gw_mY M_X11_within, "FlagWalk")]
theorem mn_11_9 : (RX11, 9, gw_mY M_X6_init, "FlagWalk") ∈ gw_nwM := List.mem_of_getElem? (i := 0) rfl
theorem wmn_11_9 : Cond.methodLinkNest RX11 9 (gw_mY M_X6_init) "FlagWalk" ∈ lw_tbl := List.mem_append_right _ (List.mem_of_getElem? (i := 30) (by decide +kernel))
theorem mn_6_17 : (RX6, 17, gw_mY M_X3_init, "FlagWalk") ∈ gw_nwM := List.mem_of_getElem? (i := 1) rfl
theorem wmn_6_17 : Cond.methodLinkNest RX6 17 (gw_mY M_X3_init) "FlagWalk" ∈ lw_tbl := List.mem_append_right _ (List.mem_of_getElem? (i := 36) (by decide +kernel))
theorem mn_6_24 : (RX6, 24, gw_mY M_X5_init, "FlagWalk") ∈ gw_nwM := List.mem_of_getElem? (i := 2) rfl
theorem wmn_6_24 : Cond.methodLinkNest RX6 24 (gw_mY M_X5_init) "FlagWalk" ∈ lw_tbl := List.mem_append_right _ (List.mem_of_getElem? (i := 69) (by decide +kernel))
theorem mn_6_43 : (RX6, 43, gw_mY M_X8_init, "FlagWalk") ∈ gw_nwM := List.mem_of_getElem? (i := 3) rfl
theorem wmn_6_43 : Cond.methodLinkNest RX6 43 (gw_mY M_X8_init) "FlagWalk" ∈ lw_tbl := List.mem_append_right _ (List.mem_of_getElem? (i := 107) (by decide +kernel))
theorem mn_11_25 : (RX11, 25, gw_mY M_X9_init, "FlagWalk") ∈ gw_nwM := List.mem_of_getElem? (i := 4) rfl
theorem wmn_11_25 : Cond.methodLinkNest RX11 25 (gw_mY M_X9_init) "FlagWalk" ∈ lw_tbl := List.mem_append_right _ (List.mem_of_getElem? (i := 168) (by decide +kernel))
theorem mn_11_32 : (RX11, 32, gw_mY M_X3_init, "FlagWalk") ∈ gw_nwM := List.mem_of_getElem? (i := 5) rfl
theorem wmn_11_32 : Cond.methodLinkNest RX11 32 (gw_mY M_X3_init) "FlagWalk" ∈ lw_tbl := List.mem_append_right _ (List.mem_of_getElem? (i := 187) (by decide +kernel))
theorem mn_11_39 : (RX11, 39, gw_mY M_X5_init, "FlagWalk") ∈ gw_nwM := List.mem_of_getElem? (i := 6) rfl
theorem wmn_11_39 : Cond.methodLinkNest RX11 39 (gw_mY M_X5_init) "FlagWalk" ∈ lw_tbl := List.mem_append_right _ (List.mem_of_getElem? (i := 189) (by decide +kernel))
theorem mn_11_46 : (RX11, 46, gw_mY M_X10_init, "FlagWalk") ∈ gw_nwM := List.mem_of_getElem? (i := 7) rfl
theorem wmn_11_46 : Cond.methodLinkNest RX11 46 (gw_mY M_X10_init) "FlagWalk" ∈ lw_tbl := List.mem_append_right _ (List.mem_of_getElem? (i := 192) (by decide +kernel))
theorem mn_10_11 : (RX10, 11, gw_mY M_X4_init, "FlagWalk") ∈ gw_nwM := List.mem_of_getElem? (i := 8) rfl
theorem wmn_10_11 : Cond.methodLinkNest RX10 11 (gw_mY M_X4_init) "FlagWalk" ∈ lw_tbl := List.mem_append_right _ (List.mem_of_getElem? (i := 198) (by decide +kernel))
theorem mn_10_20 : (RX10, 20, gw_mY M_X5_init, "FlagWalk") ∈ gw_nwM := List.mem_of_getElem? (i := 9) rfl
theorem wmn_10_20 : Cond.methodLinkNest RX10 20 (gw_mY M_X5_init) "FlagWalk" ∈ lw_tbl := List.mem_append_right _ (List.mem_of_getElem? (i := 223) (by decide +kernel))
theorem mn_10_31 : (RX10, 31, gw_mY M_X2_init, "FlagWalk") ∈ gw_nwM := List.mem_of_getElem? (i := 10) rfl
theorem wmn_10_31 : Cond.methodLinkNest RX10 31 (gw_mY M_X2_init) "FlagWalk" ∈ lw_tbl := List.mem_append_right _ (List.mem_of_getElem? (i := 226) (by decide +kernel))
theorem mn_11_73 : (RX11, 73, gw_mY M_X1_init, "FlagWalk") ∈ gw_nwM := List.mem_of_getElem? (i := 11) rfl
theorem wmn_11_73 : Cond.methodLinkNest RX11 73 (gw_mY M_X1_init) "FlagWalk" ∈ lw_tbl := List.mem_append_right _ (List.mem_of_getElem? (i := 315) (by decide +kernel))
theorem mn_11_80 : (RX11, 80, gw_mY M_X0_init, "FlagWalk") ∈ gw_nwM := List.mem_of_getElem? (i := 12) rfl
theorem wmn_11_80 : Cond.methodLinkNest RX11 80 (gw_mY M_X0_init) "FlagWalk" ∈ lw_tbl := List.mem_append_right _ (List.mem_of_getElem? (i := 332) (by decide +kernel))
theorem mn_11_91 : (RX11, 91, gw_mY M_X7_init, "FlagWalk") ∈ gw_nwM := List.mem_of_getElem? (i := 13) rfl
theorem wmn_11_91 : Cond.methodLinkNest RX11 91 (gw_mY M_X7_init) "FlagWalk" ∈ lw_tbl := List.mem_append_right _ (List.mem_of_getElem? (i := 360) (by decide +kernel))
theorem mn_9_27 : (RX9, 27, gw_mY M_X11_within, "FlagWalk") ∈ gw_nwM := List.mem_of_getElem? (i := 14) rfl
theorem wmn_9_27 : Cond.methodLinkNest RX9 27 (gw_mY M_X11_within) "FlagWalk" ∈ lw_tbl := List.mem_append_right _ (List.mem_of_getElem? (i := 497) (by decide +kernel))
theorem mn_4_41 : (RX4, 41, gw_mY M_X11_within, "FlagWalk") ∈ gw_nwM := List.mem_of_getElem? (i := 15) rfl
theorem wmn_4_41 : Cond.methodLinkNest RX4 41 (gw_mY M_X11_within) "FlagWalk" ∈ lw_tbl := List.mem_append_right _ (List.mem_of_getElem? (i := 649) (by decide +kernel))
theorem mn_8_60 : (RX8, 60, gw_mY M_X11_within, "FlagWalk") ∈ gw_nwM := List.mem_of_getElem? (i := 16) rfl
theorem wmn_8_60 : Cond.methodLinkNest RX8 60 (gw_mY M_X11_within) "FlagWalk" ∈ lw_tbl := List.mem_append_right _ (List.mem_of_getElem? (i := 837) (by decide +kernel))
theorem mn_7_26 : (RX7, 26, gw_mY M_X11_within, "FlagWalk") ∈ gw_nwM := List.mem_of_getElem? (i := 17) rfl
theorem wmn_7_26 : Cond.methodLinkNest RX7 26 (gw_mY M_X11_within) "FlagWalk" ∈ lw_tbl := List.mem_append_right _ (List.mem_of_getElem? (i := 894) (by decide +kernel))
theorem mn_0_31 : (RX0, 31, gw_mY M_X11_within, "FlagWalk") ∈ gw_nwM := List.mem_of_getElem? (i := 18) rfl
theorem wmn_0_31 : Cond.methodLinkNest RX0 31 (gw_mY M_X11_within) "FlagWalk" ∈ lw_tbl := List.mem_append_right _ (List.mem_of_getElem? (i := 899) (by decide +kernel))
theorem gw_nwM_in : ∀ q ∈ gw_nwM, Cond.methodLinkNest q.1 q.2.1 q.2.2.1 q.2.2.2 ∈ lw_tbl := by
  intro q hq
  simp only [gw_nwM, List.mem_cons, List.not_mem_nil, or_false] at hq
  rcases hq with rfl | rfl | rfl | rfl | rfl | rfl | rfl | rfl | rfl | rfl | rfl | rfl | rfl | rfl | rfl | rfl | rfl | rfl | rfl
  · exact wmn_11_9
  · exact wmn_6_17
  · exact wmn_6_24
  · exact wmn_6_43
  · exact wmn_11_25
  · exact wmn_11_32
  · exact wmn_11_39
  · exact wmn_11_46
  · exact wmn_10_11
  · exact wmn_10_20
  · exact wmn_10_31
  · exact wmn_11_73
  · exact wmn_11_80
  · exact wmn_11_91
  · exact wmn_9_27
  · exact wmn_4_41
  · exact wmn_8_60
  · exact wmn_7_26
  · exact wmn_0_31
def gw_nwF : List (String × Nat × String × String × String × String) := [("FlagWalk$Plan", 29, "FlagWalk", "FIRST_RULES", "[I", "FlagWalk"), ("FlagWalk$Tape", 71, "FlagWalk", "SHORTEST", "[I", "FlagWalk"), ("FlagWalk$Tape", 75, "FlagWalk", "LONGEST", "[I", "FlagWalk")]
theorem gw_nwF_in : ∀ q ∈ gw_nwF, Cond.fieldLinkNest q.1 q.2.1 q.2.2.1 q.2.2.2.1 q.2.2.2.2.1 q.2.2.2.2.2 ∈ lw_tbl := by
  intro q hq
  simp only [gw_nwF, List.mem_cons, List.not_mem_nil, or_false] at hq
  rcases hq with rfl | rfl | rfl
  · exact List.mem_append_right _ (List.mem_of_getElem? (i := 96) (by decide +kernel))
  · exact List.mem_append_right _ (List.mem_of_getElem? (i := 587) (by decide +kernel))
  · exact List.mem_append_right _ (List.mem_of_getElem? (i := 588) (by decide +kernel))
end
section
/-! numbers: the machine's ints and longs as mathematical integers -/
abbrev gw_Mem : Type := Nat → Int → Int
abbrev gw_SV : Type := Int ⊕ Int ⊕ Nat
abbrev gI (x : Int) : gw_SV := Sum.inl x
abbrev gL (x : Int) : gw_SV := Sum.inr (Sum.inl x)
abbrev gR (o : Nat) : gw_SV := Sum.inr (Sum.inr o)
abbrev gw_Shp : Type := Nat × Nat × List (Option Nat)
abbrev gw_Cx : Type := va_G × (Nat → ClassId) × (Nat → Nat) × Nat × (Nat → Nat)
def gw_inR (x : Int) : Prop := -2147483648 ≤ x ∧ x < 2147483648
def gw_inL (x : Int) : Prop := -9223372036854775808 ≤ x ∧ x < 9223372036854775808
def gw_w (x : Int) : Int := (x + 2147483648) % 4294967296 - 2147483648
def gw_wl (x : Int) : Int := (x + 9223372036854775808) % 18446744073709551616 - 9223372036854775808
def gw_b (x : Int) : Prop := x = 0 ∨ x = 1
def gw_in (i n : Int) : Prop := 0 ≤ i ∧ i < n
def gw_up (m : gw_Mem) (o : Nat) (j v : Int) : gw_Mem := fun o' j' => if o' = o ∧ j' = j then v else m o' j'
/-- n cells from (o, a) on, taken as they are ahead, into (o', b) -/
def gw_cp (m : gw_Mem) (o : Nat) (a : Int) (o' : Nat) (b n : Int) : gw_Mem := fun q j => if q = o' ∧ b ≤ j ∧ j < b + n then m o (a + (j - b)) else m q j
def gw_cv (ad : Nat → Nat) : gw_SV → Value
  | .inl x => .int (Int32.ofInt x)
  | .inr (.inl x) => .long (Int64.ofInt x)
  | .inr (.inr o) => .ref (ad o)
def gw_okV : gw_SV → Prop
  | .inl x => gw_inR x
  | .inr (.inl x) => gw_inL x
  | .inr (.inr _) => True
theorem gw_w_id {x : Int} (h : -2147483648 ≤ x ∧ x < 2147483648) : gw_w x = x := by unfold gw_w; omega
theorem gw_w_in (x : Int) : gw_inR (gw_w x) := by unfold gw_w gw_inR; omega
theorem gw_wl_in (x : Int) : gw_inL (gw_wl x) := by unfold gw_wl gw_inL; omega
theorem gw_w_bmod (x : Int) : gw_w x = Int.bmod x (2 ^ 32) := by
  unfold gw_w
  rw [Int.bmod_def]
  simp only [show ((2 ^ 32 : Nat) : Int) = 4294967296 from rfl]
  split <;> omega
theorem gw_wl_bmod (x : Int) : gw_wl x = Int.bmod x (2 ^ 64) := by
  unfold gw_wl
  rw [Int.bmod_def]
  simp only [show ((2 ^ 64 : Nat) : Int) = 18446744073709551616 from rfl]
  split <;> omega
theorem gw_toInt (x : Int) : (Int32.ofInt x).toInt = gw_w x := by rw [Int32.toInt_ofInt, gw_w_bmod]
theorem gw_toIntL (x : Int) : (Int64.ofInt x).toInt = gw_wl x := by rw [Int64.toInt_ofInt, gw_wl_bmod]
theorem gw_toInt_id {x : Int} (h : gw_inR x) : (Int32.ofInt x).toInt = x := by rw [gw_toInt, gw_w_id h]
theorem gw_wl_id {x : Int} (h : gw_inL x) : gw_wl x = x := by unfold gw_wl; unfold gw_inL at h; omega
theorem gw_toIntL_id {x : Int} (h : gw_inL x) : (Int64.ofInt x).toInt = x := by rw [gw_toIntL, gw_wl_id h]
theorem gw_ofw (x : Int) : Int32.ofInt (gw_w x) = Int32.ofInt x := by
  apply Int32.toInt_inj.mp
  rw [gw_toInt, gw_toInt, gw_w_id (gw_w_in x)]
theorem gw_ofwl (x : Int) : Int64.ofInt (gw_wl x) = Int64.ofInt x := by
  apply Int64.toInt_inj.mp
  rw [gw_toIntL, gw_toIntL, gw_wl_id (gw_wl_in x)]
theorem gw_eqv {v : Int32} {x : Int} (h : v.toInt = x) : v = Int32.ofInt x := by
  rw [← h, Int32.ofInt_toInt]
theorem gw_eqvL {v : Int64} {x : Int} (h : v.toInt = x) : v = Int64.ofInt x := by
  rw [← h, Int64.ofInt_toInt]
theorem gw_rng (v : Int32) : gw_inR v.toInt := ⟨Int32.le_toInt v, Int32.toInt_lt v⟩
theorem gw_rngL (v : Int64) : gw_inL v.toInt := ⟨Int64.le_toInt v, Int64.toInt_lt v⟩
theorem gw_add (x y : Int) : Int32.ofInt x + Int32.ofInt y = Int32.ofInt (gw_w (x + y)) := by rw [gw_ofw, Int32.ofInt_add]
theorem gw_sub (x y : Int) : Int32.ofInt x - Int32.ofInt y = Int32.ofInt (gw_w (x - y)) := by rw [gw_ofw, Int32.ofInt_sub]
theorem gw_mul (x y : Int) : Int32.ofInt x * Int32.ofInt y = Int32.ofInt (gw_w (x * y)) := by rw [gw_ofw, Int32.ofInt_mul]
theorem gw_neg (x : Int) : -Int32.ofInt x = Int32.ofInt (gw_w (-x)) := by rw [gw_ofw, Int32.ofInt_neg]
theorem gw_addL (x y : Int) : Int64.ofInt x + Int64.ofInt y = Int64.ofInt (gw_wl (x + y)) := by rw [gw_ofwl, Int64.ofInt_add]
theorem gw_div {x y : Int} (hx : gw_inR x) (hy : gw_inR y) : Int32.ofInt x / Int32.ofInt y = Int32.ofInt (gw_w (x.tdiv y)) := by
  apply gw_eqv
  rw [Int32.toInt_div, gw_toInt_id hx, gw_toInt_id hy, gw_w_bmod]
theorem gw_rem {x y : Int} (hx : gw_inR x) (hy : gw_inR y) : Int32.ofInt x - Int32.ofInt x / Int32.ofInt y * Int32.ofInt y = Int32.ofInt (x.tmod y) := by
  apply gw_eqv
  rw [rem_toInt, gw_toInt_id hx, gw_toInt_id hy]
theorem gw_tmod_in {x y : Int} (hx : gw_inR x) : gw_inR (x.tmod y) := by
  have h1 : (x.tmod y).natAbs ≤ x.natAbs := by
    rw [Int.natAbs_tmod]
    exact Nat.mod_le _ _
  have h2 : 0 ≤ x → 0 ≤ x.tmod y := fun h => Int.tmod_nonneg y h
  have h3 : x < 0 → x.tmod y ≤ 0 := fun h => by
    have h4 := Int.tmod_nonneg y (show 0 ≤ -x by omega)
    rw [Int.neg_tmod] at h4
    omega
  unfold gw_inR at *
  omega
theorem gw_lt {x y : Int} (hx : gw_inR x) (hy : gw_inR y) : (Int32.ofInt x < Int32.ofInt y) ↔ x < y := by rw [Int32.lt_iff_toInt_lt, gw_toInt_id hx, gw_toInt_id hy]
theorem gw_le {x y : Int} (hx : gw_inR x) (hy : gw_inR y) : (Int32.ofInt x ≤ Int32.ofInt y) ↔ x ≤ y := by rw [Int32.le_iff_toInt_le, gw_toInt_id hx, gw_toInt_id hy]
theorem gw_eq {x y : Int} (hx : gw_inR x) (hy : gw_inR y) : (Int32.ofInt x = Int32.ofInt y) ↔ x = y := by rw [← Int32.toInt_inj, gw_toInt_id hx, gw_toInt_id hy]
theorem gw_zero : (0 : Int32) = Int32.ofInt 0 := by decide
theorem gw_in0 : gw_inR 0 := by unfold gw_inR; omega
theorem gw_eq0 {x : Int} (hx : gw_inR x) : (Int32.ofInt x = 0) ↔ x = 0 := by rw [gw_zero]; exact gw_eq hx gw_in0
theorem gw_lt0 {x : Int} (hx : gw_inR x) : (Int32.ofInt x < 0) ↔ x < 0 := by rw [gw_zero]; exact gw_lt hx gw_in0
theorem gw_0le {x : Int} (hx : gw_inR x) : (0 ≤ Int32.ofInt x) ↔ 0 ≤ x := by rw [gw_zero]; exact gw_le gw_in0 hx
theorem gw_0lt {x : Int} (hx : gw_inR x) : (0 < Int32.ofInt x) ↔ 0 < x := by rw [gw_zero]; exact gw_lt gw_in0 hx
theorem gw_le0 {x : Int} (hx : gw_inR x) : (Int32.ofInt x ≤ 0) ↔ x ≤ 0 := by rw [gw_zero]; exact gw_le hx gw_in0
def gw_shl (x y : Int) : Int := (Int32.ofInt x <<< (Int32.ofInt y &&& 31)).toInt
def gw_shr (x y : Int) : Int := (Int32.ofInt x >>> (Int32.ofInt y &&& 31)).toInt
def gw_and (x y : Int) : Int := (Int32.ofInt x &&& Int32.ofInt y).toInt
def gw_or (x y : Int) : Int := (Int32.ofInt x ||| Int32.ofInt y).toInt
def gw_i2b (x : Int) : Int := (Int32.ofInt x).toInt8.toInt32.toInt
def gw_i2s (x : Int) : Int := (Int32.ofInt x).toInt16.toInt32.toInt
def gw_andL (x y : Int) : Int := (Int64.ofInt x &&& Int64.ofInt y).toInt
def gw_orL (x y : Int) : Int := (Int64.ofInt x ||| Int64.ofInt y).toInt
def gw_shlL (x y : Int) : Int := (Int64.ofInt x <<< ((Int32.ofInt y).toInt64 &&& 63)).toInt
def gw_shrL (x y : Int) : Int := (Int64.ofInt x >>> ((Int32.ofInt y).toInt64 &&& 63)).toInt
def gw_ushrL (x y : Int) : Int := ((Int64.ofInt x).toUInt64 >>> ((Int32.ofInt y).toInt64.toUInt64 &&& Int64.toUInt64 63)).toInt64.toInt
def gw_cmp (x y : Int) : Int := if y < x then 1 else if x = y then 0 else -1
theorem gw_cmp_in (x y : Int) : gw_inR (gw_cmp x y) := by
  unfold gw_cmp gw_inR
  split
  · omega
  · split <;> omega
theorem gw_lcmp {x y : Int} (hx : gw_inL x) (hy : gw_inL y) : lg_cmp (Int64.ofInt x) (Int64.ofInt y) = Int32.ofInt (gw_cmp x y) := by
  unfold lg_cmp gw_cmp
  simp only [gt_iff_lt, Int64.lt_iff_toInt_lt, ← Int64.toInt_inj, gw_toIntL_id hx, gw_toIntL_id hy]
  split
  · decide
  · split <;> decide
theorem gw_i2l {x : Int} (hx : gw_inR x) : (Int32.ofInt x).toInt64 = Int64.ofInt x := by
  apply Int64.toInt_inj.mp
  rw [Int32.toInt_toInt64, gw_toInt_id hx, gw_toIntL_id]
  unfold gw_inR at hx
  unfold gw_inL
  omega
theorem gw_l2i (x : Int) : (Int64.ofInt x).toInt32 = Int32.ofInt (gw_w x) := by
  rw [gw_ofw]
  apply Int32.toInt_inj.mp
  rw [Int64.toInt_toInt32, gw_toIntL, gw_toInt, gw_w_bmod, gw_wl_bmod]
  exact Int.bmod_bmod_of_dvd (by decide)
theorem gw_clamp {i : Int} (h0 : 0 ≤ i) (h : gw_inR i) : (Int32.ofInt i).toNatClampNeg = i.toNat := by
  show (Int32.ofInt i).toInt.toNat = i.toNat
  rw [gw_toInt_id h]
theorem gw_vpin {i : Int} {n : Nat} (h : gw_in i n) (hr : gw_inR i) : vp_in (Int32.ofInt i) n := by
  rw [vp_in_iff, gw_toInt_id hr]
  exact h
theorem gw_bool {v : Int} (h : gw_b v) : narrow .boolean (.int (Int32.ofInt v)) = .int (Int32.ofInt v) ∧ fits .boolean (.int (Int32.ofInt v)) = true := by
  rcases h with rfl | rfl <;> decide
theorem gw_b_in {v : Int} (h : gw_b v) : gw_inR v := by
  unfold gw_b at h
  unfold gw_inR
  omega
def gw_SH : List gw_Shp := [
  (0, 11, [some 4, some 25, none, some 46, some 48, some 61, some 65, some 83, none, some 1, none, some 2, none, some 101, some 104, some 3]),
  (1, 3600, []),
  (1, 4, []),
  (5, 4, [some 109, some 111, some 113, some 115]),
  (0, 6, [none, some 5, some 18, some 22, some 23]),
  (0, 3, [some 6, some 7, some 8, some 9]),
  (1, 4, []),
  (4, 4, [some 10, some 11, some 12, some 13]),
  (4, 4, [some 14, some 15, some 16, some 17]),
  (1, 8, []),
  (1, 8, []),
  (1, 8, []),
  (1, 8, []),
  (1, 8, []),
  (1, 8, []),
  (1, 8, []),
  (1, 8, []),
  (1, 8, []),
  (0, 5, [none, some 19, some 20, some 21]),
  (1, 10, []),
  (1, 10, []),
  (3, 10, []),
  (1, 5, []),
  (0, 8, [some 24, none, none, none, none, none, none, none]),
  (1, 144, []),
  (0, 6, [none, some 26, some 39, some 43, some 44]),
  (0, 3, [some 27, some 28, some 29, some 30]),
  (1, 4, []),
  (4, 4, [some 31, some 32, some 33, some 34]),
  (4, 4, [some 35, some 36, some 37, some 38]),
  (1, 8, []),
  (1, 8, []),
  (1, 8, []),
  (1, 8, []),
  (1, 8, []),
  (1, 8, []),
  (1, 8, []),
  (1, 8, []),
  (1, 8, []),
  (0, 5, [none, some 40, some 41, some 42]),
  (1, 10, []),
  (1, 10, []),
  (3, 10, []),
  (1, 5, []),
  (0, 8, [some 45, none, none, none, none, none, none, none]),
  (1, 144, []),
  (0, 9, [some 47, none, none, none]),
  (2, 80, []),
  (0, 3, [some 49, some 50, some 51, some 52]),
  (1, 4, []),
  (4, 4, [some 53, some 54, some 55, some 56]),
  (4, 4, [some 57, some 58, some 59, some 60]),
  (1, 8, []),
  (1, 8, []),
  (1, 8, []),
  (1, 8, []),
  (1, 8, []),
  (1, 8, []),
  (1, 8, []),
  (1, 8, []),
  (1, 8, []),
  (0, 5, [none, some 62, some 63, some 64]),
  (1, 10, []),
  (1, 10, []),
  (3, 10, []),
  (0, 10, [some 66, some 71, some 75, some 76, none, none, none, none, none, none, some 77, some 78, some 79, some 80, some 81, some 82]),
  (0, 4, [none, some 67, some 68, some 69, some 70]),
  (1, 100, []),
  (1, 100, []),
  (1, 100, []),
  (1, 100, []),
  (0, 5, [none, some 72, some 73, some 74]),
  (1, 10, []),
  (1, 10, []),
  (3, 10, []),
  (1, 5, []),
  (0, 2, [none, none, none, none, none, none]),
  (1, 10, []),
  (1, 10, []),
  (1, 10, []),
  (1, 10, []),
  (1, 10, []),
  (1, 10, []),
  (0, 10, [some 84, some 89, some 93, some 94, none, none, none, none, none, none, some 95, some 96, some 97, some 98, some 99, some 100]),
  (0, 4, [none, some 85, some 86, some 87, some 88]),
  (1, 100, []),
  (1, 100, []),
  (1, 100, []),
  (1, 100, []),
  (0, 5, [none, some 90, some 91, some 92]),
  (1, 10, []),
  (1, 10, []),
  (3, 10, []),
  (1, 5, []),
  (0, 2, [none, none, none, none, none, none]),
  (1, 10, []),
  (1, 10, []),
  (1, 10, []),
  (1, 10, []),
  (1, 10, []),
  (1, 10, []),
  (0, 1, [none, some 102, some 103]),
  (1, 8, []),
  (1, 8, []),
  (0, 0, [none, some 105, some 106, some 107, some 108, none]),
  (1, 6, []),
  (1, 6, []),
  (1, 6, []),
  (1, 6, []),
  (0, 7, [none, none, some 110]),
  (1, 24, []),
  (0, 7, [none, none, some 112]),
  (1, 24, []),
  (0, 7, [none, none, some 114]),
  (1, 24, []),
  (0, 7, [none, none, some 116]),
  (1, 24, []),
  (0, 12, [none, some 118, some 119, some 120, some 121, some 122, none, some 123, some 124, some 125, some 126, some 127, none, none, none, some 128, none, none, none, none, none, none, none, some 129, some 130, some 131, some 132, some 133, some 134, none, none, some 135, some 136, some 137, none, some 138, some 139, some 140, some 141, some 142, some 143]),
  (1, 4, []),
  (1, 32, []),
  (1, 32, []),
  (1, 8, []),
  (1, 5, []),
  (1, 10, []),
  (1, 10, []),
  (1, 10, []),
  (1, 144, []),
  (1, 80, []),
  (1, 30, []),
  (1, 10, []),
  (1, 10, []),
  (1, 10, []),
  (1, 10, []),
  (1, 10, []),
  (1, 10, []),
  (1, 3600, []),
  (1, 8, []),
  (1, 270, []),
  (1, 4, []),
  (1, 4, []),
  (1, 96, []),
  (1, 24, []),
  (1, 6, []),
  (1, 6, [])]

def gw_slot (ad : Nat → Nat) (f : Int → Int) (j : Nat) (r : Option Nat) : Value := match r with
  | none => .int (Int32.ofInt (f j))
  | some q => .ref (ad q)
def gw_slots (ad : Nat → Nat) (f : Int → Int) (sl : List (Option Nat)) : List Value := sl.mapIdx (gw_slot ad f)
def gw_cell (cx : gw_Cx) (m : gw_Mem) (o : Nat) (s : gw_Shp) : va_E := match s with
  | (0, ci, sl) => .inr (ci, gw_slots cx.2.2.1 (m o) sl)
  | (1, n, _) => .inl (cx.2.1 1, n, .inl (fun j => Int32.ofInt (m o (j : Nat))))
  | (2, n, _) => .inl (cx.2.1 2, n, .inl (fun j => Int32.ofInt (m o (j : Nat))))
  | (3, n, _) => .inl (cx.2.1 3, n, .inl (fun j => Int32.ofInt (m o (j : Nat))))
  | (k + 4, n, rs) => .inl (cx.2.1 (k + 4), n, .inr (.inr (.inr (.inr (fun j => (rs.getD j none).map cx.2.2.1)))))
def gw_Wd (cx : gw_Cx) (m : gw_Mem) : va_W := gw_SH.mapIdx (fun o s => (cx.2.2.1 o, gw_cell cx m o s))
def gw_A (cx : gw_Cx) : Nat → Prop := fun q => cx.2.2.2.1 ≤ q
def gw_ty (cx : gw_Cx) : List (ClassId × FieldType) := [(cx.2.1 1, .int), (cx.2.1 2, .byte), (cx.2.1 3, .boolean), (cx.2.1 4, .array .int), (cx.2.1 5, .object "FlagWalk$Sheet")]
def gw_ap (cx : gw_Cx) : Prop := (∀ i j : Nat, i < 144 → j < 144 → cx.2.2.1 i = cx.2.2.1 j → i = j) ∧ ∀ i : Nat, i < 144 → cx.2.2.2.1 ≤ cx.2.2.1 i
def gw_okM (m : gw_Mem) : Prop := (∀ (o : Nat) (j : Int), gw_inR (m o j)) ∧ ∀ (o n : Nat) (rs : List (Option Nat)), gw_SH[o]? = some (3, n, rs) → ∀ j : Int, gw_b (m o j)
theorem gw_SHlen : gw_SH.length = 144 := by decide +kernel
theorem gw_Wd_get {cx : gw_Cx} {m : gw_Mem} {o : Nat} {s : gw_Shp} (h : gw_SH[o]? = some s) : (gw_Wd cx m)[o]? = some (cx.2.2.1 o, gw_cell cx m o s) := by
  unfold gw_Wd
  rw [List.getElem?_mapIdx, h]
  rfl
theorem gw_Wd_len (cx : gw_Cx) (m : gw_Mem) : (gw_Wd cx m).length = 144 := by
  unfold gw_Wd
  rw [List.length_mapIdx, gw_SHlen]
theorem gw_Wd_of {cx : gw_Cx} {m : gw_Mem} {o : Nat} {q : Nat × va_E} (h : (gw_Wd cx m)[o]? = some q) : o < 144 ∧ ∃ s, gw_SH[o]? = some s ∧ q = (cx.2.2.1 o, gw_cell cx m o s) := by
  have h1 : o < 144 := by
    have := (List.getElem?_eq_some_iff.mp h).1
    rwa [gw_Wd_len] at this
  refine ⟨h1, ?_⟩
  have h2 : o < gw_SH.length := by rw [gw_SHlen]; exact h1
  refine ⟨gw_SH[o], List.getElem?_eq_getElem h2, ?_⟩
  have h3 := gw_Wd_get (cx := cx) (m := m) (List.getElem?_eq_getElem h2)
  rw [h] at h3
  exact Option.some.inj h3
theorem gw_Wd_D {cx : gw_Cx} (h : gw_ap cx) (m : gw_Mem) : va_D (gw_A cx) (gw_Wd cx m) := by
  refine ⟨fun i j p q hp hq e => ?_, fun k q hq => ?_⟩
  · obtain ⟨h1, s1, -, rfl⟩ := gw_Wd_of hp
    obtain ⟨h2, s2, -, rfl⟩ := gw_Wd_of hq
    exact h.1 i j h1 h2 e
  · obtain ⟨h1, s1, -, rfl⟩ := gw_Wd_of hq
    exact h.2 k h1
theorem gw_Wd_set {cx : gw_Cx} {m m' : gw_Mem} {o : Nat} {s : gw_Shp} {e : va_E} (h : gw_SH[o]? = some s) (he : e = gw_cell cx m' o s) (hk : ∀ q : Nat, q ≠ o → m' q = m q) : (gw_Wd cx m).set o (cx.2.2.1 o, e) = gw_Wd cx m' := by
  subst he
  apply List.ext_getElem?
  intro i
  rw [List.getElem?_set]
  by_cases hi : o = i
  · subst hi
    have hl : o < (gw_Wd cx m).length := by
      rw [gw_Wd_len, ← gw_SHlen]
      exact (List.getElem?_eq_some_iff.mp h).1
    rw [if_pos rfl, if_pos hl, gw_Wd_get h]
  · rw [if_neg hi]
    unfold gw_Wd
    rw [List.getElem?_mapIdx, List.getElem?_mapIdx]
    cases gw_SH[i]? with
    | none => rfl
    | some x =>
      have e1 : gw_cell cx m i x = gw_cell cx m' i x := by
        unfold gw_cell
        rw [hk i (fun z => hi z.symm)]
      show some (_, _) = some (_, _)
      rw [e1]
theorem gw_up_ne {m : gw_Mem} {o q : Nat} {j v : Int} (h : q ≠ o) : gw_up m o j v q = m q := by
  funext j'
  unfold gw_up
  rw [if_neg (fun z => h z.1)]
theorem gw_up_at {m : gw_Mem} {o : Nat} {j j' v : Int} : gw_up m o j v o j' = if j' = j then v else m o j' := by
  unfold gw_up
  by_cases h : j' = j
  · rw [if_pos ⟨rfl, h⟩, if_pos h]
  · rw [if_neg (fun z => h z.2), if_neg h]
theorem gw_okM_up {m : gw_Mem} {o : Nat} {j v : Int} (h : gw_okM m) (hv : gw_inR v) (hb : ∀ n rs, gw_SH[o]? = some (3, n, rs) → gw_b v) : gw_okM (gw_up m o j v) := by
  refine ⟨fun q i => ?_, fun q n rs hq i => ?_⟩
  · unfold gw_up
    split
    · exact hv
    · exact h.1 q i
  · unfold gw_up
    split
    · rename_i hc
      rw [hc.1] at hq
      exact hb n rs hq
    · exact h.2 q n rs hq i
/-! the locals -/
def gw_ls (ad : Nat → Nat) (nL : Nat) (lsA : Array Slot) (ls : List (Option gw_SV)) : Prop := lsA.size = nL ∧ lv_wf lsA ∧ ls.length = nL ∧ ∀ (i : Nat) (v : gw_SV), ls[i]? = some (some v) → lsA[i]? = some (.val (gw_cv ad v))
def gw_nl (ls : List (Option gw_SV)) (i : Nat) : Bool := match i with
  | 0 => true
  | k + 1 => match ls[k]? with
    | some (some (.inr (.inl _))) => false
    | _ => true
theorem gw_cat (ad : Nat → Nat) (v : gw_SV) : (gw_cv ad v).category = 2 ↔ ∃ x, v = gL x := by
  rcases v with x | x | o
  · simp [gw_cv, Value.category]
  · simp [gw_cv, Value.category]
  · simp [gw_cv, Value.category]
theorem gw_ls_lv {ad : Nat → Nat} {nL : Nat} {lsA : Array Slot} {ls : List (Option gw_SV)} (h : gw_ls ad nL lsA ls) : lv_has lsA nL ((List.range nL).filterMap (fun i => match ls[i]? with | some (some v) => some (i, gw_cv ad v) | _ => none)) := by
  refine ⟨h.1, h.2.1, fun q hq => ?_⟩
  obtain ⟨i, -, hi⟩ := List.mem_filterMap.mp hq
  cases hv : ls[i]? with
  | none => rw [hv] at hi; cases hi
  | some o =>
    cases o with
    | none => rw [hv] at hi; cases hi
    | some v =>
      rw [hv] at hi
      cases hi
      exact h.2.2.2 i v hv
theorem gw_ls_store {ad : Nat → Nat} {nL : Nat} {lsA ls' : Array Slot} {ls : List (Option gw_SV)} {i : Nat} {v : gw_SV} (h : gw_ls ad nL lsA ls) (hn : gw_nl ls i = true)
    (h' : lv_has ls' nL ((i, gw_cv ad v) :: ((List.range nL).filterMap (fun i => match ls[i]? with | some (some v) => some (i, gw_cv ad v) | _ => none)).filter (fun q => !(q.1 == i) && !(q.1 + 1 == i && q.2.category == 2)))) : gw_ls ad nL ls' (ls.set i (some v)) := by
  refine ⟨h'.1, h'.2.1, by rw [List.length_set]; exact h.2.2.1, fun j w hj => ?_⟩
  rw [List.getElem?_set] at hj
  by_cases hij : i = j
  · subst hij
    rw [if_pos rfl] at hj
    split at hj
    · cases hj
      exact h'.2.2 _ List.mem_cons_self
    · cases hj
  · rw [if_neg hij] at hj
    have hlt : j < nL := by rw [← h.2.2.1]; exact (List.getElem?_eq_some_iff.mp hj).1
    refine h'.2.2 (j, gw_cv ad w) (List.mem_cons_of_mem _ (List.mem_filter.mpr ⟨List.mem_filterMap.mpr ⟨j, List.mem_range.mpr hlt, by rw [hj]⟩, ?_⟩))
    have e1 : (j == i) = false := by simpa using fun z : j = i => hij z.symm
    have e2 : (j + 1 == i && (gw_cv ad w).category == 2) = false := by
      by_cases hc : (gw_cv ad w).category = 2
      · obtain ⟨x, rfl⟩ := (gw_cat ad w).mp hc
        by_cases hk : j + 1 = i
        · subst hk
          simp [gw_nl, hj] at hn
        · simp [hk]
      · simp [hc]
    simp [e1, e2]
/-! what does not change: the static arrays, the texts -/
def gw_sn (i : Nat) : String := match i with
  | 0 => "SHORTEST"
  | 1 => "LONGEST"
  | 2 => "LEAST_RULES"
  | 3 => "MOST_RULES"
  | _ => "FIRST_RULES"
def gw_sv (i : Nat) : List Int := match i with
  | 0 => [1, 2, 1, 1]
  | 1 => [20, 20, 20, 50]
  | 2 => [1, 0, 0, 0, 1]
  | 3 => [4, 10, 9, 30, 20]
  | _ => [2, 5, 0, 10, 3]
def gw_Stat (cx : gw_Cx) (U : State) (H : Heap) : Prop :=
  (∀ i : Nat, i < 5 → va_Z "FlagWalk" (gw_sn i) "[I" (.ref (cx.2.2.1 (1000 + i))) (gw_A cx) U H ∧ va_T .int (cx.2.2.1 (1000 + i)) (gw_sv i).length (fun j => .int (Int32.ofInt ((gw_sv i).getD j 0))) (gw_A cx) U H) ∧
  vk_S 2 [4, 4] [[115, 108, 119, 116], [112, 108, 111, 116]] (fun i => cx.2.2.1 (2000 + i)) cx.2.2.2.2 (gw_A cx) U H ∧
  vk_R "FlagWalk$Tape" 57 "slwt" (cx.2.2.1 2000) U ∧ vk_R "FlagWalk$Tape" 82 "plot" (cx.2.2.1 2001) U ∧
  va_Z "java/lang/String" "COMPACT_STRINGS" "Z" (.int 1) (gw_A cx) U H ∧
  va_Zq "jdk/internal/util/Preconditions" "SIOOBE_FORMATTER" "Ljava/util/function/BiFunction;" (gw_A cx) U H ∧
  (∀ q ∈ gw_nwM, va_Nw (.methodLinkNest q.1 q.2.1 q.2.2.1 q.2.2.2) U) ∧ (∀ q ∈ gw_nwF, va_Nw (.fieldLinkNest q.1 q.2.1 q.2.2.1 q.2.2.2.1 q.2.2.2.2.1 q.2.2.2.2.2) U)
theorem gw_Stat.kept {cx : gw_Cx} {U : State} {H H1 : Heap} (h : gw_Stat cx U H) (hq : ∀ a : Nat, a < H.size → ¬ gw_A cx a → H1[a]? = H[a]?) : gw_Stat cx U H1 :=
  ⟨fun i hi => ⟨(h.1 i hi).1.kept hq, (h.1 i hi).2.kept hq⟩, h.2.1.kept hq, h.2.2.1, h.2.2.2.1, h.2.2.2.2.1.kept hq, h.2.2.2.2.2.1.kept hq, h.2.2.2.2.2.2.1, h.2.2.2.2.2.2.2⟩
theorem gw_Stat.warm {cx : gw_Cx} {s U : State} {H : Heap} (hW : s.WarmedH U.vm) (h : gw_Stat cx s H) : gw_Stat cx U H :=
  ⟨fun i hi => ⟨va_Z.moved hW.alike (h.1 i hi).1, va_T.moved hW.alike (h.1 i hi).2⟩, vk_S.moved hW.alike h.2.1, vk_R.warm hW h.2.2.1, vk_R.warm hW h.2.2.2.1, va_Z.moved hW.alike h.2.2.2.2.1, va_Zq.moved hW.alike h.2.2.2.2.2.1, fun q hq => va_Nw.warmM hW (h.2.2.2.2.2.2.1 q hq), fun q hq => va_Nw.warmF hW (h.2.2.2.2.2.2.2 q hq)⟩
theorem gw_Stat.same {cx : gw_Cx} {u U : State} {H : Heap} (hv : U.vm = u.vm) (h : gw_Stat cx u H) : gw_Stat cx U H :=
  have ha : u.vm.Alike U.vm := by rw [hv]; exact Vm.Alike.refl u.vm
  ⟨fun i hi => ⟨va_Z.moved ha (h.1 i hi).1, va_T.moved ha (h.1 i hi).2⟩, vk_S.moved ha h.2.1, vk_R.same hv h.2.2.1, vk_R.same hv h.2.2.2.1, va_Z.moved ha h.2.2.2.2.1, va_Zq.moved ha h.2.2.2.2.2.1, fun q hq => va_Nw.same rfl hv.symm (h.2.2.2.2.2.2.1 q hq), fun q hq => va_Nw.same rfl hv.symm (h.2.2.2.2.2.2.2 q hq)⟩
/-! the judgement -/
abbrev gw_Ga : Type := gw_Cx × Program × Launch × Env × Room × State × MethodId × Array Value × List Frame × Method × Code × (Nat × Nat) × (State → Prop)
def gw_OK (mt : gw_MT) (d : Nat) (QR : Option gw_SV → gw_Mem → Prop) : gw_Ga → Prop
  | (cx, p, l, e, R, s, mm, args, below, meth, c, (c0, s0), Q) =>
    p.tables.exec = Jvm.exec ∧ c.code = gw_mC mt ∧ c.maxLocals = gw_mL mt ∧ s.vm.findClass (gw_mY mt).cls = some mm.cls ∧ (∀ w ∈ gw_tb, w.before args s = true) ∧
    va_K cx.1 vwCl (gw_ty cx) s ∧ gw_ap cx ∧ gw_Stat cx s s.heap ∧ cx.2.2.2.1 ≤ s.heap.size ∧ (d ≤ R.frames ∧ 64 * d ≤ R.locals ∧ c0 ≤ R.cells ∧ s0 ≤ R.slots) ∧
    (∀ (v : Int) (m : gw_Mem) (H : Heap) (locs : List Loc) (lsA : Array Slot) (pc : Nat), QR (some (gI v)) m → gw_inR v → (gw_mR mt = some .int ∨ gw_mR mt = some .boolean ∧ gw_b v) → decode (gw_mC mt) pc = .ok (.ireturn, 1) → va_P cx.1 vwCl (gw_Wd cx m) H → gw_okM m → va_S (gw_A cx) s.heap H locs → W p l e R s mm args below meth c H locs c0 s0 Q (F0 mm pc lsA [.int (Int32.ofInt v)])) ∧
    (∀ (m : gw_Mem) (H : Heap) (locs : List Loc) (lsA : Array Slot) (pc : Nat), QR none m → gw_mR mt = none → decode (gw_mC mt) pc = .ok (.return_, 1) → va_P cx.1 vwCl (gw_Wd cx m) H → gw_okM m → va_S (gw_A cx) s.heap H locs → W p l e R s mm args below meth c H locs c0 s0 Q (F0 mm pc lsA []))
def gw_G (mt : gw_MT) (d : Nat) (QR : Option gw_SV → gw_Mem → Prop) : gw_Ga → Nat → List (Option gw_SV) → List gw_SV → gw_Mem → Prop
  | (cx, p, l, e, R, s, mm, args, below, meth, c, (c0, s0), Q), pc, ls, stk, m =>
    gw_OK mt d QR (cx, p, l, e, R, s, mm, args, below, meth, c, (c0, s0), Q) → (∀ v, some v ∈ ls → gw_okV v) → (∀ v ∈ stk, gw_okV v) → gw_okM m →
    ∀ (H : Heap) (locs : List Loc) (lsA : Array Slot), va_P cx.1 vwCl (gw_Wd cx m) H → va_S (gw_A cx) s.heap H locs → gw_ls cx.2.2.1 (gw_mL mt) lsA ls → W p l e R s mm args below meth c H locs c0 s0 Q (F0 mm pc lsA (stk.map (gw_cv cx.2.2.1)))
theorem gw_ok {mt d QR Γ pc ls stk m} (h : gw_okM m → (∀ v, some v ∈ ls → gw_okV v) → (∀ v ∈ stk, gw_okV v) → gw_G mt d QR Γ pc ls stk m) : gw_G mt d QR Γ pc ls stk m := by
  obtain ⟨cx, p, l, e, R, s, mm, args, below, meth, c, ⟨c0, s0⟩, Q⟩ := Γ
  intro ok o1 o2 o3
  exact h o3 o1 o2 ok o1 o2 o3
/-- a row that touches the stack alone -/
theorem gw_stp {mt : gw_MT} {d QR Γ pc pc' ls} {stk stk' : List gw_SV} {m} (h : gw_G mt d QR Γ pc' ls stk' m)
    (hs : ∀ {p : Program} {l : Launch} {e : Env} {R : Room} {s : State} {mm : MethodId} {args : Array Value} {below : List Frame} {meth : Method} {c : Code} {H : Heap} {locs : List Loc} {cells slots : Nat} {Q : State → Prop} {lsA : Array Slot} (ad : Nat → Nat), p.tables.exec = Jvm.exec → c.code = gw_mC mt → s.vm.findClass (gw_mY mt).cls = some mm.cls → (∀ w ∈ gw_tb, w.before args s = true) → (∀ v ∈ stk, gw_okV v) → W p l e R s mm args below meth c H locs cells slots Q (F0 mm pc' lsA (stk'.map (gw_cv ad))) → W p l e R s mm args below meth c H locs cells slots Q (F0 mm pc lsA (stk.map (gw_cv ad))))
    (ho : (∀ v ∈ stk, gw_okV v) → ∀ v ∈ stk', gw_okV v) : gw_G mt d QR Γ pc ls stk m := by
  obtain ⟨cx, p, l, e, R, s, mm, args, below, meth, c, ⟨c0, s0⟩, Q⟩ := Γ
  intro ok o1 o2 o3 H locs lsA hP hS hl
  exact hs cx.2.2.1 ok.1 ok.2.1 ok.2.2.2.1 ok.2.2.2.2.1 o2 (h ok o1 (ho o2) o3 H locs lsA hP hS hl)
theorem gw_oc {v w : gw_SV} {rest : List gw_SV} (hv : gw_okV v) (h : ∀ x ∈ w :: rest, gw_okV x) : ∀ x ∈ v :: rest, gw_okV x := fun x hx => (List.mem_cons.mp hx).elim (fun e => e ▸ hv) (fun z => h x (List.mem_cons_of_mem _ z))
theorem gw_oc2 {v w w2 : gw_SV} {rest : List gw_SV} (hv : gw_okV v) (h : ∀ x ∈ w :: w2 :: rest, gw_okV x) : ∀ x ∈ v :: rest, gw_okV x := fun x hx => (List.mem_cons.mp hx).elim (fun e => e ▸ hv) (fun z => h x (List.mem_cons_of_mem _ (List.mem_cons_of_mem _ z)))
theorem gw_op {v : gw_SV} {rest : List gw_SV} (hv : gw_okV v) (h : ∀ x ∈ rest, gw_okV x) : ∀ x ∈ v :: rest, gw_okV x := fun x hx => (List.mem_cons.mp hx).elim (fun e => e ▸ hv) (fun z => h x z)
theorem gw_o0 {v : gw_SV} {rest : List gw_SV} (h : ∀ x ∈ v :: rest, gw_okV x) : gw_okV v := h v List.mem_cons_self
theorem gw_o1 {v w : gw_SV} {rest : List gw_SV} (h : ∀ x ∈ v :: w :: rest, gw_okV x) : gw_okV w := h w (List.mem_cons_of_mem _ List.mem_cons_self)
theorem gw_ot {v : gw_SV} {rest : List gw_SV} (h : ∀ x ∈ v :: rest, gw_okV x) : ∀ x ∈ rest, gw_okV x := fun x hx => h x (List.mem_cons_of_mem _ hx)
end
section
/-! one row an instruction -/
def gw_rb (n : Int) : Bool := match n with
  | .ofNat k => Nat.blt k 2147483648
  | .negSucc k => Nat.blt k 2147483648
theorem gw_rb_in {n : Int} (h : gw_rb n = true) : gw_inR n := by
  unfold gw_inR
  cases n with
  | ofNat k =>
    have h1 : k < 2147483648 := by simpa [gw_rb, Nat.blt_eq] using h
    have h2 : (Int.ofNat k : Int) = (k : Int) := rfl
    exact ⟨by omega, by omega⟩
  | negSucc k =>
    have h1 : k < 2147483648 := by simpa [gw_rb, Nat.blt_eq] using h
    exact ⟨by omega, by omega⟩
theorem gw_iconst {mt d QR Γ pc ls stk m} {n : Int} (pc' : Nat) (hd : decode (gw_mC mt) pc = .ok (.iconst n, 1)) (hp : pc + 1 = pc') (hr : gw_rb n = true) (h : gw_G mt d QR Γ pc' ls (gI n :: stk) m) : gw_G mt d QR Γ pc ls stk m := by
  subst hp
  exact gw_stp h (fun ad hx hb _ _ _ k => lv_iconst hx hb hd rfl k) (fun o => gw_op (gw_rb_in hr) o)
theorem gw_bipush {mt d QR Γ pc ls stk m} {n : Int} (pc' : Nat) (hd : decode (gw_mC mt) pc = .ok (.bipush n, 2)) (hp : pc + 2 = pc') (hr : gw_rb n = true) (hv : (Int8.ofInt n).toInt32 = Int32.ofInt n) (h : gw_G mt d QR Γ pc' ls (gI n :: stk) m) : gw_G mt d QR Γ pc ls stk m := by
  subst hp
  exact gw_stp h (fun ad hx hb _ _ _ k => lv_bipush hx hb hd hv k) (fun o => gw_op (gw_rb_in hr) o)
theorem gw_sipush {mt d QR Γ pc ls stk m} {n : Int} (pc' : Nat) (hd : decode (gw_mC mt) pc = .ok (.sipush n, 3)) (hp : pc + 3 = pc') (hr : gw_rb n = true) (hv : (Int16.ofInt n).toInt32 = Int32.ofInt n) (h : gw_G mt d QR Γ pc' ls (gI n :: stk) m) : gw_G mt d QR Γ pc ls stk m := by
  subst hp
  exact gw_stp h (fun ad hx hb _ _ _ k => lv_sipush hx hb hd hv k) (fun o => gw_op (gw_rb_in hr) o)
theorem gw_ldc {mt d QR Γ pc ls stk m} {i : Nat} {v : Int32} {n : Int} (pc' : Nat) (hd : decode (gw_mC mt) pc = .ok (.ldc i, 2)) (hp : pc + 2 = pc') (hw : Cond.constant (gw_mY mt).cls i v ∈ gw_tb) (hr : gw_rb n = true) (hv : v = Int32.ofInt n) (h : gw_G mt d QR Γ pc' ls (gI n :: stk) m) : gw_G mt d QR Γ pc ls stk m := by
  subst hp; subst hv
  exact gw_stp h (fun ad hx hb ho ht _ k => lv_ldc hx hb ho (ht _ hw) hd k) (fun o => gw_op (gw_rb_in hr) o)
theorem gw_ldcw {mt d QR Γ pc ls stk m} {i : Nat} {v : Int32} {n : Int} (pc' : Nat) (hd : decode (gw_mC mt) pc = .ok (.ldc_w i, 3)) (hp : pc + 3 = pc') (hw : Cond.constant (gw_mY mt).cls i v ∈ gw_tb) (hr : gw_rb n = true) (hv : v = Int32.ofInt n) (h : gw_G mt d QR Γ pc' ls (gI n :: stk) m) : gw_G mt d QR Γ pc ls stk m := by
  subst hp; subst hv
  exact gw_stp h (fun ad hx hb ho ht _ k => lv_ldcw hx hb ho (ht _ hw) hd k) (fun o => gw_op (gw_rb_in hr) o)
theorem gw_rb_inL {n : Int} (h : gw_inR n) : gw_inL n := by
  unfold gw_inR at h
  unfold gw_inL
  omega
theorem gw_ldc2 {mt d QR Γ pc ls stk m} {i : Nat} {v : Int64} {n : Int} (pc' : Nat) (hd : decode (gw_mC mt) pc = .ok (.ldc2_w i, 3)) (hp : pc + 3 = pc') (hw : Cond.constantLong (gw_mY mt).cls i v ∈ gw_tb) (hr : gw_inL n) (hv : v = Int64.ofInt n) (h : gw_G mt d QR Γ pc' ls (gL n :: stk) m) : gw_G mt d QR Γ pc ls stk m := by
  subst hp; subst hv
  exact gw_stp h (fun ad hx hb ho ht _ k => lv_ldc2 hx hb ho (ht _ hw) hd k) (fun o => gw_op hr o)
theorem gw_lconst {mt d QR Γ pc ls stk m} {i : Fin 2} {n : Int} (pc' : Nat) (hd : decode (gw_mC mt) pc = .ok (.lconst i, 1)) (hp : pc + 1 = pc') (hr : gw_rb n = true) (hv : Int64.ofNat (i : Nat) = Int64.ofInt n) (h : gw_G mt d QR Γ pc' ls (gL n :: stk) m) : gw_G mt d QR Γ pc ls stk m := by
  subst hp
  exact gw_stp h (fun ad hx hb _ _ _ k => lv_lconst hx hb hd hv k) (fun o => gw_op (gw_rb_inL (gw_rb_in hr)) o)
theorem gw_iadd {mt d QR Γ pc ls stk m} {x y : Int} (pc' : Nat) (hd : decode (gw_mC mt) pc = .ok (.iadd, 1)) (hp : pc + 1 = pc') (h : gw_G mt d QR Γ pc' ls (gI (gw_w (x + y)) :: stk) m) : gw_G mt d QR Γ pc ls (gI y :: gI x :: stk) m := by
  subst hp
  exact gw_stp h (fun ad hx hb _ _ _ k => lv_iadd hx hb hd (by rw [gw_add]; exact k)) (fun o => gw_oc2 (gw_w_in _) o)
theorem gw_isub {mt d QR Γ pc ls stk m} {x y : Int} (pc' : Nat) (hd : decode (gw_mC mt) pc = .ok (.isub, 1)) (hp : pc + 1 = pc') (h : gw_G mt d QR Γ pc' ls (gI (gw_w (x - y)) :: stk) m) : gw_G mt d QR Γ pc ls (gI y :: gI x :: stk) m := by
  subst hp
  exact gw_stp h (fun ad hx hb _ _ _ k => lv_isub hx hb hd (by rw [gw_sub]; exact k)) (fun o => gw_oc2 (gw_w_in _) o)
theorem gw_imul {mt d QR Γ pc ls stk m} {x y : Int} (pc' : Nat) (hd : decode (gw_mC mt) pc = .ok (.imul, 1)) (hp : pc + 1 = pc') (h : gw_G mt d QR Γ pc' ls (gI (gw_w (x * y)) :: stk) m) : gw_G mt d QR Γ pc ls (gI y :: gI x :: stk) m := by
  subst hp
  exact gw_stp h (fun ad hx hb _ _ _ k => lv_imul hx hb hd (by rw [gw_mul]; exact k)) (fun o => gw_oc2 (gw_w_in _) o)
theorem gw_ineg {mt d QR Γ pc ls stk m} {x : Int} (pc' : Nat) (hd : decode (gw_mC mt) pc = .ok (.ineg, 1)) (hp : pc + 1 = pc') (h : gw_G mt d QR Γ pc' ls (gI (gw_w (-x)) :: stk) m) : gw_G mt d QR Γ pc ls (gI x :: stk) m := by
  subst hp
  exact gw_stp h (fun ad hx hb _ _ _ k => lv_ineg hx hb hd (by rw [gw_neg]; exact k)) (fun o => gw_oc (gw_w_in _) o)
theorem gw_nz {y : Int} (hy : gw_inR y) (h : y ≠ 0) : ¬ Int32.ofInt y = 0 := by
  rw [gw_zero, gw_eq hy gw_in0]
  exact h
theorem gw_idiv {mt d QR Γ pc ls stk m} {x y : Int} (pc' : Nat) (hd : decode (gw_mC mt) pc = .ok (.idiv, 1)) (hp : pc + 1 = pc') (hz : y ≠ 0) (h : gw_G mt d QR Γ pc' ls (gI (gw_w (x.tdiv y)) :: stk) m) : gw_G mt d QR Γ pc ls (gI y :: gI x :: stk) m := by
  subst hp
  exact gw_stp h (fun ad hx hb _ _ o k => lv_idiv hx hb hd (gw_nz (gw_o0 o) hz) (by rw [gw_div (gw_o1 o) (gw_o0 o)]; exact k)) (fun o => gw_oc2 (gw_w_in _) o)
theorem gw_irem {mt d QR Γ pc ls stk m} {x y : Int} (pc' : Nat) (hd : decode (gw_mC mt) pc = .ok (.irem, 1)) (hp : pc + 1 = pc') (hz : y ≠ 0) (h : gw_G mt d QR Γ pc' ls (gI (x.tmod y) :: stk) m) : gw_G mt d QR Γ pc ls (gI y :: gI x :: stk) m := by
  subst hp
  exact gw_stp h (fun ad hx hb _ _ o k => lv_irem hx hb hd (gw_nz (gw_o0 o) hz) (by rw [gw_rem (gw_o1 o) (gw_o0 o)]; exact k)) (fun o => gw_oc2 (gw_tmod_in (gw_o1 o)) o)
theorem gw_ishl {mt d QR Γ pc ls stk m} {x y : Int} (pc' : Nat) (hd : decode (gw_mC mt) pc = .ok (.ishl, 1)) (hp : pc + 1 = pc') (h : gw_G mt d QR Γ pc' ls (gI (gw_shl x y) :: stk) m) : gw_G mt d QR Γ pc ls (gI y :: gI x :: stk) m := by
  subst hp
  exact gw_stp h (fun ad hx hb _ _ _ k => lv_ishl hx hb hd (by rw [gw_eqv (v := Int32.ofInt x <<< (Int32.ofInt y &&& 31)) (x := gw_shl x y) rfl]; exact k)) (fun o => gw_oc2 (gw_rng _) o)
theorem gw_ishr {mt d QR Γ pc ls stk m} {x y : Int} (pc' : Nat) (hd : decode (gw_mC mt) pc = .ok (.ishr, 1)) (hp : pc + 1 = pc') (h : gw_G mt d QR Γ pc' ls (gI (gw_shr x y) :: stk) m) : gw_G mt d QR Γ pc ls (gI y :: gI x :: stk) m := by
  subst hp
  exact gw_stp h (fun ad hx hb _ _ _ k => lv_ishr hx hb hd (by rw [gw_eqv (v := Int32.ofInt x >>> (Int32.ofInt y &&& 31)) (x := gw_shr x y) rfl]; exact k)) (fun o => gw_oc2 (gw_rng _) o)
theorem gw_iand {mt d QR Γ pc ls stk m} {x y : Int} (pc' : Nat) (hd : decode (gw_mC mt) pc = .ok (.iand, 1)) (hp : pc + 1 = pc') (h : gw_G mt d QR Γ pc' ls (gI (gw_and x y) :: stk) m) : gw_G mt d QR Γ pc ls (gI y :: gI x :: stk) m := by
  subst hp
  exact gw_stp h (fun ad hx hb _ _ _ k => lv_iand hx hb hd (by rw [gw_eqv (v := Int32.ofInt x &&& Int32.ofInt y) (x := gw_and x y) rfl]; exact k)) (fun o => gw_oc2 (gw_rng _) o)
theorem gw_ior {mt d QR Γ pc ls stk m} {x y : Int} (pc' : Nat) (hd : decode (gw_mC mt) pc = .ok (.ior, 1)) (hp : pc + 1 = pc') (h : gw_G mt d QR Γ pc' ls (gI (gw_or x y) :: stk) m) : gw_G mt d QR Γ pc ls (gI y :: gI x :: stk) m := by
  subst hp
  exact gw_stp h (fun ad hx hb _ _ _ k => lv_ior hx hb hd (by rw [gw_eqv (v := Int32.ofInt x ||| Int32.ofInt y) (x := gw_or x y) rfl]; exact k)) (fun o => gw_oc2 (gw_rng _) o)
theorem gw_i2bR {mt d QR Γ pc ls stk m} {x : Int} (pc' : Nat) (hd : decode (gw_mC mt) pc = .ok (.i2b, 1)) (hp : pc + 1 = pc') (h : gw_G mt d QR Γ pc' ls (gI (gw_i2b x) :: stk) m) : gw_G mt d QR Γ pc ls (gI x :: stk) m := by
  subst hp
  exact gw_stp h (fun ad hx hb _ _ _ k => lv_i2b hx hb hd (v := Int32.ofInt (gw_i2b x)) (gw_eqv rfl) k) (fun o => gw_oc (gw_rng _) o)
theorem gw_i2sR {mt d QR Γ pc ls stk m} {x : Int} (pc' : Nat) (hd : decode (gw_mC mt) pc = .ok (.i2s, 1)) (hp : pc + 1 = pc') (h : gw_G mt d QR Γ pc' ls (gI (gw_i2s x) :: stk) m) : gw_G mt d QR Γ pc ls (gI x :: stk) m := by
  subst hp
  exact gw_stp h (fun ad hx hb _ _ _ k => lv_i2s hx hb hd (v := Int32.ofInt (gw_i2s x)) (gw_eqv rfl) k) (fun o => gw_oc (gw_rng _) o)
theorem gw_i2lR {mt d QR Γ pc ls stk m} {x : Int} (pc' : Nat) (hd : decode (gw_mC mt) pc = .ok (.i2l, 1)) (hp : pc + 1 = pc') (h : gw_G mt d QR Γ pc' ls (gL x :: stk) m) : gw_G mt d QR Γ pc ls (gI x :: stk) m := by
  subst hp
  exact gw_stp h (fun ad hx hb _ _ o k => lv_i2l hx hb hd (gw_i2l (gw_o0 o)) k) (fun o => gw_oc (gw_rb_inL (gw_o0 o)) o)
theorem gw_l2iR {mt d QR Γ pc ls stk m} {x : Int} (pc' : Nat) (hd : decode (gw_mC mt) pc = .ok (.l2i, 1)) (hp : pc + 1 = pc') (h : gw_G mt d QR Γ pc' ls (gI (gw_w x) :: stk) m) : gw_G mt d QR Γ pc ls (gL x :: stk) m := by
  subst hp
  exact gw_stp h (fun ad hx hb _ _ _ k => lv_l2i hx hb hd (gw_l2i x) k) (fun o => gw_oc (gw_w_in _) o)
theorem gw_ladd {mt d QR Γ pc ls stk m} {x y : Int} (pc' : Nat) (hd : decode (gw_mC mt) pc = .ok (.ladd, 1)) (hp : pc + 1 = pc') (h : gw_G mt d QR Γ pc' ls (gL (gw_wl (x + y)) :: stk) m) : gw_G mt d QR Γ pc ls (gL y :: gL x :: stk) m := by
  subst hp
  exact gw_stp h (fun ad hx hb _ _ _ k => lv_ladd hx hb hd (by rw [gw_addL]; exact k)) (fun o => gw_oc2 (gw_wl_in _) o)
theorem gw_land {mt d QR Γ pc ls stk m} {x y : Int} (pc' : Nat) (hd : decode (gw_mC mt) pc = .ok (.land, 1)) (hp : pc + 1 = pc') (h : gw_G mt d QR Γ pc' ls (gL (gw_andL x y) :: stk) m) : gw_G mt d QR Γ pc ls (gL y :: gL x :: stk) m := by
  subst hp
  exact gw_stp h (fun ad hx hb _ _ _ k => lv_land hx hb hd (by rw [gw_eqvL (v := Int64.ofInt x &&& Int64.ofInt y) (x := gw_andL x y) rfl]; exact k)) (fun o => gw_oc2 (gw_rngL _) o)
theorem gw_lor {mt d QR Γ pc ls stk m} {x y : Int} (pc' : Nat) (hd : decode (gw_mC mt) pc = .ok (.lor, 1)) (hp : pc + 1 = pc') (h : gw_G mt d QR Γ pc' ls (gL (gw_orL x y) :: stk) m) : gw_G mt d QR Γ pc ls (gL y :: gL x :: stk) m := by
  subst hp
  exact gw_stp h (fun ad hx hb _ _ _ k => lv_lor hx hb hd (by rw [gw_eqvL (v := Int64.ofInt x ||| Int64.ofInt y) (x := gw_orL x y) rfl]; exact k)) (fun o => gw_oc2 (gw_rngL _) o)
theorem gw_lshl {mt d QR Γ pc ls stk m} {x y : Int} (pc' : Nat) (hd : decode (gw_mC mt) pc = .ok (.lshl, 1)) (hp : pc + 1 = pc') (h : gw_G mt d QR Γ pc' ls (gL (gw_shlL x y) :: stk) m) : gw_G mt d QR Γ pc ls (gI y :: gL x :: stk) m := by
  subst hp
  exact gw_stp h (fun ad hx hb _ _ _ k => lv_lshl hx hb hd (v := Int64.ofInt (gw_shlL x y)) (gw_eqvL rfl) k) (fun o => gw_oc2 (gw_rngL _) o)
theorem gw_lshr {mt d QR Γ pc ls stk m} {x y : Int} (pc' : Nat) (hd : decode (gw_mC mt) pc = .ok (.lshr, 1)) (hp : pc + 1 = pc') (h : gw_G mt d QR Γ pc' ls (gL (gw_shrL x y) :: stk) m) : gw_G mt d QR Γ pc ls (gI y :: gL x :: stk) m := by
  subst hp
  exact gw_stp h (fun ad hx hb _ _ _ k => lv_lshr hx hb hd (v := Int64.ofInt (gw_shrL x y)) (gw_eqvL rfl) k) (fun o => gw_oc2 (gw_rngL _) o)
theorem gw_lushr {mt d QR Γ pc ls stk m} {x y : Int} (pc' : Nat) (hd : decode (gw_mC mt) pc = .ok (.lushr, 1)) (hp : pc + 1 = pc') (h : gw_G mt d QR Γ pc' ls (gL (gw_ushrL x y) :: stk) m) : gw_G mt d QR Γ pc ls (gI y :: gL x :: stk) m := by
  subst hp
  exact gw_stp h (fun ad hx hb _ _ _ k => lv_lushr hx hb hd (v := Int64.ofInt (gw_ushrL x y)) (gw_eqvL rfl) k) (fun o => gw_oc2 (gw_rngL _) o)
theorem gw_lcmpR {mt d QR Γ pc ls stk m} {x y : Int} (pc' : Nat) (hd : decode (gw_mC mt) pc = .ok (.lcmp, 1)) (hp : pc + 1 = pc') (h : gw_G mt d QR Γ pc' ls (gI (gw_cmp x y) :: stk) m) : gw_G mt d QR Γ pc ls (gL y :: gL x :: stk) m := by
  subst hp
  exact gw_stp h (fun ad hx hb _ _ o k => W.lcmp hx hb hd (by rw [gw_lcmp (gw_o1 o) (gw_o0 o)]; exact k)) (fun o => gw_oc2 (gw_cmp_in _ _) o)
theorem gw_c1 {ad : Nat → Nat} {v : gw_SV} (h : gw_nl [some v] 1 = true) : (gw_cv ad v).category = 1 := by
  rcases v with x | x | o
  · rfl
  · cases h
  · rfl
theorem gw_dup {mt d QR Γ pc ls stk m} {v : gw_SV} (pc' : Nat) (hd : decode (gw_mC mt) pc = .ok (.dup, 1)) (hp : pc + 1 = pc') (hv : gw_nl [some v] 1 = true) (h : gw_G mt d QR Γ pc' ls (v :: v :: stk) m) : gw_G mt d QR Γ pc ls (v :: stk) m := by
  subst hp
  exact gw_stp h (fun ad hx hb _ _ _ k => lv_dup hx hb hd (gw_c1 hv) k) (fun o => gw_op (gw_o0 o) o)
theorem gw_pop {mt d QR Γ pc ls stk m} {v : gw_SV} (pc' : Nat) (hd : decode (gw_mC mt) pc = .ok (.pop, 1)) (hp : pc + 1 = pc') (hv : gw_nl [some v] 1 = true) (h : gw_G mt d QR Γ pc' ls stk m) : gw_G mt d QR Γ pc ls (v :: stk) m := by
  subst hp
  exact gw_stp h (fun ad hx hb _ _ _ k => lv_pop hx hb hd (gw_c1 hv) k) (fun o => gw_ot o)
theorem gw_dup2 {mt d QR Γ pc ls stk m} {v w : gw_SV} (pc' : Nat) (hd : decode (gw_mC mt) pc = .ok (.dup2, 1)) (hp : pc + 1 = pc') (hv : gw_nl [some v] 1 = true) (hw : gw_nl [some w] 1 = true) (h : gw_G mt d QR Γ pc' ls (v :: w :: v :: w :: stk) m) : gw_G mt d QR Γ pc ls (v :: w :: stk) m := by
  subst hp
  exact gw_stp h (fun ad hx hb _ _ _ k => lv_dup2_11 hx hb hd (gw_c1 hv) (gw_c1 hw) k) (fun o => gw_op (gw_o0 o) (gw_op (gw_o1 o) o))
theorem gw_goto {mt d QR Γ pc ls stk m} {off : Int} (pc' : Nat) (hd : decode (gw_mC mt) pc = .ok (.goto off, 3)) (hp : (pc : Int) + off = (pc' : Int)) (h : gw_G mt d QR Γ pc' ls stk m) : gw_G mt d QR Γ pc ls stk m :=
  gw_stp h (fun ad hx hb _ _ _ k => lv_goto hx hb hd hp k) (fun o => o)
/-! branches -/
theorem gw_br {mt : gw_MT} {d QR Γ pc p1 p2 ls} {stk stk' : List gw_SV} {m} {c : Prop} (ht : c → gw_G mt d QR Γ p1 ls stk' m) (hf : ¬ c → gw_G mt d QR Γ p2 ls stk' m)
    (hs : ∀ {p : Program} {l : Launch} {e : Env} {R : Room} {s : State} {mm : MethodId} {args : Array Value} {below : List Frame} {meth : Method} {cd : Code} {H : Heap} {locs : List Loc} {cells slots : Nat} {Q : State → Prop} {lsA : Array Slot} (ad : Nat → Nat), p.tables.exec = Jvm.exec → cd.code = gw_mC mt → (∀ v ∈ stk, gw_okV v) → (c → W p l e R s mm args below meth cd H locs cells slots Q (F0 mm p1 lsA (stk'.map (gw_cv ad)))) → (¬ c → W p l e R s mm args below meth cd H locs cells slots Q (F0 mm p2 lsA (stk'.map (gw_cv ad)))) → W p l e R s mm args below meth cd H locs cells slots Q (F0 mm pc lsA (stk.map (gw_cv ad))))
    (ho : (∀ v ∈ stk, gw_okV v) → ∀ v ∈ stk', gw_okV v) : gw_G mt d QR Γ pc ls stk m := by
  obtain ⟨cx, p, l, e, R, s, mm, args, below, meth, cd, ⟨c0, s0⟩, Q⟩ := Γ
  intro ok o1 o2 o3 H locs lsA hP hS hl
  exact hs cx.2.2.1 ok.1 ok.2.1 o2 (fun hc => ht hc ok o1 (ho o2) o3 H locs lsA hP hS hl) (fun hc => hf hc ok o1 (ho o2) o3 H locs lsA hP hS hl)
theorem gw_if_eq {mt d QR Γ pc ls stk m} {x : Int} {off : Int} (tgt pc' : Nat) (hd : decode (gw_mC mt) pc = .ok (.ifCond .eq off, 3)) (ht : (pc : Int) + off = (tgt : Int)) (hp : pc + 3 = pc') (kt : x = 0 → gw_G mt d QR Γ tgt ls stk m) (kf : ¬ x = 0 → gw_G mt d QR Γ pc' ls stk m) : gw_G mt d QR Γ pc ls (gI x :: stk) m := by
  subst hp
  exact gw_br (c := x = 0) kt kf (fun ad hx hb o kt kf => lv_if_eq hx hb hd ht (fun hc => kt ((gw_eq0 (gw_o0 o)).mp hc)) (fun hc => kf (fun z => hc ((gw_eq0 (gw_o0 o)).mpr z)))) (fun o => gw_ot o)
theorem gw_icmp_eq {mt d QR Γ pc ls stk m} {x y : Int} {off : Int} (tgt pc' : Nat) (hd : decode (gw_mC mt) pc = .ok (.if_icmp .eq off, 3)) (ht : (pc : Int) + off = (tgt : Int)) (hp : pc + 3 = pc') (kt : x = y → gw_G mt d QR Γ tgt ls stk m) (kf : ¬ x = y → gw_G mt d QR Γ pc' ls stk m) : gw_G mt d QR Γ pc ls (gI y :: gI x :: stk) m := by
  subst hp
  exact gw_br (c := x = y) kt kf (fun ad hx hb o kt kf => lv_icmp_eq hx hb hd ht (fun hc => kt ((gw_eq (gw_o1 o) (gw_o0 o)).mp hc)) (fun hc => kf (fun z => hc ((gw_eq (gw_o1 o) (gw_o0 o)).mpr z)))) (fun o => gw_ot (gw_ot o))
theorem gw_if_ne {mt d QR Γ pc ls stk m} {x : Int} {off : Int} (tgt pc' : Nat) (hd : decode (gw_mC mt) pc = .ok (.ifCond .ne off, 3)) (ht : (pc : Int) + off = (tgt : Int)) (hp : pc + 3 = pc') (kt : x = 0 → gw_G mt d QR Γ pc' ls stk m) (kf : ¬ x = 0 → gw_G mt d QR Γ tgt ls stk m) : gw_G mt d QR Γ pc ls (gI x :: stk) m := by
  subst hp
  exact gw_br (c := x = 0) kt kf (fun ad hx hb o kt kf => lv_if_ne hx hb hd ht (fun hc => kf (fun z => hc ((gw_eq0 (gw_o0 o)).mpr z))) (fun hc => kt ((gw_eq0 (gw_o0 o)).mp hc))) (fun o => gw_ot o)
theorem gw_icmp_ne {mt d QR Γ pc ls stk m} {x y : Int} {off : Int} (tgt pc' : Nat) (hd : decode (gw_mC mt) pc = .ok (.if_icmp .ne off, 3)) (ht : (pc : Int) + off = (tgt : Int)) (hp : pc + 3 = pc') (kt : x = y → gw_G mt d QR Γ pc' ls stk m) (kf : ¬ x = y → gw_G mt d QR Γ tgt ls stk m) : gw_G mt d QR Γ pc ls (gI y :: gI x :: stk) m := by
  subst hp
  exact gw_br (c := x = y) kt kf (fun ad hx hb o kt kf => lv_icmp_ne hx hb hd ht (fun hc => kf (fun z => hc ((gw_eq (gw_o1 o) (gw_o0 o)).mpr z))) (fun hc => kt ((gw_eq (gw_o1 o) (gw_o0 o)).mp hc))) (fun o => gw_ot (gw_ot o))
theorem gw_if_lt {mt d QR Γ pc ls stk m} {x : Int} {off : Int} (tgt pc' : Nat) (hd : decode (gw_mC mt) pc = .ok (.ifCond .lt off, 3)) (ht : (pc : Int) + off = (tgt : Int)) (hp : pc + 3 = pc') (kt : x < 0 → gw_G mt d QR Γ tgt ls stk m) (kf : ¬ x < 0 → gw_G mt d QR Γ pc' ls stk m) : gw_G mt d QR Γ pc ls (gI x :: stk) m := by
  subst hp
  exact gw_br (c := x < 0) kt kf (fun ad hx hb o kt kf => lv_if_lt hx hb hd ht (fun hc => kt ((gw_lt0 (gw_o0 o)).mp hc)) (fun hc => kf (fun z => hc ((gw_lt0 (gw_o0 o)).mpr z)))) (fun o => gw_ot o)
theorem gw_icmp_lt {mt d QR Γ pc ls stk m} {x y : Int} {off : Int} (tgt pc' : Nat) (hd : decode (gw_mC mt) pc = .ok (.if_icmp .lt off, 3)) (ht : (pc : Int) + off = (tgt : Int)) (hp : pc + 3 = pc') (kt : x < y → gw_G mt d QR Γ tgt ls stk m) (kf : ¬ x < y → gw_G mt d QR Γ pc' ls stk m) : gw_G mt d QR Γ pc ls (gI y :: gI x :: stk) m := by
  subst hp
  exact gw_br (c := x < y) kt kf (fun ad hx hb o kt kf => lv_icmp_lt hx hb hd ht (fun hc => kt ((gw_lt (gw_o1 o) (gw_o0 o)).mp hc)) (fun hc => kf (fun z => hc ((gw_lt (gw_o1 o) (gw_o0 o)).mpr z)))) (fun o => gw_ot (gw_ot o))
theorem gw_if_ge {mt d QR Γ pc ls stk m} {x : Int} {off : Int} (tgt pc' : Nat) (hd : decode (gw_mC mt) pc = .ok (.ifCond .ge off, 3)) (ht : (pc : Int) + off = (tgt : Int)) (hp : pc + 3 = pc') (kt : 0 ≤ x → gw_G mt d QR Γ tgt ls stk m) (kf : ¬ 0 ≤ x → gw_G mt d QR Γ pc' ls stk m) : gw_G mt d QR Γ pc ls (gI x :: stk) m := by
  subst hp
  exact gw_br (c := 0 ≤ x) kt kf (fun ad hx hb o kt kf => lv_if_ge hx hb hd ht (fun hc => kt ((gw_0le (gw_o0 o)).mp hc)) (fun hc => kf (fun z => hc ((gw_0le (gw_o0 o)).mpr z)))) (fun o => gw_ot o)
theorem gw_icmp_ge {mt d QR Γ pc ls stk m} {x y : Int} {off : Int} (tgt pc' : Nat) (hd : decode (gw_mC mt) pc = .ok (.if_icmp .ge off, 3)) (ht : (pc : Int) + off = (tgt : Int)) (hp : pc + 3 = pc') (kt : y ≤ x → gw_G mt d QR Γ tgt ls stk m) (kf : ¬ y ≤ x → gw_G mt d QR Γ pc' ls stk m) : gw_G mt d QR Γ pc ls (gI y :: gI x :: stk) m := by
  subst hp
  exact gw_br (c := y ≤ x) kt kf (fun ad hx hb o kt kf => lv_icmp_ge hx hb hd ht (fun hc => kt ((gw_le (gw_o0 o) (gw_o1 o)).mp hc)) (fun hc => kf (fun z => hc ((gw_le (gw_o0 o) (gw_o1 o)).mpr z)))) (fun o => gw_ot (gw_ot o))
theorem gw_if_gt {mt d QR Γ pc ls stk m} {x : Int} {off : Int} (tgt pc' : Nat) (hd : decode (gw_mC mt) pc = .ok (.ifCond .gt off, 3)) (ht : (pc : Int) + off = (tgt : Int)) (hp : pc + 3 = pc') (kt : 0 < x → gw_G mt d QR Γ tgt ls stk m) (kf : ¬ 0 < x → gw_G mt d QR Γ pc' ls stk m) : gw_G mt d QR Γ pc ls (gI x :: stk) m := by
  subst hp
  exact gw_br (c := 0 < x) kt kf (fun ad hx hb o kt kf => lv_if_gt hx hb hd ht (fun hc => kt ((gw_0lt (gw_o0 o)).mp hc)) (fun hc => kf (fun z => hc ((gw_0lt (gw_o0 o)).mpr z)))) (fun o => gw_ot o)
theorem gw_icmp_gt {mt d QR Γ pc ls stk m} {x y : Int} {off : Int} (tgt pc' : Nat) (hd : decode (gw_mC mt) pc = .ok (.if_icmp .gt off, 3)) (ht : (pc : Int) + off = (tgt : Int)) (hp : pc + 3 = pc') (kt : y < x → gw_G mt d QR Γ tgt ls stk m) (kf : ¬ y < x → gw_G mt d QR Γ pc' ls stk m) : gw_G mt d QR Γ pc ls (gI y :: gI x :: stk) m := by
  subst hp
  exact gw_br (c := y < x) kt kf (fun ad hx hb o kt kf => lv_icmp_gt hx hb hd ht (fun hc => kt ((gw_lt (gw_o0 o) (gw_o1 o)).mp hc)) (fun hc => kf (fun z => hc ((gw_lt (gw_o0 o) (gw_o1 o)).mpr z)))) (fun o => gw_ot (gw_ot o))
theorem gw_if_le {mt d QR Γ pc ls stk m} {x : Int} {off : Int} (tgt pc' : Nat) (hd : decode (gw_mC mt) pc = .ok (.ifCond .le off, 3)) (ht : (pc : Int) + off = (tgt : Int)) (hp : pc + 3 = pc') (kt : x ≤ 0 → gw_G mt d QR Γ tgt ls stk m) (kf : ¬ x ≤ 0 → gw_G mt d QR Γ pc' ls stk m) : gw_G mt d QR Γ pc ls (gI x :: stk) m := by
  subst hp
  exact gw_br (c := x ≤ 0) kt kf (fun ad hx hb o kt kf => lv_if_le hx hb hd ht (fun hc => kt ((gw_le0 (gw_o0 o)).mp hc)) (fun hc => kf (fun z => hc ((gw_le0 (gw_o0 o)).mpr z)))) (fun o => gw_ot o)
theorem gw_icmp_le {mt d QR Γ pc ls stk m} {x y : Int} {off : Int} (tgt pc' : Nat) (hd : decode (gw_mC mt) pc = .ok (.if_icmp .le off, 3)) (ht : (pc : Int) + off = (tgt : Int)) (hp : pc + 3 = pc') (kt : x ≤ y → gw_G mt d QR Γ tgt ls stk m) (kf : ¬ x ≤ y → gw_G mt d QR Γ pc' ls stk m) : gw_G mt d QR Γ pc ls (gI y :: gI x :: stk) m := by
  subst hp
  exact gw_br (c := x ≤ y) kt kf (fun ad hx hb o kt kf => lv_icmp_le hx hb hd ht (fun hc => kt ((gw_le (gw_o1 o) (gw_o0 o)).mp hc)) (fun hc => kf (fun z => hc ((gw_le (gw_o1 o) (gw_o0 o)).mpr z)))) (fun o => gw_ot (gw_ot o))
/-! locals -/
theorem gw_iload_n {mt d QR Γ pc ls stk m} {k : Fin 4} {x : Int} (pc' : Nat) (hd : decode (gw_mC mt) pc = .ok (.iload_n k, 1)) (hp : pc + 1 = pc') (hl : ls[(k : Nat)]? = some (some (gI x))) (h : gw_G mt d QR Γ pc' ls (gI x :: stk) m) : gw_G mt d QR Γ pc ls stk m := by
  subst hp
  obtain ⟨cx, p, l, e, R, s, mm, args, below, meth, cd, ⟨c0, s0⟩, Q⟩ := Γ
  intro ok o1 o2 o3 H locs lsA hP hS hL
  exact lv_iload_n ok.1 ok.2.1 hd rfl (hL.2.2.2 _ _ hl) (h ok o1 (gw_op (o1 _ (List.mem_of_getElem? hl)) o2) o3 H locs lsA hP hS hL)
theorem gw_iload {mt d QR Γ pc ls stk m} {k : Nat} {x : Int} (pc' : Nat) (hd : decode (gw_mC mt) pc = .ok (.iload k, 2)) (hp : pc + 2 = pc') (hl : ls[k]? = some (some (gI x))) (h : gw_G mt d QR Γ pc' ls (gI x :: stk) m) : gw_G mt d QR Γ pc ls stk m := by
  subst hp
  obtain ⟨cx, p, l, e, R, s, mm, args, below, meth, cd, ⟨c0, s0⟩, Q⟩ := Γ
  intro ok o1 o2 o3 H locs lsA hP hS hL
  exact lv_iload ok.1 ok.2.1 hd (hL.2.2.2 _ _ hl) (h ok o1 (gw_op (o1 _ (List.mem_of_getElem? hl)) o2) o3 H locs lsA hP hS hL)
theorem gw_lload_n {mt d QR Γ pc ls stk m} {k : Fin 4} {x : Int} (pc' : Nat) (hd : decode (gw_mC mt) pc = .ok (.lload_n k, 1)) (hp : pc + 1 = pc') (hl : ls[(k : Nat)]? = some (some (gL x))) (h : gw_G mt d QR Γ pc' ls (gL x :: stk) m) : gw_G mt d QR Γ pc ls stk m := by
  subst hp
  obtain ⟨cx, p, l, e, R, s, mm, args, below, meth, cd, ⟨c0, s0⟩, Q⟩ := Γ
  intro ok o1 o2 o3 H locs lsA hP hS hL
  exact lv_lload_n ok.1 ok.2.1 hd rfl (hL.2.2.2 _ _ hl) (h ok o1 (gw_op (o1 _ (List.mem_of_getElem? hl)) o2) o3 H locs lsA hP hS hL)
theorem gw_lload {mt d QR Γ pc ls stk m} {k : Nat} {x : Int} (pc' : Nat) (hd : decode (gw_mC mt) pc = .ok (.lload k, 2)) (hp : pc + 2 = pc') (hl : ls[k]? = some (some (gL x))) (h : gw_G mt d QR Γ pc' ls (gL x :: stk) m) : gw_G mt d QR Γ pc ls stk m := by
  subst hp
  obtain ⟨cx, p, l, e, R, s, mm, args, below, meth, cd, ⟨c0, s0⟩, Q⟩ := Γ
  intro ok o1 o2 o3 H locs lsA hP hS hL
  exact lv_lload ok.1 ok.2.1 hd (hL.2.2.2 _ _ hl) (h ok o1 (gw_op (o1 _ (List.mem_of_getElem? hl)) o2) o3 H locs lsA hP hS hL)
theorem gw_aload_n {mt d QR Γ pc ls stk m} {k : Fin 4} {x : Nat} (pc' : Nat) (hd : decode (gw_mC mt) pc = .ok (.aload_n k, 1)) (hp : pc + 1 = pc') (hl : ls[(k : Nat)]? = some (some (gR x))) (h : gw_G mt d QR Γ pc' ls (gR x :: stk) m) : gw_G mt d QR Γ pc ls stk m := by
  subst hp
  obtain ⟨cx, p, l, e, R, s, mm, args, below, meth, cd, ⟨c0, s0⟩, Q⟩ := Γ
  intro ok o1 o2 o3 H locs lsA hP hS hL
  exact lv_aload_n ok.1 ok.2.1 hd rfl (hL.2.2.2 _ _ hl) (h ok o1 (gw_op (o1 _ (List.mem_of_getElem? hl)) o2) o3 H locs lsA hP hS hL)
theorem gw_aload {mt d QR Γ pc ls stk m} {k : Nat} {x : Nat} (pc' : Nat) (hd : decode (gw_mC mt) pc = .ok (.aload k, 2)) (hp : pc + 2 = pc') (hl : ls[k]? = some (some (gR x))) (h : gw_G mt d QR Γ pc' ls (gR x :: stk) m) : gw_G mt d QR Γ pc ls stk m := by
  subst hp
  obtain ⟨cx, p, l, e, R, s, mm, args, below, meth, cd, ⟨c0, s0⟩, Q⟩ := Γ
  intro ok o1 o2 o3 H locs lsA hP hS hL
  exact lv_aload ok.1 ok.2.1 hd (hL.2.2.2 _ _ hl) (h ok o1 (gw_op (o1 _ (List.mem_of_getElem? hl)) o2) o3 H locs lsA hP hS hL)
theorem gw_setok {ls : List (Option gw_SV)} {i : Nat} {v : gw_SV} (h : ∀ w, some w ∈ ls → gw_okV w) (hv : gw_okV v) : ∀ w, some w ∈ ls.set i (some v) → gw_okV w := by
  intro w hw
  rcases List.mem_or_eq_of_mem_set hw with h1 | h1
  · exact h w h1
  · cases h1
    exact hv
theorem gw_istore_n {mt d QR Γ pc ls ls' stk m} {k : Fin 4} {x : Int} (pc' : Nat) (hd : decode (gw_mC mt) pc = .ok (.istore_n k, 1)) (hp : pc + 1 = pc') (hn : gw_nl ls k = true) (hk : Nat.blt k (gw_mL mt) = true) (hs : ls.set k (some (gI x)) = ls') (h : gw_G mt d QR Γ pc' ls' stk m) : gw_G mt d QR Γ pc ls (gI x :: stk) m := by
  subst hp; subst hs
  obtain ⟨cx, p, l, e, R, s, mm, args, below, meth, cd, ⟨c0, s0⟩, Q⟩ := Γ
  intro ok o1 o2 o3 H locs lsA hP hS hL
  exact lv_istore_n ok.1 ok.2.1 hd rfl (gw_ls_lv hL) (by simpa [Nat.blt_eq] using hk) rfl (fun lsB hB => h ok (gw_setok o1 (gw_o0 o2)) (gw_ot o2) o3 H locs lsB hP hS (gw_ls_store hL hn hB))
theorem gw_istore {mt d QR Γ pc ls ls' stk m} {k : Nat} {x : Int} (pc' : Nat) (hd : decode (gw_mC mt) pc = .ok (.istore k, 2)) (hp : pc + 2 = pc') (hn : gw_nl ls k = true) (hk : Nat.blt k (gw_mL mt) = true) (hs : ls.set k (some (gI x)) = ls') (h : gw_G mt d QR Γ pc' ls' stk m) : gw_G mt d QR Γ pc ls (gI x :: stk) m := by
  subst hp; subst hs
  obtain ⟨cx, p, l, e, R, s, mm, args, below, meth, cd, ⟨c0, s0⟩, Q⟩ := Γ
  intro ok o1 o2 o3 H locs lsA hP hS hL
  exact lv_istore ok.1 ok.2.1 hd (gw_ls_lv hL) (by simpa [Nat.blt_eq] using hk) rfl (fun lsB hB => h ok (gw_setok o1 (gw_o0 o2)) (gw_ot o2) o3 H locs lsB hP hS (gw_ls_store hL hn hB))
theorem gw_astore_n {mt d QR Γ pc ls ls' stk m} {k : Fin 4} {x : Nat} (pc' : Nat) (hd : decode (gw_mC mt) pc = .ok (.astore_n k, 1)) (hp : pc + 1 = pc') (hn : gw_nl ls k = true) (hk : Nat.blt k (gw_mL mt) = true) (hs : ls.set k (some (gR x)) = ls') (h : gw_G mt d QR Γ pc' ls' stk m) : gw_G mt d QR Γ pc ls (gR x :: stk) m := by
  subst hp; subst hs
  obtain ⟨cx, p, l, e, R, s, mm, args, below, meth, cd, ⟨c0, s0⟩, Q⟩ := Γ
  intro ok o1 o2 o3 H locs lsA hP hS hL
  exact lv_astore_n ok.1 ok.2.1 hd rfl (gw_ls_lv hL) (by simpa [Nat.blt_eq] using hk) rfl (fun lsB hB => h ok (gw_setok o1 (gw_o0 o2)) (gw_ot o2) o3 H locs lsB hP hS (gw_ls_store hL hn hB))
theorem gw_astore {mt d QR Γ pc ls ls' stk m} {k : Nat} {x : Nat} (pc' : Nat) (hd : decode (gw_mC mt) pc = .ok (.astore k, 2)) (hp : pc + 2 = pc') (hn : gw_nl ls k = true) (hk : Nat.blt k (gw_mL mt) = true) (hs : ls.set k (some (gR x)) = ls') (h : gw_G mt d QR Γ pc' ls' stk m) : gw_G mt d QR Γ pc ls (gR x :: stk) m := by
  subst hp; subst hs
  obtain ⟨cx, p, l, e, R, s, mm, args, below, meth, cd, ⟨c0, s0⟩, Q⟩ := Γ
  intro ok o1 o2 o3 H locs lsA hP hS hL
  exact lv_astore ok.1 ok.2.1 hd (gw_ls_lv hL) (by simpa [Nat.blt_eq] using hk) rfl (fun lsB hB => h ok (gw_setok o1 (gw_o0 o2)) (gw_ot o2) o3 H locs lsB hP hS (gw_ls_store hL hn hB))
theorem gw_iinc {mt d QR Γ pc ls ls' stk m} {i : Nat} {n x : Int} (pc' : Nat) (hd : decode (gw_mC mt) pc = .ok (.iinc i n, 3)) (hp : pc + 3 = pc') (hl : ls[i]? = some (some (gI x))) (hn : gw_nl ls i = true) (hk : Nat.blt i (gw_mL mt) = true) (hs : ls.set i (some (gI (gw_w (x + n)))) = ls') (h : gw_G mt d QR Γ pc' ls' stk m) : gw_G mt d QR Γ pc ls stk m := by
  subst hp; subst hs
  obtain ⟨cx, p, l, e, R, s, mm, args, below, meth, cd, ⟨c0, s0⟩, Q⟩ := Γ
  intro ok o1 o2 o3 H locs lsA hP hS hL
  have h0 := gw_ls_lv hL
  have h1 : lv_has lsA (gw_mL mt) ((i, .int (Int32.ofInt x)) :: ((List.range (gw_mL mt)).filterMap (fun i => match ls[i]? with | some (some v) => some (i, gw_cv cx.2.2.1 v) | _ => none))) := by
    refine ⟨h0.1, h0.2.1, fun q hq => ?_⟩
    rcases List.mem_cons.mp hq with rfl | hq
    · exact hL.2.2.2 _ _ hl
    · exact h0.2.2 q hq
  refine lv_iinc ok.1 ok.2.1 hd h1 (k := 0) rfl (v := Int32.ofInt (gw_w (x + n))) (gw_add x n) (by simpa [Nat.blt_eq] using hk) rfl (fun lsB hB => ?_)
  rw [List.filter_cons_of_neg (by simp)] at hB
  exact h ok (gw_setok o1 (gw_w_in _)) o2 o3 H locs lsB hP hS (gw_ls_store (v := gI (gw_w (x + n))) hL hn hB)
end
section
/-! fields -/
def gw_FL (own : String) (idx ci k : Nat) : Prop := ∃ (C : String) (T : u_T) (N : Nat), vwCl[ci]? = some (C, T, N) ∧ k < N ∧ (∀ w ∈ u_ws C T N, w ∈ gw_tb) ∧ Cond.fieldLink own idx (T k).1 (T k).2.1 (T k).2.2.1 ∈ gw_tb
def gw_FP (own : String) (idx ci k : Nat) (ty : FieldType) : Prop := ∃ (C : String) (T : u_T) (N : Nat) (ty0 : Nat → FieldType), vwCl[ci]? = some (C, T, N) ∧ k < N ∧ (∀ w ∈ u_ws C T N, w ∈ gw_tb) ∧ Cond.fieldLink own idx (T k).1 (T k).2.1 (T k).2.2.1 ∈ gw_tb ∧ (∀ j, j < N → parseFieldDescriptor (T j).2.2.1 = some (ty0 j)) ∧ (∀ a, a < N → ∀ b, b < N → a ≠ b → (T a).2.1 ≠ (T b).2.1) ∧ (T k).2.2.2 = false ∧ ty0 k = ty
theorem gw_slots_get {ad : Nat → Nat} {f : Int → Int} {sl : List (Option Nat)} {k : Nat} {r : Option Nat} (h : sl[k]? = some r) : (gw_slots ad f sl)[k]? = some (gw_slot ad f k r) := by
  unfold gw_slots
  rw [List.getElem?_mapIdx, h]
  rfl
theorem gw_getI {mt d QR Γ pc ls stk m} {o ci k idx : Nat} {sl : List (Option Nat)} {kz : Int} (pc' : Nat) (hd : decode (gw_mC mt) pc = .ok (.getfield idx, 3)) (hp : pc + 3 = pc') (hf : gw_FL (gw_mY mt).cls idx ci k) (hs : gw_SH[o]? = some (0, ci, sl)) (hk : sl[k]? = some none) (hz : (k : Int) = kz) (h : gw_G mt d QR Γ pc' ls (gI (m o kz) :: stk) m) : gw_G mt d QR Γ pc ls (gR o :: stk) m := by
  subst hp; subst hz
  obtain ⟨C, T, N, hc, hkN, hin, hlk⟩ := hf
  obtain ⟨cx, p, l, e, R, s, mm, args, below, meth, cd, ⟨c0, s0⟩, Q⟩ := Γ
  intro ok o1 o2 o3 H locs lsA hP hS hL
  exact va_get (D := cx.1) (ci := ci) ok.1 ok.2.1 ok.2.2.2.2.1 hin ok.2.2.2.1 ok.2.2.2.2.2.1 hP o (gw_Wd_get hs) hc k hkN (ok.2.2.2.2.1 _ hlk) (fun _ h => h) (gw_slots_get hk) hd (h ok o1 (gw_oc (o3.1 o k) o2) o3 H locs lsA hP hS hL)
theorem gw_getR {mt d QR Γ pc ls stk m} {o ci k idx q : Nat} {sl : List (Option Nat)} (pc' : Nat) (hd : decode (gw_mC mt) pc = .ok (.getfield idx, 3)) (hp : pc + 3 = pc') (hf : gw_FL (gw_mY mt).cls idx ci k) (hs : gw_SH[o]? = some (0, ci, sl)) (hk : sl[k]? = some (some q)) (h : gw_G mt d QR Γ pc' ls (gR q :: stk) m) : gw_G mt d QR Γ pc ls (gR o :: stk) m := by
  subst hp
  obtain ⟨C, T, N, hc, hkN, hin, hlk⟩ := hf
  obtain ⟨cx, p, l, e, R, s, mm, args, below, meth, cd, ⟨c0, s0⟩, Q⟩ := Γ
  intro ok o1 o2 o3 H locs lsA hP hS hL
  exact va_get (D := cx.1) (ci := ci) ok.1 ok.2.1 ok.2.2.2.2.1 hin ok.2.2.2.1 ok.2.2.2.2.2.1 hP o (gw_Wd_get hs) hc k hkN (ok.2.2.2.2.1 _ hlk) (fun _ h => h) (gw_slots_get hk) hd (h ok o1 (gw_oc (v := gR q) trivial o2) o3 H locs lsA hP hS hL)
theorem gw_slots_set {ad : Nat → Nat} {m : gw_Mem} {o : Nat} {sl : List (Option Nat)} {k : Nat} {v : Int} (hk : sl[k]? = some none) : (gw_slots ad (m o) sl).set k (.int (Int32.ofInt v)) = gw_slots ad (gw_up m o k v o) sl := by
  apply List.ext_getElem?
  intro i
  rw [List.getElem?_set]
  unfold gw_slots
  by_cases hi : k = i
  · subst hi
    have hl : k < (sl.mapIdx (gw_slot ad (m o))).length := by
      rw [List.length_mapIdx]
      exact (List.getElem?_eq_some_iff.mp hk).1
    rw [if_pos rfl, if_pos hl, List.getElem?_mapIdx, hk]
    show some (Value.int (Int32.ofInt v)) = some (Value.int (Int32.ofInt (gw_up m o k v o k)))
    rw [gw_up_at, if_pos rfl]
  · rw [if_neg hi, List.getElem?_mapIdx, List.getElem?_mapIdx]
    cases sl[i]? with
    | none => rfl
    | some r =>
      cases r with
      | some q => rfl
      | none =>
        show some (Value.int (Int32.ofInt (m o i))) = some (Value.int (Int32.ofInt (gw_up m o k v o i)))
        rw [gw_up_at, if_neg (by omega)]
theorem gw_nob {o ci : Nat} {sl : List (Option Nat)} (hs : gw_SH[o]? = some (0, ci, sl)) {v : Int} : ∀ n rs, gw_SH[o]? = some (3, n, rs) → gw_b v := by
  intro n rs h
  rw [hs] at h
  cases h
theorem gw_putI {mt d QR Γ pc ls stk m} {o ci k idx : Nat} {sl : List (Option Nat)} {kz v : Int} {ty : FieldType} (pc' : Nat) (hd : decode (gw_mC mt) pc = .ok (.putfield idx, 3)) (hp : pc + 3 = pc') (hf : gw_FP (gw_mY mt).cls idx ci k ty) (hty : ty = .int ∨ ty = .boolean ∧ gw_b v) (hs : gw_SH[o]? = some (0, ci, sl)) (hk : sl[k]? = some none) (hz : (k : Int) = kz) (h : gw_G mt d QR Γ pc' ls stk (gw_up m o kz v)) : gw_G mt d QR Γ pc ls (gI v :: gR o :: stk) m := by
  subst hp; subst hz
  obtain ⟨C, T, N, ty0, hc, hkN, hin, hlk, hpf, hnm, hfin, ht0⟩ := hf
  obtain ⟨cx, p, l, e, R, s, mm, args, below, meth, cd, ⟨c0, s0⟩, Q⟩ := Γ
  intro ok o1 o2 o3 H locs lsA hP hS hL
  have hn : narrow ty (.int (Int32.ofInt v)) = .int (Int32.ofInt v) ∧ fits ty (.int (Int32.ofInt v)) = true := by
    rcases hty with rfl | ⟨rfl, hb⟩
    · exact ⟨rfl, rfl⟩
    · exact gw_bool hb
  have hl : k < (gw_slots cx.2.2.1 (m o) sl).length := by
    unfold gw_slots
    rw [List.length_mapIdx]
    exact (List.getElem?_eq_some_iff.mp hk).1
  refine va_put (D := cx.1) (ci := ci) ok.1 ok.2.1 ok.2.2.2.2.1 hin ty0 hpf hnm ok.2.2.2.1 ok.2.2.2.2.2.1 hP (gw_Wd_D ok.2.2.2.2.2.2.1 m) hS o (gw_Wd_get hs) hc k hkN (ok.2.2.2.2.1 _ hlk) (fun _ h => h) hfin (ty := ty) (by rw [hpf k hkN, ht0]) hn.1 hn.2 hl hd (fun H1 locs1 hP1 _ hS1 => ?_)
  have e0 := gw_slots_set (ad := cx.2.2.1) (m := m) (o := o) (v := v) hk
  have hP1 : va_P cx.1 vwCl (gw_Wd cx (gw_up m o k v)) H1 := by
    rw [← gw_Wd_set (m := m) (m' := gw_up m o k v) hs rfl (fun q hq => gw_up_ne hq)]
    show va_P _ _ (List.set _ o (_, .inr (ci, gw_slots cx.2.2.1 (gw_up m o k v o) sl))) H1
    rw [← e0]
    exact hP1
  exact h ok o1 (gw_ot (gw_ot o2)) (gw_okM_up o3 (gw_o0 o2) (gw_nob hs)) H1 locs1 lsA hP1 hS1 hL
/-! arrays -/
theorem gw_idx {i : Int} {n : Nat} (h : gw_in i n) (hr : gw_inR i) : ((Int32.ofInt i).toNatClampNeg : Int) = i := by
  rw [gw_clamp h.1 hr]
  exact Int.toNat_of_nonneg h.1
theorem gw_iaload {mt d QR Γ pc ls stk m} {o n : Nat} {rs : List (Option Nat)} {i : Int} (pc' : Nat) (hd : decode (gw_mC mt) pc = .ok (.iaload, 1)) (hp : pc + 1 = pc') (hs : gw_SH[o]? = some (1, n, rs)) (hi : gw_in i n) (h : gw_G mt d QR Γ pc' ls (gI (m o i) :: stk) m) : gw_G mt d QR Γ pc ls (gI i :: gR o :: stk) m := by
  subst hp
  obtain ⟨cx, p, l, e, R, s, mm, args, below, meth, cd, ⟨c0, s0⟩, Q⟩ := Γ
  intro ok o1 o2 o3 H locs lsA hP hS hL
  refine va_iald (D := cx.1) ok.1 ok.2.1 ok.2.2.2.2.2.1 hP o 0 (gw_Wd_get hs) rfl (gw_vpin hi (gw_o0 o2)) hd ?_
  rw [gw_idx hi (gw_o0 o2)]
  exact h ok o1 (gw_oc2 (o3.1 o i) o2) o3 H locs lsA hP hS hL
theorem gw_baload {mt d QR Γ pc ls stk m} {o n : Nat} {rs : List (Option Nat)} {i : Int} (pc' : Nat) (hd : decode (gw_mC mt) pc = .ok (.baload, 1)) (hp : pc + 1 = pc') (hs : gw_SH[o]? = some (2, n, rs)) (hi : gw_in i n) (h : gw_G mt d QR Γ pc' ls (gI (m o i) :: stk) m) : gw_G mt d QR Γ pc ls (gI i :: gR o :: stk) m := by
  subst hp
  obtain ⟨cx, p, l, e, R, s, mm, args, below, meth, cd, ⟨c0, s0⟩, Q⟩ := Γ
  intro ok o1 o2 o3 H locs lsA hP hS hL
  refine va_bald (D := cx.1) ok.1 ok.2.1 ok.2.2.2.2.2.1 hP o 1 (gw_Wd_get hs) rfl (gw_vpin hi (gw_o0 o2)) hd ?_
  rw [gw_idx hi (gw_o0 o2)]
  exact h ok o1 (gw_oc2 (o3.1 o i) o2) o3 H locs lsA hP hS hL
theorem gw_zaload {mt d QR Γ pc ls stk m} {o n : Nat} {rs : List (Option Nat)} {i : Int} (pc' : Nat) (hd : decode (gw_mC mt) pc = .ok (.baload, 1)) (hp : pc + 1 = pc') (hs : gw_SH[o]? = some (3, n, rs)) (hi : gw_in i n) (h : gw_G mt d QR Γ pc' ls (gI (m o i) :: stk) m) : gw_G mt d QR Γ pc ls (gI i :: gR o :: stk) m := by
  subst hp
  obtain ⟨cx, p, l, e, R, s, mm, args, below, meth, cd, ⟨c0, s0⟩, Q⟩ := Γ
  intro ok o1 o2 o3 H locs lsA hP hS hL
  refine va_zald (D := cx.1) ok.1 ok.2.1 ok.2.2.2.2.2.1 hP o 2 (gw_Wd_get hs) rfl (gw_vpin hi (gw_o0 o2)) hd ?_
  rw [gw_idx hi (gw_o0 o2)]
  exact h ok o1 (gw_oc2 (o3.1 o i) o2) o3 H locs lsA hP hS hL
theorem gw_arr_set {m : gw_Mem} {o : Nat} {i v : Int} {n : Nat} {x : Int32} (hi : gw_in i n) (hr : gw_inR i) (hx : x = Int32.ofInt v) : upd (fun j : Nat => Int32.ofInt (m o (j : Int))) (Int32.ofInt i).toNatClampNeg x = fun j : Nat => Int32.ofInt (gw_up m o i v o (j : Int)) := by
  subst hx
  funext j
  rw [gw_up_at]
  unfold upd
  have h1 := gw_idx hi hr
  by_cases hj : j = (Int32.ofInt i).toNatClampNeg
  · rw [if_pos hj, if_pos (by rw [hj]; exact h1)]
  · rw [if_neg hj, if_neg (fun z => hj (by omega))]
theorem gw_iastore {mt d QR Γ pc ls stk m} {o n : Nat} {rs : List (Option Nat)} {i v : Int} (pc' : Nat) (hd : decode (gw_mC mt) pc = .ok (.iastore, 1)) (hp : pc + 1 = pc') (hs : gw_SH[o]? = some (1, n, rs)) (hi : gw_in i n) (h : gw_G mt d QR Γ pc' ls stk (gw_up m o i v)) : gw_G mt d QR Γ pc ls (gI v :: gI i :: gR o :: stk) m := by
  subst hp
  obtain ⟨cx, p, l, e, R, s, mm, args, below, meth, cd, ⟨c0, s0⟩, Q⟩ := Γ
  intro ok o1 o2 o3 H locs lsA hP hS hL
  refine va_iast (D := cx.1) ok.1 ok.2.1 ok.2.2.2.2.2.1 hP (gw_Wd_D ok.2.2.2.2.2.2.1 m) hS o 0 (gw_Wd_get hs) rfl (gw_vpin hi (gw_o1 o2)) hd (fun H1 locs1 hP1 _ hS1 => ?_)
  rw [gw_arr_set (v := v) hi (gw_o1 o2) rfl] at hP1
  have hP1 : va_P cx.1 vwCl (gw_Wd cx (gw_up m o i v)) H1 := by
    rw [← gw_Wd_set (m := m) (m' := gw_up m o i v) hs rfl (fun q hq => gw_up_ne hq)]
    exact hP1
  exact h ok o1 (gw_ot (gw_ot (gw_ot o2))) (gw_okM_up o3 (gw_o0 o2) (fun n' rs' h' => by rw [hs] at h'; cases h')) H1 locs1 lsA hP1 hS1 hL
theorem gw_bastore {mt d QR Γ pc ls stk m} {o n : Nat} {rs : List (Option Nat)} {i v : Int} (pc' : Nat) (hd : decode (gw_mC mt) pc = .ok (.bastore, 1)) (hp : pc + 1 = pc') (hs : gw_SH[o]? = some (2, n, rs)) (hi : gw_in i n) (h : gw_G mt d QR Γ pc' ls stk (gw_up m o i (gw_i2b v))) : gw_G mt d QR Γ pc ls (gI v :: gI i :: gR o :: stk) m := by
  subst hp
  obtain ⟨cx, p, l, e, R, s, mm, args, below, meth, cd, ⟨c0, s0⟩, Q⟩ := Γ
  intro ok o1 o2 o3 H locs lsA hP hS hL
  refine va_bast (D := cx.1) ok.1 ok.2.1 ok.2.2.2.2.2.1 hP (gw_Wd_D ok.2.2.2.2.2.2.1 m) hS o 1 (gw_Wd_get hs) rfl (gw_vpin hi (gw_o1 o2)) hd (fun H1 locs1 hP1 _ hS1 => ?_)
  rw [gw_arr_set (v := gw_i2b v) hi (gw_o1 o2) (by rw [vp_nar_byte]; exact gw_eqv rfl)] at hP1
  have hP1 : va_P cx.1 vwCl (gw_Wd cx (gw_up m o i (gw_i2b v))) H1 := by
    rw [← gw_Wd_set (m := m) (m' := gw_up m o i (gw_i2b v)) hs rfl (fun q hq => gw_up_ne hq)]
    exact hP1
  exact h ok o1 (gw_ot (gw_ot (gw_ot o2))) (gw_okM_up o3 (gw_rng _) (fun n' rs' h' => by rw [hs] at h'; cases h')) H1 locs1 lsA hP1 hS1 hL
theorem gw_zastore {mt d QR Γ pc ls stk m} {o n : Nat} {rs : List (Option Nat)} {i v : Int} (pc' : Nat) (hd : decode (gw_mC mt) pc = .ok (.bastore, 1)) (hp : pc + 1 = pc') (hs : gw_SH[o]? = some (3, n, rs)) (hi : gw_in i n) (hb : gw_b v) (h : gw_G mt d QR Γ pc' ls stk (gw_up m o i v)) : gw_G mt d QR Γ pc ls (gI v :: gI i :: gR o :: stk) m := by
  subst hp
  obtain ⟨cx, p, l, e, R, s, mm, args, below, meth, cd, ⟨c0, s0⟩, Q⟩ := Γ
  intro ok o1 o2 o3 H locs lsA hP hS hL
  refine va_zast (D := cx.1) ok.1 ok.2.1 ok.2.2.2.2.2.1 hP (gw_Wd_D ok.2.2.2.2.2.2.1 m) hS o 2 (gw_Wd_get hs) rfl (gw_vpin hi (gw_o1 o2)) hd (fun H1 locs1 hP1 _ hS1 => ?_)
  rw [gw_arr_set (v := v) hi (gw_o1 o2) (by rcases hb with rfl | rfl <;> decide)] at hP1
  have hP1 : va_P cx.1 vwCl (gw_Wd cx (gw_up m o i v)) H1 := by
    rw [← gw_Wd_set (m := m) (m' := gw_up m o i v) hs rfl (fun q hq => gw_up_ne hq)]
    exact hP1
  exact h ok o1 (gw_ot (gw_ot (gw_ot o2))) (gw_okM_up o3 (gw_o0 o2) (fun _ _ _ => hb)) H1 locs1 lsA hP1 hS1 hL
theorem gw_aaload {mt d QR Γ pc ls stk m} {o n t q : Nat} {rs : List (Option Nat)} {i : Int} (pc' : Nat) (hd : decode (gw_mC mt) pc = .ok (.aaload, 1)) (hp : pc + 1 = pc') (hs : gw_SH[o]? = some (t, n, rs)) (ht : t = 4 ∨ t = 5) (hi : gw_in i n) (hq : rs[i.toNat]? = some (some q)) (h : gw_G mt d QR Γ pc' ls (gR q :: stk) m) : gw_G mt d QR Γ pc ls (gI i :: gR o :: stk) m := by
  subst hp
  obtain ⟨cx, p, l, e, R, s, mm, args, below, meth, cd, ⟨c0, s0⟩, Q⟩ := Γ
  intro ok o1 o2 o3 H locs lsA hP hS hL
  have hin := gw_vpin hi (gw_o0 o2)
  have hlt : (Int32.ofInt i).toNatClampNeg < n := Nat.not_le.mp fun q => hin (Or.inr q)
  have hv : va_rf ((rs.getD (Int32.ofInt i).toNatClampNeg none).map cx.2.2.1) = .ref (cx.2.2.1 q) := by
    rw [gw_clamp hi.1 (gw_o0 o2), List.getD_eq_getElem?_getD, hq]
    rfl
  have hk := h ok o1 (gw_oc2 (v := gR q) trivial o2) o3 H locs lsA hP hS hL
  rcases ht with rfl | rfl
  · have ha : (gw_Wd cx m)[o]? = some (cx.2.2.1 o, .inl (cx.2.1 4, n, .inr (.inr (.inr (.inr (fun j => (rs.getD j none).map cx.2.2.1)))))) := gw_Wd_get hs
    have hf := (ok.2.2.2.2.2.1.2 3 (cx.2.1 4, .array .int) rfl).1
    exact W.aald (v := .ref (cx.2.2.1 q)) (ty := .array .int) ok.1 ok.2.1 (hP o _ ha) (hf n (fun j => va_rf ((rs.getD j none).map cx.2.2.1))) rfl (fun q => by cases q) (by show ¬ (_ ∨ (arrV _ _ _).slots.size ≤ _); rw [arrV_size]; exact hin) (by show (arrV _ _ _).slots[_]? = _; rw [arrV_read _ _ hlt, hv]) rfl rfl hd hk
  · have ha : (gw_Wd cx m)[o]? = some (cx.2.2.1 o, .inl (cx.2.1 5, n, .inr (.inr (.inr (.inr (fun j => (rs.getD j none).map cx.2.2.1)))))) := gw_Wd_get hs
    have hf := (ok.2.2.2.2.2.1.2 4 (cx.2.1 5, .object "FlagWalk$Sheet") rfl).1
    exact W.aald (v := .ref (cx.2.2.1 q)) (ty := .object "FlagWalk$Sheet") ok.1 ok.2.1 (hP o _ ha) (hf n (fun j => va_rf ((rs.getD j none).map cx.2.2.1))) rfl (fun q => by cases q) (by show ¬ (_ ∨ (arrV _ _ _).slots.size ≤ _); rw [arrV_size]; exact hin) (by show (arrV _ _ _).slots[_]? = _; rw [arrV_read _ _ hlt, hv]) rfl rfl hd hk
theorem gw_alen {mt d QR Γ pc ls stk m} {o t n : Nat} {rs : List (Option Nat)} {z : Int} (pc' : Nat) (hd : decode (gw_mC mt) pc = .ok (.arraylength, 1)) (hp : pc + 1 = pc') (hs : gw_SH[o]? = some (t, n, rs)) (ht : t = 1) (hz : (n : Int) = z) (hr : gw_rb z = true) (h : gw_G mt d QR Γ pc' ls (gI z :: stk) m) : gw_G mt d QR Γ pc ls (gR o :: stk) m := by
  subst hp; subst ht; subst hz
  obtain ⟨cx, p, l, e, R, s, mm, args, below, meth, cd, ⟨c0, s0⟩, Q⟩ := Γ
  intro ok o1 o2 o3 H locs lsA hP hS hL
  exact va_alen (D := cx.1) ok.1 ok.2.1 ok.2.2.2.2.2.1 hP o 0 (gw_Wd_get hs) rfl (v := Int32.ofInt n) rfl hd (h ok o1 (gw_oc (v := gI n) (gw_rb_in hr) o2) o3 H locs lsA hP hS hL)
/-! static arrays -/
theorem gw_gets {mt d QR Γ pc ls stk m} {idx i : Nat} (pc' : Nat) (hd : decode (gw_mC mt) pc = .ok (.getstatic idx, 3)) (hp : pc + 3 = pc') (hi : i < 5) (hw : Cond.fieldLink (gw_mY mt).cls idx "FlagWalk" (gw_sn i) "[I" ∈ gw_tb) (h : gw_G mt d QR Γ pc' ls (gR (1000 + i) :: stk) m) : gw_G mt d QR Γ pc ls stk m := by
  subst hp
  obtain ⟨cx, p, l, e, R, s, mm, args, below, meth, cd, ⟨c0, s0⟩, Q⟩ := Γ
  intro ok o1 o2 o3 H locs lsA hP hS hL
  exact va_gets ok.1 ok.2.1 (ok.2.2.2.2.2.2.2.1.1 i hi).1 hS ok.2.2.2.1 (ok.2.2.2.2.1 _ hw) (fun _ h => h) hd (h ok o1 (gw_op (v := gR (1000 + i)) trivial o2) o3 H locs lsA hP hS hL)
theorem gw_getsN {mt d QR Γ pc ls stk m} {idx i : Nat} {host : String} (pc' : Nat) (hd : decode (gw_mC mt) pc = .ok (.getstatic idx, 3)) (hp : pc + 3 = pc') (hi : i < 5) (hw : ((gw_mY mt).cls, idx, "FlagWalk", gw_sn i, "[I", host) ∈ gw_nwF) (h : gw_G mt d QR Γ pc' ls (gR (1000 + i) :: stk) m) : gw_G mt d QR Γ pc ls stk m := by
  subst hp
  obtain ⟨cx, p, l, e, R, s, mm, args, below, meth, cd, ⟨c0, s0⟩, Q⟩ := Γ
  intro ok o1 o2 o3 H locs lsA hP hS hL
  exact va_getsN ok.1 ok.2.1 (ok.2.2.2.2.2.2.2.1.1 i hi).1 hS ok.2.2.2.1 (va_Nw.use rfl (ok.2.2.2.2.2.2.2.1.2.2.2.2.2.2.2 _ hw)) (fun _ h => h) hd (h ok o1 (gw_op (v := gR (1000 + i)) trivial o2) o3 H locs lsA hP hS hL)
theorem gw_sv_in (i : Nat) (j : Nat) : gw_inR ((gw_sv i).getD j 0) := by
  have h : ∀ l : List Int, (∀ x ∈ l, gw_inR x) → gw_inR (l.getD j 0) := by
    intro l hl
    rw [List.getD_eq_getElem?_getD]
    cases hx : l[j]? with
    | none => exact gw_in0
    | some x => exact hl x (List.mem_of_getElem? hx)
  apply h
  intro x hx
  unfold gw_inR
  unfold gw_sv at hx
  split at hx <;> simp at hx <;> omega
theorem gw_ialoadS {mt d QR Γ pc ls stk m} {i : Nat} {j v : Int} (pc' : Nat) (hd : decode (gw_mC mt) pc = .ok (.iaload, 1)) (hp : pc + 1 = pc') (hi : i < 5) (hj : gw_in j (gw_sv i).length) (hv : (gw_sv i).getD j.toNat 0 = v) (h : gw_G mt d QR Γ pc' ls (gI v :: stk) m) : gw_G mt d QR Γ pc ls (gI j :: gR (1000 + i) :: stk) m := by
  subst hp; subst hv
  obtain ⟨cx, p, l, e, R, s, mm, args, below, meth, cd, ⟨c0, s0⟩, Q⟩ := Γ
  intro ok o1 o2 o3 H locs lsA hP hS hL
  exact va_ti ok.1 ok.2.1 (ok.2.2.2.2.2.2.2.1.1 i hi).2 hS (gw_vpin hj (gw_o0 o2)) (v := .int (Int32.ofInt ((gw_sv i).getD j.toNat 0))) (by rw [gw_clamp hj.1 (gw_o0 o2)]) hd (h ok o1 (gw_oc2 (v := gI _) (gw_sv_in i _) o2) o3 H locs lsA hP hS hL)
/-! Math and arraycopy -/
theorem gw_max {mt d QR Γ pc ls stk m} {idx : Nat} {x y : Int} (pc' : Nat) (hd : decode (gw_mC mt) pc = .ok (.invokestatic idx, 3)) (hp : pc + 3 = pc') (hw : Cond.methodLink (gw_mY mt).cls idx Lib.Math.max.name ∈ gw_tb) (hc : Nat.ble 1 d = true) (hst : (stk.map (fun v => gw_nl [some v] 1)).all id = true) (hln : Nat.ble stk.length 8 = true) (h : gw_G mt d QR Γ pc' ls (gI (max x y) :: stk) m) : gw_G mt d QR Γ pc ls (gI y :: gI x :: stk) m := by
  subst hp
  obtain ⟨cx, p, l, e, R, s, mm, args, below, meth, cd, ⟨c0, s0⟩, Q⟩ := Γ
  intro ok o1 o2 o3 H locs lsA hP hS hL
  have hd1 : 1 ≤ d := Nat.le_of_ble_eq_true hc
  have hR := ok.2.2.2.2.2.2.2.2.2.1
  have hsum : ((stk.map (gw_cv cx.2.2.1)).map fun v => v.category).sum ≤ 8 := by
    have h1 : ∀ l : List gw_SV, (l.map (fun v => gw_nl [some v] 1)).all id = true → ((l.map (gw_cv cx.2.2.1)).map fun v => v.category).sum = l.length := by
      intro l
      induction l with
      | nil => intro _; rfl
      | cons a t ih =>
        intro hh
        simp only [List.map_cons, List.all_cons, Bool.and_eq_true, id] at hh
        simp only [List.map_cons, List.sum_cons, List.length_cons]
        rw [ih hh.2, gw_c1 hh.1]
        omega
    rw [h1 stk hst]
    exact Nat.le_of_ble_eq_true hln
  refine va_mmax ok.1 ok.2.1 (by rw [ok.2.2.1, hL.1]) ok.2.2.2.1 (ok.2.2.2.2.1 _ hw) (ok.2.2.2.2.1 _ jS_max) (ok.2.2.2.2.1 _ ini_java_lang_Math) (ok.2.2.2.2.1 _ jC_max) (by omega) (by omega) hR.2.2.1 hR.2.2.2 hd ?_
  have e1 : (if Int32.ofInt x < Int32.ofInt y then Int32.ofInt y else Int32.ofInt x) = Int32.ofInt (max x y) := by
    simp only [gw_lt (gw_o1 o2) (gw_o0 o2)]
    split
    · rw [Int.max_def]; congr 1; omega
    · rw [Int.max_def]; congr 1; split <;> omega
  rw [e1]
  exact h ok o1 (gw_oc2 (v := gI (max x y)) (by have a := gw_o0 o2; have b := gw_o1 o2; unfold gw_okV gw_inR at *; omega) o2) o3 H locs lsA hP hS hL
theorem gw_min {mt d QR Γ pc ls stk m} {idx : Nat} {x y : Int} (pc' : Nat) (hd : decode (gw_mC mt) pc = .ok (.invokestatic idx, 3)) (hp : pc + 3 = pc') (hw : Cond.methodLink (gw_mY mt).cls idx Lib.Math.min.name ∈ gw_tb) (hc : Nat.ble 1 d = true) (hst : (stk.map (fun v => gw_nl [some v] 1)).all id = true) (hln : Nat.ble stk.length 8 = true) (h : gw_G mt d QR Γ pc' ls (gI (min x y) :: stk) m) : gw_G mt d QR Γ pc ls (gI y :: gI x :: stk) m := by
  subst hp
  obtain ⟨cx, p, l, e, R, s, mm, args, below, meth, cd, ⟨c0, s0⟩, Q⟩ := Γ
  intro ok o1 o2 o3 H locs lsA hP hS hL
  have hd1 : 1 ≤ d := Nat.le_of_ble_eq_true hc
  have hR := ok.2.2.2.2.2.2.2.2.2.1
  have hsum : ((stk.map (gw_cv cx.2.2.1)).map fun v => v.category).sum ≤ 8 := by
    have h1 : ∀ l : List gw_SV, (l.map (fun v => gw_nl [some v] 1)).all id = true → ((l.map (gw_cv cx.2.2.1)).map fun v => v.category).sum = l.length := by
      intro l
      induction l with
      | nil => intro _; rfl
      | cons a t ih =>
        intro hh
        simp only [List.map_cons, List.all_cons, Bool.and_eq_true, id] at hh
        simp only [List.map_cons, List.sum_cons, List.length_cons]
        rw [ih hh.2, gw_c1 hh.1]
        omega
    rw [h1 stk hst]
    exact Nat.le_of_ble_eq_true hln
  refine va_mmin ok.1 ok.2.1 (by rw [ok.2.2.1, hL.1]) ok.2.2.2.1 (ok.2.2.2.2.1 _ hw) (ok.2.2.2.2.1 _ jS_min) (ok.2.2.2.2.1 _ ini_java_lang_Math) (ok.2.2.2.2.1 _ jC_min) (by omega) (by omega) hR.2.2.1 hR.2.2.2 hd ?_
  have e1 : (if Int32.ofInt y < Int32.ofInt x then Int32.ofInt y else Int32.ofInt x) = Int32.ofInt (min x y) := by
    simp only [gw_lt (gw_o0 o2) (gw_o1 o2)]
    split
    · rw [Int.min_def]; congr 1; split <;> omega
    · rw [Int.min_def]; congr 1; split <;> omega
  rw [e1]
  exact h ok o1 (gw_oc2 (v := gI (min x y)) (by have a := gw_o0 o2; have b := gw_o1 o2; unfold gw_okV gw_inR at *; omega) o2) o3 H locs lsA hP hS hL
theorem gw_cp_at {m : gw_Mem} {o o' : Nat} {a b n : Int} {j : Nat} (ha : 0 ≤ a) (hb : 0 ≤ b) (hn : 0 ≤ n) : va_cpy (fun j : Nat => Int32.ofInt (m o (j : Int))) (fun j : Nat => Int32.ofInt (m o' (j : Int))) a.toNat b.toNat n.toNat j = Int32.ofInt (gw_cp m o a o' b n o' (j : Int)) := by
  unfold va_cpy gw_cp
  by_cases h : b.toNat ≤ j ∧ j < b.toNat + n.toNat
  · rw [if_pos h, if_pos (by omega)]
    have e1 : ((a.toNat + (j - b.toNat) : Nat) : Int) = a + ((j : Int) - b) := by omega
    show Int32.ofInt (m o ((a.toNat + (j - b.toNat) : Nat) : Int)) = _
    rw [e1]
  · rw [if_neg h, if_neg (by omega)]
theorem gw_copy {mt d QR Γ pc ls m} {idx o o' t n n' : Nat} {rs rs' : List (Option Nat)} {a b z : Int} (pc' : Nat) (hd : decode (gw_mC mt) pc = .ok (.invokestatic idx, 3)) (hp : pc + 3 = pc') (hw : Cond.methodLink (gw_mY mt).cls idx arraycopyName ∈ gw_tb) (hc : Nat.ble 1 d = true) (hs : gw_SH[o]? = some (t, n, rs)) (hs' : gw_SH[o']? = some (t, n', rs')) (ht : t = 1 ∨ t = 3) (ha : 0 ≤ a ∧ 0 ≤ b ∧ 0 ≤ z ∧ a + z ≤ (n : Int) ∧ b + z ≤ (n' : Int)) (h : gw_G mt d QR Γ pc' ls [] (gw_cp m o a o' b z)) : gw_G mt d QR Γ pc ls [gI z, gI b, gR o', gI a, gR o] m := by
  subst hp
  obtain ⟨cx, p, l, e, R, s, mm, args, below, meth, cd, ⟨c0, s0⟩, Q⟩ := Γ
  intro ok o1 o2 o3 H locs lsA hP hS hL
  have hd1 : 1 ≤ d := Nat.le_of_ble_eq_true hc
  have hR := ok.2.2.2.2.2.2.2.2.2.1
  have rz : gw_inR z := o2 (gI z) (by simp)
  have rb : gw_inR b := o2 (gI b) (by simp)
  have ra : gw_inR a := o2 (gI a) (by simp)
  have cz := gw_clamp ha.2.2.1 rz
  have cb := gw_clamp ha.2.1 rb
  have ca := gw_clamp ha.1 ra
  have nz : ¬ Int32.ofInt z < 0 := by rw [gw_lt0 rz]; omega
  have nb : ¬ Int32.ofInt b < 0 := by rw [gw_lt0 rb]; omega
  have na : ¬ Int32.ofInt a < 0 := by rw [gw_lt0 ra]; omega
  have hw1 : nativeFrameWords "java/lang/System" "arraycopy" 5 + 11 ≤ 64 := by decide
  have hrl : (([] : List Value).map fun v => v.category).sum + (nativeFrameWords "java/lang/System" "arraycopy" 5 + 11) ≤ R.locals := by
    show 0 + _ ≤ _
    omega
  have okc : gw_okM (gw_cp m o a o' b z) := by
    refine ⟨fun q j => ?_, fun q n2 rs2 hq j => ?_⟩
    · unfold gw_cp
      split
      · exact o3.1 _ _
      · exact o3.1 _ _
    · unfold gw_cp
      split
      · rename_i hh
        rw [hh.1, hs'] at hq
        cases hq
        exact o3.2 _ _ _ hs _
      · exact o3.2 q n2 rs2 hq j
  have hkeep : ∀ q : Nat, q ≠ o' → gw_cp m o a o' b z q = m q := by
    intro q hq
    funext j
    unfold gw_cp
    rw [if_neg (fun hh => hq hh.1)]
  rcases ht with rfl | rfl
  · refine va_copyi (D := cx.1) ok.1 ok.2.1 (by rw [ok.2.2.1, hL.1]) ok.2.2.2.1 (ok.2.2.2.2.1 _ hw) (ok.2.2.2.2.1 _ jN_copy) (ok.2.2.2.2.1 _ jS_copy) (ok.2.2.2.2.1 _ ini_java_lang_System) ok.2.2.2.2.2.1 hP (gw_Wd_D ok.2.2.2.2.2.2.1 m) hS o o' 0 0 (gw_Wd_get hs) (gw_Wd_get hs') rfl rfl rfl na nb nz (by rw [ca, cz]; omega) (by rw [cb, cz]; omega) (fun i hi => rfl) (by omega) hrl hd (fun H1 locs1 hP1 _ hS1 => ?_)
    rw [ca, cb, cz, gw_Wd_set (m' := gw_cp m o a o' b z) hs' (by
      show Sum.inl _ = Sum.inl _
      congr 4
      funext j
      exact gw_cp_at ha.1 ha.2.1 ha.2.2.1) hkeep] at hP1
    exact h ok o1 (fun v hv => by cases hv) okc H1 locs1 lsA hP1 hS1 hL
  · refine va_copyi (D := cx.1) ok.1 ok.2.1 (by rw [ok.2.2.1, hL.1]) ok.2.2.2.1 (ok.2.2.2.2.1 _ hw) (ok.2.2.2.2.1 _ jN_copy) (ok.2.2.2.2.1 _ jS_copy) (ok.2.2.2.2.1 _ ini_java_lang_System) ok.2.2.2.2.2.1 hP (gw_Wd_D ok.2.2.2.2.2.2.1 m) hS o o' 2 2 (gw_Wd_get hs) (gw_Wd_get hs') rfl rfl rfl na nb nz (by rw [ca, cz]; omega) (by rw [cb, cz]; omega) (fun i hi => (gw_bool (o3.2 _ _ _ hs _)).2) (by omega) hrl hd (fun H1 locs1 hP1 _ hS1 => ?_)
    rw [ca, cb, cz, gw_Wd_set (m' := gw_cp m o a o' b z) hs' (by
      show Sum.inl _ = Sum.inl _
      congr 4
      funext j
      exact gw_cp_at ha.1 ha.2.1 ha.2.2.1) hkeep] at hP1
    exact h ok o1 (fun v hv => by cases hv) okc H1 locs1 lsA hP1 hS1 hL
end
section
/-! contracts -/
def gw_rm (d : Nat) : Room := { frames := d, cells := 0, slots := 0, locals := 64 * d }
def gw_mW (mt : gw_MT) : List Cond := Cond.code (gw_mY mt) (gw_mC mt) (gw_mL mt) (gw_mR mt) :: gw_tb
def gw_Pc (cx : gw_Cx) (m : gw_Mem) (U : State) : Prop := cx.2.2.2.1 ≤ U.heap.size ∧ va_P cx.1 vwCl (gw_Wd cx m) U.heap ∧ va_K cx.1 vwCl (gw_ty cx) U ∧ gw_ap cx ∧ gw_Stat cx U U.heap ∧ gw_okM m
def gw_Qc (cx : gw_Cx) (QR : Option gw_SV → gw_Mem → Prop) : Array Value → State → Outcome → State → Prop := fun _ st oc t => (∃ (r : Option gw_SV) (m' : gw_Mem), oc = .returned (r.map (gw_cv cx.2.2.1)) ∧ (∀ v, r = some v → gw_okV v) ∧ QR r m' ∧ va_P cx.1 vwCl (gw_Wd cx m') t.heap ∧ gw_okM m') ∧ va_F (gw_A cx) st t
def gw_Spec (mt : gw_MT) (d : Nat) (a : List gw_SV) (m : gw_Mem) (QR : Option gw_SV → gw_Mem → Prop) : Prop := (∀ v ∈ a, gw_okV v) → ∀ (l : Launch) (cx : gw_Cx), Met l (gw_mY mt) (gw_mW mt) (gw_rm d) (va_Pc (a.map (gw_cv cx.2.2.1)) (gw_Pc cx m)) (gw_Qc cx QR) 0 0 (gw_A cx)
def gw_SpecI (mt : gw_MT) (d : Nat) (a : List gw_SV) (m : gw_Mem) (P : Int → gw_Mem → Prop) : Prop := gw_Spec mt d a m (fun r m' => ∃ v, r = some (gI v) ∧ P v m')
def gw_SpecV (mt : gw_MT) (d : Nat) (a : List gw_SV) (m : gw_Mem) (P : gw_Mem → Prop) : Prop := gw_Spec mt d a m (fun r m' => r = none ∧ P m')
def gw_CI (d : Nat) (mt : gw_MT) (a : List gw_SV) (m : gw_Mem) (P : Int → gw_Mem → Prop) : Prop := ∃ (d' : Nat) (P0 : Int → gw_Mem → Prop), d' < d ∧ gw_SpecI mt d' a m P0 ∧ ∀ (v : Int) (m' : gw_Mem), gw_inR v → gw_okM m' → P0 v m' → P v m'
def gw_CV (d : Nat) (mt : gw_MT) (a : List gw_SV) (m : gw_Mem) (P : gw_Mem → Prop) : Prop := ∃ (d' : Nat) (P0 : gw_Mem → Prop), d' < d ∧ gw_SpecV mt d' a m P0 ∧ ∀ m' : gw_Mem, gw_okM m' → P0 m' → P m'
theorem gw_CI.of {d d' : Nat} {mt : gw_MT} {a : List gw_SV} {m : gw_Mem} {P0 P : Int → gw_Mem → Prop} (hs : gw_SpecI mt d' a m P0) (hd : Nat.blt d' d = true) (h : ∀ (v : Int) (m' : gw_Mem), gw_inR v → gw_okM m' → P0 v m' → P v m') : gw_CI d mt a m P := ⟨d', P0, by simpa [Nat.blt_eq] using hd, hs, h⟩
theorem gw_CI.eq {d d' : Nat} {mt : gw_MT} {a : List gw_SV} {m m1 : gw_Mem} {v1 : Int} {P : Int → gw_Mem → Prop} (hs : gw_SpecI mt d' a m (fun v m' => v = v1 ∧ m' = m1)) (hd : Nat.blt d' d = true) (h : P v1 m1) : gw_CI d mt a m P := gw_CI.of hs hd (fun v m' _ _ hq => by obtain ⟨rfl, rfl⟩ := hq; exact h)
theorem gw_CV.of {d d' : Nat} {mt : gw_MT} {a : List gw_SV} {m : gw_Mem} {P0 P : gw_Mem → Prop} (hs : gw_SpecV mt d' a m P0) (hd : Nat.blt d' d = true) (h : ∀ m' : gw_Mem, gw_okM m' → P0 m' → P m') : gw_CV d mt a m P := ⟨d', P0, by simpa [Nat.blt_eq] using hd, hs, h⟩
theorem gw_CV.eq {d d' : Nat} {mt : gw_MT} {a : List gw_SV} {m m1 : gw_Mem} {P : gw_Mem → Prop} (hs : gw_SpecV mt d' a m (fun m' => m' = m1)) (hd : Nat.blt d' d = true) (h : P m1) : gw_CV d mt a m P := gw_CV.of hs hd (fun m' _ hq => by subst hq; exact h)
/-! the entry -/
def gw_ini0 : List gw_SV → List (Option gw_SV)
  | [] => []
  | .inr (.inl x) :: vs => some (.inr (.inl x)) :: none :: gw_ini0 vs
  | v :: vs => some v :: gw_ini0 vs
def gw_ini (n : Nat) (a : List gw_SV) : List (Option gw_SV) := gw_ini0 a ++ List.replicate (n - (gw_ini0 a).length) none
theorem gw_ini0_len (ad : Nat → Nat) (a : List gw_SV) : (lg_sl (a.map (gw_cv ad))).length = (gw_ini0 a).length := by
  induction a with
  | nil => rfl
  | cons v vs ih =>
    rcases v with x | x | o
    · simpa [lg_sl, gw_ini0, gw_cv, Value.category] using ih
    · simpa [lg_sl, gw_ini0, gw_cv, Value.category] using ih
    · simpa [lg_sl, gw_ini0, gw_cv, Value.category] using ih
theorem gw_ini0_args (ad : Nat → Nat) (a : List gw_SV) : ∀ (k i : Nat) (v : gw_SV), (gw_ini0 a)[i]? = some (some v) → (k + i, gw_cv ad v) ∈ lv_args k (a.map (gw_cv ad)) := by
  induction a with
  | nil => intro k i v h; simp [gw_ini0] at h
  | cons w vs ih =>
    intro k i v h
    rcases w with x | x | o
    · cases i with
      | zero => simp [gw_ini0] at h; subst h; exact List.mem_cons_self
      | succ i =>
        have h1 := ih (k + 1) i v (by simpa [gw_ini0] using h)
        have h2 : (k + (i + 1), gw_cv ad v) ∈ lv_args (k + 1) (vs.map (gw_cv ad)) := by rw [show k + (i + 1) = k + 1 + i by omega]; exact h1
        exact List.mem_cons_of_mem _ h2
    · cases i with
      | zero => simp [gw_ini0] at h; subst h; exact List.mem_cons_self
      | succ i =>
        cases i with
        | zero => simp [gw_ini0] at h
        | succ i =>
          have h1 := ih (k + 2) i v (by simpa [gw_ini0] using h)
          have h2 : (k + (i + 1 + 1), gw_cv ad v) ∈ lv_args (k + 2) (vs.map (gw_cv ad)) := by rw [show k + (i + 1 + 1) = k + 2 + i by omega]; exact h1
          exact List.mem_cons_of_mem _ h2
    · cases i with
      | zero => simp [gw_ini0] at h; subst h; exact List.mem_cons_self
      | succ i =>
        have h1 := ih (k + 1) i v (by simpa [gw_ini0] using h)
        have h2 : (k + (i + 1), gw_cv ad v) ∈ lv_args (k + 1) (vs.map (gw_cv ad)) := by rw [show k + (i + 1) = k + 1 + i by omega]; exact h1
        exact List.mem_cons_of_mem _ h2
theorem gw_ini0_mem (a : List gw_SV) : ∀ v, some v ∈ gw_ini0 a → v ∈ a := by
  induction a with
  | nil => intro v h; simp [gw_ini0] at h
  | cons w vs ih =>
    intro v h
    rcases w with x | x | o
    · simp only [gw_ini0, List.mem_cons, Option.some.injEq] at h
      rcases h with h | h
      · rw [h]; exact List.mem_cons_self
      · exact List.mem_cons_of_mem _ (ih v h)
    · simp only [gw_ini0, List.mem_cons, Option.some.injEq] at h
      rcases h with h | h | h
      · rw [h]; exact List.mem_cons_self
      · cases h
      · exact List.mem_cons_of_mem _ (ih v h)
    · simp only [gw_ini0, List.mem_cons, Option.some.injEq] at h
      rcases h with h | h
      · rw [h]; exact List.mem_cons_self
      · exact List.mem_cons_of_mem _ (ih v h)
theorem gw_ini_ls (ad : Nat → Nat) {n : Nat} {a : List gw_SV} (h : (gw_ini0 a).length ≤ n) : gw_ls ad n ((lg_sl (a.map (gw_cv ad)) ++ List.replicate (n - (lg_sl (a.map (gw_cv ad))).length) Slot.unset).toArray) (gw_ini n a) := by
  have h1 := lv_entry (a.map (gw_cv ad)) (n := n) (by rw [gw_ini0_len]; exact h)
  refine ⟨h1.1, h1.2.1, by unfold gw_ini; rw [List.length_append, List.length_replicate]; omega, fun i v hv => ?_⟩
  have h2 : (gw_ini0 a)[i]? = some (some v) := by
    unfold gw_ini at hv
    by_cases hi : i < (gw_ini0 a).length
    · rwa [List.getElem?_append_left hi] at hv
    · rw [List.getElem?_append_right (by omega), List.getElem?_replicate] at hv
      split at hv <;> simp at hv
  have h3 := gw_ini0_args ad a 0 i v h2
  rw [Nat.zero_add] at h3
  exact h1.2.2 _ h3
theorem gw_intro {mt : gw_MT} {d : Nat} {a : List gw_SV} {m : gw_Mem} {QR : Option gw_SV → gw_Mem → Prop} (hp : plainName (gw_mY mt).cls = true) (hl : Nat.ble (gw_ini0 a).length (gw_mL mt) = true) (hG : ∀ Γ : gw_Ga, gw_G mt d QR Γ 0 (gw_ini (gw_mL mt) a) [] m) : gw_Spec mt d a m QR := by
  intro hoa l cx
  refine Met.ofW (cc := gw_mC mt) (maxL := gw_mL mt) (ret := gw_mR mt) hp rfl ?_
  intro p e s mm args below meth c s₁ B hml hv
  obtain ⟨rfl, hbase, hP, hK, hap, hSt, hoM⟩ := hv
  have hts := atoms_spec (ws := gw_mW mt) B.pre
  have hown : s.vm.findClass (gw_mY mt).cls = some mm.cls := findClass_of_methodNamed B.named
  rw [lg_entry_eq]
  have hS : va_S (gw_A cx) s.heap s.heap [] := va_S.rf
  refine hG (cx, p, l, e, (headSpec (gw_mW mt) (gw_rm d)).room, s, mm, (a.map (gw_cv cx.2.2.1)).toArray, below, meth, c, (0, 0), MQ below (gw_Qc cx QR) (a.map (gw_cv cx.2.2.1)).toArray s 0 0 (gw_A cx)) ?_ ?_ (fun v hv => by cases hv) hoM s.heap [] _ hP hS (gw_ini_ls cx.2.2.1 (Nat.le_of_ble_eq_true hl))
  · refine ⟨B.exec, B.bytes, hml, hown, fun w hw => hts w (List.mem_cons_of_mem _ hw), hK, hap, hSt, hbase, ⟨Nat.le_refl _, Nat.le_refl _, Nat.le_refl _, Nat.le_refl _⟩, ?_, ?_⟩
    · intro v m' H locs lsA pc hq hr hret hdg hP' hoM' hS'
      have hqc : ∀ t : State, t.heap = H → s.WarmedH t.vm → gw_Qc cx QR (a.map (gw_cv cx.2.2.1)).toArray s (.returned (some (.int (Int32.ofInt v)))) t := fun t ht _ => ⟨⟨some (gI v), m', rfl, fun w hw => (by cases hw; exact hr), hq, by rw [ht]; exact hP', hoM'⟩, hS'.F ht⟩
      rcases hret with hret | ⟨hret, hb⟩
      · exact W.iret B.exec B.bytes (by rw [B.returns, hret]) hqc hS'.2.2 hdg B.notSynchronized
      · exact W.zret B.exec B.bytes (by rw [B.returns, hret]) (gw_bool hb).1 hqc hS'.2.2 hdg B.notSynchronized
    · intro m' H locs lsA pc hq hret hdg hP' hoM' hS'
      have hqc : ∀ t : State, t.heap = H → s.WarmedH t.vm → gw_Qc cx QR (a.map (gw_cv cx.2.2.1)).toArray s (.returned none) t := fun t ht _ => ⟨⟨none, m', rfl, fun w hw => (by cases hw), hq, by rw [ht]; exact hP', hoM'⟩, hS'.F ht⟩
      exact W.vret B.exec B.bytes (by rw [B.returns, hret]) hqc hS'.2.2 hdg B.notSynchronized
  · intro v hv
    refine hoa v (gw_ini0_mem a v ?_)
    unfold gw_ini at hv
    rcases List.mem_append.mp hv with h | h
    · exact h
    · exact absurd (List.eq_of_mem_replicate h) (by simp)
/-! the end -/
theorem gw_ireturn {mt d QR Γ pc ls m} {v : Int} (hd : decode (gw_mC mt) pc = .ok (.ireturn, 1)) (hr : gw_mR mt = some .int ∨ gw_mR mt = some .boolean ∧ gw_b v) (h : QR (some (gI v)) m) : gw_G mt d QR Γ pc ls [gI v] m := by
  obtain ⟨cx, p, l, e, R, s, mm, args, below, meth, cd, ⟨c0, s0⟩, Q⟩ := Γ
  intro ok o1 o2 o3 H locs lsA hP hS hL
  exact ok.2.2.2.2.2.2.2.2.2.2.1 v m H locs lsA pc h (gw_o0 o2) hr hd hP o3 hS
theorem gw_return {mt d QR Γ pc ls m} (hd : decode (gw_mC mt) pc = .ok (.return_, 1)) (hr : gw_mR mt = none) (h : QR none m) : gw_G mt d QR Γ pc ls [] m := by
  obtain ⟨cx, p, l, e, R, s, mm, args, below, meth, cd, ⟨c0, s0⟩, Q⟩ := Γ
  intro ok o1 o2 o3 H locs lsA hP hS hL
  exact ok.2.2.2.2.2.2.2.2.2.2.2 m H locs lsA pc h hr hd hP o3 hS
/-! calls -/
theorem gw_catsum (ad : Nat → Nat) : ∀ l : List gw_SV, ((l.map (gw_cv ad)).map fun v => v.category).sum ≤ 2 * l.length
  | [] => by simp
  | a :: t => by
    have h1 := gw_catsum ad t
    have h2 : (gw_cv ad a).category ≤ 2 := by
      rcases a with x | x | o <;> simp [gw_cv, Value.category]
    simp only [List.map_cons, List.sum_cons, List.length_cons]
    omega
theorem gw_good {w : Cond} (h : w ∈ gw_tb) : (w.onTables && w.keeps) = true ∨ ∃ ty, w = .arrayClass ty := good_of_word (gw_tb_good w h)
def gw_MB (mt : gw_MT) (n : Nat) : Prop := Cond.code (gw_mY mt) (gw_mC mt) (gw_mL mt) (gw_mR mt) ∈ gw_tb ∧ Cond.initialized (gw_mY mt).cls ∈ gw_tb ∧ (gw_mY mt).cls ≠ "java/lang/invoke/MethodHandle" ∧ (gw_mY mt).cls ≠ "java/lang/invoke/VarHandle" ∧ (parseMethodDescriptor (gw_mY mt).desc).map (fun d => d.parameters.length) = some n ∧ gw_mL mt ≤ 40
def gw_MV (mt : gw_MT) (n : Nat) : Prop := gw_MB mt n ∧ Cond.instanceMethod (gw_mY mt) ∈ gw_tb ∧ Cond.selects (gw_mY mt).cls (gw_mY mt) (gw_mY mt) ∈ gw_tb
def gw_MS (mt : gw_MT) (n : Nat) : Prop := gw_MB mt n ∧ Cond.static (gw_mY mt) ∈ gw_tb
theorem gw_mW_good {mt : gw_MT} {n : Nat} (h : gw_MB mt n) : GoodIn gw_tb (gw_mW mt) := by
  intro w hw
  rcases List.mem_cons.mp hw with rfl | hw
  · exact ⟨h.1, gw_good h.1⟩
  · exact ⟨hw, gw_good hw⟩
theorem gw_blind {cx : gw_Cx} {av : List Value} {m : gw_Mem} : FrameBlind (va_Pc av (gw_Pc cx m)) := by
  intro a U g mk q
  obtain ⟨q0, q1, q2, q3, q4, q5, q6⟩ := q
  exact ⟨q0, q1, q2, va_K.moved (u := U) (U := U.calling g mk a) (Vm.Alike.refl U.vm) q3, q4, gw_Stat.same (u := U) rfl q5, q6⟩
section GWC
variable {p : Program} {l : Launch} {e : Env} {R : Room} {s : State} {mm : MethodId} {args : Array Value} {below : List Frame} {meth : Method} {cd : Code} {H : Heap} {locs : List Loc} {c0 s0 : Nat} {Q : State → Prop} {lsA : Array Slot}
theorem gw_core {cx : gw_Cx} {QR' : Option gw_SV → gw_Mem → Prop} {pc : Nat} {st0 rest : List Value} {a' : Array Value} (hr : va_Run p l e R s mm args below meth cd H locs c0 s0 0 0 (F0 mm pc lsA st0) rest (gw_Qc cx QR' a') (gw_A cx)) (hS : va_S (gw_A cx) s.heap H locs)
    (kk : ∀ (r : Option gw_SV) (m' : gw_Mem) (H1 : Heap) (locs1 : List Loc), (∀ v, r = some v → gw_okV v) → QR' r m' → va_P cx.1 vwCl (gw_Wd cx m') H1 → gw_okM m' → va_S (gw_A cx) s.heap H1 locs1 → W p l e R s mm args below meth cd H1 locs1 c0 s0 Q (F0 mm (pc + 3) lsA ((r.map (gw_cv cx.2.2.1)).toList ++ rest))) : W p l e R s mm args below meth cd H locs c0 s0 Q (F0 mm pc lsA st0) := by
  intro T hT X
  obtain ⟨v, st₀, t, T', L, h0, X', hL, e1, e2, ⟨⟨r, m', hv, hok, hq, hp, hm⟩, hz, hk⟩, st⟩ := hr T hT X
  have hv : v = r.map (gw_cv cx.2.2.1) := by injection hv
  subst hv
  rw [h0] at hz hk
  obtain ⟨t2, a1, b1⟩ := kk r m' T'.heap (locs ++ L) hok hq (by rw [e1]; exact hp) hm
    ⟨Nat.le_trans hS.1 (by rw [e1]; exact hz), fun q h1 h2 => by rw [e1, hk q (Nat.lt_of_lt_of_le h1 hS.1) h2]; exact hS.2.1 q h1 h2, fun q hq => by
      rcases List.mem_append.mp hq with h | h
      · exact hS.2.2 q h
      · exact hL q h⟩ T' rfl X'
  exact ⟨t2, st t2 a1, b1⟩
theorem gw_pcH {cx : gw_Cx} {m : gw_Mem} {U : State} (hK : va_K cx.1 vwCl (gw_ty cx) s) (hap : gw_ap cx) (hSt : gw_Stat cx s s.heap) (hbase : cx.2.2.2.1 ≤ s.heap.size) (hP : va_P cx.1 vwCl (gw_Wd cx m) H) (hS : va_S (gw_A cx) s.heap H locs) (hoM : gw_okM m) (hU : U.heap = H) (hW : s.WarmedH U.vm) : gw_Pc cx m U :=
  ⟨by rw [hU]; exact Nat.le_trans hbase hS.1, by rw [hU]; exact hP, va_K.moved hW.alike hK, hap, by rw [hU]; exact gw_Stat.warm hW (hSt.kept hS.2.1), hoM⟩
end GWC
theorem gw_callV {mt : gw_MT} {d QR Γ pc ls} {stk rest : List gw_SV} {m} {idx b n ci : Nat} {sl : List (Option Nat)} {mt' : gw_MT} {d' : Nat} {a : List gw_SV} {QR' : Option gw_SV → gw_Mem → Prop} (pc' : Nat) (hd : decode (gw_mC mt) pc = .ok (.invokevirtual idx, 3)) (hp : pc + 3 = pc') (hw : Cond.methodLink (gw_mY mt).cls idx (gw_mY mt') ∈ gw_tb) (hmv : gw_MV mt' n) (hn : a.length = n) (hs : gw_SH[b]? = some (0, ci, sl)) (hc : (vwCl[ci]?).map (fun q => q.1) = some (gw_mY mt').cls) (hln : Nat.ble rest.length 4 = true) (hst : stk = a.reverse ++ gR b :: rest) (hdd : d' < d) (hsp : gw_Spec mt' d' (gR b :: a) m QR')
    (h : ∀ (r : Option gw_SV) (m' : gw_Mem), (∀ v, r = some v → gw_okV v) → gw_okM m' → QR' r m' → gw_G mt d QR Γ pc' ls (r.toList ++ rest) m') : gw_G mt d QR Γ pc ls stk m := by
  subst hp; subst hst
  obtain ⟨cx, p, l, e, R, s, mm, args, below, meth, cd, ⟨c0, s0⟩, Q⟩ := Γ
  intro ok o1 o2 o3 H locs lsA hP hS hL
  have hR := ok.2.2.2.2.2.2.2.2.2.1
  have hoa : ∀ v ∈ gR b :: a, gw_okV v := fun v hv => o2 v (by
    rcases List.mem_cons.mp hv with rfl | hv
    · exact List.mem_append_right _ List.mem_cons_self
    · exact List.mem_append_left _ (List.mem_reverse.mpr hv))
  have hM := hsp hoa l cx
  have hG : GoodIn gw_tb (wsV (gw_mY mt).cls idx (gw_mY mt').cls (gw_mY mt') (gw_mW mt')) := by
    intro w hw1
    unfold wsV at hw1
    rcases List.mem_append.mp hw1 with h1 | h1
    · simp only [List.mem_cons, List.not_mem_nil, or_false] at h1
      rcases h1 with rfl | rfl | rfl | rfl
      · exact ⟨hw, gw_good hw⟩
      · exact ⟨hmv.2.1, gw_good hmv.2.1⟩
      · exact ⟨hmv.2.2, gw_good hmv.2.2⟩
      · exact ⟨hmv.1.2.1, gw_good hmv.1.2.1⟩
    · exact gw_mW_good hmv.1 w h1
  obtain ⟨q, hq, hq1⟩ := Option.map_eq_some_iff.mp hc
  have hrecv := va_recv ok.2.2.2.2.2.1 hP hq (gw_Wd_get hs)
  rw [hq1] at hrecv
  have hcat := gw_catsum cx.2.2.1 rest
  have hln := Nat.le_of_ble_eq_true hln
  have h40 := hmv.1.2.2.2.2.2
  have hrun := va_runV (R := R) (locs := locs) (cells := c0) (slots := s0) (below := below) (meth := meth) (e := e) (g := F0 mm pc lsA ((a.reverse ++ gR b :: rest).map (gw_cv cx.2.2.1))) (As := a.map (gw_cv cx.2.2.1)) (rest := rest.map (gw_cv cx.2.2.1)) (b := cx.2.2.1 b) (C := (gw_mY mt').cls) ⟨ok.1, ok.2.1, ok.2.2.1, ok.2.2.2.1, ok.2.2.2.2.1⟩ hM
    (cwV n ok.2.2.2.2.1 hG rfl rfl rfl ⟨rfl, hmv.1.2.2.1, hmv.1.2.2.2.1, hmv.1.2.2.2.2.1⟩ ⟨by show d' + 1 ≤ _; omega, by show 8 + (gw_mL mt' + 11) + 64 * d' ≤ _; omega⟩)
    ⟨gw_blind, hrecv, fun U hU hW => ⟨by simp [gw_cv], gw_pcH ok.2.2.2.2.2.1 ok.2.2.2.2.2.2.1 ok.2.2.2.2.2.2.2.1 ok.2.2.2.2.2.2.2.2.1 hP hS o3 hU hW⟩⟩ rfl (by rw [List.length_map]; exact hn) hL.1 (by simp [gw_cv]) (lv_room (by omega)) hd ⟨hR.2.2.1, hR.2.2.2⟩
  refine gw_core hrun hS (fun r m' H1 locs1 hok hq hP1 hm1 hS1 => ?_)
  have hk := h r m' hok hm1 hq ok o1 (fun v hv => by
    rcases List.mem_append.mp hv with h1 | h1
    · cases r with
      | none => cases h1
      | some w => exact hok v (by simp at h1; rw [h1])
    · exact o2 v (List.mem_append_right _ (List.mem_cons_of_mem _ h1))) hm1 H1 locs1 lsA hP1 hS1 hL
  have e9 : (r.toList ++ rest).map (gw_cv cx.2.2.1) = (r.map (gw_cv cx.2.2.1)).toList ++ rest.map (gw_cv cx.2.2.1) := by
    cases r <;> simp
  rw [e9] at hk
  exact hk
theorem gw_callS {mt : gw_MT} {d QR Γ pc ls} {stk rest : List gw_SV} {m} {idx n : Nat} {mt' : gw_MT} {d' : Nat} {a : List gw_SV} {QR' : Option gw_SV → gw_Mem → Prop} (pc' : Nat) (hd : decode (gw_mC mt) pc = .ok (.invokestatic idx, 3)) (hp : pc + 3 = pc') (hw : Cond.methodLink (gw_mY mt).cls idx (gw_mY mt') ∈ gw_tb) (hmv : gw_MS mt' n) (hn : a.length = n) (hln : Nat.ble rest.length 4 = true) (hst : stk = a.reverse ++ rest) (hdd : d' < d) (hsp : gw_Spec mt' d' a m QR')
    (h : ∀ (r : Option gw_SV) (m' : gw_Mem), (∀ v, r = some v → gw_okV v) → gw_okM m' → QR' r m' → gw_G mt d QR Γ pc' ls (r.toList ++ rest) m') : gw_G mt d QR Γ pc ls stk m := by
  subst hp; subst hst
  obtain ⟨cx, p, l, e, R, s, mm, args, below, meth, cd, ⟨c0, s0⟩, Q⟩ := Γ
  intro ok o1 o2 o3 H locs lsA hP hS hL
  have hR := ok.2.2.2.2.2.2.2.2.2.1
  have hoa : ∀ v ∈ a, gw_okV v := fun v hv => o2 v (List.mem_append_left _ (List.mem_reverse.mpr hv))
  have hM := hsp hoa l cx
  have hG : GoodIn gw_tb (va_wsS (gw_mY mt).cls idx (gw_mY mt') (gw_mW mt')) := by
    intro w hw1
    unfold va_wsS at hw1
    rcases List.mem_append.mp hw1 with h1 | h1
    · simp only [List.mem_cons, List.not_mem_nil, or_false] at h1
      rcases h1 with rfl | rfl | rfl
      · exact ⟨hw, gw_good hw⟩
      · exact ⟨hmv.2, gw_good hmv.2⟩
      · exact ⟨hmv.1.2.1, gw_good hmv.1.2.1⟩
    · exact gw_mW_good hmv.1 w h1
  have hcat := gw_catsum cx.2.2.1 rest
  have hln := Nat.le_of_ble_eq_true hln
  have h40 := hmv.1.2.2.2.2.2
  have hrun := va_runS (R := R) (locs := locs) (cells := c0) (slots := s0) (below := below) (meth := meth) (e := e) (g := F0 mm pc lsA ((a.reverse ++ rest).map (gw_cv cx.2.2.1))) (As := a.map (gw_cv cx.2.2.1)) (rest := rest.map (gw_cv cx.2.2.1)) ⟨ok.1, ok.2.1, ok.2.2.1, ok.2.2.2.1, ok.2.2.2.2.1⟩ hM
    (va_cwS n ok.2.2.2.2.1 hG rfl rfl rfl ⟨hmv.1.2.2.1, hmv.1.2.2.2.1, hmv.1.2.2.2.2.1⟩ ⟨by show d' + 1 ≤ _; omega, by show 8 + (gw_mL mt' + 11) + 64 * d' ≤ _; omega⟩)
    ⟨gw_blind, fun U hU hW => ⟨rfl, gw_pcH ok.2.2.2.2.2.1 ok.2.2.2.2.2.2.1 ok.2.2.2.2.2.2.2.1 ok.2.2.2.2.2.2.2.2.1 hP hS o3 hU hW⟩⟩ rfl (by rw [List.length_map]; exact hn) hL.1 (by simp) (lv_room (by omega)) hd ⟨hR.2.2.1, hR.2.2.2⟩
  refine gw_core hrun hS (fun r m' H1 locs1 hok hq hP1 hm1 hS1 => ?_)
  have hk := h r m' hok hm1 hq ok o1 (fun v hv => by
    rcases List.mem_append.mp hv with h1 | h1
    · cases r with
      | none => cases h1
      | some w => exact hok v (by simp at h1; rw [h1])
    · exact o2 v (List.mem_append_right _ h1)) hm1 H1 locs1 lsA hP1 hS1 hL
  have e9 : (r.toList ++ rest).map (gw_cv cx.2.2.1) = (r.map (gw_cv cx.2.2.1)).toList ++ rest.map (gw_cv cx.2.2.1) := by
    cases r <;> simp
  rw [e9] at hk
  exact hk
theorem gw_callSN {mt : gw_MT} {d QR Γ pc ls} {stk rest : List gw_SV} {m} {idx n : Nat} {host : String} {mt' : gw_MT} {d' : Nat} {a : List gw_SV} {QR' : Option gw_SV → gw_Mem → Prop} (pc' : Nat) (hd : decode (gw_mC mt) pc = .ok (.invokestatic idx, 3)) (hp : pc + 3 = pc') (hw : ((gw_mY mt).cls, idx, gw_mY mt', host) ∈ gw_nwM) (hmv : gw_MS mt' n) (hn : a.length = n) (hln : Nat.ble rest.length 4 = true) (hst : stk = a.reverse ++ rest) (hdd : d' < d) (hsp : gw_Spec mt' d' a m QR')
    (h : ∀ (r : Option gw_SV) (m' : gw_Mem), (∀ v, r = some v → gw_okV v) → gw_okM m' → QR' r m' → gw_G mt d QR Γ pc' ls (r.toList ++ rest) m') : gw_G mt d QR Γ pc ls stk m := by
  subst hp; subst hst
  obtain ⟨cx, p, l, e, R, s, mm, args, below, meth, cd, ⟨c0, s0⟩, Q⟩ := Γ
  intro ok o1 o2 o3 H locs lsA hP hS hL
  have hR := ok.2.2.2.2.2.2.2.2.2.1
  have hoa : ∀ v ∈ a, gw_okV v := fun v hv => o2 v (List.mem_append_left _ (List.mem_reverse.mpr hv))
  have hM := hsp hoa l cx
  have hcat := gw_catsum cx.2.2.1 rest
  have hln := Nat.le_of_ble_eq_true hln
  have h40 := hmv.1.2.2.2.2.2
  have hrun := va_runSN (R := R) (locs := locs) (cells := c0) (slots := s0) (below := below) (meth := meth) (e := e) (g := F0 mm pc lsA ((a.reverse ++ rest).map (gw_cv cx.2.2.1))) (As := a.map (gw_cv cx.2.2.1)) (rest := rest.map (gw_cv cx.2.2.1)) (host := host) ⟨ok.1, ok.2.1, ok.2.2.1, ok.2.2.2.1, ok.2.2.2.2.1⟩ hM
    ⟨va_cnB n ok.2.2.2.2.1 (gw_mW_good hmv.1) rfl rfl rfl (ok.2.2.2.2.2.2.2.1.2.2.2.2.2.2.1 _ hw) (ok.2.2.2.2.1 _ hmv.1.2.1) ⟨hmv.1.2.2.1, hmv.1.2.2.2.1, hmv.1.2.2.2.2.1⟩ ⟨by show d' + 1 ≤ _; omega, by show 8 + (gw_mL mt' + 11) + 64 * d' ≤ _; omega⟩, ok.2.2.2.2.1 _ hmv.2, trivial⟩
    ⟨gw_blind, fun U hU hW => ⟨rfl, gw_pcH ok.2.2.2.2.2.1 ok.2.2.2.2.2.2.1 ok.2.2.2.2.2.2.2.1 ok.2.2.2.2.2.2.2.2.1 hP hS o3 hU hW⟩⟩ rfl (by rw [List.length_map]; exact hn) hL.1 (by simp) (lv_room (by omega)) hd ⟨hR.2.2.1, hR.2.2.2⟩
  refine gw_core hrun hS (fun r m' H1 locs1 hok hq hP1 hm1 hS1 => ?_)
  have hk := h r m' hok hm1 hq ok o1 (fun v hv => by
    rcases List.mem_append.mp hv with h1 | h1
    · cases r with
      | none => cases h1
      | some w => exact hok v (by simp at h1; rw [h1])
    · exact o2 v (List.mem_append_right _ h1)) hm1 H1 locs1 lsA hP1 hS1 hL
  have e9 : (r.toList ++ rest).map (gw_cv cx.2.2.1) = (r.map (gw_cv cx.2.2.1)).toList ++ rest.map (gw_cv cx.2.2.1) := by
    cases r <;> simp
  rw [e9] at hk
  exact hk
/-- the same by what a call answers: I an int, V nothing -/
theorem gw_cVI {mt : gw_MT} {d QR Γ pc ls} {stk rest : List gw_SV} {m} {idx b n ci : Nat} {sl : List (Option Nat)} {mt' : gw_MT} {a : List gw_SV} {P : Int → gw_Mem → Prop} (pc' : Nat) (hd : decode (gw_mC mt) pc = .ok (.invokevirtual idx, 3)) (hp : pc + 3 = pc') (hw : Cond.methodLink (gw_mY mt).cls idx (gw_mY mt') ∈ gw_tb) (hmv : gw_MV mt' n) (hn : a.length = n) (hs : gw_SH[b]? = some (0, ci, sl)) (hc : (vwCl[ci]?).map (fun q => q.1) = some (gw_mY mt').cls) (hln : Nat.ble rest.length 4 = true) (hst : stk = a.reverse ++ gR b :: rest) (hsp : gw_CI d mt' (gR b :: a) m P) (h : ∀ (v : Int) (m' : gw_Mem), P v m' → gw_G mt d QR Γ pc' ls (gI v :: rest) m') : gw_G mt d QR Γ pc ls stk m := by
  obtain ⟨d', P0, hdd, hS, hk⟩ := hsp
  refine gw_callV pc' hd hp hw hmv hn hs hc hln hst hdd hS (fun r m' ho hm hq => ?_)
  obtain ⟨v, rfl, hP⟩ := hq
  exact h v m' (hk v m' (ho _ rfl) hm hP)
theorem gw_cVV {mt : gw_MT} {d QR Γ pc ls} {stk rest : List gw_SV} {m} {idx b n ci : Nat} {sl : List (Option Nat)} {mt' : gw_MT} {a : List gw_SV} {P : gw_Mem → Prop} (pc' : Nat) (hd : decode (gw_mC mt) pc = .ok (.invokevirtual idx, 3)) (hp : pc + 3 = pc') (hw : Cond.methodLink (gw_mY mt).cls idx (gw_mY mt') ∈ gw_tb) (hmv : gw_MV mt' n) (hn : a.length = n) (hs : gw_SH[b]? = some (0, ci, sl)) (hc : (vwCl[ci]?).map (fun q => q.1) = some (gw_mY mt').cls) (hln : Nat.ble rest.length 4 = true) (hst : stk = a.reverse ++ gR b :: rest) (hsp : gw_CV d mt' (gR b :: a) m P) (h : ∀ (m' : gw_Mem), P m' → gw_G mt d QR Γ pc' ls rest m') : gw_G mt d QR Γ pc ls stk m := by
  obtain ⟨d', P0, hdd, hS, hk⟩ := hsp
  refine gw_callV pc' hd hp hw hmv hn hs hc hln hst hdd hS (fun r m' ho hm hq => ?_)
  obtain ⟨rfl, hP⟩ := hq
  exact h m' (hk m' hm hP)
theorem gw_cSI {mt : gw_MT} {d QR Γ pc ls} {stk rest : List gw_SV} {m} {idx n : Nat} {mt' : gw_MT} {a : List gw_SV} {P : Int → gw_Mem → Prop} (pc' : Nat) (hd : decode (gw_mC mt) pc = .ok (.invokestatic idx, 3)) (hp : pc + 3 = pc') (hw : Cond.methodLink (gw_mY mt).cls idx (gw_mY mt') ∈ gw_tb) (hmv : gw_MS mt' n) (hn : a.length = n) (hln : Nat.ble rest.length 4 = true) (hst : stk = a.reverse ++ rest) (hsp : gw_CI d mt' a m P) (h : ∀ (v : Int) (m' : gw_Mem), P v m' → gw_G mt d QR Γ pc' ls (gI v :: rest) m') : gw_G mt d QR Γ pc ls stk m := by
  obtain ⟨d', P0, hdd, hS, hk⟩ := hsp
  refine gw_callS pc' hd hp hw hmv hn hln hst hdd hS (fun r m' ho hm hq => ?_)
  obtain ⟨v, rfl, hP⟩ := hq
  exact h v m' (hk v m' (ho _ rfl) hm hP)
theorem gw_cSV {mt : gw_MT} {d QR Γ pc ls} {stk rest : List gw_SV} {m} {idx n : Nat} {mt' : gw_MT} {a : List gw_SV} {P : gw_Mem → Prop} (pc' : Nat) (hd : decode (gw_mC mt) pc = .ok (.invokestatic idx, 3)) (hp : pc + 3 = pc') (hw : Cond.methodLink (gw_mY mt).cls idx (gw_mY mt') ∈ gw_tb) (hmv : gw_MS mt' n) (hn : a.length = n) (hln : Nat.ble rest.length 4 = true) (hst : stk = a.reverse ++ rest) (hsp : gw_CV d mt' a m P) (h : ∀ (m' : gw_Mem), P m' → gw_G mt d QR Γ pc' ls rest m') : gw_G mt d QR Γ pc ls stk m := by
  obtain ⟨d', P0, hdd, hS, hk⟩ := hsp
  refine gw_callS pc' hd hp hw hmv hn hln hst hdd hS (fun r m' ho hm hq => ?_)
  obtain ⟨rfl, hP⟩ := hq
  exact h m' (hk m' hm hP)
theorem gw_cNI {mt : gw_MT} {d QR Γ pc ls} {stk rest : List gw_SV} {m} {idx n : Nat} {host : String} {mt' : gw_MT} {a : List gw_SV} {P : Int → gw_Mem → Prop} (pc' : Nat) (hd : decode (gw_mC mt) pc = .ok (.invokestatic idx, 3)) (hp : pc + 3 = pc') (hw : ((gw_mY mt).cls, idx, gw_mY mt', host) ∈ gw_nwM) (hmv : gw_MS mt' n) (hn : a.length = n) (hln : Nat.ble rest.length 4 = true) (hst : stk = a.reverse ++ rest) (hsp : gw_CI d mt' a m P) (h : ∀ (v : Int) (m' : gw_Mem), P v m' → gw_G mt d QR Γ pc' ls (gI v :: rest) m') : gw_G mt d QR Γ pc ls stk m := by
  obtain ⟨d', P0, hdd, hS, hk⟩ := hsp
  refine gw_callSN pc' hd hp hw hmv hn hln hst hdd hS (fun r m' ho hm hq => ?_)
  obtain ⟨v, rfl, hP⟩ := hq
  exact h v m' (hk v m' (ho _ rfl) hm hP)
/-! switches -/
theorem gw_tswIn {mt d QR Γ pc ls stk m} {dflt lo hi off x : Int} {offs : Array Int} {len k : Nat} (tgt : Nat) (hd : decode (gw_mC mt) pc = .ok (.tableswitch dflt lo hi offs, len)) (hx : x = lo + k) (hh : x ≤ hi) (ho : offs[k]? = some off) (ht : (pc : Int) + off = (tgt : Int)) (h : gw_G mt d QR Γ tgt ls stk m) : gw_G mt d QR Γ pc ls (gI x :: stk) m :=
  gw_stp h (fun ad hx' hb _ _ o kk => lv_tableIn hx' hb hd (by rw [gw_toInt_id (gw_o0 o)]; omega) (by rw [gw_toInt_id (gw_o0 o)]; omega) (by rw [gw_toInt_id (gw_o0 o), show (x - lo).toNat = k by omega]; exact ho) ht kk) (fun o => gw_ot o)
theorem gw_tswOut {mt d QR Γ pc ls stk m} {dflt lo hi x : Int} {offs : Array Int} {len : Nat} (tgt : Nat) (hd : decode (gw_mC mt) pc = .ok (.tableswitch dflt lo hi offs, len)) (hx : x < lo ∨ hi < x) (ht : (pc : Int) + dflt = (tgt : Int)) (h : gw_G mt d QR Γ tgt ls stk m) : gw_G mt d QR Γ pc ls (gI x :: stk) m :=
  gw_stp h (fun ad hx' hb _ _ o kk => lv_tableOut hx' hb hd (by rw [gw_toInt_id (gw_o0 o)]; exact hx) ht kk) (fun o => gw_ot o)
theorem gw_lsw {mt d QR Γ pc ls stk m} {dflt off x : Int} {ps : Array (Int × Int)} {len : Nat} (tgt : Nat) (hd : decode (gw_mC mt) pc = .ok (.lookupswitch dflt ps, len)) (hp : (ps.toList.zip (ps.toList.drop 1)).all (fun (a, next) => a.1 < next.1) = true) (ho : Op.lookupswitch.offset ps.toList dflt x = off) (ht : (pc : Int) + off = (tgt : Int)) (h : gw_G mt d QR Γ tgt ls stk m) : gw_G mt d QR Γ pc ls (gI x :: stk) m :=
  gw_stp h (fun ad hx' hb _ _ o kk => lv_lookup hx' hb hd hp (by rw [gw_toInt_id (gw_o0 o)]; exact ho) ht kk) (fun o => gw_ot o)
/-! text constants -/
theorem gw_ldcS0 {mt d QR Γ pc ls stk m} (pc' : Nat) (hd : decode (gw_mC mt) pc = .ok (.ldc 57, 2)) (hp : pc + 2 = pc') (hw : (gw_mY mt).cls = "FlagWalk$Tape") (h : gw_G mt d QR Γ pc' ls (gR 2000 :: stk) m) : gw_G mt d QR Γ pc ls stk m := by
  subst hp
  obtain ⟨cx, p, l, e, R, s, mm, args, below, meth, cd, ⟨c0, s0⟩, Q⟩ := Γ
  intro ok o1 o2 o3 H locs lsA hP hS hL
  have hown := ok.2.2.2.1
  rw [hw] at hown
  exact va_ldcS ok.1 ok.2.1 hown ok.2.2.2.2.2.2.2.1.2.2.1 hd (h ok o1 (gw_op (v := gR 2000) trivial o2) o3 H locs lsA hP hS hL)
theorem gw_ldcS1 {mt d QR Γ pc ls stk m} (pc' : Nat) (hd : decode (gw_mC mt) pc = .ok (.ldc 82, 2)) (hp : pc + 2 = pc') (hw : (gw_mY mt).cls = "FlagWalk$Tape") (h : gw_G mt d QR Γ pc' ls (gR 2001 :: stk) m) : gw_G mt d QR Γ pc ls stk m := by
  subst hp
  obtain ⟨cx, p, l, e, R, s, mm, args, below, meth, cd, ⟨c0, s0⟩, Q⟩ := Γ
  intro ok o1 o2 o3 H locs lsA hP hS hL
  have hown := ok.2.2.2.1
  rw [hw] at hown
  exact va_ldcS ok.1 ok.2.1 hown ok.2.2.2.2.2.2.2.1.2.2.2.1 hd (h ok o1 (gw_op (v := gR 2001) trivial o2) o3 H locs lsA hP hS hL)
end
