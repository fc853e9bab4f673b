section
-- ===== PART A: goes FIRST, ahead of the names: the tables' words, and 'selects' of the private methods out of them =====
/-- a private method of a class that the tables say can be made, by its rows of tables_1 -/
def lw_okq (q : MethodName × Nat) : Prop := (q.1.cls ≠ "java/lang/invoke/MethodHandle" ∧ q.1.cls ≠ "java/lang/invoke/VarHandle") ∧ Cond.instantiable q.1.cls q.2 ∈ tables_1 ∧ Cond.privateMethod q.1 ∈ tables_1 ∧ Cond.instanceMethod q.1 ∈ tables_1
theorem lw_p0 : lw_okq (⟨"PipeWorks$Pipes", "valveIn", "([II)I"⟩, 8) := ⟨⟨by decide +kernel, by decide +kernel⟩, List.mem_of_getElem? (i := 33) (by decide +kernel), List.mem_of_getElem? (i := 291) (by decide +kernel), List.mem_of_getElem? (i := 292) (by decide +kernel)⟩
theorem lw_p1 : lw_okq (⟨"PipeWorks", "refusalToHang", "(IZ)I"⟩, 16) := ⟨⟨by decide +kernel, by decide +kernel⟩, List.mem_of_getElem? (i := 19) (by decide +kernel), List.mem_of_getElem? (i := 358) (by decide +kernel), List.mem_of_getElem? (i := 359) (by decide +kernel)⟩
theorem lw_p2 : lw_okq (⟨"PipeWorks$Net", "noteInputs", "(I)Z"⟩, 17) := ⟨⟨by decide +kernel, by decide +kernel⟩, List.mem_of_getElem? (i := 27) (by decide +kernel), List.mem_of_getElem? (i := 633) (by decide +kernel), List.mem_of_getElem? (i := 634) (by decide +kernel)⟩
theorem lw_p3 : lw_okq (⟨"PipeWorks$Net", "noteInput", "(II)Z"⟩, 17) := ⟨⟨by decide +kernel, by decide +kernel⟩, List.mem_of_getElem? (i := 27) (by decide +kernel), List.mem_of_getElem? (i := 637) (by decide +kernel), List.mem_of_getElem? (i := 638) (by decide +kernel)⟩
theorem lw_p4 : lw_okq (⟨"PipeWorks$Net", "inputOf", "(II)I"⟩, 17) := ⟨⟨by decide +kernel, by decide +kernel⟩, List.mem_of_getElem? (i := 27) (by decide +kernel), List.mem_of_getElem? (i := 645) (by decide +kernel), List.mem_of_getElem? (i := 646) (by decide +kernel)⟩
theorem lw_p5 : lw_okq (⟨"PipeWorks$Net", "beginHeads", "(I)V"⟩, 17) := ⟨⟨by decide +kernel, by decide +kernel⟩, List.mem_of_getElem? (i := 27) (by decide +kernel), List.mem_of_getElem? (i := 665) (by decide +kernel), List.mem_of_getElem? (i := 666) (by decide +kernel)⟩
theorem lw_p6 : lw_okq (⟨"PipeWorks$Net", "listMains", "()V"⟩, 17) := ⟨⟨by decide +kernel, by decide +kernel⟩, List.mem_of_getElem? (i := 27) (by decide +kernel), List.mem_of_getElem? (i := 670) (by decide +kernel), List.mem_of_getElem? (i := 671) (by decide +kernel)⟩
theorem lw_p7 : lw_okq (⟨"PipeWorks$Net", "markHeads", "()V"⟩, 17) := ⟨⟨by decide +kernel, by decide +kernel⟩, List.mem_of_getElem? (i := 27) (by decide +kernel), List.mem_of_getElem? (i := 675) (by decide +kernel), List.mem_of_getElem? (i := 676) (by decide +kernel)⟩
theorem lw_p8 : lw_okq (⟨"PipeWorks$Net", "sweep", "(I)I"⟩, 17) := ⟨⟨by decide +kernel, by decide +kernel⟩, List.mem_of_getElem? (i := 27) (by decide +kernel), List.mem_of_getElem? (i := 682) (by decide +kernel), List.mem_of_getElem? (i := 683) (by decide +kernel)⟩
theorem lw_p9 : lw_okq (⟨"PipeWorks$Net", "nextHead", "(II)I"⟩, 17) := ⟨⟨by decide +kernel, by decide +kernel⟩, List.mem_of_getElem? (i := 27) (by decide +kernel), List.mem_of_getElem? (i := 687) (by decide +kernel), List.mem_of_getElem? (i := 688) (by decide +kernel)⟩
theorem lw_p10 : lw_okq (⟨"PipeWorks$Net", "isAsMarked", "()Z"⟩, 17) := ⟨⟨by decide +kernel, by decide +kernel⟩, List.mem_of_getElem? (i := 27) (by decide +kernel), List.mem_of_getElem? (i := 697) (by decide +kernel), List.mem_of_getElem? (i := 698) (by decide +kernel)⟩
theorem lw_p11 : lw_okq (⟨"PipeWorks", "stepThings", "(I)V"⟩, 16) := ⟨⟨by decide +kernel, by decide +kernel⟩, List.mem_of_getElem? (i := 19) (by decide +kernel), List.mem_of_getElem? (i := 725) (by decide +kernel), List.mem_of_getElem? (i := 726) (by decide +kernel)⟩
theorem lw_p12 : lw_okq (⟨"PipeWorks", "hasNumber", "(II)Z"⟩, 16) := ⟨⟨by decide +kernel, by decide +kernel⟩, List.mem_of_getElem? (i := 19) (by decide +kernel), List.mem_of_getElem? (i := 800) (by decide +kernel), List.mem_of_getElem? (i := 801) (by decide +kernel)⟩
theorem lw_p13 : lw_okq (⟨"PipeWorks", "rulesThatAreSo", "(I)I"⟩, 16) := ⟨⟨by decide +kernel, by decide +kernel⟩, List.mem_of_getElem? (i := 19) (by decide +kernel), List.mem_of_getElem? (i := 870) (by decide +kernel), List.mem_of_getElem? (i := 871) (by decide +kernel)⟩
theorem lw_p14 : lw_okq (⟨"PipeWorks$Orders", "valueFor", "(II[I[II)I"⟩, 6) := ⟨⟨by decide +kernel, by decide +kernel⟩, List.mem_of_getElem? (i := 138) (by decide +kernel), List.mem_of_getElem? (i := 882) (by decide +kernel), List.mem_of_getElem? (i := 883) (by decide +kernel)⟩
theorem lw_p15 : lw_okq (⟨"PipeWorks$Orders", "isTestSo", "(III)Z"⟩, 6) := ⟨⟨by decide +kernel, by decide +kernel⟩, List.mem_of_getElem? (i := 138) (by decide +kernel), List.mem_of_getElem? (i := 890) (by decide +kernel), List.mem_of_getElem? (i := 891) (by decide +kernel)⟩
def lw_privs_1 : List (MethodName × Nat) := [(⟨"PipeWorks$Pipes", "valveIn", "([II)I"⟩, 8), (⟨"PipeWorks", "refusalToHang", "(IZ)I"⟩, 16), (⟨"PipeWorks$Net", "noteInputs", "(I)Z"⟩, 17), (⟨"PipeWorks$Net", "noteInput", "(II)Z"⟩, 17), (⟨"PipeWorks$Net", "inputOf", "(II)I"⟩, 17), (⟨"PipeWorks$Net", "beginHeads", "(I)V"⟩, 17), (⟨"PipeWorks$Net", "listMains", "()V"⟩, 17), (⟨"PipeWorks$Net", "markHeads", "()V"⟩, 17), (⟨"PipeWorks$Net", "sweep", "(I)I"⟩, 17), (⟨"PipeWorks$Net", "nextHead", "(II)I"⟩, 17), (⟨"PipeWorks$Net", "isAsMarked", "()Z"⟩, 17), (⟨"PipeWorks", "stepThings", "(I)V"⟩, 16), (⟨"PipeWorks", "hasNumber", "(II)Z"⟩, 16), (⟨"PipeWorks", "rulesThatAreSo", "(I)I"⟩, 16), (⟨"PipeWorks$Orders", "valueFor", "(II[I[II)I"⟩, 6), (⟨"PipeWorks$Orders", "isTestSo", "(III)Z"⟩, 6)]
theorem lw_r1 : ∀ q ∈ lw_privs_1, lw_okq q := List.forall_mem_cons.mpr ⟨lw_p0, List.forall_mem_cons.mpr ⟨lw_p1, List.forall_mem_cons.mpr ⟨lw_p2, List.forall_mem_cons.mpr ⟨lw_p3, List.forall_mem_cons.mpr ⟨lw_p4, List.forall_mem_cons.mpr ⟨lw_p5, List.forall_mem_cons.mpr ⟨lw_p6, List.forall_mem_cons.mpr ⟨lw_p7, List.forall_mem_cons.mpr ⟨lw_p8, List.forall_mem_cons.mpr ⟨lw_p9, List.forall_mem_cons.mpr ⟨lw_p10, List.forall_mem_cons.mpr ⟨lw_p11, List.forall_mem_cons.mpr ⟨lw_p12, List.forall_mem_cons.mpr ⟨lw_p13, List.forall_mem_cons.mpr ⟨lw_p14, List.forall_mem_cons.mpr ⟨lw_p15, fun _ h => absurd h List.not_mem_nil⟩⟩⟩⟩⟩⟩⟩⟩⟩⟩⟩⟩⟩⟩⟩⟩
theorem lw_p16 : lw_okq (⟨"PipeWorks", "tryAct", "(II)Z"⟩, 16) := ⟨⟨by decide +kernel, by decide +kernel⟩, List.mem_of_getElem? (i := 19) (by decide +kernel), List.mem_of_getElem? (i := 900) (by decide +kernel), List.mem_of_getElem? (i := 901) (by decide +kernel)⟩
theorem lw_p17 : lw_okq (⟨"PipeWorks", "trySetHouse", "(IZ)Z"⟩, 16) := ⟨⟨by decide +kernel, by decide +kernel⟩, List.mem_of_getElem? (i := 19) (by decide +kernel), List.mem_of_getElem? (i := 904) (by decide +kernel), List.mem_of_getElem? (i := 905) (by decide +kernel)⟩
theorem lw_p18 : lw_okq (⟨"PipeWorks", "trySetValve", "(IZ)Z"⟩, 16) := ⟨⟨by decide +kernel, by decide +kernel⟩, List.mem_of_getElem? (i := 19) (by decide +kernel), List.mem_of_getElem? (i := 908) (by decide +kernel), List.mem_of_getElem? (i := 909) (by decide +kernel)⟩
theorem lw_p19 : lw_okq (⟨"PipeWorks", "tryBursts", "(LPipeWorks$Leak;)V"⟩, 16) := ⟨⟨by decide +kernel, by decide +kernel⟩, List.mem_of_getElem? (i := 19) (by decide +kernel), List.mem_of_getElem? (i := 955) (by decide +kernel), List.mem_of_getElem? (i := 956) (by decide +kernel)⟩
theorem lw_p20 : lw_okq (⟨"PipeWorks", "misfitToKnown", "()I"⟩, 16) := ⟨⟨by decide +kernel, by decide +kernel⟩, List.mem_of_getElem? (i := 19) (by decide +kernel), List.mem_of_getElem? (i := 960) (by decide +kernel), List.mem_of_getElem? (i := 961) (by decide +kernel)⟩
theorem lw_p21 : lw_okq (⟨"PipeWorks", "rivalAt", "(I)I"⟩, 16) := ⟨⟨by decide +kernel, by decide +kernel⟩, List.mem_of_getElem? (i := 19) (by decide +kernel), List.mem_of_getElem? (i := 969) (by decide +kernel), List.mem_of_getElem? (i := 970) (by decide +kernel)⟩
theorem lw_p22 : lw_okq (⟨"PipeWorks", "rivalsAheadOf", "(I)I"⟩, 16) := ⟨⟨by decide +kernel, by decide +kernel⟩, List.mem_of_getElem? (i := 19) (by decide +kernel), List.mem_of_getElem? (i := 973) (by decide +kernel), List.mem_of_getElem? (i := 974) (by decide +kernel)⟩
theorem lw_p23 : lw_okq (⟨"PipeWorks$Plan", "prepare", "()V"⟩, 8) := ⟨⟨by decide +kernel, by decide +kernel⟩, List.mem_of_getElem? (i := 167) (by decide +kernel), List.mem_of_getElem? (i := 1009) (by decide +kernel), List.mem_of_getElem? (i := 1010) (by decide +kernel)⟩
theorem lw_p24 : lw_okq (⟨"PipeWorks$Plan", "leastCoal", "(III)I"⟩, 8) := ⟨⟨by decide +kernel, by decide +kernel⟩, List.mem_of_getElem? (i := 167) (by decide +kernel), List.mem_of_getElem? (i := 1018) (by decide +kernel), List.mem_of_getElem? (i := 1019) (by decide +kernel)⟩
theorem lw_p25 : lw_okq (⟨"PipeWorks$Plan", "coalIfLit", "(IIII)I"⟩, 8) := ⟨⟨by decide +kernel, by decide +kernel⟩, List.mem_of_getElem? (i := 167) (by decide +kernel), List.mem_of_getElem? (i := 1023) (by decide +kernel), List.mem_of_getElem? (i := 1024) (by decide +kernel)⟩
theorem lw_p26 : lw_okq (⟨"PipeWorks$Plan", "weightsBehind", "(III)I"⟩, 8) := ⟨⟨by decide +kernel, by decide +kernel⟩, List.mem_of_getElem? (i := 167) (by decide +kernel), List.mem_of_getElem? (i := 1027) (by decide +kernel), List.mem_of_getElem? (i := 1028) (by decide +kernel)⟩
theorem lw_p27 : lw_okq (⟨"PipeWorks$Plan", "firstBest", "(III)I"⟩, 8) := ⟨⟨by decide +kernel, by decide +kernel⟩, List.mem_of_getElem? (i := 167) (by decide +kernel), List.mem_of_getElem? (i := 1036) (by decide +kernel), List.mem_of_getElem? (i := 1037) (by decide +kernel)⟩
theorem lw_p28 : lw_okq (⟨"PipeWorksModel", "isNode", "(I)Z"⟩, 50) := ⟨⟨by decide +kernel, by decide +kernel⟩, List.mem_of_getElem? (i := 1060) (by decide +kernel), List.mem_of_getElem? (i := 1228) (by decide +kernel), List.mem_of_getElem? (i := 1229) (by decide +kernel)⟩
theorem lw_p29 : lw_okq (⟨"PipeWorksModel", "isMain", "(I)Z"⟩, 50) := ⟨⟨by decide +kernel, by decide +kernel⟩, List.mem_of_getElem? (i := 1060) (by decide +kernel), List.mem_of_getElem? (i := 1236) (by decide +kernel), List.mem_of_getElem? (i := 1237) (by decide +kernel)⟩
theorem lw_p30 : lw_okq (⟨"PipeWorksModel", "valveOn", "(I)I"⟩, 50) := ⟨⟨by decide +kernel, by decide +kernel⟩, List.mem_of_getElem? (i := 1060) (by decide +kernel), List.mem_of_getElem? (i := 1240) (by decide +kernel), List.mem_of_getElem? (i := 1241) (by decide +kernel)⟩
theorem lw_p31 : lw_okq (⟨"PipeWorksModel", "valveByMap", "(I)I"⟩, 50) := ⟨⟨by decide +kernel, by decide +kernel⟩, List.mem_of_getElem? (i := 1060) (by decide +kernel), List.mem_of_getElem? (i := 1244) (by decide +kernel), List.mem_of_getElem? (i := 1245) (by decide +kernel)⟩
def lw_privs_2 : List (MethodName × Nat) := [(⟨"PipeWorks", "tryAct", "(II)Z"⟩, 16), (⟨"PipeWorks", "trySetHouse", "(IZ)Z"⟩, 16), (⟨"PipeWorks", "trySetValve", "(IZ)Z"⟩, 16), (⟨"PipeWorks", "tryBursts", "(LPipeWorks$Leak;)V"⟩, 16), (⟨"PipeWorks", "misfitToKnown", "()I"⟩, 16), (⟨"PipeWorks", "rivalAt", "(I)I"⟩, 16), (⟨"PipeWorks", "rivalsAheadOf", "(I)I"⟩, 16), (⟨"PipeWorks$Plan", "prepare", "()V"⟩, 8), (⟨"PipeWorks$Plan", "leastCoal", "(III)I"⟩, 8), (⟨"PipeWorks$Plan", "coalIfLit", "(IIII)I"⟩, 8), (⟨"PipeWorks$Plan", "weightsBehind", "(III)I"⟩, 8), (⟨"PipeWorks$Plan", "firstBest", "(III)I"⟩, 8), (⟨"PipeWorksModel", "isNode", "(I)Z"⟩, 50), (⟨"PipeWorksModel", "isMain", "(I)Z"⟩, 50), (⟨"PipeWorksModel", "valveOn", "(I)I"⟩, 50), (⟨"PipeWorksModel", "valveByMap", "(I)I"⟩, 50)]
theorem lw_r2 : ∀ q ∈ lw_privs_2, lw_okq q := List.forall_mem_cons.mpr ⟨lw_p16, List.forall_mem_cons.mpr ⟨lw_p17, List.forall_mem_cons.mpr ⟨lw_p18, List.forall_mem_cons.mpr ⟨lw_p19, List.forall_mem_cons.mpr ⟨lw_p20, List.forall_mem_cons.mpr ⟨lw_p21, List.forall_mem_cons.mpr ⟨lw_p22, List.forall_mem_cons.mpr ⟨lw_p23, List.forall_mem_cons.mpr ⟨lw_p24, List.forall_mem_cons.mpr ⟨lw_p25, List.forall_mem_cons.mpr ⟨lw_p26, List.forall_mem_cons.mpr ⟨lw_p27, List.forall_mem_cons.mpr ⟨lw_p28, List.forall_mem_cons.mpr ⟨lw_p29, List.forall_mem_cons.mpr ⟨lw_p30, List.forall_mem_cons.mpr ⟨lw_p31, fun _ h => absurd h List.not_mem_nil⟩⟩⟩⟩⟩⟩⟩⟩⟩⟩⟩⟩⟩⟩⟩⟩
theorem lw_p32 : lw_okq (⟨"PipeWorksModel", "isValve", "(I)Z"⟩, 50) := ⟨⟨by decide +kernel, by decide +kernel⟩, List.mem_of_getElem? (i := 1060) (by decide +kernel), List.mem_of_getElem? (i := 1252) (by decide +kernel), List.mem_of_getElem? (i := 1253) (by decide +kernel)⟩
theorem lw_p33 : lw_okq (⟨"PipeWorksModel", "isOpen", "(I)Z"⟩, 50) := ⟨⟨by decide +kernel, by decide +kernel⟩, List.mem_of_getElem? (i := 1060) (by decide +kernel), List.mem_of_getElem? (i := 1260) (by decide +kernel), List.mem_of_getElem? (i := 1261) (by decide +kernel)⟩
theorem lw_p34 : lw_okq (⟨"PipeWorksModel", "lay", "(IIIIII)I"⟩, 50) := ⟨⟨by decide +kernel, by decide +kernel⟩, List.mem_of_getElem? (i := 1060) (by decide +kernel), List.mem_of_getElem? (i := 1279) (by decide +kernel), List.mem_of_getElem? (i := 1280) (by decide +kernel)⟩
theorem lw_p35 : lw_okq (⟨"PipeWorksModel", "takes", "(I)I"⟩, 50) := ⟨⟨by decide +kernel, by decide +kernel⟩, List.mem_of_getElem? (i := 1060) (by decide +kernel), List.mem_of_getElem? (i := 1312) (by decide +kernel), List.mem_of_getElem? (i := 1313) (by decide +kernel)⟩
theorem lw_p36 : lw_okq (⟨"PipeWorksModel", "pressOf", "(I)I"⟩, 50) := ⟨⟨by decide +kernel, by decide +kernel⟩, List.mem_of_getElem? (i := 1060) (by decide +kernel), List.mem_of_getElem? (i := 1316) (by decide +kernel), List.mem_of_getElem? (i := 1317) (by decide +kernel)⟩
theorem lw_p37 : lw_okq (⟨"PipeWorksModel", "isSource", "(I)Z"⟩, 50) := ⟨⟨by decide +kernel, by decide +kernel⟩, List.mem_of_getElem? (i := 1060) (by decide +kernel), List.mem_of_getElem? (i := 1320) (by decide +kernel), List.mem_of_getElem? (i := 1321) (by decide +kernel)⟩
theorem lw_p38 : lw_okq (⟨"PipeWorksModel", "setLit", "(IZ)Z"⟩, 50) := ⟨⟨by decide +kernel, by decide +kernel⟩, List.mem_of_getElem? (i := 1060) (by decide +kernel), List.mem_of_getElem? (i := 1328) (by decide +kernel), List.mem_of_getElem? (i := 1329) (by decide +kernel)⟩
theorem lw_p39 : lw_okq (⟨"PipeWorksModel", "workNet", "()Z"⟩, 50) := ⟨⟨by decide +kernel, by decide +kernel⟩, List.mem_of_getElem? (i := 1060) (by decide +kernel), List.mem_of_getElem? (i := 1340) (by decide +kernel), List.mem_of_getElem? (i := 1341) (by decide +kernel)⟩
theorem lw_p40 : lw_okq (⟨"PipeWorksModel", "headBy", "(I)I"⟩, 50) := ⟨⟨by decide +kernel, by decide +kernel⟩, List.mem_of_getElem? (i := 1060) (by decide +kernel), List.mem_of_getElem? (i := 1344) (by decide +kernel), List.mem_of_getElem? (i := 1345) (by decide +kernel)⟩
theorem lw_p41 : lw_okq (⟨"PipeWorksModel", "flowOf", "(I)I"⟩, 50) := ⟨⟨by decide +kernel, by decide +kernel⟩, List.mem_of_getElem? (i := 1060) (by decide +kernel), List.mem_of_getElem? (i := 1362) (by decide +kernel), List.mem_of_getElem? (i := 1363) (by decide +kernel)⟩
theorem lw_p42 : lw_okq (⟨"PipeWorksModel", "stepOnce", "()I"⟩, 50) := ⟨⟨by decide +kernel, by decide +kernel⟩, List.mem_of_getElem? (i := 1060) (by decide +kernel), List.mem_of_getElem? (i := 1370) (by decide +kernel), List.mem_of_getElem? (i := 1371) (by decide +kernel)⟩
theorem lw_p43 : lw_okq (⟨"PipeWorksModel", "hasPlace", "(II)Z"⟩, 50) := ⟨⟨by decide +kernel, by decide +kernel⟩, List.mem_of_getElem? (i := 1060) (by decide +kernel), List.mem_of_getElem? (i := 1389) (by decide +kernel), List.mem_of_getElem? (i := 1390) (by decide +kernel)⟩
theorem lw_p44 : lw_okq (⟨"PipeWorksModel", "faultOf", "()I"⟩, 50) := ⟨⟨by decide +kernel, by decide +kernel⟩, List.mem_of_getElem? (i := 1060) (by decide +kernel), List.mem_of_getElem? (i := 1418) (by decide +kernel), List.mem_of_getElem? (i := 1419) (by decide +kernel)⟩
theorem lw_p45 : lw_okq (⟨"PipeWorksModel", "goThrough", "(IZ)I"⟩, 50) := ⟨⟨by decide +kernel, by decide +kernel⟩, List.mem_of_getElem? (i := 1060) (by decide +kernel), List.mem_of_getElem? (i := 1430) (by decide +kernel), List.mem_of_getElem? (i := 1431) (by decide +kernel)⟩
theorem lw_p46 : lw_okq (⟨"PipeWorksModel", "doAct", "(II)Z"⟩, 50) := ⟨⟨by decide +kernel, by decide +kernel⟩, List.mem_of_getElem? (i := 1060) (by decide +kernel), List.mem_of_getElem? (i := 1434) (by decide +kernel), List.mem_of_getElem? (i := 1435) (by decide +kernel)⟩
theorem lw_p47 : lw_okq (⟨"PipeWorksModel", "cutOff", "(I)I"⟩, 50) := ⟨⟨by decide +kernel, by decide +kernel⟩, List.mem_of_getElem? (i := 1060) (by decide +kernel), List.mem_of_getElem? (i := 1446) (by decide +kernel), List.mem_of_getElem? (i := 1447) (by decide +kernel)⟩
def lw_privs_3 : List (MethodName × Nat) := [(⟨"PipeWorksModel", "isValve", "(I)Z"⟩, 50), (⟨"PipeWorksModel", "isOpen", "(I)Z"⟩, 50), (⟨"PipeWorksModel", "lay", "(IIIIII)I"⟩, 50), (⟨"PipeWorksModel", "takes", "(I)I"⟩, 50), (⟨"PipeWorksModel", "pressOf", "(I)I"⟩, 50), (⟨"PipeWorksModel", "isSource", "(I)Z"⟩, 50), (⟨"PipeWorksModel", "setLit", "(IZ)Z"⟩, 50), (⟨"PipeWorksModel", "workNet", "()Z"⟩, 50), (⟨"PipeWorksModel", "headBy", "(I)I"⟩, 50), (⟨"PipeWorksModel", "flowOf", "(I)I"⟩, 50), (⟨"PipeWorksModel", "stepOnce", "()I"⟩, 50), (⟨"PipeWorksModel", "hasPlace", "(II)Z"⟩, 50), (⟨"PipeWorksModel", "faultOf", "()I"⟩, 50), (⟨"PipeWorksModel", "goThrough", "(IZ)I"⟩, 50), (⟨"PipeWorksModel", "doAct", "(II)Z"⟩, 50), (⟨"PipeWorksModel", "cutOff", "(I)I"⟩, 50)]
theorem lw_r3 : ∀ q ∈ lw_privs_3, lw_okq q := List.forall_mem_cons.mpr ⟨lw_p32, List.forall_mem_cons.mpr ⟨lw_p33, List.forall_mem_cons.mpr ⟨lw_p34, List.forall_mem_cons.mpr ⟨lw_p35, List.forall_mem_cons.mpr ⟨lw_p36, List.forall_mem_cons.mpr ⟨lw_p37, List.forall_mem_cons.mpr ⟨lw_p38, List.forall_mem_cons.mpr ⟨lw_p39, List.forall_mem_cons.mpr ⟨lw_p40, List.forall_mem_cons.mpr ⟨lw_p41, List.forall_mem_cons.mpr ⟨lw_p42, List.forall_mem_cons.mpr ⟨lw_p43, List.forall_mem_cons.mpr ⟨lw_p44, List.forall_mem_cons.mpr ⟨lw_p45, List.forall_mem_cons.mpr ⟨lw_p46, List.forall_mem_cons.mpr ⟨lw_p47, fun _ h => absurd h List.not_mem_nil⟩⟩⟩⟩⟩⟩⟩⟩⟩⟩⟩⟩⟩⟩⟩⟩
theorem lw_p48 : lw_okq (⟨"PipeWorksModel", "joined", "(I)I"⟩, 50) := ⟨⟨by decide +kernel, by decide +kernel⟩, List.mem_of_getElem? (i := 1060) (by decide +kernel), List.mem_of_getElem? (i := 1453) (by decide +kernel), List.mem_of_getElem? (i := 1454) (by decide +kernel)⟩
theorem lw_p49 : lw_okq (⟨"PipeWorksModel", "layLeast", "()V"⟩, 50) := ⟨⟨by decide +kernel, by decide +kernel⟩, List.mem_of_getElem? (i := 1060) (by decide +kernel), List.mem_of_getElem? (i := 1481) (by decide +kernel), List.mem_of_getElem? (i := 1482) (by decide +kernel)⟩
theorem lw_p50 : lw_okq (⟨"PipeWorksModel", "after", "(IIII)I"⟩, 50) := ⟨⟨by decide +kernel, by decide +kernel⟩, List.mem_of_getElem? (i := 1060) (by decide +kernel), List.mem_of_getElem? (i := 1485) (by decide +kernel), List.mem_of_getElem? (i := 1486) (by decide +kernel)⟩
theorem lw_p51 : lw_okq (⟨"PipeWorksModel", "coalOf", "(I)I"⟩, 50) := ⟨⟨by decide +kernel, by decide +kernel⟩, List.mem_of_getElem? (i := 1060) (by decide +kernel), List.mem_of_getElem? (i := 1489) (by decide +kernel), List.mem_of_getElem? (i := 1490) (by decide +kernel)⟩
def lw_privs_4 : List (MethodName × Nat) := [(⟨"PipeWorksModel", "joined", "(I)I"⟩, 50), (⟨"PipeWorksModel", "layLeast", "()V"⟩, 50), (⟨"PipeWorksModel", "after", "(IIII)I"⟩, 50), (⟨"PipeWorksModel", "coalOf", "(I)I"⟩, 50)]
theorem lw_r4 : ∀ q ∈ lw_privs_4, lw_okq q := List.forall_mem_cons.mpr ⟨lw_p48, List.forall_mem_cons.mpr ⟨lw_p49, List.forall_mem_cons.mpr ⟨lw_p50, List.forall_mem_cons.mpr ⟨lw_p51, fun _ h => absurd h List.not_mem_nil⟩⟩⟩⟩
def lw_privs : List (MethodName × Nat) := lw_privs_1 ++ (lw_privs_2 ++ (lw_privs_3 ++ (lw_privs_4)))
def lw_tbl : List Cond := k2_sels lw_privs ++ tables_1
theorem lw_privs_ok : ∀ q ∈ lw_privs, lw_okq q := by
  show ∀ q ∈ lw_privs_1 ++ (lw_privs_2 ++ (lw_privs_3 ++ (lw_privs_4))), lw_okq q
  exact List.forall_mem_append.mpr ⟨lw_r1, List.forall_mem_append.mpr ⟨lw_r2, List.forall_mem_append.mpr ⟨lw_r3, lw_r4⟩⟩⟩
-- ===== end of PART A; then your names; then what follows =====
end
section
abbrev R_Br : String := "PipeWorks$Bridge"
def T_Br : u_T := fun k => match k with
  | 0 => ("PipeWorks$Draw", "amount", "I", true)
  | 1 => ("PipeWorks$Draw", "from", "I", true)
  | 2 => ("PipeWorks$Draw", "to", "I", true)
  | 3 => ("PipeWorks$Bridge", "period", "I", true)
  | 4 => ("PipeWorks$Bridge", "phase", "I", true)
  | _ => ("PipeWorks$Bridge", "length", "I", true)
def t_Br : Nat → FieldType := fun k => match k with
  | 0 => .int
  | 1 => .int
  | 2 => .int
  | 3 => .int
  | 4 => .int
  | _ => .int
theorem n_Br : ∀ a, a < 6 → ∀ b, b < 6 → a ≠ b → (T_Br a).2.1 ≠ (T_Br b).2.1 := by decide +kernel
theorem t_Br_ok : ∀ k, k < 6 → parseFieldDescriptor (T_Br k).2.2.1 = some (t_Br k) := by decide +kernel
theorem il_Br : ∀ w ∈ u_ws R_Br T_Br 6, w ∈ lw_tbl := by decide +kernel
theorem ig_Br : (u_ws R_Br T_Br 6).all goodWord = true := by decide +kernel
abbrev R_Dr : String := "PipeWorks$Draw"
def T_Dr : u_T := fun k => match k with
  | 0 => ("PipeWorks$Draw", "amount", "I", true)
  | 1 => ("PipeWorks$Draw", "from", "I", true)
  | _ => ("PipeWorks$Draw", "to", "I", true)
def t_Dr : Nat → FieldType := fun k => match k with
  | 0 => .int
  | 1 => .int
  | _ => .int
theorem n_Dr : ∀ a, a < 3 → ∀ b, b < 3 → a ≠ b → (T_Dr a).2.1 ≠ (T_Dr b).2.1 := by decide +kernel
theorem t_Dr_ok : ∀ k, k < 3 → parseFieldDescriptor (T_Dr k).2.2.1 = some (t_Dr k) := by decide +kernel
theorem il_Dr : ∀ w ∈ u_ws R_Dr T_Dr 3, w ∈ lw_tbl := by decide +kernel
theorem ig_Dr : (u_ws R_Dr T_Dr 3).all goodWord = true := by decide +kernel
abbrev R_Ho : String := "PipeWorks$House"
def T_Ho : u_T := fun k => match k with
  | 0 => ("PipeWorks$Tower", "weight", "I", true)
  | 1 => ("PipeWorks$Tower", "room", "I", true)
  | 2 => ("PipeWorks$Tower", "level", "I", false)
  | 3 => ("PipeWorks$House", "lag", "I", true)
  | 4 => ("PipeWorks$House", "coal", "I", true)
  | 5 => ("PipeWorks$House", "isLit", "Z", false)
  | _ => ("PipeWorks$House", "litSince", "I", false)
def t_Ho : Nat → FieldType := fun k => match k with
  | 0 => .int
  | 1 => .int
  | 2 => .int
  | 3 => .int
  | 4 => .int
  | 5 => .boolean
  | _ => .int
theorem n_Ho : ∀ a, a < 7 → ∀ b, b < 7 → a ≠ b → (T_Ho a).2.1 ≠ (T_Ho b).2.1 := by decide +kernel
theorem t_Ho_ok : ∀ k, k < 7 → parseFieldDescriptor (T_Ho k).2.2.1 = some (t_Ho k) := by decide +kernel
theorem il_Ho : ∀ w ∈ u_ws R_Ho T_Ho 7, w ∈ lw_tbl := by decide +kernel
theorem ig_Ho : (u_ws R_Ho T_Ho 7).all goodWord = true := by decide +kernel
abbrev R_Le : String := "PipeWorks$Leak"
def T_Le : u_T := fun k => match k with
  | 0 => ("PipeWorks$Leak", "c", "I", true)
  | 1 => ("PipeWorks$Leak", "isBurst", "Z", true)
  | _ => ("PipeWorks$Leak", "isFound", "Z", false)
def t_Le : Nat → FieldType := fun k => match k with
  | 0 => .int
  | 1 => .boolean
  | _ => .boolean
theorem n_Le : ∀ a, a < 3 → ∀ b, b < 3 → a ≠ b → (T_Le a).2.1 ≠ (T_Le b).2.1 := by decide +kernel
theorem t_Le_ok : ∀ k, k < 3 → parseFieldDescriptor (T_Le k).2.2.1 = some (t_Le k) := by decide +kernel
theorem il_Le : ∀ w ∈ u_ws R_Le T_Le 3, w ∈ lw_tbl := by decide +kernel
theorem ig_Le : (u_ws R_Le T_Le 3).all goodWord = true := by decide +kernel
abbrev R_Li : String := "PipeWorks$Lift"
def T_Li : u_T := fun k => match k with
  | 0 => ("PipeWorks$Draw", "amount", "I", true)
  | 1 => ("PipeWorks$Draw", "from", "I", true)
  | 2 => ("PipeWorks$Draw", "to", "I", true)
  | _ => ("PipeWorks$Lift", "people", "I", true)
def t_Li : Nat → FieldType := fun k => match k with
  | 0 => .int
  | 1 => .int
  | 2 => .int
  | _ => .int
theorem n_Li : ∀ a, a < 4 → ∀ b, b < 4 → a ≠ b → (T_Li a).2.1 ≠ (T_Li b).2.1 := by decide +kernel
theorem t_Li_ok : ∀ k, k < 4 → parseFieldDescriptor (T_Li k).2.2.1 = some (t_Li k) := by decide +kernel
theorem il_Li : ∀ w ∈ u_ws R_Li T_Li 4, w ∈ lw_tbl := by decide +kernel
theorem ig_Li : (u_ws R_Li T_Li 4).all goodWord = true := by decide +kernel
abbrev R_Ne : String := "PipeWorks$Net"
def T_Ne : u_T := fun k => match k with
  | 0 => ("PipeWorks$Net", "pipes", "LPipeWorks$Pipes;", true)
  | 1 => ("PipeWorks$Net", "nodes", "I", false)
  | 2 => ("PipeWorks$Net", "near", "I", false)
  | 3 => ("PipeWorks$Net", "sweeps", "I", false)
  | 4 => ("PipeWorks$Net", "isSettled", "Z", false)
  | 5 => ("PipeWorks$Net", "heights", "[I", true)
  | 6 => ("PipeWorks$Net", "districts", "[I", true)
  | 7 => ("PipeWorks$Net", "heads", "[I", true)
  | 8 => ("PipeWorks$Net", "things", "[LPipeWorks$Thing;", true)
  | 9 => ("PipeWorks$Net", "isHeld", "[Z", true)
  | 10 => ("PipeWorks$Net", "kept", "[I", true)
  | 11 => ("PipeWorks$Net", "marked", "[I", true)
  | 12 => ("PipeWorks$Net", "inputs", "[I", true)
  | 13 => ("PipeWorks$Net", "begin", "[I", true)
  | 14 => ("PipeWorks$Net", "farEnd", "[I", true)
  | 15 => ("PipeWorks$Net", "farWidth", "[I", true)
  | _ => ("PipeWorks$Net", "isWorked", "Z", false)
def t_Ne : Nat → FieldType := fun k => match k with
  | 0 => .object "PipeWorks$Pipes"
  | 1 => .int
  | 2 => .int
  | 3 => .int
  | 4 => .boolean
  | 5 => .array (.int)
  | 6 => .array (.int)
  | 7 => .array (.int)
  | 8 => .array (.object "PipeWorks$Thing")
  | 9 => .array (.boolean)
  | 10 => .array (.int)
  | 11 => .array (.int)
  | 12 => .array (.int)
  | 13 => .array (.int)
  | 14 => .array (.int)
  | 15 => .array (.int)
  | _ => .boolean
theorem n_Ne : ∀ a, a < 17 → ∀ b, b < 17 → a ≠ b → (T_Ne a).2.1 ≠ (T_Ne b).2.1 := by decide +kernel
theorem t_Ne_ok : ∀ k, k < 17 → parseFieldDescriptor (T_Ne k).2.2.1 = some (t_Ne k) := by decide +kernel
theorem il_Ne : ∀ w ∈ u_ws R_Ne T_Ne 17, w ∈ lw_tbl := by decide +kernel
theorem ig_Ne : (u_ws R_Ne T_Ne 17).all goodWord = true := by decide +kernel
abbrev R_Or : String := "PipeWorks$Orders"
def T_Or : u_T := fun k => match k with
  | 0 => ("PipeWorks$Orders", "signCount", "I", false)
  | 1 => ("PipeWorks$Orders", "orderCount", "I", false)
  | 2 => ("PipeWorks$Orders", "signs", "[I", true)
  | 3 => ("PipeWorks$Orders", "texts", "[[I", true)
  | 4 => ("PipeWorks$Orders", "sizes", "[I", true)
  | _ => ("PipeWorks$Orders", "days", "[I", true)
def t_Or : Nat → FieldType := fun k => match k with
  | 0 => .int
  | 1 => .int
  | 2 => .array (.int)
  | 3 => .array (.array (.int))
  | 4 => .array (.int)
  | _ => .array (.int)
theorem n_Or : ∀ a, a < 6 → ∀ b, b < 6 → a ≠ b → (T_Or a).2.1 ≠ (T_Or b).2.1 := by decide +kernel
theorem t_Or_ok : ∀ k, k < 6 → parseFieldDescriptor (T_Or k).2.2.1 = some (t_Or k) := by decide +kernel
theorem il_Or : ∀ w ∈ u_ws R_Or T_Or 6, w ∈ lw_tbl := by decide +kernel
theorem ig_Or : (u_ws R_Or T_Or 6).all goodWord = true := by decide +kernel
abbrev R_Pi : String := "PipeWorks$Pipes"
def T_Pi : u_T := fun k => match k with
  | 0 => ("PipeWorks$Pipes", "mains", "I", false)
  | 1 => ("PipeWorks$Pipes", "valves", "I", false)
  | 2 => ("PipeWorks$Pipes", "shut", "I", false)
  | 3 => ("PipeWorks$Pipes", "first", "[I", true)
  | 4 => ("PipeWorks$Pipes", "second", "[I", true)
  | 5 => ("PipeWorks$Pipes", "width", "[I", true)
  | 6 => ("PipeWorks$Pipes", "on", "[I", true)
  | _ => ("PipeWorks$Pipes", "told", "[I", true)
def t_Pi : Nat → FieldType := fun k => match k with
  | 0 => .int
  | 1 => .int
  | 2 => .int
  | 3 => .array (.int)
  | 4 => .array (.int)
  | 5 => .array (.int)
  | 6 => .array (.int)
  | _ => .array (.int)
theorem n_Pi : ∀ a, a < 8 → ∀ b, b < 8 → a ≠ b → (T_Pi a).2.1 ≠ (T_Pi b).2.1 := by decide +kernel
theorem t_Pi_ok : ∀ k, k < 8 → parseFieldDescriptor (T_Pi k).2.2.1 = some (t_Pi k) := by decide +kernel
theorem il_Pi : ∀ w ∈ u_ws R_Pi T_Pi 8, w ∈ lw_tbl := by decide +kernel
theorem ig_Pi : (u_ws R_Pi T_Pi 8).all goodWord = true := by decide +kernel
abbrev R_Pl : String := "PipeWorks$Plan"
def T_Pl : u_T := fun k => match k with
  | 0 => ("PipeWorks$Plan", "blockCount", "I", false)
  | 1 => ("PipeWorks$Plan", "needs", "[I", true)
  | 2 => ("PipeWorks$Plan", "gives", "[I", true)
  | 3 => ("PipeWorks$Plan", "coals", "[I", true)
  | 4 => ("PipeWorks$Plan", "givenBy", "[I", true)
  | 5 => ("PipeWorks$Plan", "burntBy", "[I", true)
  | 6 => ("PipeWorks$Plan", "least", "[I", true)
  | _ => ("PipeWorks$Plan", "isPrepared", "Z", false)
def t_Pl : Nat → FieldType := fun k => match k with
  | 0 => .int
  | 1 => .array (.int)
  | 2 => .array (.int)
  | 3 => .array (.int)
  | 4 => .array (.int)
  | 5 => .array (.int)
  | 6 => .array (.int)
  | _ => .boolean
theorem n_Pl : ∀ a, a < 8 → ∀ b, b < 8 → a ≠ b → (T_Pl a).2.1 ≠ (T_Pl b).2.1 := by decide +kernel
theorem t_Pl_ok : ∀ k, k < 8 → parseFieldDescriptor (T_Pl k).2.2.1 = some (t_Pl k) := by decide +kernel
theorem il_Pl : ∀ w ∈ u_ws R_Pl T_Pl 8, w ∈ lw_tbl := by decide +kernel
theorem ig_Pl : (u_ws R_Pl T_Pl 8).all goodWord = true := by decide +kernel
abbrev R_To : String := "PipeWorks$Tower"
def T_To : u_T := fun k => match k with
  | 0 => ("PipeWorks$Tower", "weight", "I", true)
  | 1 => ("PipeWorks$Tower", "room", "I", true)
  | _ => ("PipeWorks$Tower", "level", "I", false)
def t_To : Nat → FieldType := fun k => match k with
  | 0 => .int
  | 1 => .int
  | _ => .int
theorem n_To : ∀ a, a < 3 → ∀ b, b < 3 → a ≠ b → (T_To a).2.1 ≠ (T_To b).2.1 := by decide +kernel
theorem t_To_ok : ∀ k, k < 3 → parseFieldDescriptor (T_To k).2.2.1 = some (t_To k) := by decide +kernel
theorem il_To : ∀ w ∈ u_ws R_To T_To 3, w ∈ lw_tbl := by decide +kernel
theorem ig_To : (u_ws R_To T_To 3).all goodWord = true := by decide +kernel
abbrev R_Pw : String := "PipeWorks"
def T_Pw : u_T := fun k => match k with
  | 0 => ("PipeWorks", "net", "LPipeWorks$Net;", true)
  | 1 => ("PipeWorks", "pipes", "LPipeWorks$Pipes;", true)
  | 2 => ("PipeWorks", "orders", "LPipeWorks$Orders;", true)
  | 3 => ("PipeWorks", "blocks", "LPipeWorks$Plan;", true)
  | 4 => ("PipeWorks", "strokes", "[I", true)
  | 5 => ("PipeWorks", "isStuck", "[Z", true)
  | 6 => ("PipeWorks", "terms", "[I", true)
  | 7 => ("PipeWorks", "numbers", "[[I", true)
  | 8 => ("PipeWorks", "lengths", "[I", true)
  | 9 => ("PipeWorks", "known", "[I", true)
  | 10 => ("PipeWorks", "levels", "[I", true)
  | 11 => ("PipeWorks", "misfits", "[I", true)
  | 12 => ("PipeWorks", "tick", "I", false)
  | 13 => ("PipeWorks", "dryCount", "I", false)
  | 14 => ("PipeWorks", "spilt", "I", false)
  | _ => ("PipeWorks", "coalBurnt", "I", false)
def t_Pw : Nat → FieldType := fun k => match k with
  | 0 => .object "PipeWorks$Net"
  | 1 => .object "PipeWorks$Pipes"
  | 2 => .object "PipeWorks$Orders"
  | 3 => .object "PipeWorks$Plan"
  | 4 => .array (.int)
  | 5 => .array (.boolean)
  | 6 => .array (.int)
  | 7 => .array (.array (.int))
  | 8 => .array (.int)
  | 9 => .array (.int)
  | 10 => .array (.int)
  | 11 => .array (.int)
  | 12 => .int
  | 13 => .int
  | 14 => .int
  | _ => .int
theorem n_Pw : ∀ a, a < 16 → ∀ b, b < 16 → a ≠ b → (T_Pw a).2.1 ≠ (T_Pw b).2.1 := by decide +kernel
theorem t_Pw_ok : ∀ k, k < 16 → parseFieldDescriptor (T_Pw k).2.2.1 = some (t_Pw k) := by decide +kernel
theorem il_Pw : ∀ w ∈ u_ws R_Pw T_Pw 16, w ∈ lw_tbl := by decide +kernel
theorem ig_Pw : (u_ws R_Pw T_Pw 16).all goodWord = true := by decide +kernel
abbrev R_Mo : String := "PipeWorksModel"
def T_Mo : u_T := fun k => match k with
  | 0 => ("PipeWorksModel", "nodes", "I", false)
  | 1 => ("PipeWorksModel", "height", "[I", true)
  | 2 => ("PipeWorksModel", "district", "[I", true)
  | 3 => ("PipeWorksModel", "kind", "[I", true)
  | 4 => ("PipeWorksModel", "one", "[I", true)
  | 5 => ("PipeWorksModel", "two", "[I", true)
  | 6 => ("PipeWorksModel", "three", "[I", true)
  | 7 => ("PipeWorksModel", "four", "[I", true)
  | 8 => ("PipeWorksModel", "level", "[I", true)
  | 9 => ("PipeWorksModel", "lit", "[Z", true)
  | 10 => ("PipeWorksModel", "litAt", "[I", true)
  | 11 => ("PipeWorksModel", "strokes", "[I", true)
  | 12 => ("PipeWorksModel", "stuck", "[Z", true)
  | 13 => ("PipeWorksModel", "known", "[I", true)
  | 14 => ("PipeWorksModel", "head", "[I", true)
  | 15 => ("PipeWorksModel", "mains", "I", false)
  | 16 => ("PipeWorksModel", "endA", "[I", true)
  | 17 => ("PipeWorksModel", "endB", "[I", true)
  | 18 => ("PipeWorksModel", "wide", "[I", true)
  | 19 => ("PipeWorksModel", "valves", "I", false)
  | 20 => ("PipeWorksModel", "valveMain", "[I", true)
  | 21 => ("PipeWorksModel", "valveMap", "[I", true)
  | 22 => ("PipeWorksModel", "turned", "[Z", true)
  | 23 => ("PipeWorksModel", "tick", "I", false)
  | 24 => ("PipeWorksModel", "near", "I", false)
  | 25 => ("PipeWorksModel", "sweeps", "I", false)
  | 26 => ("PipeWorksModel", "dryAll", "I", false)
  | 27 => ("PipeWorksModel", "spilt", "I", false)
  | 28 => ("PipeWorksModel", "burnt", "I", false)
  | 29 => ("PipeWorksModel", "rowLength", "[I", true)
  | 30 => ("PipeWorksModel", "rowNumber", "[I", true)
  | 31 => ("PipeWorksModel", "rowNone", "[Z", true)
  | 32 => ("PipeWorksModel", "signs", "I", false)
  | 33 => ("PipeWorksModel", "sign", "[I", true)
  | 34 => ("PipeWorksModel", "orders", "I", false)
  | 35 => ("PipeWorksModel", "orderDay", "[I", true)
  | 36 => ("PipeWorksModel", "orderMany", "[I", true)
  | 37 => ("PipeWorksModel", "orderSign", "[I", true)
  | 38 => ("PipeWorksModel", "blocks", "I", false)
  | 39 => ("PipeWorksModel", "need", "[I", true)
  | 40 => ("PipeWorksModel", "gives", "[I", true)
  | 41 => ("PipeWorksModel", "costs", "[I", true)
  | 42 => ("PipeWorksModel", "term", "[I", true)
  | 43 => ("PipeWorksModel", "got", "[I", true)
  | 44 => ("PipeWorksModel", "gave", "[Z", true)
  | 45 => ("PipeWorksModel", "done", "I", false)
  | 46 => ("PipeWorksModel", "rival", "[I", true)
  | 47 => ("PipeWorksModel", "misfit", "[I", true)
  | 48 => ("PipeWorksModel", "kept", "[I", true)
  | _ => ("PipeWorksModel", "least", "[I", true)
def t_Mo : Nat → FieldType := fun k => match k with
  | 0 => .int
  | 1 => .array (.int)
  | 2 => .array (.int)
  | 3 => .array (.int)
  | 4 => .array (.int)
  | 5 => .array (.int)
  | 6 => .array (.int)
  | 7 => .array (.int)
  | 8 => .array (.int)
  | 9 => .array (.boolean)
  | 10 => .array (.int)
  | 11 => .array (.int)
  | 12 => .array (.boolean)
  | 13 => .array (.int)
  | 14 => .array (.int)
  | 15 => .int
  | 16 => .array (.int)
  | 17 => .array (.int)
  | 18 => .array (.int)
  | 19 => .int
  | 20 => .array (.int)
  | 21 => .array (.int)
  | 22 => .array (.boolean)
  | 23 => .int
  | 24 => .int
  | 25 => .int
  | 26 => .int
  | 27 => .int
  | 28 => .int
  | 29 => .array (.int)
  | 30 => .array (.int)
  | 31 => .array (.boolean)
  | 32 => .int
  | 33 => .array (.int)
  | 34 => .int
  | 35 => .array (.int)
  | 36 => .array (.int)
  | 37 => .array (.int)
  | 38 => .int
  | 39 => .array (.int)
  | 40 => .array (.int)
  | 41 => .array (.int)
  | 42 => .array (.int)
  | 43 => .array (.int)
  | 44 => .array (.boolean)
  | 45 => .int
  | 46 => .array (.int)
  | 47 => .array (.int)
  | 48 => .array (.int)
  | _ => .array (.int)
theorem n_Mo : ∀ a, a < 50 → ∀ b, b < 50 → a ≠ b → (T_Mo a).2.1 ≠ (T_Mo b).2.1 := by decide +kernel
theorem t_Mo_ok : ∀ k, k < 50 → parseFieldDescriptor (T_Mo k).2.2.1 = some (t_Mo k) := by decide +kernel
theorem il_Mo : ∀ w ∈ u_ws R_Mo T_Mo 50, w ∈ lw_tbl := by decide +kernel
theorem ig_Mo : (u_ws R_Mo T_Mo 50).all goodWord = true := by decide +kernel
abbrev R_Th : String := "PipeWorks$Thing"
abbrev R_La : String := "PipeWorksLaw"
abbrev vwCl : List vw_C := [(R_Br, T_Br, 6), (R_Dr, T_Dr, 3), (R_Ho, T_Ho, 7), (R_Le, T_Le, 3), (R_Li, T_Li, 4), (R_Ne, T_Ne, 17), (R_Or, T_Or, 6), (R_Pi, T_Pi, 8), (R_Pl, T_Pl, 8), (R_To, T_To, 3), (R_Pw, T_Pw, 16), (R_Mo, T_Mo, 50)]
abbrev y_Pw_init : MethodName := ⟨"PipeWorks", "<init>", "()V"⟩
abbrev c_Pw_init : ByteArray := prog_1_method_1_code
abbrev y_Pw_node : MethodName := ⟨"PipeWorks", "node", "(II)I"⟩
abbrev c_Pw_node : ByteArray := prog_1_method_2_code
abbrev y_Pw_main : MethodName := ⟨"PipeWorks", "main", "(III)I"⟩
abbrev c_Pw_main : ByteArray := prog_1_method_3_code
abbrev y_Pw_valve : MethodName := ⟨"PipeWorks", "valve", "(II)I"⟩
abbrev c_Pw_valve : ByteArray := prog_1_method_4_code
abbrev y_Pw_turn : MethodName := ⟨"PipeWorks", "turn", "(I)I"⟩
abbrev c_Pw_turn : ByteArray := prog_1_method_5_code
abbrev y_Pw_ofMain : MethodName := ⟨"PipeWorks", "ofMain", "(II)I"⟩
abbrev c_Pw_ofMain : ByteArray := prog_1_method_6_code
abbrev y_Pw_wrong : MethodName := ⟨"PipeWorks", "wrong", "(I)I"⟩
abbrev c_Pw_wrong : ByteArray := prog_1_method_7_code
abbrev y_Pw_mend : MethodName := ⟨"PipeWorks", "mend", "(I)I"⟩
abbrev c_Pw_mend : ByteArray := prog_1_method_8_code
abbrev y_Pw_draw : MethodName := ⟨"PipeWorks", "draw", "(IIII)I"⟩
abbrev c_Pw_draw : ByteArray := prog_1_method_9_code
abbrev y_Pw_lift : MethodName := ⟨"PipeWorks", "lift", "(IIIII)I"⟩
abbrev c_Pw_lift : ByteArray := prog_1_method_10_code
abbrev y_Pw_bridge : MethodName := ⟨"PipeWorks", "bridge", "(IIIII)I"⟩
abbrev c_Pw_bridge : ByteArray := prog_1_method_11_code
abbrev y_Pw_tower : MethodName := ⟨"PipeWorks", "tower", "(IIII)I"⟩
abbrev c_Pw_tower : ByteArray := prog_1_method_12_code
abbrev y_Pw_house : MethodName := ⟨"PipeWorks", "house", "(IIII)I"⟩
abbrev c_Pw_house : ByteArray := prog_1_method_13_code
abbrev y_Pw_leak : MethodName := ⟨"PipeWorks", "leak", "(IIZ)I"⟩
abbrev c_Pw_leak : ByteArray := prog_1_method_14_code
abbrev y_Pw_clear : MethodName := ⟨"PipeWorks", "clear", "(I)I"⟩
abbrev c_Pw_clear : ByteArray := prog_1_method_15_code
abbrev y_Pw_ofNode : MethodName := ⟨"PipeWorks", "ofNode", "(II)I"⟩
abbrev c_Pw_ofNode : ByteArray := prog_1_method_16_code
abbrev y_Pw_light : MethodName := ⟨"PipeWorks", "light", "(IZ)I"⟩
abbrev c_Pw_light : ByteArray := prog_1_method_17_code
abbrev y_Pw_found : MethodName := ⟨"PipeWorks", "found", "(I)I"⟩
abbrev c_Pw_found : ByteArray := prog_1_method_18_code
abbrev y_Pw_work : MethodName := ⟨"PipeWorks", "work", "()I"⟩
abbrev c_Pw_work : ByteArray := prog_1_method_19_code
abbrev y_Pw_near : MethodName := ⟨"PipeWorks", "near", "(I)I"⟩
abbrev c_Pw_near : ByteArray := prog_1_method_20_code
abbrev y_Pw_press : MethodName := ⟨"PipeWorks", "press", "(II)I"⟩
abbrev c_Pw_press : ByteArray := prog_1_method_21_code
abbrev y_Pw_flow : MethodName := ⟨"PipeWorks", "flow", "(I)I"⟩
abbrev c_Pw_flow : ByteArray := prog_1_method_22_code
abbrev y_Pw_step : MethodName := ⟨"PipeWorks", "step", "(I)I"⟩
abbrev c_Pw_step : ByteArray := prog_1_method_23_code
abbrev y_Pw_told : MethodName := ⟨"PipeWorks", "told", "(I)I"⟩
abbrev c_Pw_told : ByteArray := prog_1_method_24_code
abbrev y_Pw_row : MethodName := ⟨"PipeWorks", "row", "(II)I"⟩
abbrev c_Pw_row : ByteArray := prog_1_method_25_code
abbrev y_Pw_put : MethodName := ⟨"PipeWorks", "put", "(III)I"⟩
abbrev c_Pw_put : ByteArray := prog_1_method_26_code
abbrev y_Pw_none : MethodName := ⟨"PipeWorks", "none", "(II)I"⟩
abbrev c_Pw_none : ByteArray := prog_1_method_27_code
abbrev y_Pw_read : MethodName := ⟨"PipeWorks", "read", "(II)I"⟩
abbrev c_Pw_read : ByteArray := prog_1_method_28_code
abbrev y_Pw_say : MethodName := ⟨"PipeWorks", "say", "(I)I"⟩
abbrev c_Pw_say : ByteArray := prog_1_method_29_code
abbrev y_Pw_wipe : MethodName := ⟨"PipeWorks", "wipe", "()I"⟩
abbrev c_Pw_wipe : ByteArray := prog_1_method_30_code
abbrev y_Pw_fault : MethodName := ⟨"PipeWorks", "fault", "()I"⟩
abbrev c_Pw_fault : ByteArray := prog_1_method_31_code
abbrev y_Pw_order : MethodName := ⟨"PipeWorks", "order", "(I)I"⟩
abbrev c_Pw_order : ByteArray := prog_1_method_32_code
abbrev y_Pw_does : MethodName := ⟨"PipeWorks", "does", "()I"⟩
abbrev c_Pw_does : ByteArray := prog_1_method_33_code
abbrev y_Pw_why : MethodName := ⟨"PipeWorks", "why", "(I)I"⟩
abbrev c_Pw_why : ByteArray := prog_1_method_34_code
abbrev y_Pw_cut : MethodName := ⟨"PipeWorks", "cut", "(I)I"⟩
abbrev c_Pw_cut : ByteArray := prog_1_method_35_code
abbrev y_Pw_dry : MethodName := ⟨"PipeWorks", "dry", "(I)I"⟩
abbrev c_Pw_dry : ByteArray := prog_1_method_36_code
abbrev y_Pw_seek : MethodName := ⟨"PipeWorks", "seek", "(III)I"⟩
abbrev c_Pw_seek : ByteArray := prog_1_method_37_code
abbrev y_Pw_block : MethodName := ⟨"PipeWorks", "block", "(I)I"⟩
abbrev c_Pw_block : ByteArray := prog_1_method_38_code
abbrev y_Pw_rest : MethodName := ⟨"PipeWorks", "rest", "()I"⟩
abbrev c_Pw_rest : ByteArray := prog_1_method_39_code
abbrev y_Pw_plan : MethodName := ⟨"PipeWorks", "plan", "(III)I"⟩
abbrev c_Pw_plan : ByteArray := prog_1_method_40_code
abbrev y_Pw_best : MethodName := ⟨"PipeWorks", "best", "(II)I"⟩
abbrev c_Pw_best : ByteArray := prog_1_method_41_code
abbrev y_Pw_fails : MethodName := ⟨"PipeWorks", "fails", "(I)I"⟩
abbrev c_Pw_fails : ByteArray := prog_1_method_42_code
abbrev y_Pw_term : MethodName := ⟨"PipeWorks", "term", "(II)I"⟩
abbrev c_Pw_term : ByteArray := prog_1_method_43_code
abbrev y_Pw_meter : MethodName := ⟨"PipeWorks", "meter", "(IZ)I"⟩
abbrev c_Pw_meter : ByteArray := prog_1_method_44_code
abbrev y_Pw_pay : MethodName := ⟨"PipeWorks", "pay", "(I)I"⟩
abbrev c_Pw_pay : ByteArray := prog_1_method_45_code
abbrev y_Pw_isWithin : MethodName := ⟨"PipeWorks", "isWithin", "(III)Z"⟩
abbrev c_Pw_isWithin : ByteArray := prog_1_method_46_code
abbrev y_Pw_areHours : MethodName := ⟨"PipeWorks", "areHours", "(II)Z"⟩
abbrev c_Pw_areHours : ByteArray := prog_1_method_47_code
abbrev y_Pw_bit : MethodName := ⟨"PipeWorks", "bit", "(Z)I"⟩
abbrev c_Pw_bit : ByteArray := prog_1_method_48_code
abbrev y_Pw_hasBit : MethodName := ⟨"PipeWorks", "hasBit", "(II)Z"⟩
abbrev c_Pw_hasBit : ByteArray := prog_1_method_49_code
abbrev y_Pw_refusalToHang : MethodName := ⟨"PipeWorks", "refusalToHang", "(IZ)I"⟩
abbrev c_Pw_refusalToHang : ByteArray := prog_1_method_50_code
abbrev y_Pw_stepThings : MethodName := ⟨"PipeWorks", "stepThings", "(I)V"⟩
abbrev c_Pw_stepThings : ByteArray := prog_1_method_51_code
abbrev y_Pw_hasNumber : MethodName := ⟨"PipeWorks", "hasNumber", "(II)Z"⟩
abbrev c_Pw_hasNumber : ByteArray := prog_1_method_52_code
abbrev y_Pw_rulesThatAreSo : MethodName := ⟨"PipeWorks", "rulesThatAreSo", "(I)I"⟩
abbrev c_Pw_rulesThatAreSo : ByteArray := prog_1_method_53_code
abbrev y_Pw_tryAct : MethodName := ⟨"PipeWorks", "tryAct", "(II)Z"⟩
abbrev c_Pw_tryAct : ByteArray := prog_1_method_54_code
abbrev y_Pw_trySetHouse : MethodName := ⟨"PipeWorks", "trySetHouse", "(IZ)Z"⟩
abbrev c_Pw_trySetHouse : ByteArray := prog_1_method_55_code
abbrev y_Pw_trySetValve : MethodName := ⟨"PipeWorks", "trySetValve", "(IZ)Z"⟩
abbrev c_Pw_trySetValve : ByteArray := prog_1_method_56_code
abbrev y_Pw_tryBursts : MethodName := ⟨"PipeWorks", "tryBursts", "(LPipeWorks$Leak;)V"⟩
abbrev c_Pw_tryBursts : ByteArray := prog_1_method_57_code
abbrev y_Pw_misfitToKnown : MethodName := ⟨"PipeWorks", "misfitToKnown", "()I"⟩
abbrev c_Pw_misfitToKnown : ByteArray := prog_1_method_58_code
abbrev y_Pw_rivalAt : MethodName := ⟨"PipeWorks", "rivalAt", "(I)I"⟩
abbrev c_Pw_rivalAt : ByteArray := prog_1_method_59_code
abbrev y_Pw_rivalsAheadOf : MethodName := ⟨"PipeWorks", "rivalsAheadOf", "(I)I"⟩
abbrev c_Pw_rivalsAheadOf : ByteArray := prog_1_method_60_code
abbrev y_Mo_init : MethodName := ⟨"PipeWorksModel", "<init>", "()V"⟩
abbrev c_Mo_init : ByteArray := prog_14_method_1_code
abbrev y_Mo_in : MethodName := ⟨"PipeWorksModel", "in", "(III)Z"⟩
abbrev c_Mo_in : ByteArray := prog_14_method_2_code
abbrev y_Mo_isNode : MethodName := ⟨"PipeWorksModel", "isNode", "(I)Z"⟩
abbrev c_Mo_isNode : ByteArray := prog_14_method_3_code
abbrev y_Mo_isMain : MethodName := ⟨"PipeWorksModel", "isMain", "(I)Z"⟩
abbrev c_Mo_isMain : ByteArray := prog_14_method_4_code
abbrev y_Mo_isValve : MethodName := ⟨"PipeWorksModel", "isValve", "(I)Z"⟩
abbrev c_Mo_isValve : ByteArray := prog_14_method_5_code
abbrev y_Mo_node : MethodName := ⟨"PipeWorksModel", "node", "(II)I"⟩
abbrev c_Mo_node : ByteArray := prog_14_method_6_code
abbrev y_Mo_main : MethodName := ⟨"PipeWorksModel", "main", "(III)I"⟩
abbrev c_Mo_main : ByteArray := prog_14_method_7_code
abbrev y_Mo_valveOn : MethodName := ⟨"PipeWorksModel", "valveOn", "(I)I"⟩
abbrev c_Mo_valveOn : ByteArray := prog_14_method_8_code
abbrev y_Mo_valveByMap : MethodName := ⟨"PipeWorksModel", "valveByMap", "(I)I"⟩
abbrev c_Mo_valveByMap : ByteArray := prog_14_method_9_code
abbrev y_Mo_valve : MethodName := ⟨"PipeWorksModel", "valve", "(II)I"⟩
abbrev c_Mo_valve : ByteArray := prog_14_method_10_code
abbrev y_Mo_turn : MethodName := ⟨"PipeWorksModel", "turn", "(I)I"⟩
abbrev c_Mo_turn : ByteArray := prog_14_method_11_code
abbrev y_Mo_isOpen : MethodName := ⟨"PipeWorksModel", "isOpen", "(I)Z"⟩
abbrev c_Mo_isOpen : ByteArray := prog_14_method_12_code
abbrev y_Mo_ofMain : MethodName := ⟨"PipeWorksModel", "ofMain", "(II)I"⟩
abbrev c_Mo_ofMain : ByteArray := prog_14_method_13_code
abbrev y_Mo_wrong : MethodName := ⟨"PipeWorksModel", "wrong", "(I)I"⟩
abbrev c_Mo_wrong : ByteArray := prog_14_method_14_code
abbrev y_Mo_mend : MethodName := ⟨"PipeWorksModel", "mend", "(I)I"⟩
abbrev c_Mo_mend : ByteArray := prog_14_method_15_code
abbrev y_Mo_lay : MethodName := ⟨"PipeWorksModel", "lay", "(IIIIII)I"⟩
abbrev c_Mo_lay : ByteArray := prog_14_method_16_code
abbrev y_Mo_isSpan : MethodName := ⟨"PipeWorksModel", "isSpan", "(II)Z"⟩
abbrev c_Mo_isSpan : ByteArray := prog_14_method_17_code
abbrev y_Mo_draw : MethodName := ⟨"PipeWorksModel", "draw", "(IIII)I"⟩
abbrev c_Mo_draw : ByteArray := prog_14_method_18_code
abbrev y_Mo_lift : MethodName := ⟨"PipeWorksModel", "lift", "(IIIII)I"⟩
abbrev c_Mo_lift : ByteArray := prog_14_method_19_code
abbrev y_Mo_bridge : MethodName := ⟨"PipeWorksModel", "bridge", "(IIIII)I"⟩
abbrev c_Mo_bridge : ByteArray := prog_14_method_20_code
abbrev y_Mo_tower : MethodName := ⟨"PipeWorksModel", "tower", "(IIII)I"⟩
abbrev c_Mo_tower : ByteArray := prog_14_method_21_code
abbrev y_Mo_house : MethodName := ⟨"PipeWorksModel", "house", "(IIII)I"⟩
abbrev c_Mo_house : ByteArray := prog_14_method_22_code
abbrev y_Mo_leak : MethodName := ⟨"PipeWorksModel", "leak", "(IIZ)I"⟩
abbrev c_Mo_leak : ByteArray := prog_14_method_23_code
abbrev y_Mo_clear : MethodName := ⟨"PipeWorksModel", "clear", "(I)I"⟩
abbrev c_Mo_clear : ByteArray := prog_14_method_24_code
abbrev y_Mo_isSource : MethodName := ⟨"PipeWorksModel", "isSource", "(I)Z"⟩
abbrev c_Mo_isSource : ByteArray := prog_14_method_25_code
abbrev y_Mo_pressOf : MethodName := ⟨"PipeWorksModel", "pressOf", "(I)I"⟩
abbrev c_Mo_pressOf : ByteArray := prog_14_method_26_code
abbrev y_Mo_takes : MethodName := ⟨"PipeWorksModel", "takes", "(I)I"⟩
abbrev c_Mo_takes : ByteArray := prog_14_method_27_code
abbrev y_Mo_ofNode : MethodName := ⟨"PipeWorksModel", "ofNode", "(II)I"⟩
abbrev c_Mo_ofNode : ByteArray := prog_14_method_28_code
abbrev y_Mo_setLit : MethodName := ⟨"PipeWorksModel", "setLit", "(IZ)Z"⟩
abbrev c_Mo_setLit : ByteArray := prog_14_method_29_code
abbrev y_Mo_light : MethodName := ⟨"PipeWorksModel", "light", "(IZ)I"⟩
abbrev c_Mo_light : ByteArray := prog_14_method_30_code
abbrev y_Mo_found : MethodName := ⟨"PipeWorksModel", "found", "(I)I"⟩
abbrev c_Mo_found : ByteArray := prog_14_method_31_code
abbrev y_Mo_headBy : MethodName := ⟨"PipeWorksModel", "headBy", "(I)I"⟩
abbrev c_Mo_headBy : ByteArray := prog_14_method_32_code
abbrev y_Mo_workNet : MethodName := ⟨"PipeWorksModel", "workNet", "()Z"⟩
abbrev c_Mo_workNet : ByteArray := prog_14_method_33_code
abbrev y_Mo_work : MethodName := ⟨"PipeWorksModel", "work", "()I"⟩
abbrev c_Mo_work : ByteArray := prog_14_method_34_code
abbrev y_Mo_near : MethodName := ⟨"PipeWorksModel", "near", "(I)I"⟩
abbrev c_Mo_near : ByteArray := prog_14_method_35_code
abbrev y_Mo_press : MethodName := ⟨"PipeWorksModel", "press", "(II)I"⟩
abbrev c_Mo_press : ByteArray := prog_14_method_36_code
abbrev y_Mo_flowOf : MethodName := ⟨"PipeWorksModel", "flowOf", "(I)I"⟩
abbrev c_Mo_flowOf : ByteArray := prog_14_method_37_code
abbrev y_Mo_flow : MethodName := ⟨"PipeWorksModel", "flow", "(I)I"⟩
abbrev c_Mo_flow : ByteArray := prog_14_method_38_code
abbrev y_Mo_stepOnce : MethodName := ⟨"PipeWorksModel", "stepOnce", "()I"⟩
abbrev c_Mo_stepOnce : ByteArray := prog_14_method_39_code
abbrev y_Mo_step : MethodName := ⟨"PipeWorksModel", "step", "(I)I"⟩
abbrev c_Mo_step : ByteArray := prog_14_method_40_code
abbrev y_Mo_told : MethodName := ⟨"PipeWorksModel", "told", "(I)I"⟩
abbrev c_Mo_told : ByteArray := prog_14_method_41_code
abbrev y_Mo_isRow : MethodName := ⟨"PipeWorksModel", "isRow", "(I)Z"⟩
abbrev c_Mo_isRow : ByteArray := prog_14_method_42_code
abbrev y_Mo_row : MethodName := ⟨"PipeWorksModel", "row", "(II)I"⟩
abbrev c_Mo_row : ByteArray := prog_14_method_43_code
abbrev y_Mo_hasPlace : MethodName := ⟨"PipeWorksModel", "hasPlace", "(II)Z"⟩
abbrev c_Mo_hasPlace : ByteArray := prog_14_method_44_code
abbrev y_Mo_put : MethodName := ⟨"PipeWorksModel", "put", "(III)I"⟩
abbrev c_Mo_put : ByteArray := prog_14_method_45_code
abbrev y_Mo_none : MethodName := ⟨"PipeWorksModel", "none", "(II)I"⟩
abbrev c_Mo_none : ByteArray := prog_14_method_46_code
abbrev y_Mo_read : MethodName := ⟨"PipeWorksModel", "read", "(II)I"⟩
abbrev c_Mo_read : ByteArray := prog_14_method_47_code
abbrev y_Mo_say : MethodName := ⟨"PipeWorksModel", "say", "(I)I"⟩
abbrev c_Mo_say : ByteArray := prog_14_method_48_code
abbrev y_Mo_wipe : MethodName := ⟨"PipeWorksModel", "wipe", "()I"⟩
abbrev c_Mo_wipe : ByteArray := prog_14_method_49_code
abbrev y_Mo_faultOf : MethodName := ⟨"PipeWorksModel", "faultOf", "()I"⟩
abbrev c_Mo_faultOf : ByteArray := prog_14_method_50_code
abbrev y_Mo_fault : MethodName := ⟨"PipeWorksModel", "fault", "()I"⟩
abbrev c_Mo_fault : ByteArray := prog_14_method_51_code
abbrev y_Mo_order : MethodName := ⟨"PipeWorksModel", "order", "(I)I"⟩
abbrev c_Mo_order : ByteArray := prog_14_method_52_code
abbrev y_Mo_doAct : MethodName := ⟨"PipeWorksModel", "doAct", "(II)Z"⟩
abbrev c_Mo_doAct : ByteArray := prog_14_method_53_code
abbrev y_Mo_goThrough : MethodName := ⟨"PipeWorksModel", "goThrough", "(IZ)I"⟩
abbrev c_Mo_goThrough : ByteArray := prog_14_method_54_code
abbrev y_Mo_does : MethodName := ⟨"PipeWorksModel", "does", "()I"⟩
abbrev c_Mo_does : ByteArray := prog_14_method_55_code
abbrev y_Mo_why : MethodName := ⟨"PipeWorksModel", "why", "(I)I"⟩
abbrev c_Mo_why : ByteArray := prog_14_method_56_code
abbrev y_Mo_joined : MethodName := ⟨"PipeWorksModel", "joined", "(I)I"⟩
abbrev c_Mo_joined : ByteArray := prog_14_method_57_code
abbrev y_Mo_bits : MethodName := ⟨"PipeWorksModel", "bits", "(I)I"⟩
abbrev c_Mo_bits : ByteArray := prog_14_method_58_code
abbrev y_Mo_cutOff : MethodName := ⟨"PipeWorksModel", "cutOff", "(I)I"⟩
abbrev c_Mo_cutOff : ByteArray := prog_14_method_59_code
abbrev y_Mo_cut : MethodName := ⟨"PipeWorksModel", "cut", "(I)I"⟩
abbrev c_Mo_cut : ByteArray := prog_14_method_60_code
abbrev y_Mo_dry : MethodName := ⟨"PipeWorksModel", "dry", "(I)I"⟩
abbrev c_Mo_dry : ByteArray := prog_14_method_61_code
abbrev y_Mo_seek : MethodName := ⟨"PipeWorksModel", "seek", "(III)I"⟩
abbrev c_Mo_seek : ByteArray := prog_14_method_62_code
abbrev y_Mo_block : MethodName := ⟨"PipeWorksModel", "block", "(I)I"⟩
abbrev c_Mo_block : ByteArray := prog_14_method_63_code
abbrev y_Mo_rest : MethodName := ⟨"PipeWorksModel", "rest", "()I"⟩
abbrev c_Mo_rest : ByteArray := prog_14_method_64_code
abbrev y_Mo_plan : MethodName := ⟨"PipeWorksModel", "plan", "(III)I"⟩
abbrev c_Mo_plan : ByteArray := prog_14_method_65_code
abbrev y_Mo_at : MethodName := ⟨"PipeWorksModel", "at", "(III)I"⟩
abbrev c_Mo_at : ByteArray := prog_14_method_66_code
abbrev y_Mo_after : MethodName := ⟨"PipeWorksModel", "after", "(IIII)I"⟩
abbrev c_Mo_after : ByteArray := prog_14_method_67_code
abbrev y_Mo_coalOf : MethodName := ⟨"PipeWorksModel", "coalOf", "(I)I"⟩
abbrev c_Mo_coalOf : ByteArray := prog_14_method_68_code
abbrev y_Mo_layLeast : MethodName := ⟨"PipeWorksModel", "layLeast", "()V"⟩
abbrev c_Mo_layLeast : ByteArray := prog_14_method_69_code
abbrev y_Mo_best : MethodName := ⟨"PipeWorksModel", "best", "(II)I"⟩
abbrev c_Mo_best : ByteArray := prog_14_method_70_code
abbrev y_Mo_fails : MethodName := ⟨"PipeWorksModel", "fails", "(I)I"⟩
abbrev c_Mo_fails : ByteArray := prog_14_method_71_code
abbrev y_Mo_term : MethodName := ⟨"PipeWorksModel", "term", "(II)I"⟩
abbrev c_Mo_term : ByteArray := prog_14_method_72_code
abbrev y_Mo_meter : MethodName := ⟨"PipeWorksModel", "meter", "(IZ)I"⟩
abbrev c_Mo_meter : ByteArray := prog_14_method_73_code
abbrev y_Mo_pay : MethodName := ⟨"PipeWorksModel", "pay", "(I)I"⟩
abbrev c_Mo_pay : ByteArray := prog_14_method_74_code
abbrev y_Br_init : MethodName := ⟨"PipeWorks$Bridge", "<init>", "(IIII)V"⟩
abbrev c_Br_init : ByteArray := prog_2_method_1_code
abbrev y_Br_kind : MethodName := ⟨"PipeWorks$Bridge", "kind", "()I"⟩
abbrev c_Br_kind : ByteArray := prog_2_method_2_code
abbrev y_Br_takesIn : MethodName := ⟨"PipeWorks$Bridge", "takesIn", "(I)I"⟩
abbrev c_Br_takesIn : ByteArray := prog_2_method_3_code
abbrev y_Dr_init : MethodName := ⟨"PipeWorks$Draw", "<init>", "(III)V"⟩
abbrev c_Dr_init : ByteArray := prog_3_method_1_code
abbrev y_Dr_kind : MethodName := ⟨"PipeWorks$Draw", "kind", "()I"⟩
abbrev c_Dr_kind : ByteArray := prog_3_method_2_code
abbrev y_Dr_takes : MethodName := ⟨"PipeWorks$Draw", "takes", "(II)I"⟩
abbrev c_Dr_takes : ByteArray := prog_3_method_3_code
abbrev y_Dr_takesIn : MethodName := ⟨"PipeWorks$Draw", "takesIn", "(I)I"⟩
abbrev c_Dr_takesIn : ByteArray := prog_3_method_4_code
abbrev y_Dr_strokesOf : MethodName := ⟨"PipeWorks$Draw", "strokesOf", "(I)I"⟩
abbrev c_Dr_strokesOf : ByteArray := prog_3_method_5_code
abbrev y_Ho_init : MethodName := ⟨"PipeWorks$House", "<init>", "(III)V"⟩
abbrev c_Ho_init : ByteArray := prog_4_method_1_code
abbrev y_Ho_kind : MethodName := ⟨"PipeWorks$House", "kind", "()I"⟩
abbrev c_Ho_kind : ByteArray := prog_4_method_2_code
abbrev y_Ho_takes : MethodName := ⟨"PipeWorks$House", "takes", "(II)I"⟩
abbrev c_Ho_takes : ByteArray := prog_4_method_3_code
abbrev y_Ho_isSource : MethodName := ⟨"PipeWorks$House", "isSource", "(I)Z"⟩
abbrev c_Ho_isSource : ByteArray := prog_4_method_4_code
abbrev y_Ho_isLitOrFound : MethodName := ⟨"PipeWorks$House", "isLitOrFound", "()Z"⟩
abbrev c_Ho_isLitOrFound : ByteArray := prog_4_method_5_code
abbrev y_Ho_givesAndTakes : MethodName := ⟨"PipeWorks$House", "givesAndTakes", "()Z"⟩
abbrev c_Ho_givesAndTakes : ByteArray := prog_4_method_6_code
abbrev y_Ho_burns : MethodName := ⟨"PipeWorks$House", "burns", "(I)I"⟩
abbrev c_Ho_burns : ByteArray := prog_4_method_7_code
abbrev y_Ho_setLit : MethodName := ⟨"PipeWorks$House", "setLit", "(ZI)Z"⟩
abbrev c_Ho_setLit : ByteArray := prog_4_method_8_code
abbrev y_Le_init : MethodName := ⟨"PipeWorks$Leak", "<init>", "(IZ)V"⟩
abbrev c_Le_init : ByteArray := prog_5_method_1_code
abbrev y_Le_kind : MethodName := ⟨"PipeWorks$Leak", "kind", "()I"⟩
abbrev c_Le_kind : ByteArray := prog_5_method_2_code
abbrev y_Le_takes : MethodName := ⟨"PipeWorks$Leak", "takes", "(II)I"⟩
abbrev c_Le_takes : ByteArray := prog_5_method_3_code
abbrev y_Le_isLitOrFound : MethodName := ⟨"PipeWorks$Leak", "isLitOrFound", "()Z"⟩
abbrev c_Le_isLitOrFound : ByteArray := prog_5_method_4_code
abbrev y_Li_init : MethodName := ⟨"PipeWorks$Lift", "<init>", "(IIII)V"⟩
abbrev c_Li_init : ByteArray := prog_6_method_1_code
abbrev y_Li_kind : MethodName := ⟨"PipeWorks$Lift", "kind", "()I"⟩
abbrev c_Li_kind : ByteArray := prog_6_method_2_code
abbrev y_Li_takesIn : MethodName := ⟨"PipeWorks$Lift", "takesIn", "(I)I"⟩
abbrev c_Li_takesIn : ByteArray := prog_6_method_3_code
abbrev y_Ne_init : MethodName := ⟨"PipeWorks$Net", "<init>", "()V"⟩
abbrev c_Ne_init : ByteArray := prog_7_method_1_code
abbrev y_Ne_has : MethodName := ⟨"PipeWorks$Net", "has", "(I)Z"⟩
abbrev c_Ne_has : ByteArray := prog_7_method_2_code
abbrev y_Ne_addNode : MethodName := ⟨"PipeWorks$Net", "addNode", "(II)I"⟩
abbrev c_Ne_addNode : ByteArray := prog_7_method_3_code
abbrev y_Ne_hang : MethodName := ⟨"PipeWorks$Net", "hang", "(ILPipeWorks$Thing;)I"⟩
abbrev c_Ne_hang : ByteArray := prog_7_method_4_code
abbrev y_Ne_unhang : MethodName := ⟨"PipeWorks$Net", "unhang", "(I)I"⟩
abbrev c_Ne_unhang : ByteArray := prog_7_method_5_code
abbrev y_Ne_pressAt : MethodName := ⟨"PipeWorks$Net", "pressAt", "(I)I"⟩
abbrev c_Ne_pressAt : ByteArray := prog_7_method_6_code
abbrev y_Ne_taken : MethodName := ⟨"PipeWorks$Net", "taken", "(II)I"⟩
abbrev c_Ne_taken : ByteArray := prog_7_method_7_code
abbrev y_Ne_isSource : MethodName := ⟨"PipeWorks$Net", "isSource", "(II)Z"⟩
abbrev c_Ne_isSource : ByteArray := prog_7_method_8_code
abbrev y_Ne_sources : MethodName := ⟨"PipeWorks$Net", "sources", "(I)I"⟩
abbrev c_Ne_sources : ByteArray := prog_7_method_9_code
abbrev y_Ne_flowOf : MethodName := ⟨"PipeWorks$Net", "flowOf", "(I)I"⟩
abbrev c_Ne_flowOf : ByteArray := prog_7_method_10_code
abbrev y_Ne_flowOut : MethodName := ⟨"PipeWorks$Net", "flowOut", "(II)I"⟩
abbrev c_Ne_flowOut : ByteArray := prog_7_method_11_code
abbrev y_Ne_keepHeads : MethodName := ⟨"PipeWorks$Net", "keepHeads", "()V"⟩
abbrev c_Ne_keepHeads : ByteArray := prog_7_method_12_code
abbrev y_Ne_takeBackHeads : MethodName := ⟨"PipeWorks$Net", "takeBackHeads", "()V"⟩
abbrev c_Ne_takeBackHeads : ByteArray := prog_7_method_13_code
abbrev y_Ne_settle : MethodName := ⟨"PipeWorks$Net", "settle", "(I)V"⟩
abbrev c_Ne_settle : ByteArray := prog_7_method_14_code
abbrev y_Ne_noteInputs : MethodName := ⟨"PipeWorks$Net", "noteInputs", "(I)Z"⟩
abbrev c_Ne_noteInputs : ByteArray := prog_7_method_15_code
abbrev y_Ne_noteInput : MethodName := ⟨"PipeWorks$Net", "noteInput", "(II)Z"⟩
abbrev c_Ne_noteInput : ByteArray := prog_7_method_16_code
abbrev y_Ne_inputOf : MethodName := ⟨"PipeWorks$Net", "inputOf", "(II)I"⟩
abbrev c_Ne_inputOf : ByteArray := prog_7_method_17_code
abbrev y_Ne_runSweeps : MethodName := ⟨"PipeWorks$Net", "runSweeps", "(I)I"⟩
abbrev c_Ne_runSweeps : ByteArray := prog_7_method_18_code
abbrev y_Ne_beginHeads : MethodName := ⟨"PipeWorks$Net", "beginHeads", "(I)V"⟩
abbrev c_Ne_beginHeads : ByteArray := prog_7_method_19_code
abbrev y_Ne_listMains : MethodName := ⟨"PipeWorks$Net", "listMains", "()V"⟩
abbrev c_Ne_listMains : ByteArray := prog_7_method_20_code
abbrev y_Ne_markHeads : MethodName := ⟨"PipeWorks$Net", "markHeads", "()V"⟩
abbrev c_Ne_markHeads : ByteArray := prog_7_method_21_code
abbrev y_Ne_isAsMarked : MethodName := ⟨"PipeWorks$Net", "isAsMarked", "()Z"⟩
abbrev c_Ne_isAsMarked : ByteArray := prog_7_method_22_code
abbrev y_Ne_sweep : MethodName := ⟨"PipeWorks$Net", "sweep", "(I)I"⟩
abbrev c_Ne_sweep : ByteArray := prog_7_method_23_code
abbrev y_Ne_nextHead : MethodName := ⟨"PipeWorks$Net", "nextHead", "(II)I"⟩
abbrev c_Ne_nextHead : ByteArray := prog_7_method_24_code
abbrev y_Or_init : MethodName := ⟨"PipeWorks$Orders", "<init>", "()V"⟩
abbrev c_Or_init : ByteArray := prog_8_method_1_code
abbrev y_Or_addSign : MethodName := ⟨"PipeWorks$Orders", "addSign", "(I)I"⟩
abbrev c_Or_addSign : ByteArray := prog_8_method_2_code
abbrev y_Or_dropSigns : MethodName := ⟨"PipeWorks$Orders", "dropSigns", "()I"⟩
abbrev c_Or_dropSigns : ByteArray := prog_8_method_3_code
abbrev y_Or_addOrder : MethodName := ⟨"PipeWorks$Orders", "addOrder", "(I)I"⟩
abbrev c_Or_addOrder : ByteArray := prog_8_method_4_code
abbrev y_Or_hasOrder : MethodName := ⟨"PipeWorks$Orders", "hasOrder", "(I)Z"⟩
abbrev c_Or_hasOrder : ByteArray := prog_8_method_5_code
abbrev y_Or_firstFault : MethodName := ⟨"PipeWorks$Orders", "firstFault", "()I"⟩
abbrev c_Or_firstFault : ByteArray := prog_8_method_6_code
abbrev y_Or_dueBehind : MethodName := ⟨"PipeWorks$Orders", "dueBehind", "(II)I"⟩
abbrev c_Or_dueBehind : ByteArray := prog_8_method_7_code
abbrev y_Or_dueBehindFigure : MethodName := ⟨"PipeWorks$Orders", "dueBehindFigure", "(II)I"⟩
abbrev c_Or_dueBehindFigure : ByteArray := prog_8_method_8_code
abbrev y_Or_isFigure : MethodName := ⟨"PipeWorks$Orders", "isFigure", "(I)Z"⟩
abbrev c_Or_isFigure : ByteArray := prog_8_method_9_code
abbrev y_Or_inForce : MethodName := ⟨"PipeWorks$Orders", "inForce", "(I)I"⟩
abbrev c_Or_inForce : ByteArray := prog_8_method_10_code
abbrev y_Or_signOf : MethodName := ⟨"PipeWorks$Orders", "signOf", "(II)I"⟩
abbrev c_Or_signOf : ByteArray := prog_8_method_11_code
abbrev y_Or_actOf : MethodName := ⟨"PipeWorks$Orders", "actOf", "(II)I"⟩
abbrev c_Or_actOf : ByteArray := prog_8_method_12_code
abbrev y_Or_rulesSo : MethodName := ⟨"PipeWorks$Orders", "rulesSo", "(I[I[II)I"⟩
abbrev c_Or_rulesSo : ByteArray := prog_8_method_13_code
abbrev y_Or_valueFor : MethodName := ⟨"PipeWorks$Orders", "valueFor", "(II[I[II)I"⟩
abbrev c_Or_valueFor : ByteArray := prog_8_method_14_code
abbrev y_Or_isTestSo : MethodName := ⟨"PipeWorks$Orders", "isTestSo", "(III)Z"⟩
abbrev c_Or_isTestSo : ByteArray := prog_8_method_15_code
abbrev y_Pi_init : MethodName := ⟨"PipeWorks$Pipes", "<init>", "()V"⟩
abbrev c_Pi_init : ByteArray := prog_9_method_1_code
abbrev y_Pi_hasMain : MethodName := ⟨"PipeWorks$Pipes", "hasMain", "(I)Z"⟩
abbrev c_Pi_hasMain : ByteArray := prog_9_method_2_code
abbrev y_Pi_hasValve : MethodName := ⟨"PipeWorks$Pipes", "hasValve", "(I)Z"⟩
abbrev c_Pi_hasValve : ByteArray := prog_9_method_3_code
abbrev y_Pi_addMain : MethodName := ⟨"PipeWorks$Pipes", "addMain", "(III)I"⟩
abbrev c_Pi_addMain : ByteArray := prog_9_method_4_code
abbrev y_Pi_addValve : MethodName := ⟨"PipeWorks$Pipes", "addValve", "(II)I"⟩
abbrev c_Pi_addValve : ByteArray := prog_9_method_5_code
abbrev y_Pi_valveOn : MethodName := ⟨"PipeWorks$Pipes", "valveOn", "(I)I"⟩
abbrev c_Pi_valveOn : ByteArray := prog_9_method_6_code
abbrev y_Pi_valveTold : MethodName := ⟨"PipeWorks$Pipes", "valveTold", "(I)I"⟩
abbrev c_Pi_valveTold : ByteArray := prog_9_method_7_code
abbrev y_Pi_valveIn : MethodName := ⟨"PipeWorks$Pipes", "valveIn", "([II)I"⟩
abbrev c_Pi_valveIn : ByteArray := prog_9_method_8_code
abbrev y_Pi_isShut : MethodName := ⟨"PipeWorks$Pipes", "isShut", "(I)Z"⟩
abbrev c_Pi_isShut : ByteArray := prog_9_method_9_code
abbrev y_Pi_turnValve : MethodName := ⟨"PipeWorks$Pipes", "turnValve", "(I)I"⟩
abbrev c_Pi_turnValve : ByteArray := prog_9_method_10_code
abbrev y_Pi_isOpen : MethodName := ⟨"PipeWorks$Pipes", "isOpen", "(I)Z"⟩
abbrev c_Pi_isOpen : ByteArray := prog_9_method_11_code
abbrev y_Pi_isOpenByMap : MethodName := ⟨"PipeWorks$Pipes", "isOpenByMap", "(I)Z"⟩
abbrev c_Pi_isOpenByMap : ByteArray := prog_9_method_12_code
abbrev y_Pi_wrongValve : MethodName := ⟨"PipeWorks$Pipes", "wrongValve", "(I)I"⟩
abbrev c_Pi_wrongValve : ByteArray := prog_9_method_13_code
abbrev y_Pi_mendMap : MethodName := ⟨"PipeWorks$Pipes", "mendMap", "(I)I"⟩
abbrev c_Pi_mendMap : ByteArray := prog_9_method_14_code
abbrev y_Pi_openMains : MethodName := ⟨"PipeWorks$Pipes", "openMains", "(I)I"⟩
abbrev c_Pi_openMains : ByteArray := prog_9_method_15_code
abbrev y_Pi_joined : MethodName := ⟨"PipeWorks$Pipes", "joined", "(II)I"⟩
abbrev c_Pi_joined : ByteArray := prog_9_method_16_code
abbrev y_Pi_fewestValves : MethodName := ⟨"PipeWorks$Pipes", "fewestValves", "(II)I"⟩
abbrev c_Pi_fewestValves : ByteArray := prog_9_method_17_code
abbrev y_Pl_init : MethodName := ⟨"PipeWorks$Plan", "<init>", "()V"⟩
abbrev c_Pl_init : ByteArray := prog_10_method_1_code
abbrev y_Pl_addBlock : MethodName := ⟨"PipeWorks$Plan", "addBlock", "(I)I"⟩
abbrev c_Pl_addBlock : ByteArray := prog_10_method_2_code
abbrev y_Pl_dropBlocks : MethodName := ⟨"PipeWorks$Plan", "dropBlocks", "()I"⟩
abbrev c_Pl_dropBlocks : ByteArray := prog_10_method_3_code
abbrev y_Pl_setHouse : MethodName := ⟨"PipeWorks$Plan", "setHouse", "(III)V"⟩
abbrev c_Pl_setHouse : ByteArray := prog_10_method_4_code
abbrev y_Pl_coalFrom : MethodName := ⟨"PipeWorks$Plan", "coalFrom", "(I)I"⟩
abbrev c_Pl_coalFrom : ByteArray := prog_10_method_5_code
abbrev y_Pl_litIn : MethodName := ⟨"PipeWorks$Plan", "litIn", "(II)I"⟩
abbrev c_Pl_litIn : ByteArray := prog_10_method_6_code
abbrev y_Pl_firstFailure : MethodName := ⟨"PipeWorks$Plan", "firstFailure", "(I)I"⟩
abbrev c_Pl_firstFailure : ByteArray := prog_10_method_7_code
abbrev y_Pl_prepare : MethodName := ⟨"PipeWorks$Plan", "prepare", "()V"⟩
abbrev c_Pl_prepare : ByteArray := prog_10_method_8_code
abbrev y_Pl_sumOf : MethodName := ⟨"PipeWorks$Plan", "sumOf", "([II)I"⟩
abbrev c_Pl_sumOf : ByteArray := prog_10_method_9_code
abbrev y_Pl_weightsBehind : MethodName := ⟨"PipeWorks$Plan", "weightsBehind", "(III)I"⟩
abbrev c_Pl_weightsBehind : ByteArray := prog_10_method_10_code
abbrev y_Pl_leastCoal : MethodName := ⟨"PipeWorks$Plan", "leastCoal", "(III)I"⟩
abbrev c_Pl_leastCoal : ByteArray := prog_10_method_11_code
abbrev y_Pl_coalIfLit : MethodName := ⟨"PipeWorks$Plan", "coalIfLit", "(IIII)I"⟩
abbrev c_Pl_coalIfLit : ByteArray := prog_10_method_12_code
abbrev y_Pl_firstBest : MethodName := ⟨"PipeWorks$Plan", "firstBest", "(III)I"⟩
abbrev c_Pl_firstBest : ByteArray := prog_10_method_13_code
abbrev y_Th_init : MethodName := ⟨"PipeWorks$Thing", "<init>", "()V"⟩
abbrev c_Th_init : ByteArray := prog_11_method_1_code
abbrev y_Th_takes : MethodName := ⟨"PipeWorks$Thing", "takes", "(II)I"⟩
abbrev c_Th_takes : ByteArray := prog_11_method_3_code
abbrev y_Th_isSource : MethodName := ⟨"PipeWorks$Thing", "isSource", "(I)Z"⟩
abbrev c_Th_isSource : ByteArray := prog_11_method_4_code
abbrev y_Th_weight : MethodName := ⟨"PipeWorks$Thing", "weight", "()I"⟩
abbrev c_Th_weight : ByteArray := prog_11_method_5_code
abbrev y_Th_held : MethodName := ⟨"PipeWorks$Thing", "held", "()I"⟩
abbrev c_Th_held : ByteArray := prog_11_method_6_code
abbrev y_Th_isLitOrFound : MethodName := ⟨"PipeWorks$Thing", "isLitOrFound", "()Z"⟩
abbrev c_Th_isLitOrFound : ByteArray := prog_11_method_7_code
abbrev y_Th_strokesOf : MethodName := ⟨"PipeWorks$Thing", "strokesOf", "(I)I"⟩
abbrev c_Th_strokesOf : ByteArray := prog_11_method_8_code
abbrev y_Th_givesAndTakes : MethodName := ⟨"PipeWorks$Thing", "givesAndTakes", "()Z"⟩
abbrev c_Th_givesAndTakes : ByteArray := prog_11_method_9_code
abbrev y_Th_fill : MethodName := ⟨"PipeWorks$Thing", "fill", "(II)I"⟩
abbrev c_Th_fill : ByteArray := prog_11_method_10_code
abbrev y_Th_burns : MethodName := ⟨"PipeWorks$Thing", "burns", "(I)I"⟩
abbrev c_Th_burns : ByteArray := prog_11_method_11_code
abbrev y_To_init : MethodName := ⟨"PipeWorks$Tower", "<init>", "(III)V"⟩
abbrev c_To_init : ByteArray := prog_12_method_1_code
abbrev y_To_kind : MethodName := ⟨"PipeWorks$Tower", "kind", "()I"⟩
abbrev c_To_kind : ByteArray := prog_12_method_2_code
abbrev y_To_takes : MethodName := ⟨"PipeWorks$Tower", "takes", "(II)I"⟩
abbrev c_To_takes : ByteArray := prog_12_method_3_code
abbrev y_To_isSource : MethodName := ⟨"PipeWorks$Tower", "isSource", "(I)Z"⟩
abbrev c_To_isSource : ByteArray := prog_12_method_4_code
abbrev y_To_weight : MethodName := ⟨"PipeWorks$Tower", "weight", "()I"⟩
abbrev c_To_weight : ByteArray := prog_12_method_5_code
abbrev y_To_held : MethodName := ⟨"PipeWorks$Tower", "held", "()I"⟩
abbrev c_To_held : ByteArray := prog_12_method_6_code
abbrev y_To_givesAndTakes : MethodName := ⟨"PipeWorks$Tower", "givesAndTakes", "()Z"⟩
abbrev c_To_givesAndTakes : ByteArray := prog_12_method_7_code
abbrev y_To_fill : MethodName := ⟨"PipeWorks$Tower", "fill", "(II)I"⟩
abbrev c_To_fill : ByteArray := prog_12_method_8_code
abbrev y_JObj_init : MethodName := ⟨"java/lang/Object", "<init>", "()V"⟩
abbrev c_JObj_init : ByteArray := object_method_1_code
abbrev y_JInt_bitCount : MethodName := ⟨"java/lang/Integer", "bitCount", "(I)I"⟩
abbrev c_JInt_bitCount : ByteArray := prog_15_method_49_code
abbrev y_JMath_abs : MethodName := ⟨"java/lang/Math", "abs", "(I)I"⟩
abbrev c_JMath_abs : ByteArray := prog_16_method_59_code
abbrev y_JMath_max : MethodName := ⟨"java/lang/Math", "max", "(II)I"⟩
abbrev c_JMath_max : ByteArray := prog_16_method_65_code
abbrev y_JMath_min : MethodName := ⟨"java/lang/Math", "min", "(II)I"⟩
abbrev c_JMath_min : ByteArray := prog_16_method_69_code
abbrev y_JArr_fill : MethodName := ⟨"java/util/Arrays", "fill", "([II)V"⟩
abbrev c_JArr_fill : ByteArray := prog_18_method_103_code
def nxW : List Cond := [Cond.methodLinkNest "PipeWorks" 9 ⟨"PipeWorks$Net", "<init>", "()V"⟩ "PipeWorks", Cond.methodLinkNest "PipeWorks$Net" 11 ⟨"PipeWorks$Pipes", "<init>", "()V"⟩ "PipeWorks", Cond.methodLinkNest "PipeWorks" 23 ⟨"PipeWorks$Orders", "<init>", "()V"⟩ "PipeWorks", Cond.methodLinkNest "PipeWorks" 30 ⟨"PipeWorks$Plan", "<init>", "()V"⟩ "PipeWorks", Cond.methodLinkNest "PipeWorks$Pipes" 48 ⟨"PipeWorks", "hasBit", "(II)Z"⟩ "PipeWorks", Cond.methodLinkNest "PipeWorks$Pipes" 56 ⟨"PipeWorks", "bit", "(Z)I"⟩ "PipeWorks", Cond.methodLinkNest "PipeWorks$Draw" 3 ⟨"PipeWorks$Thing", "<init>", "()V"⟩ "PipeWorks", Cond.methodLinkNest "PipeWorks$Tower" 1 ⟨"PipeWorks$Thing", "<init>", "()V"⟩ "PipeWorks", Cond.methodLinkNest "PipeWorks$Leak" 1 ⟨"PipeWorks$Thing", "<init>", "()V"⟩ "PipeWorks", Cond.declares ⟨"PipeWorks$Thing", "kind", "()I"⟩, Cond.methodLinkNest "PipeWorks$Net" 91 ⟨"PipeWorks", "hasBit", "(II)Z"⟩ "PipeWorks", Cond.methodLinkNest "PipeWorks$Orders" 50 ⟨"PipeWorks", "isWithin", "(III)Z"⟩ "PipeWorks", Cond.methodLinkNest "PipeWorks$Plan" 61 ⟨"PipeWorks", "hasBit", "(II)Z"⟩ "PipeWorks", Cond.castable "PipeWorks$Draw" "PipeWorks$Thing", Cond.castable "PipeWorks$Lift" "PipeWorks$Thing", Cond.castable "PipeWorks$Bridge" "PipeWorks$Thing", Cond.castable "PipeWorks$Tower" "PipeWorks$Thing", Cond.castable "PipeWorks$House" "PipeWorks$Thing", Cond.castable "PipeWorks$Leak" "PipeWorks$Thing"]
def nxC : List (String × String) := [(R_Br, R_Ho), (R_Dr, R_Ho), (R_Le, R_Ho), (R_Li, R_Ho), (R_To, R_Ho), (R_Br, R_Le), (R_Dr, R_Le), (R_Ho, R_Le), (R_Li, R_Le), (R_To, R_Le)]
def NX (U : State) : Prop := (∀ w ∈ nxW, va_Nw w U) ∧ ∀ q ∈ nxC, va_Nc q.1 q.2 U
theorem NX.warm {s U : State} (hW : s.WarmedH U.vm) (h : NX s) : NX U := by
  refine ⟨fun w hw => ?_, fun q hq => va_Nc.moved hW.alike (h.2 q hq)⟩
  have h1 := h.1 w hw
  simp only [nxW, List.mem_cons, List.not_mem_nil, or_false] at hw
  rcases hw with rfl | rfl | rfl | rfl | rfl | rfl | rfl | rfl | rfl | rfl | rfl | rfl | rfl | rfl | rfl | rfl | rfl | rfl | rfl
  · exact va_Nw.warmM hW h1
  · exact va_Nw.warmM hW h1
  · exact va_Nw.warmM hW h1
  · exact va_Nw.warmM hW h1
  · exact va_Nw.warmM hW h1
  · exact va_Nw.warmM hW h1
  · exact va_Nw.warmM hW h1
  · exact va_Nw.warmM hW h1
  · exact va_Nw.warmM hW h1
  · exact va_Nw.warmD hW h1
  · exact va_Nw.warmM hW h1
  · exact va_Nw.warmM hW h1
  · exact va_Nw.warmM hW h1
  · exact va_Nw.warmC hW h1
  · exact va_Nw.warmC hW h1
  · exact va_Nw.warmC hW h1
  · exact va_Nw.warmC hW h1
  · exact va_Nw.warmC hW h1
  · exact va_Nw.warmC hW h1
theorem NX.same {u U : State} (hv : u.vm = U.vm) (h : NX u) : NX U := by
  refine ⟨fun w hw => ?_, fun q hq => va_Nc.moved (hv ▸ Vm.Alike.refl _) (h.2 q hq)⟩
  have h1 := h.1 w hw
  simp only [nxW, List.mem_cons, List.not_mem_nil, or_false] at hw
  rcases hw with rfl | rfl | rfl | rfl | rfl | rfl | rfl | rfl | rfl | rfl | rfl | rfl | rfl | rfl | rfl | rfl | rfl | rfl | rfl <;> exact va_Nw.same rfl hv h1
end
section
/-! ===== BASE: words, contexts, what a contract asks and gives, rules of calls; for any world w ===== -/
def GW : List Cond := lw_tbl.filter goodWord
theorem GW_of {w : Cond} (h : w ∈ lw_tbl) (g : goodWord w = true) : w ∈ GW := List.mem_filter.mpr ⟨h, g⟩
theorem GW_t {w : Cond} (h : w ∈ tables_1) (g : goodWord w = true) : w ∈ GW := GW_of (List.mem_append_right _ h) g
theorem GW_1 {w : Cond} (h : w ∈ tables_1_1) (g : goodWord w = true) : w ∈ GW := GW_t (List.mem_append_left _ h) g
theorem GW_2 {w : Cond} (h : w ∈ tables_1_2) (g : goodWord w = true) : w ∈ GW := GW_t (List.mem_append_right _ (List.mem_append_left _ h)) g
theorem GW_3 {w : Cond} (h : w ∈ tables_1_3) (g : goodWord w = true) : w ∈ GW := GW_t (List.mem_append_right _ (List.mem_append_right _ (List.mem_append_left _ h))) g
theorem GW_4 {w : Cond} (h : w ∈ tables_1_4) (g : goodWord w = true) : w ∈ GW := GW_t (List.mem_append_right _ (List.mem_append_right _ (List.mem_append_right _ (List.mem_append_left _ h)))) g
theorem GW_5 {w : Cond} (h : w ∈ tables_1_5) (g : goodWord w = true) : w ∈ GW := GW_t (List.mem_append_right _ (List.mem_append_right _ (List.mem_append_right _ (List.mem_append_right _ (List.mem_append_left _ h))))) g
theorem GW_6 {w : Cond} (h : w ∈ tables_1_6) (g : goodWord w = true) : w ∈ GW := GW_t (List.mem_append_right _ (List.mem_append_right _ (List.mem_append_right _ (List.mem_append_right _ (List.mem_append_right _ (List.mem_append_left _ h)))))) g
theorem GW_7 {w : Cond} (h : w ∈ tables_1_7) (g : goodWord w = true) : w ∈ GW := GW_t (List.mem_append_right _ (List.mem_append_right _ (List.mem_append_right _ (List.mem_append_right _ (List.mem_append_right _ (List.mem_append_right _ h)))))) g
theorem GW_p {w : Cond} (h : w ∈ k2_sels lw_privs) (g : goodWord w = true) : w ∈ GW := GW_of (List.mem_append_left _ h) g
theorem GW_ok {w : Cond} (h : w ∈ GW) : goodWord w = true := (List.mem_filter.mp h).2
theorem GW_in {ws : List Cond} (h : ∀ w ∈ ws, w ∈ GW) : GoodIn GW ws := fun w hw => ⟨h w hw, good_of_word (GW_ok (h w hw))⟩
abbrev WL (y : MethodName) (cc : ByteArray) (n : Nat) (ret : Option FieldType) : List Cond := Cond.code y cc n ret :: GW
theorem GW_wl {y : MethodName} {cc : ByteArray} {n : Nat} {ret : Option FieldType} (h : Cond.code y cc n ret ∈ GW) : ∀ w ∈ WL y cc n ret, w ∈ GW := fun _ hw => (List.mem_cons.mp hw).elim (fun e => e ▸ h) id
theorem GW_v {own C : String} {i : Nat} {y : MethodName} {ws : List Cond} (h1 : Cond.methodLink own i y ∈ GW) (h2 : Cond.instanceMethod y ∈ GW) (h3 : Cond.selects C y y ∈ GW) (h4 : Cond.initialized C ∈ GW) (h : ∀ w ∈ ws, w ∈ GW) : GoodIn GW (wsV own i C y ws) := GW_in (fun w hw => by
  unfold wsV at hw
  rcases List.mem_append.mp hw with hw | hw
  · rcases List.mem_cons.mp hw with rfl | hw
    · exact h1
    rcases List.mem_cons.mp hw with rfl | hw
    · exact h2
    rcases List.mem_cons.mp hw with rfl | hw
    · exact h3
    rcases List.mem_cons.mp hw with rfl | hw
    · exact h4
    · cases hw
  · exact h w hw)
theorem GW_s {own : String} {i : Nat} {y : MethodName} {ws : List Cond} (h1 : Cond.methodLink own i y ∈ GW) (h2 : Cond.static y ∈ GW) (h4 : Cond.initialized own ∈ GW) (h : ∀ w ∈ ws, w ∈ GW) : GoodIn GW (wsS own i y ws) := GW_in (fun w hw => by
  unfold wsS at hw
  rcases List.mem_append.mp hw with hw | hw
  · rcases List.mem_cons.mp hw with rfl | hw
    · exact h1
    rcases List.mem_cons.mp hw with rfl | hw
    · exact h2
    rcases List.mem_cons.mp hw with rfl | hw
    · exact h4
    · cases hw
  · exact h w hw)
theorem GW_u {own C owner : String} {i : Nat} {x y : MethodName} {ws : List Cond} (h1 : Cond.methodLink own i x ∈ GW) (h2 : Cond.sameMethod x.cls owner x.name x.desc ∈ GW) (h3 : Cond.selects C x y ∈ GW) (h4 : Cond.instanceMethod y ∈ GW) (h5 : Cond.initialized y.cls ∈ GW) (h : ∀ w ∈ ws, w ∈ GW) : GoodIn GW (va_wsU own i C owner x y ws) := GW_in (fun w hw => by
  unfold va_wsU at hw
  rcases List.mem_append.mp hw with hw | hw
  · rcases List.mem_cons.mp hw with rfl | hw
    · exact h1
    rcases List.mem_cons.mp hw with rfl | hw
    · exact h2
    rcases List.mem_cons.mp hw with rfl | hw
    · exact h3
    rcases List.mem_cons.mp hw with rfl | hw
    · exact h4
    rcases List.mem_cons.mp hw with rfl | hw
    · exact h5
    · cases hw
  · exact h w hw)
theorem GW_o {own C owner : String} {i : Nat} {x y : MethodName} {ws : List Cond} (h1 : Cond.methodLink own i x ∈ GW) (h2 : Cond.sameMethod x.cls owner x.name x.desc ∈ GW) (h6 : Cond.instanceMethod ⟨owner, x.name, x.desc⟩ ∈ GW) (h3 : Cond.selects C x y ∈ GW) (h4 : Cond.instanceMethod y ∈ GW) (h5 : Cond.initialized y.cls ∈ GW) (h : ∀ w ∈ ws, w ∈ GW) : GoodIn GW (va_wsO own i C owner x y ws) := GW_in (fun w hw => by
  unfold va_wsO at hw
  rcases List.mem_append.mp hw with hw | hw
  · rcases List.mem_cons.mp hw with rfl | hw
    · exact h1
    rcases List.mem_cons.mp hw with rfl | hw
    · exact h2
    rcases List.mem_cons.mp hw with rfl | hw
    · exact h6
    rcases List.mem_cons.mp hw with rfl | hw
    · exact h3
    rcases List.mem_cons.mp hw with rfl | hw
    · exact h4
    rcases List.mem_cons.mp hw with rfl | hw
    · exact h5
    · cases hw
  · exact h w hw)
/-- decode rows of a method, checked at once -/
theorem dc_at {cc : ByteArray} {tb : List (Nat × Instr × Nat)} (h : tb.all (fun q => decide (decode cc q.1 = .ok q.2)) = true) (k : Nat) {pc : Nat} {i : Instr × Nat} (hk : tb[k]? = some (pc, i)) : decode cc pc = .ok i := by
  have h1 := List.all_eq_true.mp h _ (List.mem_of_getElem? hk)
  dsimp only at h1
  exact of_decide_eq_true h1
/-- the array classes of the worlds -/
def tysF (cy : Nat → ClassId) : List (ClassId × FieldType) := [(cy 0, .int), (cy 1, .boolean), (cy 2, .object "PipeWorks$Thing"), (cy 3, .array .int)]
def PreW (D : va_G) (cy : Nat → ClassId) (w : va_W) (sz : Nat) (U : State) : Prop := U.heap.size = sz ∧ va_P D vwCl w U.heap ∧ va_K D vwCl (tysF cy) U ∧ va_D (fun _ => True) w ∧ NX U
def PostW (D : va_G) (Z : Nat → Prop) (w : va_W) (t : State) : Prop := va_P D vwCl w t.heap ∧ va_D Z w
def HXw (D : va_G) (Z : Nat → Prop) (H0 H : Heap) (locs : List Loc) (w : va_W) : Prop := va_P D vwCl w H ∧ va_D Z w ∧ va_S Z H0 H locs
def CX (D : va_G) (cy : Nat → ClassId) (own : String) (cc : ByteArray) (tb : List (Nat × Instr × Nat)) (nL : Nat) (p : Program) (s : State) (m : MethodId) (args : Array Value) (c : Code) (Z : Nat → Prop) : Prop :=
  CallFix p m c cc nL s args GW own ∧ va_K D vwCl (tysF cy) s ∧ NX s ∧ (∀ q, s.heap.size ≤ q → Z q) ∧ tb.all (fun q => decide (decode cc q.1 = .ok q.2)) = true
theorem PreW.blind {D : va_G} {cy : Nat → ClassId} {w : va_W} {sz : Nat} (av : List Value) : FrameBlind (va_Pc av (PreW D cy w sz)) := fun _ U g mk q => by
  obtain ⟨q0, q1, qP, qK, qD, qN⟩ := q
  exact ⟨q0, q1, qP, va_K.moved (u := U) (U := U.calling g mk _) (Vm.Alike.refl U.vm) qK, qD, NX.same (u := U) (U := U.calling g mk _) rfl qN⟩
section BASE1
variable {p : Program} {l : Launch} {e : Env} {R : Room} {s : State} {m : MethodId} {args : Array Value} {below : List Frame} {meth : Method} {c : Code} {H : Heap} {locs : List Loc} {cells slots : Nat} {Q : State → Prop}
variable {cc : ByteArray} {pc nL : Nat} {ls : Array Slot} {rest st0 : List Value} {D : va_G} {cy : Nat → ClassId} {Z : Nat → Prop} {own : String} {w : va_W} {tb : List (Nat × Instr × Nat)}
theorem CX.hx (C : CX D cy own cc tb nL p s m args c Z) : p.tables.exec = Jvm.exec := C.1.1
theorem CX.hb (C : CX D cy own cc tb nL p s m args c Z) : c.code = cc := C.1.2.1
theorem CX.hml (C : CX D cy own cc tb nL p s m args c Z) : c.maxLocals = nL := C.1.2.2.1
theorem CX.hown (C : CX D cy own cc tb nL p s m args c Z) : s.vm.findClass own = some m.cls := C.1.2.2.2.1
theorem CX.hts (C : CX D cy own cc tb nL p s m args c Z) : ∀ w ∈ GW, w.before args s = true := C.1.2.2.2.2
theorem CX.hK (C : CX D cy own cc tb nL p s m args c Z) : va_K D vwCl (tysF cy) s := C.2.1
theorem CX.hN (C : CX D cy own cc tb nL p s m args c Z) : NX s := C.2.2.1
theorem CX.hA (C : CX D cy own cc tb nL p s m args c Z) : ∀ q, s.heap.size ≤ q → Z q := C.2.2.2.1
theorem CX.dg (C : CX D cy own cc tb nL p s m args c Z) {k pc : Nat} {i : Instr × Nat} (hk : tb[k]? = some (pc, i)) : decode cc pc = .ok i := dc_at C.2.2.2.2 k hk
/-- what a callee may touch lies in the caller's part -/
theorem HXw.free (C : CX D cy own cc tb nL p s m args c Z) (h : HXw D Z s.heap H locs w) : ∀ q, va_A w H.size q → Z q := by
  intro q hq
  rcases hq with ⟨k, e, hk⟩ | hq
  · exact h.2.1.2 k _ hk
  · exact C.hA q (Nat.le_trans h.2.2.1 hq)
theorem HXw.preS (C : CX D cy own cc tb nL p s m args c Z) (h : HXw D Z s.heap H locs w) (As : List Value) : PreS s H (va_Pc As (PreW D cy w H.size)) As :=
  ⟨PreW.blind As, fun U hU hW => ⟨rfl, by rw [hU], by rw [hU]; exact h.1, va_K.moved hW.alike C.hK, h.2.1.weaken (fun _ _ _ _ => trivial), NX.warm hW C.hN⟩⟩
theorem HXw.preV (C : CX D cy own cc tb nL p s m args c Z) (h : HXw D Z s.heap H locs w) {ci q0 : Nat} {q : vw_C} {b : Nat} {fs : List Value} (hc : vwCl[ci]? = some q) (he : w[q0]? = some (b, .inr (ci, fs))) (As : List Value) : PreV s H q.1 b (va_Pc (.ref b :: As) (PreW D cy w H.size)) As :=
  ⟨PreW.blind _, va_recv C.hK h.1 hc he, fun U hU hW => ⟨rfl, by rw [hU], by rw [hU]; exact h.1, va_K.moved hW.alike C.hK, h.2.1.weaken (fun _ _ _ _ => trivial), NX.warm hW C.hN⟩⟩
/-- behind a call that leaves the heap as it was -/
theorem call_p {post : Int32 → Prop} {a : Array Value} (hr : va_Run p l e R s m args below meth c H locs cells slots 0 0 (F0 m pc ls st0) rest (vp_Si post a) (fun _ => False))
    (kk : ∀ r : Int32, post r → W p l e R s m args below meth c H locs cells slots Q (F0 m (pc + 3) ls (.int r :: rest))) : W p l e R s m args below meth c H locs cells slots Q (F0 m pc ls st0) := by
  intro T hT X
  obtain ⟨v, st₀, t, T', L, h0, X', hL, e1, e2, ⟨r, hv, hp, hh⟩, st⟩ := hr T hT X
  cases hv
  obtain ⟨t2, a1, b1⟩ := kk r hp T' (by rw [e1, hh, h0]) (Stand.forget X' (fun q h => (hL q h).elim))
  exact ⟨t2, st t2 a1, b1⟩
/-- behind a call that leaves the world wf u -/
theorem call_i {S : Type} {wf : S → va_W} {post : Int32 → S → Prop} {a : Array Value} {mc ms : Nat} (C : CX D cy own cc tb nL p s m args c Z) (h : HXw D Z s.heap H locs w) (hr : va_Run p l e R s m args below meth c H locs cells slots mc ms (F0 m pc ls st0) rest (va_Qi post (fun u t => PostW D (va_A w H.size) (wf u) t) (va_A w H.size) a) (va_A w H.size))
    (kk : ∀ (r : Int32) (u : S) (H1 : Heap) (locs1 : List Loc), post r u → HXw D Z s.heap H1 locs1 (wf u) → W p l e R s m args below meth c H1 locs1 (cells + mc) (slots + ms) Q (F0 m (pc + 3) ls (.int r :: rest))) : W p l e R s m args below meth c H locs cells slots Q (F0 m pc ls st0) := by
  have hF := h.free C
  refine va_calli hr h.2.2 (fun q _ h => hF q h) hF (fun r u t H1 locs1 ht hvm hw hB _ _ hS => ?_)
  subst ht
  exact kk r u _ _ hw ⟨hB.1, hB.2.weaken (fun _ _ _ hq => hF _ hq), hS⟩
theorem call_v {S : Type} {wf : S → va_W} {post : S → Prop} {a : Array Value} {mc ms : Nat} (C : CX D cy own cc tb nL p s m args c Z) (h : HXw D Z s.heap H locs w) (hr : va_Run p l e R s m args below meth c H locs cells slots mc ms (F0 m pc ls st0) rest (va_Qv post (fun u t => PostW D (va_A w H.size) (wf u) t) (va_A w H.size) a) (va_A w H.size))
    (kk : ∀ (u : S) (H1 : Heap) (locs1 : List Loc), post u → HXw D Z s.heap H1 locs1 (wf u) → W p l e R s m args below meth c H1 locs1 (cells + mc) (slots + ms) Q (F0 m (pc + 3) ls rest)) : W p l e R s m args below meth c H locs cells slots Q (F0 m pc ls st0) := by
  have hF := h.free C
  refine va_callv hr h.2.2 (fun q _ h => hF q h) hF (fun u t H1 locs1 ht hvm hw hB _ _ hS => ?_)
  subst ht
  exact kk u _ _ hw ⟨hB.1, hB.2.weaken (fun _ _ _ hq => hF _ hq), hS⟩
end BASE1
/-- a method's contract out of a walk of its body: heap as it was -/
theorem met_p {l : Launch} {D : va_G} {cy : Nat → ClassId} {y : MethodName} {cc : ByteArray} {maxL : Nat} {ret : Option FieldType} {fr lo : Nat} {av : List Value} {w : va_W} {post : Int32 → Prop} (own : String) (ty : FieldType) {tb : List (Nat × Instr × Nat)} (hdb : tb.all (fun q => decide (decode cc q.1 = .ok q.2)) = true) (hy : plainName y.cls = true) (ho : y.cls = own) (hret : ret = some ty) (hlen : (lg_sl av).length ≤ maxL)
    (body : ∀ (p : Program) (e : Env) (s : State) (m : MethodId) (below : List Frame) (meth : Method) (c : Code) (Z : Nat → Prop) (Q : State → Prop) (ls : Array Slot), CX D cy own cc tb maxL p s m av.toArray c Z → HXw D Z s.heap s.heap [] w → lv_has ls maxL (lv_args 0 av) →
      (∀ (v : Int32) (pc : Nat) (ls : Array Slot), narrow ty (.int v) = .int v → post v → decode cc pc = .ok (.ireturn, 1) → W p l e { frames := fr, cells := 0, slots := 0, locals := lo } s m av.toArray below meth c s.heap [] 0 0 Q (F0 m pc ls [.int v])) →
      W p l e { frames := fr, cells := 0, slots := 0, locals := lo } s m av.toArray below meth c s.heap [] 0 0 Q (F0 m 0 ls [])) :
    ∀ sz, Met l y (WL y cc maxL ret) { frames := fr, cells := 0, slots := 0, locals := lo } (va_Pc av (PreW D cy w sz)) (vp_Si post) 0 0 (fun _ => False) := by
  intro sz
  refine Met.ofW (cc := cc) (maxL := maxL) (ret := ret) hy rfl ?_
  intro p e s m args below meth c s₁ B hml hv
  obtain ⟨rfl, hsz, hP, hK, hD0, hN⟩ := hv
  subst hsz
  have hts := atoms_spec (ws := WL y cc maxL ret) B.pre
  have hown : s.vm.findClass own = some m.cls := ho ▸ findClass_of_methodNamed B.named
  have hl := lv_entry av (n := maxL) hlen
  rw [lg_entry_eq]
  generalize (lg_sl av ++ List.replicate (maxL - (lg_sl av).length) Slot.unset).toArray = ls at hl ⊢
  have hlk := B.notSynchronized
  exact body p e s m below meth c (va_A w s.heap.size) _ ls ⟨⟨B.exec, B.bytes, hml, hown, fun w hw => hts w (List.mem_cons_of_mem _ hw)⟩, hK, hN, fun q h => Or.inr h, hdb⟩ ⟨hP, hD0.self, va_S.rf⟩ hl
    (fun v pc ls hn hp hd => W.zret (ty := ty) B.exec B.bytes (B.returns.trans hret) hn (fun t ht _ => ⟨v, rfl, hp, ht⟩) (fun q hq => by cases hq) hd)
/-- a method's contract out of a walk of its body: an int, and the world wf u -/
theorem met_i {l : Launch} {D : va_G} {cy : Nat → ClassId} {y : MethodName} {cc : ByteArray} {maxL : Nat} {ret : Option FieldType} {fr lo mc ms : Nat} {av : List Value} {w : va_W} {S : Type} {wf : S → va_W} {post : Int32 → S → Prop} (own : String) (ty : FieldType) {tb : List (Nat × Instr × Nat)} (hdb : tb.all (fun q => decide (decode cc q.1 = .ok q.2)) = true) (hy : plainName y.cls = true) (ho : y.cls = own) (hret : ret = some ty) (hlen : (lg_sl av).length ≤ maxL)
    (body : ∀ (p : Program) (e : Env) (s : State) (m : MethodId) (below : List Frame) (meth : Method) (c : Code) (Z : Nat → Prop) (Q : State → Prop) (ls : Array Slot), CX D cy own cc tb maxL p s m av.toArray c Z → HXw D Z s.heap s.heap [] w → lv_has ls maxL (lv_args 0 av) →
      (∀ (v : Int32) (u : S) (H : Heap) (locs : List Loc) (pc : Nat) (ls : Array Slot), narrow ty (.int v) = .int v → post v u → HXw D Z s.heap H locs (wf u) → decode cc pc = .ok (.ireturn, 1) → W p l e { frames := fr, cells := mc, slots := ms, locals := lo } s m av.toArray below meth c H locs mc ms Q (F0 m pc ls [.int v])) →
      W p l e { frames := fr, cells := mc, slots := ms, locals := lo } s m av.toArray below meth c s.heap [] 0 0 Q (F0 m 0 ls [])) :
    ∀ sz, Met l y (WL y cc maxL ret) { frames := fr, cells := mc, slots := ms, locals := lo } (va_Pc av (PreW D cy w sz)) (va_Qi post (fun u t => PostW D (va_A w sz) (wf u) t) (va_A w sz)) mc ms (va_A w sz) := by
  intro sz
  refine Met.ofW (cc := cc) (maxL := maxL) (ret := ret) hy rfl ?_
  intro p e s m args below meth c s₁ B hml hv
  obtain ⟨rfl, hsz, hP, hK, hD0, hN⟩ := hv
  subst hsz
  have hts := atoms_spec (ws := WL y cc maxL ret) B.pre
  have hown : s.vm.findClass own = some m.cls := ho ▸ findClass_of_methodNamed B.named
  have hl := lv_entry av (n := maxL) hlen
  rw [lg_entry_eq]
  generalize (lg_sl av ++ List.replicate (maxL - (lg_sl av).length) Slot.unset).toArray = ls at hl ⊢
  have hlk := B.notSynchronized
  exact body p e s m below meth c (va_A w s.heap.size) _ ls ⟨⟨B.exec, B.bytes, hml, hown, fun w hw => hts w (List.mem_cons_of_mem _ hw)⟩, hK, hN, fun q h => Or.inr h, hdb⟩ ⟨hP, hD0.self, va_S.rf⟩ hl
    (fun v u H locs pc ls hn hp h hd => W.zret (ty := ty) B.exec B.bytes (B.returns.trans hret) hn (fun t ht _ => ⟨⟨v, u, rfl, hp, by rw [ht]; exact h.1, h.2.1⟩, h.2.2.F ht⟩) h.2.2.2.2 hd)
theorem met_v {l : Launch} {D : va_G} {cy : Nat → ClassId} {y : MethodName} {cc : ByteArray} {maxL : Nat} {fr lo mc ms : Nat} {av : List Value} {w : va_W} {S : Type} {wf : S → va_W} {post : S → Prop} (own : String) {tb : List (Nat × Instr × Nat)} (hdb : tb.all (fun q => decide (decode cc q.1 = .ok q.2)) = true) (hy : plainName y.cls = true) (ho : y.cls = own) (hlen : (lg_sl av).length ≤ maxL)
    (body : ∀ (p : Program) (e : Env) (s : State) (m : MethodId) (below : List Frame) (meth : Method) (c : Code) (Z : Nat → Prop) (Q : State → Prop) (ls : Array Slot), meth.name = y.name → CX D cy own cc tb maxL p s m av.toArray c Z → HXw D Z s.heap s.heap [] w → lv_has ls maxL (lv_args 0 av) →
      (∀ (u : S) (H : Heap) (locs : List Loc) (pc : Nat) (ls : Array Slot), post u → HXw D Z s.heap H locs (wf u) → decode cc pc = .ok (.return_, 1) → W p l e { frames := fr, cells := mc, slots := ms, locals := lo } s m av.toArray below meth c H locs mc ms Q (F0 m pc ls [])) →
      W p l e { frames := fr, cells := mc, slots := ms, locals := lo } s m av.toArray below meth c s.heap [] 0 0 Q (F0 m 0 ls [])) :
    ∀ sz, Met l y (WL y cc maxL none) { frames := fr, cells := mc, slots := ms, locals := lo } (va_Pc av (PreW D cy w sz)) (va_Qv post (fun u t => PostW D (va_A w sz) (wf u) t) (va_A w sz)) mc ms (va_A w sz) := by
  intro sz
  refine Met.ofW (cc := cc) (maxL := maxL) (ret := none) hy rfl ?_
  intro p e s m args below meth c s₁ B hml hv
  obtain ⟨rfl, hsz, hP, hK, hD0, hN⟩ := hv
  subst hsz
  have hts := atoms_spec (ws := WL y cc maxL none) B.pre
  have hown : s.vm.findClass own = some m.cls := ho ▸ findClass_of_methodNamed B.named
  have hin : meth.name = y.name := (name_of_methodNamed B.named B.method).1
  have hl := lv_entry av (n := maxL) hlen
  rw [lg_entry_eq]
  generalize (lg_sl av ++ List.replicate (maxL - (lg_sl av).length) Slot.unset).toArray = ls at hl ⊢
  have hlk := B.notSynchronized
  exact body p e s m below meth c (va_A w s.heap.size) _ ls hin ⟨⟨B.exec, B.bytes, hml, hown, fun w hw => hts w (List.mem_cons_of_mem _ hw)⟩, hK, hN, fun q h => Or.inr h, hdb⟩ ⟨hP, hD0.self, va_S.rf⟩ hl
    (fun u H locs pc ls hp h hd => W.vret B.exec B.bytes B.returns (fun t ht _ => ⟨⟨u, rfl, hp, by rw [ht]; exact h.1, h.2.1⟩, h.2.2.F ht⟩) h.2.2.2.2 hd)
end
section
theorem w_mmax_s : Cond.static Lib.Math.max.name ∈ GW := GW_3 (List.mem_of_getElem? (i := 211) (by decide +kernel)) (by decide +kernel)
theorem w_mmax_c : Cond.code Lib.Math.max.name Lib.Math.max.code 2 (some .int) ∈ GW := GW_3 (List.mem_of_getElem? (i := 212) (by decide +kernel)) (by decide +kernel)
theorem w_mmin_s : Cond.static Lib.Math.min.name ∈ GW := GW_4 (List.mem_of_getElem? (i := 48) (by decide +kernel)) (by decide +kernel)
theorem w_mmin_c : Cond.code Lib.Math.min.name Lib.Math.min.code 2 (some .int) ∈ GW := GW_4 (List.mem_of_getElem? (i := 49) (by decide +kernel)) (by decide +kernel)
theorem w_mabs_s : Cond.static Lib.Math.abs.name ∈ GW := GW_3 (List.mem_of_getElem? (i := 214) (by decide +kernel)) (by decide +kernel)
theorem w_mabs_c : Cond.code Lib.Math.abs.name Lib.Math.abs.code 1 (some .int) ∈ GW := GW_3 (List.mem_of_getElem? (i := 215) (by decide +kernel)) (by decide +kernel)
theorem w_Math_i : Cond.initialized "java/lang/Math" ∈ GW := GW_1 (List.mem_of_getElem? (i := 16) (by decide +kernel)) (by decide +kernel)
theorem in_Br : ∀ w ∈ u_ws R_Br T_Br 6, w ∈ GW := fun w hw => GW_of (il_Br w hw) (List.all_eq_true.mp ig_Br w hw)
theorem in_Dr : ∀ w ∈ u_ws R_Dr T_Dr 3, w ∈ GW := fun w hw => GW_of (il_Dr w hw) (List.all_eq_true.mp ig_Dr w hw)
theorem in_Ho : ∀ w ∈ u_ws R_Ho T_Ho 7, w ∈ GW := fun w hw => GW_of (il_Ho w hw) (List.all_eq_true.mp ig_Ho w hw)
theorem in_Le : ∀ w ∈ u_ws R_Le T_Le 3, w ∈ GW := fun w hw => GW_of (il_Le w hw) (List.all_eq_true.mp ig_Le w hw)
theorem in_Li : ∀ w ∈ u_ws R_Li T_Li 4, w ∈ GW := fun w hw => GW_of (il_Li w hw) (List.all_eq_true.mp ig_Li w hw)
theorem in_Ne : ∀ w ∈ u_ws R_Ne T_Ne 17, w ∈ GW := fun w hw => GW_of (il_Ne w hw) (List.all_eq_true.mp ig_Ne w hw)
theorem in_Or : ∀ w ∈ u_ws R_Or T_Or 6, w ∈ GW := fun w hw => GW_of (il_Or w hw) (List.all_eq_true.mp ig_Or w hw)
theorem in_Pi : ∀ w ∈ u_ws R_Pi T_Pi 8, w ∈ GW := fun w hw => GW_of (il_Pi w hw) (List.all_eq_true.mp ig_Pi w hw)
theorem in_Pl : ∀ w ∈ u_ws R_Pl T_Pl 8, w ∈ GW := fun w hw => GW_of (il_Pl w hw) (List.all_eq_true.mp ig_Pl w hw)
theorem in_To : ∀ w ∈ u_ws R_To T_To 3, w ∈ GW := fun w hw => GW_of (il_To w hw) (List.all_eq_true.mp ig_To w hw)
theorem in_Pw : ∀ w ∈ u_ws R_Pw T_Pw 16, w ∈ GW := fun w hw => GW_of (il_Pw w hw) (List.all_eq_true.mp ig_Pw w hw)
theorem in_Mo : ∀ w ∈ u_ws R_Mo T_Mo 50, w ∈ GW := fun w hw => GW_of (il_Mo w hw) (List.all_eq_true.mp ig_Mo w hw)
end
section
section STEPS
variable {p : Program} {l : Launch} {e : Env} {R : Room} {s : State} {m : MethodId} {args : Array Value} {below : List Frame} {meth : Method} {c : Code} {H : Heap} {locs : List Loc} {cells slots : Nat} {Q : State → Prop}
variable {cc : ByteArray} {pc n nL : Nat} {ls : Array Slot} {rest : List Value} {D : va_G} {cy : Nat → ClassId} {Z : Nat → Prop} {own : String} {w : va_W} {tb : List (Nat × Instr × Nat)} {lv lv' : List (Nat × Value)}

theorem i_iconst {z : Int} {v : Int32} (C : CX D cy own cc tb nL p s m args c Z) (k : Nat) (hk : tb[k]? = some (pc, .iconst z, 1)) (hn : pc + 1 = n) (hv : Int32.ofInt z = v) (kk : W p l e R s m args below meth c H locs cells slots Q (F0 m n ls (.int v :: rest))) : W p l e R s m args below meth c H locs cells slots Q (F0 m pc ls rest) := by
  subst hn
  exact lv_iconst C.hx C.hb (C.dg hk) hv kk
theorem i_bipush {z : Int} {v : Int32} (C : CX D cy own cc tb nL p s m args c Z) (k : Nat) (hk : tb[k]? = some (pc, .bipush z, 2)) (hn : pc + 2 = n) (hv : (Int8.ofInt z).toInt32 = v) (kk : W p l e R s m args below meth c H locs cells slots Q (F0 m n ls (.int v :: rest))) : W p l e R s m args below meth c H locs cells slots Q (F0 m pc ls rest) := by
  subst hn
  exact lv_bipush C.hx C.hb (C.dg hk) hv kk
theorem i_sipush {z : Int} {v : Int32} (C : CX D cy own cc tb nL p s m args c Z) (k : Nat) (hk : tb[k]? = some (pc, .sipush z, 3)) (hn : pc + 3 = n) (hv : (Int16.ofInt z).toInt32 = v) (kk : W p l e R s m args below meth c H locs cells slots Q (F0 m n ls (.int v :: rest))) : W p l e R s m args below meth c H locs cells slots Q (F0 m pc ls rest) := by
  subst hn
  exact lv_sipush C.hx C.hb (C.dg hk) hv kk
theorem i_ldc {x : Nat} {v : Int32} (C : CX D cy own cc tb nL p s m args c Z) (k : Nat) (hk : tb[k]? = some (pc, .ldc x, 2)) (hn : pc + 2 = n) (hw : Cond.constant own x v ∈ GW) (kk : W p l e R s m args below meth c H locs cells slots Q (F0 m n ls (.int v :: rest))) : W p l e R s m args below meth c H locs cells slots Q (F0 m pc ls rest) := by
  subst hn
  exact lv_ldc C.hx C.hb C.hown (C.hts _ hw) (C.dg hk) kk
theorem i_ldcw {x : Nat} {v : Int32} (C : CX D cy own cc tb nL p s m args c Z) (k : Nat) (hk : tb[k]? = some (pc, .ldc_w x, 3)) (hn : pc + 3 = n) (hw : Cond.constant own x v ∈ GW) (kk : W p l e R s m args below meth c H locs cells slots Q (F0 m n ls (.int v :: rest))) : W p l e R s m args below meth c H locs cells slots Q (F0 m pc ls rest) := by
  subst hn
  exact lv_ldcw C.hx C.hb C.hown (C.hts _ hw) (C.dg hk) kk
theorem i_iload_n {f : Fin 4} {i : Nat} {x : Int32} (C : CX D cy own cc tb nL p s m args c Z) (k : Nat) (hk : tb[k]? = some (pc, .iload_n f, 1)) (hn : pc + 1 = n) (hi : (f : Nat) = i) (hl : lv_has ls nL lv) (j : Nat) (hj : lv[j]? = some (i, .int x)) (kk : W p l e R s m args below meth c H locs cells slots Q (F0 m n ls (.int x :: rest))) : W p l e R s m args below meth c H locs cells slots Q (F0 m pc ls rest) := by
  subst hn
  exact lv_iload_n C.hx C.hb (C.dg hk) hi (lv_at hl j hj) kk
theorem i_iload {i : Nat} {x : Int32} (C : CX D cy own cc tb nL p s m args c Z) (k : Nat) (hk : tb[k]? = some (pc, .iload i, 2)) (hn : pc + 2 = n) (hl : lv_has ls nL lv) (j : Nat) (hj : lv[j]? = some (i, .int x)) (kk : W p l e R s m args below meth c H locs cells slots Q (F0 m n ls (.int x :: rest))) : W p l e R s m args below meth c H locs cells slots Q (F0 m pc ls rest) := by
  subst hn
  exact lv_iload C.hx C.hb (C.dg hk) (lv_at hl j hj) kk
theorem i_aload_n {f : Fin 4} {i : Nat} {x : Nat} (C : CX D cy own cc tb nL p s m args c Z) (k : Nat) (hk : tb[k]? = some (pc, .aload_n f, 1)) (hn : pc + 1 = n) (hi : (f : Nat) = i) (hl : lv_has ls nL lv) (j : Nat) (hj : lv[j]? = some (i, .ref x)) (kk : W p l e R s m args below meth c H locs cells slots Q (F0 m n ls (.ref x :: rest))) : W p l e R s m args below meth c H locs cells slots Q (F0 m pc ls rest) := by
  subst hn
  exact lv_aload_n C.hx C.hb (C.dg hk) hi (lv_at hl j hj) kk
theorem i_aload {i : Nat} {x : Nat} (C : CX D cy own cc tb nL p s m args c Z) (k : Nat) (hk : tb[k]? = some (pc, .aload i, 2)) (hn : pc + 2 = n) (hl : lv_has ls nL lv) (j : Nat) (hj : lv[j]? = some (i, .ref x)) (kk : W p l e R s m args below meth c H locs cells slots Q (F0 m n ls (.ref x :: rest))) : W p l e R s m args below meth c H locs cells slots Q (F0 m pc ls rest) := by
  subst hn
  exact lv_aload C.hx C.hb (C.dg hk) (lv_at hl j hj) kk
theorem i_aload_nN {f : Fin 4} {i : Nat} (C : CX D cy own cc tb nL p s m args c Z) (k : Nat) (hk : tb[k]? = some (pc, .aload_n f, 1)) (hn : pc + 1 = n) (hi : (f : Nat) = i) (hl : lv_has ls nL lv) (j : Nat) (hj : lv[j]? = some (i, .null)) (kk : W p l e R s m args below meth c H locs cells slots Q (F0 m n ls (.null :: rest))) : W p l e R s m args below meth c H locs cells slots Q (F0 m pc ls rest) := by
  subst hn
  exact lv_aload_nN C.hx C.hb (C.dg hk) hi (lv_at hl j hj) kk
theorem i_aloadN {i : Nat} (C : CX D cy own cc tb nL p s m args c Z) (k : Nat) (hk : tb[k]? = some (pc, .aload i, 2)) (hn : pc + 2 = n) (hl : lv_has ls nL lv) (j : Nat) (hj : lv[j]? = some (i, .null)) (kk : W p l e R s m args below meth c H locs cells slots Q (F0 m n ls (.null :: rest))) : W p l e R s m args below meth c H locs cells slots Q (F0 m pc ls rest) := by
  subst hn
  exact lv_aloadN C.hx C.hb (C.dg hk) (lv_at hl j hj) kk
theorem i_iadd {x y : Int32} (C : CX D cy own cc tb nL p s m args c Z) (k : Nat) (hk : tb[k]? = some (pc, .iadd, 1)) (hn : pc + 1 = n)  (kk : W p l e R s m args below meth c H locs cells slots Q (F0 m n ls (.int (x + y) :: rest))) : W p l e R s m args below meth c H locs cells slots Q (F0 m pc ls (.int y :: .int x :: rest)) := by
  subst hn
  exact lv_iadd C.hx C.hb (C.dg hk) kk
theorem i_isub {x y : Int32} (C : CX D cy own cc tb nL p s m args c Z) (k : Nat) (hk : tb[k]? = some (pc, .isub, 1)) (hn : pc + 1 = n)  (kk : W p l e R s m args below meth c H locs cells slots Q (F0 m n ls (.int (x - y) :: rest))) : W p l e R s m args below meth c H locs cells slots Q (F0 m pc ls (.int y :: .int x :: rest)) := by
  subst hn
  exact lv_isub C.hx C.hb (C.dg hk) kk
theorem i_imul {x y : Int32} (C : CX D cy own cc tb nL p s m args c Z) (k : Nat) (hk : tb[k]? = some (pc, .imul, 1)) (hn : pc + 1 = n)  (kk : W p l e R s m args below meth c H locs cells slots Q (F0 m n ls (.int (x * y) :: rest))) : W p l e R s m args below meth c H locs cells slots Q (F0 m pc ls (.int y :: .int x :: rest)) := by
  subst hn
  exact lv_imul C.hx C.hb (C.dg hk) kk
theorem i_iand {x y : Int32} (C : CX D cy own cc tb nL p s m args c Z) (k : Nat) (hk : tb[k]? = some (pc, .iand, 1)) (hn : pc + 1 = n)  (kk : W p l e R s m args below meth c H locs cells slots Q (F0 m n ls (.int (x &&& y) :: rest))) : W p l e R s m args below meth c H locs cells slots Q (F0 m pc ls (.int y :: .int x :: rest)) := by
  subst hn
  exact lv_iand C.hx C.hb (C.dg hk) kk
theorem i_ior {x y : Int32} (C : CX D cy own cc tb nL p s m args c Z) (k : Nat) (hk : tb[k]? = some (pc, .ior, 1)) (hn : pc + 1 = n)  (kk : W p l e R s m args below meth c H locs cells slots Q (F0 m n ls (.int (x ||| y) :: rest))) : W p l e R s m args below meth c H locs cells slots Q (F0 m pc ls (.int y :: .int x :: rest)) := by
  subst hn
  exact lv_ior C.hx C.hb (C.dg hk) kk
theorem i_ixor {x y : Int32} (C : CX D cy own cc tb nL p s m args c Z) (k : Nat) (hk : tb[k]? = some (pc, .ixor, 1)) (hn : pc + 1 = n)  (kk : W p l e R s m args below meth c H locs cells slots Q (F0 m n ls (.int (x ^^^ y) :: rest))) : W p l e R s m args below meth c H locs cells slots Q (F0 m pc ls (.int y :: .int x :: rest)) := by
  subst hn
  exact lv_ixor C.hx C.hb (C.dg hk) kk
theorem i_ishl {x y : Int32} (C : CX D cy own cc tb nL p s m args c Z) (k : Nat) (hk : tb[k]? = some (pc, .ishl, 1)) (hn : pc + 1 = n)  (kk : W p l e R s m args below meth c H locs cells slots Q (F0 m n ls (.int (x <<< (y &&& 31)) :: rest))) : W p l e R s m args below meth c H locs cells slots Q (F0 m pc ls (.int y :: .int x :: rest)) := by
  subst hn
  exact lv_ishl C.hx C.hb (C.dg hk) kk
theorem i_ishr {x y : Int32} (C : CX D cy own cc tb nL p s m args c Z) (k : Nat) (hk : tb[k]? = some (pc, .ishr, 1)) (hn : pc + 1 = n)  (kk : W p l e R s m args below meth c H locs cells slots Q (F0 m n ls (.int (x >>> (y &&& 31)) :: rest))) : W p l e R s m args below meth c H locs cells slots Q (F0 m pc ls (.int y :: .int x :: rest)) := by
  subst hn
  exact lv_ishr C.hx C.hb (C.dg hk) kk
theorem i_iushr {x y : Int32} (C : CX D cy own cc tb nL p s m args c Z) (k : Nat) (hk : tb[k]? = some (pc, .iushr, 1)) (hn : pc + 1 = n)  (kk : W p l e R s m args below meth c H locs cells slots Q (F0 m n ls (.int ((x.toUInt32 >>> (y.toUInt32 &&& Int32.toUInt32 31)).toInt32) :: rest))) : W p l e R s m args below meth c H locs cells slots Q (F0 m pc ls (.int y :: .int x :: rest)) := by
  subst hn
  exact lv_iushr C.hx C.hb (C.dg hk) rfl kk
theorem i_idiv {x y : Int32} (C : CX D cy own cc tb nL p s m args c Z) (k : Nat) (hk : tb[k]? = some (pc, .idiv, 1)) (hn : pc + 1 = n) (hne : ¬ y = 0) (kk : W p l e R s m args below meth c H locs cells slots Q (F0 m n ls (.int (x / y) :: rest))) : W p l e R s m args below meth c H locs cells slots Q (F0 m pc ls (.int y :: .int x :: rest)) := by
  subst hn
  exact lv_idiv C.hx C.hb (C.dg hk) hne kk
theorem i_irem {x y : Int32} (C : CX D cy own cc tb nL p s m args c Z) (k : Nat) (hk : tb[k]? = some (pc, .irem, 1)) (hn : pc + 1 = n) (hne : ¬ y = 0) (kk : W p l e R s m args below meth c H locs cells slots Q (F0 m n ls (.int (x - x / y * y) :: rest))) : W p l e R s m args below meth c H locs cells slots Q (F0 m pc ls (.int y :: .int x :: rest)) := by
  subst hn
  exact lv_irem C.hx C.hb (C.dg hk) hne kk
theorem i_ineg {x : Int32} (C : CX D cy own cc tb nL p s m args c Z) (k : Nat) (hk : tb[k]? = some (pc, .ineg, 1)) (hn : pc + 1 = n)  (kk : W p l e R s m args below meth c H locs cells slots Q (F0 m n ls (.int (-x) :: rest))) : W p l e R s m args below meth c H locs cells slots Q (F0 m pc ls (.int x :: rest)) := by
  subst hn
  exact lv_ineg C.hx C.hb (C.dg hk) kk
theorem i_dup {va : Value} (C : CX D cy own cc tb nL p s m args c Z) (k : Nat) (hk : tb[k]? = some (pc, .dup, 1)) (hn : pc + 1 = n) (h1 : va.category = 1) (kk : W p l e R s m args below meth c H locs cells slots Q (F0 m n ls (va :: va :: rest))) : W p l e R s m args below meth c H locs cells slots Q (F0 m pc ls (va :: rest)) := by
  subst hn
  exact lv_dup C.hx C.hb (C.dg hk) h1 kk
theorem i_pop {va : Value} (C : CX D cy own cc tb nL p s m args c Z) (k : Nat) (hk : tb[k]? = some (pc, .pop, 1)) (hn : pc + 1 = n) (h1 : va.category = 1) (kk : W p l e R s m args below meth c H locs cells slots Q (F0 m n ls rest)) : W p l e R s m args below meth c H locs cells slots Q (F0 m pc ls (va :: rest)) := by
  subst hn
  exact lv_pop C.hx C.hb (C.dg hk) h1 kk
theorem i_dup_x1 {va vb : Value} (C : CX D cy own cc tb nL p s m args c Z) (k : Nat) (hk : tb[k]? = some (pc, .dup_x1, 1)) (hn : pc + 1 = n) (h1 : va.category = 1) (h2 : vb.category = 1) (kk : W p l e R s m args below meth c H locs cells slots Q (F0 m n ls (va :: vb :: va :: rest))) : W p l e R s m args below meth c H locs cells slots Q (F0 m pc ls (va :: vb :: rest)) := by
  subst hn
  exact lv_dup_x1 C.hx C.hb (C.dg hk) h1 h2 kk
theorem i_dup2 {va vb : Value} (C : CX D cy own cc tb nL p s m args c Z) (k : Nat) (hk : tb[k]? = some (pc, .dup2, 1)) (hn : pc + 1 = n) (h1 : va.category = 1) (h2 : vb.category = 1) (kk : W p l e R s m args below meth c H locs cells slots Q (F0 m n ls (va :: vb :: va :: vb :: rest))) : W p l e R s m args below meth c H locs cells slots Q (F0 m pc ls (va :: vb :: rest)) := by
  subst hn
  exact lv_dup2_11 C.hx C.hb (C.dg hk) h1 h2 kk
theorem i_null  (C : CX D cy own cc tb nL p s m args c Z) (k : Nat) (hk : tb[k]? = some (pc, .aconst_null, 1)) (hn : pc + 1 = n)  (kk : W p l e R s m args below meth c H locs cells slots Q (F0 m n ls (.null :: rest))) : W p l e R s m args below meth c H locs cells slots Q (F0 m pc ls rest) := by
  subst hn
  exact lv_null C.hx C.hb (C.dg hk) kk
theorem i_istore_n {f : Fin 4} {i : Nat} {x : Int32} (C : CX D cy own cc tb nL p s m args c Z) (k : Nat) (hk : tb[k]? = some (pc, .istore_n f, 1)) (hn : pc + 1 = n) (hi : (f : Nat) = i) (hl : lv_has ls nL lv) (hi2 : i < nL) (hf : (i, Value.int x) :: lv.filter (fun q => !(q.1 == i) && !(q.1 + 1 == i && q.2.category == 2)) = lv') (kk : ∀ ls : Array Slot, lv_has ls nL lv' → W p l e R s m args below meth c H locs cells slots Q (F0 m n ls rest)) : W p l e R s m args below meth c H locs cells slots Q (F0 m pc ls (Value.int x :: rest)) := by
  subst hn
  exact lv_istore_n C.hx C.hb (C.dg hk) hi hl hi2 hf kk
theorem i_istore {i : Nat} {x : Int32} (C : CX D cy own cc tb nL p s m args c Z) (k : Nat) (hk : tb[k]? = some (pc, .istore i, 2)) (hn : pc + 2 = n)  (hl : lv_has ls nL lv) (hi2 : i < nL) (hf : (i, Value.int x) :: lv.filter (fun q => !(q.1 == i) && !(q.1 + 1 == i && q.2.category == 2)) = lv') (kk : ∀ ls : Array Slot, lv_has ls nL lv' → W p l e R s m args below meth c H locs cells slots Q (F0 m n ls rest)) : W p l e R s m args below meth c H locs cells slots Q (F0 m pc ls (Value.int x :: rest)) := by
  subst hn
  exact lv_istore C.hx C.hb (C.dg hk) hl hi2 hf kk
theorem i_astore_n {f : Fin 4} {i : Nat} {x : Nat} (C : CX D cy own cc tb nL p s m args c Z) (k : Nat) (hk : tb[k]? = some (pc, .astore_n f, 1)) (hn : pc + 1 = n) (hi : (f : Nat) = i) (hl : lv_has ls nL lv) (hi2 : i < nL) (hf : (i, Value.ref x) :: lv.filter (fun q => !(q.1 == i) && !(q.1 + 1 == i && q.2.category == 2)) = lv') (kk : ∀ ls : Array Slot, lv_has ls nL lv' → W p l e R s m args below meth c H locs cells slots Q (F0 m n ls rest)) : W p l e R s m args below meth c H locs cells slots Q (F0 m pc ls (Value.ref x :: rest)) := by
  subst hn
  exact lv_astore_n C.hx C.hb (C.dg hk) hi hl hi2 hf kk
theorem i_astore {i : Nat} {x : Nat} (C : CX D cy own cc tb nL p s m args c Z) (k : Nat) (hk : tb[k]? = some (pc, .astore i, 2)) (hn : pc + 2 = n)  (hl : lv_has ls nL lv) (hi2 : i < nL) (hf : (i, Value.ref x) :: lv.filter (fun q => !(q.1 == i) && !(q.1 + 1 == i && q.2.category == 2)) = lv') (kk : ∀ ls : Array Slot, lv_has ls nL lv' → W p l e R s m args below meth c H locs cells slots Q (F0 m n ls rest)) : W p l e R s m args below meth c H locs cells slots Q (F0 m pc ls (Value.ref x :: rest)) := by
  subst hn
  exact lv_astore C.hx C.hb (C.dg hk) hl hi2 hf kk
theorem i_astore_nN {f : Fin 4} {i : Nat} (C : CX D cy own cc tb nL p s m args c Z) (k : Nat) (hk : tb[k]? = some (pc, .astore_n f, 1)) (hn : pc + 1 = n) (hi : (f : Nat) = i) (hl : lv_has ls nL lv) (hi2 : i < nL) (hf : (i, Value.null) :: lv.filter (fun q => !(q.1 == i) && !(q.1 + 1 == i && q.2.category == 2)) = lv') (kk : ∀ ls : Array Slot, lv_has ls nL lv' → W p l e R s m args below meth c H locs cells slots Q (F0 m n ls rest)) : W p l e R s m args below meth c H locs cells slots Q (F0 m pc ls (Value.null :: rest)) := by
  subst hn
  exact lv_astore_nN C.hx C.hb (C.dg hk) hi hl hi2 hf kk
theorem i_astoreN {i : Nat} (C : CX D cy own cc tb nL p s m args c Z) (k : Nat) (hk : tb[k]? = some (pc, .astore i, 2)) (hn : pc + 2 = n)  (hl : lv_has ls nL lv) (hi2 : i < nL) (hf : (i, Value.null) :: lv.filter (fun q => !(q.1 == i) && !(q.1 + 1 == i && q.2.category == 2)) = lv') (kk : ∀ ls : Array Slot, lv_has ls nL lv' → W p l e R s m args below meth c H locs cells slots Q (F0 m n ls rest)) : W p l e R s m args below meth c H locs cells slots Q (F0 m pc ls (Value.null :: rest)) := by
  subst hn
  exact lv_astoreN C.hx C.hb (C.dg hk) hl hi2 hf kk
theorem i_iinc {i : Nat} {z : Int} {x v : Int32} (C : CX D cy own cc tb nL p s m args c Z) (k : Nat) (hk : tb[k]? = some (pc, .iinc i z, 3)) (hn : pc + 3 = n) (hl : lv_has ls nL lv) (j : Nat) (hj : lv[j]? = some (i, .int x)) (hv : x + Int32.ofInt z = v) (hi2 : i < nL) (hf : (i, Value.int v) :: lv.filter (fun q => !(q.1 == i) && !(q.1 + 1 == i && q.2.category == 2)) = lv') (kk : ∀ ls : Array Slot, lv_has ls nL lv' → W p l e R s m args below meth c H locs cells slots Q (F0 m n ls rest)) : W p l e R s m args below meth c H locs cells slots Q (F0 m pc ls rest) := by
  subst hn
  exact lv_iinc C.hx C.hb (C.dg hk) hl hj hv hi2 hf kk
theorem i_if_eq {x : Int32} {off : Int} {tgt : Nat} (C : CX D cy own cc tb nL p s m args c Z) (k : Nat) (hk : tb[k]? = some (pc, .ifCond .eq off, 3)) (hn : pc + 3 = n) (ht : (pc : Int) + off = (tgt : Int)) (kt : x = 0 → W p l e R s m args below meth c H locs cells slots Q (F0 m tgt ls rest)) (kf : ¬ x = 0 → W p l e R s m args below meth c H locs cells slots Q (F0 m n ls rest)) : W p l e R s m args below meth c H locs cells slots Q (F0 m pc ls (.int x :: rest)) := by
  subst hn
  exact lv_if_eq C.hx C.hb (C.dg hk) ht kt kf
theorem i_icmp_eq {x y : Int32} {off : Int} {tgt : Nat} (C : CX D cy own cc tb nL p s m args c Z) (k : Nat) (hk : tb[k]? = some (pc, .if_icmp .eq off, 3)) (hn : pc + 3 = n) (ht : (pc : Int) + off = (tgt : Int)) (kt : x = y → W p l e R s m args below meth c H locs cells slots Q (F0 m tgt ls rest)) (kf : ¬ x = y → W p l e R s m args below meth c H locs cells slots Q (F0 m n ls rest)) : W p l e R s m args below meth c H locs cells slots Q (F0 m pc ls (.int y :: .int x :: rest)) := by
  subst hn
  exact lv_icmp_eq C.hx C.hb (C.dg hk) ht kt kf
theorem i_if_ne {x : Int32} {off : Int} {tgt : Nat} (C : CX D cy own cc tb nL p s m args c Z) (k : Nat) (hk : tb[k]? = some (pc, .ifCond .ne off, 3)) (hn : pc + 3 = n) (ht : (pc : Int) + off = (tgt : Int)) (kt : ¬ x = 0 → W p l e R s m args below meth c H locs cells slots Q (F0 m tgt ls rest)) (kf : x = 0 → W p l e R s m args below meth c H locs cells slots Q (F0 m n ls rest)) : W p l e R s m args below meth c H locs cells slots Q (F0 m pc ls (.int x :: rest)) := by
  subst hn
  exact lv_if_ne C.hx C.hb (C.dg hk) ht kt kf
theorem i_icmp_ne {x y : Int32} {off : Int} {tgt : Nat} (C : CX D cy own cc tb nL p s m args c Z) (k : Nat) (hk : tb[k]? = some (pc, .if_icmp .ne off, 3)) (hn : pc + 3 = n) (ht : (pc : Int) + off = (tgt : Int)) (kt : ¬ x = y → W p l e R s m args below meth c H locs cells slots Q (F0 m tgt ls rest)) (kf : x = y → W p l e R s m args below meth c H locs cells slots Q (F0 m n ls rest)) : W p l e R s m args below meth c H locs cells slots Q (F0 m pc ls (.int y :: .int x :: rest)) := by
  subst hn
  exact lv_icmp_ne C.hx C.hb (C.dg hk) ht kt kf
theorem i_if_lt {x : Int32} {off : Int} {tgt : Nat} (C : CX D cy own cc tb nL p s m args c Z) (k : Nat) (hk : tb[k]? = some (pc, .ifCond .lt off, 3)) (hn : pc + 3 = n) (ht : (pc : Int) + off = (tgt : Int)) (kt : x < 0 → W p l e R s m args below meth c H locs cells slots Q (F0 m tgt ls rest)) (kf : ¬ x < 0 → W p l e R s m args below meth c H locs cells slots Q (F0 m n ls rest)) : W p l e R s m args below meth c H locs cells slots Q (F0 m pc ls (.int x :: rest)) := by
  subst hn
  exact lv_if_lt C.hx C.hb (C.dg hk) ht kt kf
theorem i_icmp_lt {x y : Int32} {off : Int} {tgt : Nat} (C : CX D cy own cc tb nL p s m args c Z) (k : Nat) (hk : tb[k]? = some (pc, .if_icmp .lt off, 3)) (hn : pc + 3 = n) (ht : (pc : Int) + off = (tgt : Int)) (kt : x < y → W p l e R s m args below meth c H locs cells slots Q (F0 m tgt ls rest)) (kf : ¬ x < y → W p l e R s m args below meth c H locs cells slots Q (F0 m n ls rest)) : W p l e R s m args below meth c H locs cells slots Q (F0 m pc ls (.int y :: .int x :: rest)) := by
  subst hn
  exact lv_icmp_lt C.hx C.hb (C.dg hk) ht kt kf
theorem i_if_ge {x : Int32} {off : Int} {tgt : Nat} (C : CX D cy own cc tb nL p s m args c Z) (k : Nat) (hk : tb[k]? = some (pc, .ifCond .ge off, 3)) (hn : pc + 3 = n) (ht : (pc : Int) + off = (tgt : Int)) (kt : 0 ≤ x → W p l e R s m args below meth c H locs cells slots Q (F0 m tgt ls rest)) (kf : ¬ 0 ≤ x → W p l e R s m args below meth c H locs cells slots Q (F0 m n ls rest)) : W p l e R s m args below meth c H locs cells slots Q (F0 m pc ls (.int x :: rest)) := by
  subst hn
  exact lv_if_ge C.hx C.hb (C.dg hk) ht kt kf
theorem i_icmp_ge {x y : Int32} {off : Int} {tgt : Nat} (C : CX D cy own cc tb nL p s m args c Z) (k : Nat) (hk : tb[k]? = some (pc, .if_icmp .ge off, 3)) (hn : pc + 3 = n) (ht : (pc : Int) + off = (tgt : Int)) (kt : y ≤ x → W p l e R s m args below meth c H locs cells slots Q (F0 m tgt ls rest)) (kf : ¬ y ≤ x → W p l e R s m args below meth c H locs cells slots Q (F0 m n ls rest)) : W p l e R s m args below meth c H locs cells slots Q (F0 m pc ls (.int y :: .int x :: rest)) := by
  subst hn
  exact lv_icmp_ge C.hx C.hb (C.dg hk) ht kt kf
theorem i_if_gt {x : Int32} {off : Int} {tgt : Nat} (C : CX D cy own cc tb nL p s m args c Z) (k : Nat) (hk : tb[k]? = some (pc, .ifCond .gt off, 3)) (hn : pc + 3 = n) (ht : (pc : Int) + off = (tgt : Int)) (kt : 0 < x → W p l e R s m args below meth c H locs cells slots Q (F0 m tgt ls rest)) (kf : ¬ 0 < x → W p l e R s m args below meth c H locs cells slots Q (F0 m n ls rest)) : W p l e R s m args below meth c H locs cells slots Q (F0 m pc ls (.int x :: rest)) := by
  subst hn
  exact lv_if_gt C.hx C.hb (C.dg hk) ht kt kf
theorem i_icmp_gt {x y : Int32} {off : Int} {tgt : Nat} (C : CX D cy own cc tb nL p s m args c Z) (k : Nat) (hk : tb[k]? = some (pc, .if_icmp .gt off, 3)) (hn : pc + 3 = n) (ht : (pc : Int) + off = (tgt : Int)) (kt : y < x → W p l e R s m args below meth c H locs cells slots Q (F0 m tgt ls rest)) (kf : ¬ y < x → W p l e R s m args below meth c H locs cells slots Q (F0 m n ls rest)) : W p l e R s m args below meth c H locs cells slots Q (F0 m pc ls (.int y :: .int x :: rest)) := by
  subst hn
  exact lv_icmp_gt C.hx C.hb (C.dg hk) ht kt kf
theorem i_if_le {x : Int32} {off : Int} {tgt : Nat} (C : CX D cy own cc tb nL p s m args c Z) (k : Nat) (hk : tb[k]? = some (pc, .ifCond .le off, 3)) (hn : pc + 3 = n) (ht : (pc : Int) + off = (tgt : Int)) (kt : x ≤ 0 → W p l e R s m args below meth c H locs cells slots Q (F0 m tgt ls rest)) (kf : ¬ x ≤ 0 → W p l e R s m args below meth c H locs cells slots Q (F0 m n ls rest)) : W p l e R s m args below meth c H locs cells slots Q (F0 m pc ls (.int x :: rest)) := by
  subst hn
  exact lv_if_le C.hx C.hb (C.dg hk) ht kt kf
theorem i_icmp_le {x y : Int32} {off : Int} {tgt : Nat} (C : CX D cy own cc tb nL p s m args c Z) (k : Nat) (hk : tb[k]? = some (pc, .if_icmp .le off, 3)) (hn : pc + 3 = n) (ht : (pc : Int) + off = (tgt : Int)) (kt : x ≤ y → W p l e R s m args below meth c H locs cells slots Q (F0 m tgt ls rest)) (kf : ¬ x ≤ y → W p l e R s m args below meth c H locs cells slots Q (F0 m n ls rest)) : W p l e R s m args below meth c H locs cells slots Q (F0 m pc ls (.int y :: .int x :: rest)) := by
  subst hn
  exact lv_icmp_le C.hx C.hb (C.dg hk) ht kt kf
theorem i_goto {off : Int} {tgt : Nat} (C : CX D cy own cc tb nL p s m args c Z) (k : Nat) (hk : tb[k]? = some (pc, .goto off, 3)) (ht : (pc : Int) + off = (tgt : Int)) (kk : W p l e R s m args below meth c H locs cells slots Q (F0 m tgt ls rest)) : W p l e R s m args below meth c H locs cells slots Q (F0 m pc ls rest) := lv_goto C.hx C.hb (C.dg hk) ht kk
theorem i_ifnull {x : Nat} {off : Int} (C : CX D cy own cc tb nL p s m args c Z) (k : Nat) (hk : tb[k]? = some (pc, .ifnull off, 3)) (hn : pc + 3 = n) (kk : W p l e R s m args below meth c H locs cells slots Q (F0 m n ls rest)) : W p l e R s m args below meth c H locs cells slots Q (F0 m pc ls (.ref x :: rest)) := by
  subst hn
  exact lv_ifnull C.hx C.hb (C.dg hk) kk
theorem i_ifnullN {off : Int} {tgt : Nat} (C : CX D cy own cc tb nL p s m args c Z) (k : Nat) (hk : tb[k]? = some (pc, .ifnull off, 3)) (ht : (pc : Int) + off = (tgt : Int)) (kk : W p l e R s m args below meth c H locs cells slots Q (F0 m tgt ls rest)) : W p l e R s m args below meth c H locs cells slots Q (F0 m pc ls (.null :: rest)) := lv_ifnullN C.hx C.hb (C.dg hk) ht kk
theorem i_ifnonnull {x : Nat} {off : Int} {tgt : Nat} (C : CX D cy own cc tb nL p s m args c Z) (k : Nat) (hk : tb[k]? = some (pc, .ifnonnull off, 3)) (ht : (pc : Int) + off = (tgt : Int)) (kk : W p l e R s m args below meth c H locs cells slots Q (F0 m tgt ls rest)) : W p l e R s m args below meth c H locs cells slots Q (F0 m pc ls (.ref x :: rest)) := lv_ifnonnull C.hx C.hb (C.dg hk) ht kk
theorem i_ifnonnullN {off : Int} (C : CX D cy own cc tb nL p s m args c Z) (k : Nat) (hk : tb[k]? = some (pc, .ifnonnull off, 3)) (hn : pc + 3 = n) (kk : W p l e R s m args below meth c H locs cells slots Q (F0 m n ls rest)) : W p l e R s m args below meth c H locs cells slots Q (F0 m pc ls (.null :: rest)) := by
  subst hn
  exact lv_ifnonnullN C.hx C.hb (C.dg hk) kk
theorem i_mmax {x y : Int32} {ix : Nat} (C : CX D cy own cc tb nL p s m args c Z) (k : Nat) (hk : tb[k]? = some (pc, .invokestatic ix, 3)) (hn : pc + 3 = n) (hl : lv_has ls nL lv) (hw : Cond.methodLink own ix Lib.Math.max.name ∈ GW) (hf : 1 ≤ R.frames) (ho : (rest.map fun v => v.category).sum + 13 ≤ R.locals) (hc : cells ≤ R.cells) (hs : slots ≤ R.slots) (kk : W p l e R s m args below meth c H locs cells slots Q (F0 m n ls (.int (if x < y then y else x) :: rest))) : W p l e R s m args below meth c H locs cells slots Q (F0 m pc ls (.int y :: .int x :: rest)) := by
  subst hn
  exact va_mmax C.hx C.hb (C.hml.trans hl.1.symm) C.hown (C.hts _ hw) (C.hts _ w_mmax_s) (C.hts _ w_Math_i) (C.hts _ w_mmax_c) hf ho hc hs (C.dg hk) kk
theorem i_mmin {x y : Int32} {ix : Nat} (C : CX D cy own cc tb nL p s m args c Z) (k : Nat) (hk : tb[k]? = some (pc, .invokestatic ix, 3)) (hn : pc + 3 = n) (hl : lv_has ls nL lv) (hw : Cond.methodLink own ix Lib.Math.min.name ∈ GW) (hf : 1 ≤ R.frames) (ho : (rest.map fun v => v.category).sum + 13 ≤ R.locals) (hc : cells ≤ R.cells) (hs : slots ≤ R.slots) (kk : W p l e R s m args below meth c H locs cells slots Q (F0 m n ls (.int (if y < x then y else x) :: rest))) : W p l e R s m args below meth c H locs cells slots Q (F0 m pc ls (.int y :: .int x :: rest)) := by
  subst hn
  exact va_mmin C.hx C.hb (C.hml.trans hl.1.symm) C.hown (C.hts _ hw) (C.hts _ w_mmin_s) (C.hts _ w_Math_i) (C.hts _ w_mmin_c) hf ho hc hs (C.dg hk) kk
theorem i_mabs {x : Int32} {ix : Nat} (C : CX D cy own cc tb nL p s m args c Z) (k : Nat) (hk : tb[k]? = some (pc, .invokestatic ix, 3)) (hn : pc + 3 = n) (hl : lv_has ls nL lv) (hw : Cond.methodLink own ix Lib.Math.abs.name ∈ GW) (hf : 1 ≤ R.frames) (ho : (rest.map fun v => v.category).sum + 13 ≤ R.locals) (hc : cells ≤ R.cells) (hs : slots ≤ R.slots) (kk : W p l e R s m args below meth c H locs cells slots Q (F0 m n ls (.int (if 0 ≤ x then x else 0 - x) :: rest))) : W p l e R s m args below meth c H locs cells slots Q (F0 m pc ls (.int x :: rest)) := by
  subst hn
  exact va_mabs C.hx C.hb (C.hml.trans hl.1.symm) C.hown (C.hts _ hw) (C.hts _ w_mabs_s) (C.hts _ w_Math_i) (C.hts _ w_mabs_c) hf ho hc hs (C.dg hk) kk
theorem i_getf {ix ci q0 a fk N : Nat} {Cn ref : String} {Tf : u_T} {fs : List Value} {v : Value} (C : CX D cy own cc tb nL p s m args c Z) (k : Nat) (hk : tb[k]? = some (pc, .getfield ix, 3)) (hn : pc + 3 = n) (h : HXw D Z s.heap H locs w) (hin : ∀ x ∈ u_ws Cn Tf N, x ∈ GW) (he : w[q0]? = some (a, .inr (ci, fs))) (hc : vwCl[ci]? = some (Cn, Tf, N)) (hfk : fk < N) (hlink : Cond.fieldLink own ix ref (Tf fk).2.1 (Tf fk).2.2.1 ∈ GW) (hsame : ∀ x, s.fieldFound? (Tf fk).1 (Tf fk).2.1 (Tf fk).2.2.1 = some x → s.fieldFound? ref (Tf fk).2.1 (Tf fk).2.2.1 = some x) (hv : fs[fk]? = some v) (kk : W p l e R s m args below meth c H locs cells slots Q (F0 m n ls (v :: rest))) : W p l e R s m args below meth c H locs cells slots Q (F0 m pc ls (.ref a :: rest)) := by
  subst hn
  exact va_get C.hx C.hb C.hts hin C.hown C.hK h.1 q0 he hc fk hfk (C.hts _ hlink) hsame hv (C.dg hk) kk
theorem i_putf {ix ci q0 a fk N : Nat} {Cn ref : String} {Tf : u_T} {fs : List Value} {v : Value} {ty : FieldType} {w2 : va_W} (C : CX D cy own cc tb nL p s m args c Z) (k : Nat) (hk : tb[k]? = some (pc, .putfield ix, 3)) (hn : pc + 3 = n) (h : HXw D Z s.heap H locs w) (hin : ∀ x ∈ u_ws Cn Tf N, x ∈ GW) (ty0 : Nat → FieldType) (hty : ∀ k, k < N → parseFieldDescriptor (Tf k).2.2.1 = some (ty0 k)) (hnm : ∀ a, a < N → ∀ b, b < N → a ≠ b → (Tf a).2.1 ≠ (Tf b).2.1) (he : w[q0]? = some (a, .inr (ci, fs))) (hc : vwCl[ci]? = some (Cn, Tf, N)) (hfk : fk < N) (hlink : Cond.fieldLink own ix ref (Tf fk).2.1 (Tf fk).2.2.1 ∈ GW) (hsame : ∀ x, s.fieldFound? (Tf fk).1 (Tf fk).2.1 (Tf fk).2.2.1 = some x → s.fieldFound? ref (Tf fk).2.1 (Tf fk).2.2.1 = some x) (hfin : (Tf fk).2.2.2 = false) (hd : parseFieldDescriptor (Tf fk).2.2.1 = some ty) (hnr : narrow ty v = v) (hfit : fits ty v = true) (hl : fk < fs.length) (he2 : w.set q0 (a, .inr (ci, fs.set fk v)) = w2) (kk : ∀ (H : Heap) (locs : List Loc), HXw D Z s.heap H locs w2 → W p l e R s m args below meth c H locs cells slots Q (F0 m n ls rest)) : W p l e R s m args below meth c H locs cells slots Q (F0 m pc ls (v :: .ref a :: rest)) := by
  subst hn
  subst he2
  exact va_put C.hx C.hb C.hts hin ty0 hty hnm C.hown C.hK h.1 h.2.1 h.2.2 q0 he hc fk hfk (C.hts _ hlink) hsame hfin hd hnr hfit hl (C.dg hk) (fun H1 l1 a1 a2 a3 => kk H1 l1 ⟨a1, a2, a3⟩)
theorem i_iald {q0 a len : Nat} {f : Nat → Int32} {i : Int32} (C : CX D cy own cc tb nL p s m args c Z) (k : Nat) (hk : tb[k]? = some (pc, .iaload, 1)) (hn : pc + 1 = n) (h : HXw D Z s.heap H locs w) (ha : w[q0]? = some (a, .inl (cy 0, len, .inl f))) (hin : vp_in i len) (kk : W p l e R s m args below meth c H locs cells slots Q (F0 m n ls (.int (f i.toNatClampNeg) :: rest))) : W p l e R s m args below meth c H locs cells slots Q (F0 m pc ls (.int i :: .ref a :: rest)) := by
  subst hn
  exact va_iald C.hx C.hb C.hK h.1 q0 0 ha rfl hin (C.dg hk) kk
theorem i_zald {q0 a len : Nat} {f : Nat → Int32} {i : Int32} (C : CX D cy own cc tb nL p s m args c Z) (k : Nat) (hk : tb[k]? = some (pc, .baload, 1)) (hn : pc + 1 = n) (h : HXw D Z s.heap H locs w) (ha : w[q0]? = some (a, .inl (cy 1, len, .inl f))) (hin : vp_in i len) (kk : W p l e R s m args below meth c H locs cells slots Q (F0 m n ls (.int (f i.toNatClampNeg) :: rest))) : W p l e R s m args below meth c H locs cells slots Q (F0 m pc ls (.int i :: .ref a :: rest)) := by
  subst hn
  exact va_zald C.hx C.hb C.hK h.1 q0 1 ha rfl hin (C.dg hk) kk
theorem i_iast {q0 a len : Nat} {f : Nat → Int32} {i x : Int32} {w2 : va_W} (C : CX D cy own cc tb nL p s m args c Z) (k : Nat) (hk : tb[k]? = some (pc, .iastore, 1)) (hn : pc + 1 = n) (h : HXw D Z s.heap H locs w) (ha : w[q0]? = some (a, .inl (cy 0, len, .inl f))) (hin : vp_in i len) (he2 : w.set q0 (a, .inl (cy 0, len, .inl (upd f i.toNatClampNeg x))) = w2) (kk : ∀ (H : Heap) (locs : List Loc), HXw D Z s.heap H locs w2 → W p l e R s m args below meth c H locs cells slots Q (F0 m n ls rest)) : W p l e R s m args below meth c H locs cells slots Q (F0 m pc ls (.int x :: .int i :: .ref a :: rest)) := by
  subst hn
  subst he2
  exact va_iast C.hx C.hb C.hK h.1 h.2.1 h.2.2 q0 0 ha rfl hin (C.dg hk) (fun H1 l1 a1 a2 a3 => kk H1 l1 ⟨a1, a2, a3⟩)
theorem i_zast {q0 a len : Nat} {f : Nat → Int32} {i x : Int32} {w2 : va_W} (C : CX D cy own cc tb nL p s m args c Z) (k : Nat) (hk : tb[k]? = some (pc, .bastore, 1)) (hn : pc + 1 = n) (h : HXw D Z s.heap H locs w) (ha : w[q0]? = some (a, .inl (cy 1, len, .inl f))) (hin : vp_in i len) (he2 : w.set q0 (a, .inl (cy 1, len, .inl (upd f i.toNatClampNeg (vp_nar .boolean x)))) = w2) (kk : ∀ (H : Heap) (locs : List Loc), HXw D Z s.heap H locs w2 → W p l e R s m args below meth c H locs cells slots Q (F0 m n ls rest)) : W p l e R s m args below meth c H locs cells slots Q (F0 m pc ls (.int x :: .int i :: .ref a :: rest)) := by
  subst hn
  subst he2
  exact va_zast C.hx C.hb C.hK h.1 h.2.1 h.2.2 q0 1 ha rfl hin (C.dg hk) (fun H1 l1 a1 a2 a3 => kk H1 l1 ⟨a1, a2, a3⟩)
theorem i_aldq {q0 a len : Nat} {f : Nat → Option Nat} {i : Int32} (C : CX D cy own cc tb nL p s m args c Z) (k : Nat) (hk : tb[k]? = some (pc, .aaload, 1)) (hn : pc + 1 = n) (h : HXw D Z s.heap H locs w) (ha : w[q0]? = some (a, .inl (cy 2, len, .inr (.inr (.inr (.inr f)))))) (hin : vp_in i len) (kn : f i.toNatClampNeg = none → W p l e R s m args below meth c H locs cells slots Q (F0 m n ls (.null :: rest))) (ks : ∀ q : Nat, f i.toNatClampNeg = some q → W p l e R s m args below meth c H locs cells slots Q (F0 m n ls (.ref q :: rest))) : W p l e R s m args below meth c H locs cells slots Q (F0 m pc ls (.int i :: .ref a :: rest)) := by
  subst hn
  refine va_aldq C.hx C.hb C.hK h.1 q0 2 ha rfl hin (C.dg hk) ?_
  rcases hf : f i.toNatClampNeg with _ | q
  · exact kn hf
  · exact ks q hf
theorem i_aldA {q0 a len q : Nat} {f : Nat → Option Nat} {i : Int32} (C : CX D cy own cc tb nL p s m args c Z) (k : Nat) (hk : tb[k]? = some (pc, .aaload, 1)) (hn : pc + 1 = n) (h : HXw D Z s.heap H locs w) (ha : w[q0]? = some (a, .inl (cy 3, len, .inr (.inr (.inr (.inr f)))))) (hin : vp_in i len) (hf : f i.toNatClampNeg = some q) (kk : W p l e R s m args below meth c H locs cells slots Q (F0 m n ls (.ref q :: rest))) : W p l e R s m args below meth c H locs cells slots Q (F0 m pc ls (.int i :: .ref a :: rest)) := by
  subst hn
  have hlt : i.toNatClampNeg < len := Nat.not_le.mp fun q => hin (Or.inr q)
  refine W.aald (v := va_rf (f i.toNatClampNeg)) (ty := .array .int) C.hx C.hb (h.1 q0 _ ha) ((C.hK.2 3 _ rfl).1 len (fun j => va_rf (f j))) rfl (fun q => by cases q) (by show ¬ (i < 0 ∨ (arrV _ _ _).slots.size ≤ _); rw [arrV_size]; exact hin) (by show (arrV _ _ _).slots[_]? = _; rw [arrV_read _ _ hlt]) rfl rfl (C.dg hk) ?_
  rw [hf]
  exact kk
theorem i_alen {q0 a t0 : Nat} {x : vp_A} {cA : ClassId} {ty : FieldType} {v : Int32} (C : CX D cy own cc tb nL p s m args c Z) (k : Nat) (hk : tb[k]? = some (pc, .arraylength, 1)) (hn : pc + 1 = n) (h : HXw D Z s.heap H locs w) (ha : w[q0]? = some (a, .inl (cA, x))) (ht : (tysF cy)[t0]? = some (cA, ty)) (hv : Int32.ofNat x.1 = v) (kk : W p l e R s m args below meth c H locs cells slots Q (F0 m n ls (.int v :: rest))) : W p l e R s m args below meth c H locs cells slots Q (F0 m pc ls (.ref a :: rest)) := by
  subst hn
  exact va_alen C.hx C.hb C.hK h.1 q0 t0 ha ht hv (C.dg hk) kk
theorem i_tsw {x v : Int32} {dflt lo hi : Int} {offs : Array Int} {len : Nat} {off : Int} {tgt : Nat} (C : CX D cy own cc tb nL p s m args c Z) (k : Nat) (hk : tb[k]? = some (pc, .tableswitch dflt lo hi offs, len)) (hx : x = v) (h1 : ¬ v.toInt < lo) (h2 : ¬ hi < v.toInt) (ho : offs[(v.toInt - lo).toNat]? = some off) (ht : (pc : Int) + off = (tgt : Int)) (kk : W p l e R s m args below meth c H locs cells slots Q (F0 m tgt ls rest)) : W p l e R s m args below meth c H locs cells slots Q (F0 m pc ls (.int x :: rest)) := by
  subst hx
  exact lv_tableIn C.hx C.hb (C.dg hk) h1 h2 ho ht kk
theorem sw_out {x : Int32} {lo hi : Int} (h : ∀ j : Nat, (j : Int) ≤ hi - lo → ¬ x.toInt = lo + j) : x.toInt < lo ∨ hi < x.toInt := by
  by_cases h1 : x.toInt < lo
  · exact Or.inl h1
  · by_cases h2 : hi < x.toInt
    · exact Or.inr h2
    · exact absurd (show x.toInt = lo + ((x.toInt - lo).toNat : Int) by omega) (h (x.toInt - lo).toNat (by omega))
theorem i_tswd {x : Int32} {dflt lo hi : Int} {offs : Array Int} {len : Nat} {tgt : Nat} (C : CX D cy own cc tb nL p s m args c Z) (k : Nat) (hk : tb[k]? = some (pc, .tableswitch dflt lo hi offs, len)) (hx : ∀ j : Nat, (j : Int) ≤ hi - lo → ¬ x.toInt = lo + j) (ht : (pc : Int) + dflt = (tgt : Int)) (kk : W p l e R s m args below meth c H locs cells slots Q (F0 m tgt ls rest)) : W p l e R s m args below meth c H locs cells slots Q (F0 m pc ls (.int x :: rest)) := lv_tableOut C.hx C.hb (C.dg hk) (sw_out hx) ht kk
theorem i_callSp {y : MethodName} {bytes : ByteArray} {maxL n2 ix : Nat} {ret : Option FieldType} {ws : List Cond} {rm : Room} {As st0 : List Value}   {post : Int32 → Prop} (C : CX D cy own cc tb nL p s m args c Z) (k : Nat) (hk : tb[k]? = some (pc, .invokestatic ix, 3)) (hn : pc + 3 = n) (hl : lv_has ls nL lv) (h : HXw D Z s.heap H locs w)  (cw : (∀ w ∈ GW, w.before args s = true) → CallB R s args own ix y bytes maxL ret ws rm 0 0 n2 ∧ (Cond.static y).before args s = true) (hM : ∀ sz, Met l y ws rm (va_Pc As (PreW D cy w sz)) (vp_Si post) 0 0 (fun _ => False)) (hlen : As.length = n2) (hst : st0 = As.reverse ++ rest) (hs : (rest.map fun v => v.category).sum ≤ 8) (hc : cells ≤ R.cells ∧ slots ≤ R.slots) (kk : ∀ r : Int32, post r → W p l e R s m args below meth c H locs cells slots Q (F0 m n ls (.int r :: rest))) : W p l e R s m args below meth c H locs cells slots Q (F0 m pc ls st0) := by
  subst hn
  subst hst
  exact call_p (va_runS C.1 (hM _) (cw C.hts) (h.preS C As) rfl hlen hl.1 rfl (lv_room hs) (C.dg hk) hc) kk
theorem i_callSi {y : MethodName} {bytes : ByteArray} {maxL n2 ix : Nat} {ret : Option FieldType} {ws : List Cond} {rm : Room} {As st0 : List Value}   {S : Type} {wf : S → va_W} {post : Int32 → S → Prop} {mc ms : Nat} (C : CX D cy own cc tb nL p s m args c Z) (k : Nat) (hk : tb[k]? = some (pc, .invokestatic ix, 3)) (hn : pc + 3 = n) (hl : lv_has ls nL lv) (h : HXw D Z s.heap H locs w)  (cw : (∀ w ∈ GW, w.before args s = true) → CallB R s args own ix y bytes maxL ret ws rm mc ms n2 ∧ (Cond.static y).before args s = true) (hM : ∀ sz, Met l y ws rm (va_Pc As (PreW D cy w sz)) (va_Qi post (fun u t => PostW D (va_A w sz) (wf u) t) (va_A w sz)) mc ms (va_A w sz)) (hlen : As.length = n2) (hst : st0 = As.reverse ++ rest) (hs : (rest.map fun v => v.category).sum ≤ 8) (hc : cells + mc ≤ R.cells ∧ slots + ms ≤ R.slots) (kk : ∀ (r : Int32) (u : S) (H : Heap) (locs : List Loc), post r u → HXw D Z s.heap H locs (wf u) → W p l e R s m args below meth c H locs (cells + mc) (slots + ms) Q (F0 m n ls (.int r :: rest))) : W p l e R s m args below meth c H locs cells slots Q (F0 m pc ls st0) := by
  subst hn
  subst hst
  exact call_i C h (va_runS C.1 (hM _) (cw C.hts) (h.preS C As) rfl hlen hl.1 rfl (lv_room hs) (C.dg hk) hc) kk
theorem i_callSv {y : MethodName} {bytes : ByteArray} {maxL n2 ix : Nat} {ret : Option FieldType} {ws : List Cond} {rm : Room} {As st0 : List Value}   {S : Type} {wf : S → va_W} {post : S → Prop} {mc ms : Nat} (C : CX D cy own cc tb nL p s m args c Z) (k : Nat) (hk : tb[k]? = some (pc, .invokestatic ix, 3)) (hn : pc + 3 = n) (hl : lv_has ls nL lv) (h : HXw D Z s.heap H locs w)  (cw : (∀ w ∈ GW, w.before args s = true) → CallB R s args own ix y bytes maxL ret ws rm mc ms n2 ∧ (Cond.static y).before args s = true) (hM : ∀ sz, Met l y ws rm (va_Pc As (PreW D cy w sz)) (va_Qv post (fun u t => PostW D (va_A w sz) (wf u) t) (va_A w sz)) mc ms (va_A w sz)) (hlen : As.length = n2) (hst : st0 = As.reverse ++ rest) (hs : (rest.map fun v => v.category).sum ≤ 8) (hc : cells + mc ≤ R.cells ∧ slots + ms ≤ R.slots) (kk : ∀ (u : S) (H : Heap) (locs : List Loc), post u → HXw D Z s.heap H locs (wf u) → W p l e R s m args below meth c H locs (cells + mc) (slots + ms) Q (F0 m n ls rest)) : W p l e R s m args below meth c H locs cells slots Q (F0 m pc ls st0) := by
  subst hn
  subst hst
  exact call_v C h (va_runS C.1 (hM _) (cw C.hts) (h.preS C As) rfl hlen hl.1 rfl (lv_room hs) (C.dg hk) hc) kk
theorem i_callSNp {y : MethodName} {bytes : ByteArray} {maxL n2 ix : Nat} {ret : Option FieldType} {ws : List Cond} {rm : Room} {As st0 : List Value} {host : String}  {post : Int32 → Prop} (C : CX D cy own cc tb nL p s m args c Z) (k : Nat) (hk : tb[k]? = some (pc, .invokestatic ix, 3)) (hn : pc + 3 = n) (hl : lv_has ls nL lv) (h : HXw D Z s.heap H locs w)  (cw : (∀ w ∈ GW, w.before args s = true) → NX s → va_CN R s args own ix y host bytes maxL ret ws rm 0 0 n2 ∧ (Cond.static y).before args s = true ∧ True) (hM : ∀ sz, Met l y ws rm (va_Pc As (PreW D cy w sz)) (vp_Si post) 0 0 (fun _ => False)) (hlen : As.length = n2) (hst : st0 = As.reverse ++ rest) (hs : (rest.map fun v => v.category).sum ≤ 8) (hc : cells ≤ R.cells ∧ slots ≤ R.slots) (kk : ∀ r : Int32, post r → W p l e R s m args below meth c H locs cells slots Q (F0 m n ls (.int r :: rest))) : W p l e R s m args below meth c H locs cells slots Q (F0 m pc ls st0) := by
  subst hn
  subst hst
  exact call_p (va_runSN C.1 (hM _) (cw C.hts C.hN) (h.preS C As) rfl hlen hl.1 rfl (lv_room hs) (C.dg hk) hc) kk
theorem i_callSNi {y : MethodName} {bytes : ByteArray} {maxL n2 ix : Nat} {ret : Option FieldType} {ws : List Cond} {rm : Room} {As st0 : List Value} {host : String}  {S : Type} {wf : S → va_W} {post : Int32 → S → Prop} {mc ms : Nat} (C : CX D cy own cc tb nL p s m args c Z) (k : Nat) (hk : tb[k]? = some (pc, .invokestatic ix, 3)) (hn : pc + 3 = n) (hl : lv_has ls nL lv) (h : HXw D Z s.heap H locs w)  (cw : (∀ w ∈ GW, w.before args s = true) → NX s → va_CN R s args own ix y host bytes maxL ret ws rm mc ms n2 ∧ (Cond.static y).before args s = true ∧ True) (hM : ∀ sz, Met l y ws rm (va_Pc As (PreW D cy w sz)) (va_Qi post (fun u t => PostW D (va_A w sz) (wf u) t) (va_A w sz)) mc ms (va_A w sz)) (hlen : As.length = n2) (hst : st0 = As.reverse ++ rest) (hs : (rest.map fun v => v.category).sum ≤ 8) (hc : cells + mc ≤ R.cells ∧ slots + ms ≤ R.slots) (kk : ∀ (r : Int32) (u : S) (H : Heap) (locs : List Loc), post r u → HXw D Z s.heap H locs (wf u) → W p l e R s m args below meth c H locs (cells + mc) (slots + ms) Q (F0 m n ls (.int r :: rest))) : W p l e R s m args below meth c H locs cells slots Q (F0 m pc ls st0) := by
  subst hn
  subst hst
  exact call_i C h (va_runSN C.1 (hM _) (cw C.hts C.hN) (h.preS C As) rfl hlen hl.1 rfl (lv_room hs) (C.dg hk) hc) kk
theorem i_callSNv {y : MethodName} {bytes : ByteArray} {maxL n2 ix : Nat} {ret : Option FieldType} {ws : List Cond} {rm : Room} {As st0 : List Value} {host : String}  {S : Type} {wf : S → va_W} {post : S → Prop} {mc ms : Nat} (C : CX D cy own cc tb nL p s m args c Z) (k : Nat) (hk : tb[k]? = some (pc, .invokestatic ix, 3)) (hn : pc + 3 = n) (hl : lv_has ls nL lv) (h : HXw D Z s.heap H locs w)  (cw : (∀ w ∈ GW, w.before args s = true) → NX s → va_CN R s args own ix y host bytes maxL ret ws rm mc ms n2 ∧ (Cond.static y).before args s = true ∧ True) (hM : ∀ sz, Met l y ws rm (va_Pc As (PreW D cy w sz)) (va_Qv post (fun u t => PostW D (va_A w sz) (wf u) t) (va_A w sz)) mc ms (va_A w sz)) (hlen : As.length = n2) (hst : st0 = As.reverse ++ rest) (hs : (rest.map fun v => v.category).sum ≤ 8) (hc : cells + mc ≤ R.cells ∧ slots + ms ≤ R.slots) (kk : ∀ (u : S) (H : Heap) (locs : List Loc), post u → HXw D Z s.heap H locs (wf u) → W p l e R s m args below meth c H locs (cells + mc) (slots + ms) Q (F0 m n ls rest)) : W p l e R s m args below meth c H locs cells slots Q (F0 m pc ls st0) := by
  subst hn
  subst hst
  exact call_v C h (va_runSN C.1 (hM _) (cw C.hts C.hN) (h.preS C As) rfl hlen hl.1 rfl (lv_room hs) (C.dg hk) hc) kk
theorem i_callVp {y : MethodName} {bytes : ByteArray} {maxL n2 ix : Nat} {ret : Option FieldType} {ws : List Cond} {rm : Room} {As st0 : List Value}  {ci q0 b : Nat} {qc : vw_C} {fs : List Value} {post : Int32 → Prop} (C : CX D cy own cc tb nL p s m args c Z) (k : Nat) (hk : tb[k]? = some (pc, .invokevirtual ix, 3)) (hn : pc + 3 = n) (hl : lv_has ls nL lv) (h : HXw D Z s.heap H locs w) (hci : vwCl[ci]? = some qc) (he : w[q0]? = some (b, .inr (ci, fs))) (cw : (∀ w ∈ GW, w.before args s = true) → CallW R s args own qc.1 ix y bytes maxL ret ws rm 0 0 n2) (hM : ∀ sz, Met l y ws rm (va_Pc (.ref b :: As) (PreW D cy w sz)) (vp_Si post) 0 0 (fun _ => False)) (hlen : As.length = n2) (hst : st0 = As.reverse ++ .ref b :: rest) (hs : (rest.map fun v => v.category).sum ≤ 8) (hc : cells ≤ R.cells ∧ slots ≤ R.slots) (kk : ∀ r : Int32, post r → W p l e R s m args below meth c H locs cells slots Q (F0 m n ls (.int r :: rest))) : W p l e R s m args below meth c H locs cells slots Q (F0 m pc ls st0) := by
  subst hn
  subst hst
  exact call_p (va_runV C.1 (hM _) (cw C.hts) (h.preV C hci he As) rfl hlen hl.1 rfl (lv_room hs) (C.dg hk) hc) kk
theorem i_callVi {y : MethodName} {bytes : ByteArray} {maxL n2 ix : Nat} {ret : Option FieldType} {ws : List Cond} {rm : Room} {As st0 : List Value}  {ci q0 b : Nat} {qc : vw_C} {fs : List Value} {S : Type} {wf : S → va_W} {post : Int32 → S → Prop} {mc ms : Nat} (C : CX D cy own cc tb nL p s m args c Z) (k : Nat) (hk : tb[k]? = some (pc, .invokevirtual ix, 3)) (hn : pc + 3 = n) (hl : lv_has ls nL lv) (h : HXw D Z s.heap H locs w) (hci : vwCl[ci]? = some qc) (he : w[q0]? = some (b, .inr (ci, fs))) (cw : (∀ w ∈ GW, w.before args s = true) → CallW R s args own qc.1 ix y bytes maxL ret ws rm mc ms n2) (hM : ∀ sz, Met l y ws rm (va_Pc (.ref b :: As) (PreW D cy w sz)) (va_Qi post (fun u t => PostW D (va_A w sz) (wf u) t) (va_A w sz)) mc ms (va_A w sz)) (hlen : As.length = n2) (hst : st0 = As.reverse ++ .ref b :: rest) (hs : (rest.map fun v => v.category).sum ≤ 8) (hc : cells + mc ≤ R.cells ∧ slots + ms ≤ R.slots) (kk : ∀ (r : Int32) (u : S) (H : Heap) (locs : List Loc), post r u → HXw D Z s.heap H locs (wf u) → W p l e R s m args below meth c H locs (cells + mc) (slots + ms) Q (F0 m n ls (.int r :: rest))) : W p l e R s m args below meth c H locs cells slots Q (F0 m pc ls st0) := by
  subst hn
  subst hst
  exact call_i C h (va_runV C.1 (hM _) (cw C.hts) (h.preV C hci he As) rfl hlen hl.1 rfl (lv_room hs) (C.dg hk) hc) kk
theorem i_callVv {y : MethodName} {bytes : ByteArray} {maxL n2 ix : Nat} {ret : Option FieldType} {ws : List Cond} {rm : Room} {As st0 : List Value}  {ci q0 b : Nat} {qc : vw_C} {fs : List Value} {S : Type} {wf : S → va_W} {post : S → Prop} {mc ms : Nat} (C : CX D cy own cc tb nL p s m args c Z) (k : Nat) (hk : tb[k]? = some (pc, .invokevirtual ix, 3)) (hn : pc + 3 = n) (hl : lv_has ls nL lv) (h : HXw D Z s.heap H locs w) (hci : vwCl[ci]? = some qc) (he : w[q0]? = some (b, .inr (ci, fs))) (cw : (∀ w ∈ GW, w.before args s = true) → CallW R s args own qc.1 ix y bytes maxL ret ws rm mc ms n2) (hM : ∀ sz, Met l y ws rm (va_Pc (.ref b :: As) (PreW D cy w sz)) (va_Qv post (fun u t => PostW D (va_A w sz) (wf u) t) (va_A w sz)) mc ms (va_A w sz)) (hlen : As.length = n2) (hst : st0 = As.reverse ++ .ref b :: rest) (hs : (rest.map fun v => v.category).sum ≤ 8) (hc : cells + mc ≤ R.cells ∧ slots + ms ≤ R.slots) (kk : ∀ (u : S) (H : Heap) (locs : List Loc), post u → HXw D Z s.heap H locs (wf u) → W p l e R s m args below meth c H locs (cells + mc) (slots + ms) Q (F0 m n ls rest)) : W p l e R s m args below meth c H locs cells slots Q (F0 m pc ls st0) := by
  subst hn
  subst hst
  exact call_v C h (va_runV C.1 (hM _) (cw C.hts) (h.preV C hci he As) rfl hlen hl.1 rfl (lv_room hs) (C.dg hk) hc) kk
theorem i_callUp {y : MethodName} {bytes : ByteArray} {maxL n2 ix : Nat} {ret : Option FieldType} {ws : List Cond} {rm : Room} {As st0 : List Value} {owner : String} {x : MethodName} {ci q0 b : Nat} {qc : vw_C} {fs : List Value} {post : Int32 → Prop} (C : CX D cy own cc tb nL p s m args c Z) (k : Nat) (hk : tb[k]? = some (pc, .invokevirtual ix, 3)) (hn : pc + 3 = n) (hl : lv_has ls nL lv) (h : HXw D Z s.heap H locs w) (hci : vwCl[ci]? = some qc) (he : w[q0]? = some (b, .inr (ci, fs))) (cw : (∀ w ∈ GW, w.before args s = true) → NX s → va_CU R s args own qc.1 owner ix x y bytes maxL ret ws rm 0 0 n2) (hM : ∀ sz, Met l y ws rm (va_Pc (.ref b :: As) (PreW D cy w sz)) (vp_Si post) 0 0 (fun _ => False)) (hlen : As.length = n2) (hst : st0 = As.reverse ++ .ref b :: rest) (hs : (rest.map fun v => v.category).sum ≤ 8) (hc : cells ≤ R.cells ∧ slots ≤ R.slots) (kk : ∀ r : Int32, post r → W p l e R s m args below meth c H locs cells slots Q (F0 m n ls (.int r :: rest))) : W p l e R s m args below meth c H locs cells slots Q (F0 m pc ls st0) := by
  subst hn
  subst hst
  exact call_p (va_runU C.1 (hM _) (cw C.hts C.hN) (h.preV C hci he As) rfl hlen hl.1 rfl (lv_room hs) (C.dg hk) hc) kk
theorem i_callUi {y : MethodName} {bytes : ByteArray} {maxL n2 ix : Nat} {ret : Option FieldType} {ws : List Cond} {rm : Room} {As st0 : List Value} {owner : String} {x : MethodName} {ci q0 b : Nat} {qc : vw_C} {fs : List Value} {S : Type} {wf : S → va_W} {post : Int32 → S → Prop} {mc ms : Nat} (C : CX D cy own cc tb nL p s m args c Z) (k : Nat) (hk : tb[k]? = some (pc, .invokevirtual ix, 3)) (hn : pc + 3 = n) (hl : lv_has ls nL lv) (h : HXw D Z s.heap H locs w) (hci : vwCl[ci]? = some qc) (he : w[q0]? = some (b, .inr (ci, fs))) (cw : (∀ w ∈ GW, w.before args s = true) → NX s → va_CU R s args own qc.1 owner ix x y bytes maxL ret ws rm mc ms n2) (hM : ∀ sz, Met l y ws rm (va_Pc (.ref b :: As) (PreW D cy w sz)) (va_Qi post (fun u t => PostW D (va_A w sz) (wf u) t) (va_A w sz)) mc ms (va_A w sz)) (hlen : As.length = n2) (hst : st0 = As.reverse ++ .ref b :: rest) (hs : (rest.map fun v => v.category).sum ≤ 8) (hc : cells + mc ≤ R.cells ∧ slots + ms ≤ R.slots) (kk : ∀ (r : Int32) (u : S) (H : Heap) (locs : List Loc), post r u → HXw D Z s.heap H locs (wf u) → W p l e R s m args below meth c H locs (cells + mc) (slots + ms) Q (F0 m n ls (.int r :: rest))) : W p l e R s m args below meth c H locs cells slots Q (F0 m pc ls st0) := by
  subst hn
  subst hst
  exact call_i C h (va_runU C.1 (hM _) (cw C.hts C.hN) (h.preV C hci he As) rfl hlen hl.1 rfl (lv_room hs) (C.dg hk) hc) kk
theorem i_callUv {y : MethodName} {bytes : ByteArray} {maxL n2 ix : Nat} {ret : Option FieldType} {ws : List Cond} {rm : Room} {As st0 : List Value} {owner : String} {x : MethodName} {ci q0 b : Nat} {qc : vw_C} {fs : List Value} {S : Type} {wf : S → va_W} {post : S → Prop} {mc ms : Nat} (C : CX D cy own cc tb nL p s m args c Z) (k : Nat) (hk : tb[k]? = some (pc, .invokevirtual ix, 3)) (hn : pc + 3 = n) (hl : lv_has ls nL lv) (h : HXw D Z s.heap H locs w) (hci : vwCl[ci]? = some qc) (he : w[q0]? = some (b, .inr (ci, fs))) (cw : (∀ w ∈ GW, w.before args s = true) → NX s → va_CU R s args own qc.1 owner ix x y bytes maxL ret ws rm mc ms n2) (hM : ∀ sz, Met l y ws rm (va_Pc (.ref b :: As) (PreW D cy w sz)) (va_Qv post (fun u t => PostW D (va_A w sz) (wf u) t) (va_A w sz)) mc ms (va_A w sz)) (hlen : As.length = n2) (hst : st0 = As.reverse ++ .ref b :: rest) (hs : (rest.map fun v => v.category).sum ≤ 8) (hc : cells + mc ≤ R.cells ∧ slots + ms ≤ R.slots) (kk : ∀ (u : S) (H : Heap) (locs : List Loc), post u → HXw D Z s.heap H locs (wf u) → W p l e R s m args below meth c H locs (cells + mc) (slots + ms) Q (F0 m n ls rest)) : W p l e R s m args below meth c H locs cells slots Q (F0 m pc ls st0) := by
  subst hn
  subst hst
  exact call_v C h (va_runU C.1 (hM _) (cw C.hts C.hN) (h.preV C hci he As) rfl hlen hl.1 rfl (lv_room hs) (C.dg hk) hc) kk
theorem i_callIv {y : MethodName} {bytes : ByteArray} {maxL n2 ix : Nat} {ret : Option FieldType} {ws : List Cond} {rm : Room} {As st0 : List Value}  {b : Nat} {S : Type} {wf : S → va_W} {post : S → Prop} {mc ms : Nat} (C : CX D cy own cc tb nL p s m args c Z) (k : Nat) (hk : tb[k]? = some (pc, .invokespecial ix, 3)) (hn : pc + 3 = n) (hl : lv_has ls nL lv) (h : HXw D Z s.heap H locs w)  (cw : (∀ w ∈ GW, w.before args s = true) → CallB R s args own ix y bytes maxL none ws rm mc ms n2 ∧ y.name = "<init>" ∧ (Cond.instanceMethod y).before args s = true) (hM : ∀ sz, Met l y ws rm (va_Pc (.ref b :: As) (PreW D cy w sz)) (va_Qv post (fun u t => PostW D (va_A w sz) (wf u) t) (va_A w sz)) mc ms (va_A w sz)) (hlen : As.length = n2) (hst : st0 = As.reverse ++ .ref b :: rest) (hs : (rest.map fun v => v.category).sum ≤ 8) (hc : cells + mc ≤ R.cells ∧ slots + ms ≤ R.slots) (kk : ∀ (u : S) (H : Heap) (locs : List Loc), post u → HXw D Z s.heap H locs (wf u) → W p l e R s m args below meth c H locs (cells + mc) (slots + ms) Q (F0 m n ls rest)) : W p l e R s m args below meth c H locs cells slots Q (F0 m pc ls st0) := by
  subst hn
  subst hst
  exact call_v C h (va_runI C.1 (hM _) (cw C.hts) (h.preS C _) rfl hlen hl.1 rfl (lv_room hs) (C.dg hk) hc) kk
theorem i_callINv {y : MethodName} {bytes : ByteArray} {maxL n2 ix : Nat} {ret : Option FieldType} {ws : List Cond} {rm : Room} {As st0 : List Value} {host : String} {b : Nat} {S : Type} {wf : S → va_W} {post : S → Prop} {mc ms : Nat} (C : CX D cy own cc tb nL p s m args c Z) (k : Nat) (hk : tb[k]? = some (pc, .invokespecial ix, 3)) (hn : pc + 3 = n) (hl : lv_has ls nL lv) (h : HXw D Z s.heap H locs w)  (cw : (∀ w ∈ GW, w.before args s = true) → NX s → va_CN R s args own ix y host bytes maxL none ws rm mc ms n2 ∧ y.name = "<init>" ∧ (Cond.instanceMethod y).before args s = true) (hM : ∀ sz, Met l y ws rm (va_Pc (.ref b :: As) (PreW D cy w sz)) (va_Qv post (fun u t => PostW D (va_A w sz) (wf u) t) (va_A w sz)) mc ms (va_A w sz)) (hlen : As.length = n2) (hst : st0 = As.reverse ++ .ref b :: rest) (hs : (rest.map fun v => v.category).sum ≤ 8) (hc : cells + mc ≤ R.cells ∧ slots + ms ≤ R.slots) (kk : ∀ (u : S) (H : Heap) (locs : List Loc), post u → HXw D Z s.heap H locs (wf u) → W p l e R s m args below meth c H locs (cells + mc) (slots + ms) Q (F0 m n ls rest)) : W p l e R s m args below meth c H locs cells slots Q (F0 m pc ls st0) := by
  subst hn
  subst hst
  exact call_v C h (va_runIN C.1 (hM _) (cw C.hts C.hN) (h.preS C _) rfl hlen hl.1 rfl (lv_room hs) (C.dg hk) hc) kk
end STEPS
end
section
def nfl : Nat → Nat := fun k => match k with
  | 0 => 6
  | 1 => 3
  | 2 => 7
  | 3 => 3
  | 4 => 4
  | 9 => 3
  | _ => 0
def tcell (K : Nat → Nat) (F : Nat → Nat → Int32) : Nat → va_E := fun a => .inr (K a, (List.range (nfl (K a))).map (fun j => Value.int (F a j)))
def isTh (k : Nat) : Prop := k = 0 ∨ k = 1 ∨ k = 2 ∨ k = 3 ∨ k = 4 ∨ k = 9
def isB (v : Int32) : Prop := v = 0 ∨ v = 1
theorem isB.nar {v : Int32} (h : isB v) : narrow .boolean (.int v) = .int v := by rcases h with rfl | rfl <;> rfl
theorem isB.fit {v : Int32} (h : isB v) : fits .boolean (.int v) = true := by rcases h with rfl | rfl <;> rfl
/-- a store in the array k at i -/
def sA (A : Nat → Nat → Int32) (k : Nat) (i x : Int32) : Nat → Nat → Int32 := va_up A k (upd (A k) i.toNatClampNeg x)
theorem wd_get {n : Nat} {ad : Nat → Nat} {E : Nat → va_E} {P : va_W} {h : Nat} (hh : h < n) : (((List.range n).map (fun h => (ad h, E h))) ++ P)[h]? = some (ad h, E h) := by
  rw [List.getElem?_append_left (by simp; exact hh), List.getElem?_map, List.getElem?_range hh]; rfl
theorem wd_set {n : Nat} {ad : Nat → Nat} {E : Nat → va_E} {P : va_W} {h : Nat} (hh : h < n) (x : va_E) : (((List.range n).map (fun h => (ad h, E h))) ++ P).set h (ad h, x) = ((List.range n).map (fun j => (ad j, va_up E h x j))) ++ P := by
  rw [List.set_append_left _ _ (by simp; exact hh)]
  congr 1
  apply List.ext_getElem?
  intro i
  rw [List.getElem?_set]
  by_cases e : h = i
  · subst e
    simp [hh, va_up]
  · rw [if_neg e]
    by_cases hi : i < n
    · rw [List.getElem?_map, List.getElem?_map, List.getElem?_range hi]
      simp [va_up, Ne.symm e]
    · rw [List.getElem?_eq_none (by simp; omega), List.getElem?_eq_none (by simp; omega)]
def tyC (k : Nat) : Nat := match k with
  | 1 => 1
  | 10 => 1
  | _ => 0
def lenC (k : Nat) : Nat := match k with
  | 0 => 12
  | 1 => 12
  | 2 => 4
  | 3 => 4
  | 4 => 12
  | 5 => 12
  | 6 => 12
  | 7 => 12
  | 8 => 12
  | 9 => 12
  | 10 => 12
  | 11 => 12
  | 12 => 12
  | 13 => 15
  | 14 => 13
  | 15 => 36
  | 16 => 36
  | 17 => 18
  | 18 => 18
  | 19 => 18
  | 20 => 12
  | 21 => 12
  | 22 => 40
  | 23 => 6
  | 24 => 6
  | 25 => 8
  | 26 => 3
  | 27 => 3
  | 28 => 8
  | 29 => 8
  | 30 => 12864
  | 31 => 20
  | 32 => 20
  | 33 => 20
  | 34 => 20
  | 35 => 40
  | 36 => 40
  | 37 => 40
  | 38 => 40
  | 39 => 40
  | 40 => 40
  | _ => 0
def EC (cy : Nat → ClassId) (ad : Nat → Nat) (I : Nat → Int32) (A : Nat → Nat → Int32) (T : Nat → Option Nat) : Nat → va_E := fun h => match h with
  | 0 => .inr (10, [.ref (ad 1), .ref (ad 2), .ref (ad 3), .ref (ad 4), .ref (ad 8), .ref (ad 9), .ref (ad 10), .ref (ad 6), .ref (ad 11), .ref (ad 12), .ref (ad 13), .ref (ad 14), .int (I 0), .int (I 1), .int (I 2), .int (I 3)])
  | 1 => .inr (5, [.ref (ad 2), .int (I 4), .int (I 5), .int (I 6), .int (I 7), .ref (ad 15), .ref (ad 16), .ref (ad 17), .ref (ad 5), .ref (ad 18), .ref (ad 19), .ref (ad 20), .ref (ad 21), .ref (ad 22), .ref (ad 23), .ref (ad 24), .int (I 8)])
  | 2 => .inr (7, [.int (I 9), .int (I 10), .int (I 11), .ref (ad 25), .ref (ad 26), .ref (ad 27), .ref (ad 28), .ref (ad 29)])
  | 3 => .inr (6, [.int (I 12), .int (I 13), .ref (ad 30), .ref (ad 7), .ref (ad 31), .ref (ad 32)])
  | 4 => .inr (8, [.int (I 14), .ref (ad 33), .ref (ad 34), .ref (ad 35), .ref (ad 36), .ref (ad 37), .ref (ad 38), .int (I 15)])
  | 5 => .inl (cy 2, 12, .inr (.inr (.inr (.inr T))))
  | 6 => .inl (cy 3, 4, .inr (.inr (.inr (.inr (fun i => if i < 4 then some (ad (39 + i)) else none)))))
  | 7 => .inl (cy 3, 6, .inr (.inr (.inr (.inr (fun i => if i < 6 then some (ad (43 + i)) else none)))))
  | k + 8 => .inl (cy (tyC k), lenC k, .inl (A k))
def wC (cy : Nat → ClassId) (ad : Nat → Nat) (I : Nat → Int32) (A : Nat → Nat → Int32) (T : Nat → Option Nat) (L : List Nat) (K : Nat → Nat) (F : Nat → Nat → Int32) : va_W := (List.range 49).map (fun h => (ad h, EC cy ad I A T h)) ++ va_pl L (tcell K F)
section WC
variable {cy : Nat → ClassId} {ad : Nat → Nat} {I : Nat → Int32} {A : Nat → Nat → Int32} {T : Nat → Option Nat} {L : List Nat} {K : Nat → Nat} {F : Nat → Nat → Int32}
theorem wC_get {h : Nat} (hh : h < 49) : (wC cy ad I A T L K F)[h]? = some (ad h, EC cy ad I A T h) := wd_get hh
theorem wC_arr (k : Nat) (hk : k < 41) {h : Nat} (hh : k + 8 = h) : (wC cy ad I A T L K F)[h]? = some (ad h, .inl (cy (tyC k), lenC k, .inl (A k))) := by
  subst hh
  exact wd_get (by omega)
theorem wC_setA (k : Nat) (hk : k < 41) {h : Nat} (hh : k + 8 = h) (f : Nat → Int32) : (wC cy ad I A T L K F).set h (ad h, .inl (cy (tyC k), lenC k, .inl f)) = wC cy ad I (va_up A k f) T L K F := by
  subst hh
  unfold wC
  rw [wd_set (by omega)]
  congr 2
  funext h
  congr 1
  by_cases e : h = k + 8
  · subst e
    simp [va_up, EC]
  · rw [va_up, if_neg e]
    match h, e with
    | 0, _ => rfl
    | 1, _ => rfl
    | 2, _ => rfl
    | 3, _ => rfl
    | 4, _ => rfl
    | 5, _ => rfl
    | 6, _ => rfl
    | 7, _ => rfl
    | j + 8, e => simp [EC, va_up, show ¬ j = k from fun q => e (by rw [q])]
theorem wC_setI0 (v : Int32) : (wC cy ad I A T L K F).set 0 (ad 0, .inr (10, [.ref (ad 1), .ref (ad 2), .ref (ad 3), .ref (ad 4), .ref (ad 8), .ref (ad 9), .ref (ad 10), .ref (ad 6), .ref (ad 11), .ref (ad 12), .ref (ad 13), .ref (ad 14), .int v, .int (I 1), .int (I 2), .int (I 3)])) = wC cy ad (va_up I 0 v) A T L K F := by
  unfold wC
  rw [wd_set (by omega)]
  congr 2
  funext h
  congr 1
  match h with
  | 0 => rfl
  | 1 => rfl
  | 2 => rfl
  | 3 => rfl
  | 4 => rfl
  | 5 => rfl
  | 6 => rfl
  | 7 => rfl
  | j + 8 => simp [EC, va_up]
theorem wC_setI1 (v : Int32) : (wC cy ad I A T L K F).set 0 (ad 0, .inr (10, [.ref (ad 1), .ref (ad 2), .ref (ad 3), .ref (ad 4), .ref (ad 8), .ref (ad 9), .ref (ad 10), .ref (ad 6), .ref (ad 11), .ref (ad 12), .ref (ad 13), .ref (ad 14), .int (I 0), .int v, .int (I 2), .int (I 3)])) = wC cy ad (va_up I 1 v) A T L K F := by
  unfold wC
  rw [wd_set (by omega)]
  congr 2
  funext h
  congr 1
  match h with
  | 0 => rfl
  | 1 => rfl
  | 2 => rfl
  | 3 => rfl
  | 4 => rfl
  | 5 => rfl
  | 6 => rfl
  | 7 => rfl
  | j + 8 => simp [EC, va_up]
theorem wC_setI2 (v : Int32) : (wC cy ad I A T L K F).set 0 (ad 0, .inr (10, [.ref (ad 1), .ref (ad 2), .ref (ad 3), .ref (ad 4), .ref (ad 8), .ref (ad 9), .ref (ad 10), .ref (ad 6), .ref (ad 11), .ref (ad 12), .ref (ad 13), .ref (ad 14), .int (I 0), .int (I 1), .int v, .int (I 3)])) = wC cy ad (va_up I 2 v) A T L K F := by
  unfold wC
  rw [wd_set (by omega)]
  congr 2
  funext h
  congr 1
  match h with
  | 0 => rfl
  | 1 => rfl
  | 2 => rfl
  | 3 => rfl
  | 4 => rfl
  | 5 => rfl
  | 6 => rfl
  | 7 => rfl
  | j + 8 => simp [EC, va_up]
theorem wC_setI3 (v : Int32) : (wC cy ad I A T L K F).set 0 (ad 0, .inr (10, [.ref (ad 1), .ref (ad 2), .ref (ad 3), .ref (ad 4), .ref (ad 8), .ref (ad 9), .ref (ad 10), .ref (ad 6), .ref (ad 11), .ref (ad 12), .ref (ad 13), .ref (ad 14), .int (I 0), .int (I 1), .int (I 2), .int v])) = wC cy ad (va_up I 3 v) A T L K F := by
  unfold wC
  rw [wd_set (by omega)]
  congr 2
  funext h
  congr 1
  match h with
  | 0 => rfl
  | 1 => rfl
  | 2 => rfl
  | 3 => rfl
  | 4 => rfl
  | 5 => rfl
  | 6 => rfl
  | 7 => rfl
  | j + 8 => simp [EC, va_up]
theorem wC_setI4 (v : Int32) : (wC cy ad I A T L K F).set 1 (ad 1, .inr (5, [.ref (ad 2), .int v, .int (I 5), .int (I 6), .int (I 7), .ref (ad 15), .ref (ad 16), .ref (ad 17), .ref (ad 5), .ref (ad 18), .ref (ad 19), .ref (ad 20), .ref (ad 21), .ref (ad 22), .ref (ad 23), .ref (ad 24), .int (I 8)])) = wC cy ad (va_up I 4 v) A T L K F := by
  unfold wC
  rw [wd_set (by omega)]
  congr 2
  funext h
  congr 1
  match h with
  | 0 => rfl
  | 1 => rfl
  | 2 => rfl
  | 3 => rfl
  | 4 => rfl
  | 5 => rfl
  | 6 => rfl
  | 7 => rfl
  | j + 8 => simp [EC, va_up]
theorem wC_setI5 (v : Int32) : (wC cy ad I A T L K F).set 1 (ad 1, .inr (5, [.ref (ad 2), .int (I 4), .int v, .int (I 6), .int (I 7), .ref (ad 15), .ref (ad 16), .ref (ad 17), .ref (ad 5), .ref (ad 18), .ref (ad 19), .ref (ad 20), .ref (ad 21), .ref (ad 22), .ref (ad 23), .ref (ad 24), .int (I 8)])) = wC cy ad (va_up I 5 v) A T L K F := by
  unfold wC
  rw [wd_set (by omega)]
  congr 2
  funext h
  congr 1
  match h with
  | 0 => rfl
  | 1 => rfl
  | 2 => rfl
  | 3 => rfl
  | 4 => rfl
  | 5 => rfl
  | 6 => rfl
  | 7 => rfl
  | j + 8 => simp [EC, va_up]
theorem wC_setI6 (v : Int32) : (wC cy ad I A T L K F).set 1 (ad 1, .inr (5, [.ref (ad 2), .int (I 4), .int (I 5), .int v, .int (I 7), .ref (ad 15), .ref (ad 16), .ref (ad 17), .ref (ad 5), .ref (ad 18), .ref (ad 19), .ref (ad 20), .ref (ad 21), .ref (ad 22), .ref (ad 23), .ref (ad 24), .int (I 8)])) = wC cy ad (va_up I 6 v) A T L K F := by
  unfold wC
  rw [wd_set (by omega)]
  congr 2
  funext h
  congr 1
  match h with
  | 0 => rfl
  | 1 => rfl
  | 2 => rfl
  | 3 => rfl
  | 4 => rfl
  | 5 => rfl
  | 6 => rfl
  | 7 => rfl
  | j + 8 => simp [EC, va_up]
theorem wC_setI7 (v : Int32) : (wC cy ad I A T L K F).set 1 (ad 1, .inr (5, [.ref (ad 2), .int (I 4), .int (I 5), .int (I 6), .int v, .ref (ad 15), .ref (ad 16), .ref (ad 17), .ref (ad 5), .ref (ad 18), .ref (ad 19), .ref (ad 20), .ref (ad 21), .ref (ad 22), .ref (ad 23), .ref (ad 24), .int (I 8)])) = wC cy ad (va_up I 7 v) A T L K F := by
  unfold wC
  rw [wd_set (by omega)]
  congr 2
  funext h
  congr 1
  match h with
  | 0 => rfl
  | 1 => rfl
  | 2 => rfl
  | 3 => rfl
  | 4 => rfl
  | 5 => rfl
  | 6 => rfl
  | 7 => rfl
  | j + 8 => simp [EC, va_up]
theorem wC_setI8 (v : Int32) : (wC cy ad I A T L K F).set 1 (ad 1, .inr (5, [.ref (ad 2), .int (I 4), .int (I 5), .int (I 6), .int (I 7), .ref (ad 15), .ref (ad 16), .ref (ad 17), .ref (ad 5), .ref (ad 18), .ref (ad 19), .ref (ad 20), .ref (ad 21), .ref (ad 22), .ref (ad 23), .ref (ad 24), .int v])) = wC cy ad (va_up I 8 v) A T L K F := by
  unfold wC
  rw [wd_set (by omega)]
  congr 2
  funext h
  congr 1
  match h with
  | 0 => rfl
  | 1 => rfl
  | 2 => rfl
  | 3 => rfl
  | 4 => rfl
  | 5 => rfl
  | 6 => rfl
  | 7 => rfl
  | j + 8 => simp [EC, va_up]
theorem wC_setI9 (v : Int32) : (wC cy ad I A T L K F).set 2 (ad 2, .inr (7, [.int v, .int (I 10), .int (I 11), .ref (ad 25), .ref (ad 26), .ref (ad 27), .ref (ad 28), .ref (ad 29)])) = wC cy ad (va_up I 9 v) A T L K F := by
  unfold wC
  rw [wd_set (by omega)]
  congr 2
  funext h
  congr 1
  match h with
  | 0 => rfl
  | 1 => rfl
  | 2 => rfl
  | 3 => rfl
  | 4 => rfl
  | 5 => rfl
  | 6 => rfl
  | 7 => rfl
  | j + 8 => simp [EC, va_up]
theorem wC_setI10 (v : Int32) : (wC cy ad I A T L K F).set 2 (ad 2, .inr (7, [.int (I 9), .int v, .int (I 11), .ref (ad 25), .ref (ad 26), .ref (ad 27), .ref (ad 28), .ref (ad 29)])) = wC cy ad (va_up I 10 v) A T L K F := by
  unfold wC
  rw [wd_set (by omega)]
  congr 2
  funext h
  congr 1
  match h with
  | 0 => rfl
  | 1 => rfl
  | 2 => rfl
  | 3 => rfl
  | 4 => rfl
  | 5 => rfl
  | 6 => rfl
  | 7 => rfl
  | j + 8 => simp [EC, va_up]
theorem wC_setI11 (v : Int32) : (wC cy ad I A T L K F).set 2 (ad 2, .inr (7, [.int (I 9), .int (I 10), .int v, .ref (ad 25), .ref (ad 26), .ref (ad 27), .ref (ad 28), .ref (ad 29)])) = wC cy ad (va_up I 11 v) A T L K F := by
  unfold wC
  rw [wd_set (by omega)]
  congr 2
  funext h
  congr 1
  match h with
  | 0 => rfl
  | 1 => rfl
  | 2 => rfl
  | 3 => rfl
  | 4 => rfl
  | 5 => rfl
  | 6 => rfl
  | 7 => rfl
  | j + 8 => simp [EC, va_up]
theorem wC_setI12 (v : Int32) : (wC cy ad I A T L K F).set 3 (ad 3, .inr (6, [.int v, .int (I 13), .ref (ad 30), .ref (ad 7), .ref (ad 31), .ref (ad 32)])) = wC cy ad (va_up I 12 v) A T L K F := by
  unfold wC
  rw [wd_set (by omega)]
  congr 2
  funext h
  congr 1
  match h with
  | 0 => rfl
  | 1 => rfl
  | 2 => rfl
  | 3 => rfl
  | 4 => rfl
  | 5 => rfl
  | 6 => rfl
  | 7 => rfl
  | j + 8 => simp [EC, va_up]
theorem wC_setI13 (v : Int32) : (wC cy ad I A T L K F).set 3 (ad 3, .inr (6, [.int (I 12), .int v, .ref (ad 30), .ref (ad 7), .ref (ad 31), .ref (ad 32)])) = wC cy ad (va_up I 13 v) A T L K F := by
  unfold wC
  rw [wd_set (by omega)]
  congr 2
  funext h
  congr 1
  match h with
  | 0 => rfl
  | 1 => rfl
  | 2 => rfl
  | 3 => rfl
  | 4 => rfl
  | 5 => rfl
  | 6 => rfl
  | 7 => rfl
  | j + 8 => simp [EC, va_up]
theorem wC_setI14 (v : Int32) : (wC cy ad I A T L K F).set 4 (ad 4, .inr (8, [.int v, .ref (ad 33), .ref (ad 34), .ref (ad 35), .ref (ad 36), .ref (ad 37), .ref (ad 38), .int (I 15)])) = wC cy ad (va_up I 14 v) A T L K F := by
  unfold wC
  rw [wd_set (by omega)]
  congr 2
  funext h
  congr 1
  match h with
  | 0 => rfl
  | 1 => rfl
  | 2 => rfl
  | 3 => rfl
  | 4 => rfl
  | 5 => rfl
  | 6 => rfl
  | 7 => rfl
  | j + 8 => simp [EC, va_up]
theorem wC_setI15 (v : Int32) : (wC cy ad I A T L K F).set 4 (ad 4, .inr (8, [.int (I 14), .ref (ad 33), .ref (ad 34), .ref (ad 35), .ref (ad 36), .ref (ad 37), .ref (ad 38), .int v])) = wC cy ad (va_up I 15 v) A T L K F := by
  unfold wC
  rw [wd_set (by omega)]
  congr 2
  funext h
  congr 1
  match h with
  | 0 => rfl
  | 1 => rfl
  | 2 => rfl
  | 3 => rfl
  | 4 => rfl
  | 5 => rfl
  | 6 => rfl
  | 7 => rfl
  | j + 8 => simp [EC, va_up]
theorem wC_setT (f : Nat → Option Nat) : (wC cy ad I A T L K F).set 5 (ad 5, .inl (cy 2, 12, .inr (.inr (.inr (.inr f))))) = wC cy ad I A f L K F := by
  unfold wC
  rw [wd_set (by omega)]
  congr 2
  funext h
  congr 1
  match h with
  | 0 => rfl
  | 1 => rfl
  | 2 => rfl
  | 3 => rfl
  | 4 => rfl
  | 5 => rfl
  | 6 => rfl
  | 7 => rfl
  | j + 8 => simp [EC, va_up]
theorem wC_th {q ci : Nat} (hq : q ∈ L) (hk : K q = ci) : ∃ k : Nat, (wC cy ad I A T L K F)[k]? = some (q, .inr (ci, (List.range (nfl ci)).map (fun j => Value.int (F q j)))) ∧ (wC cy ad I A T L K F)[k]? = some (q, tcell K F q) := by
  obtain ⟨k, hk2⟩ := va_pl_get (X := (List.range 49).map (fun h => (ad h, EC cy ad I A T h))) (f := tcell K F) hq
  refine ⟨k, ?_, hk2⟩
  subst hk
  exact hk2
theorem wC_setF {Z : Nat → Prop} {q k fj : Nat} {v : Int32} (hD : va_D Z (wC cy ad I A T L K F)) (hq : q ∈ L) (hk : (wC cy ad I A T L K F)[k]? = some (q, tcell K F q)) {ci : Nat} (hc : K q = ci) (hj : fj < nfl ci) : (wC cy ad I A T L K F).set k (q, .inr (ci, ((List.range (nfl ci)).map (fun j => Value.int (F q j))).set fj (.int v))) = wC cy ad I A T L K (va_up F q (va_up (F q) fj v)) := by
  subst hc
  unfold wC at hD hk ⊢
  rw [va_pl_set hD hq hk]
  congr 2
  funext a
  by_cases e : a = q
  · subst e
    simp only [va_up, tcell, if_pos]
    congr 2
    apply List.ext_getElem?
    intro i
    rw [List.getElem?_set]
    by_cases e2 : fj = i
    · subst e2
      simp [hj]
    · rw [if_neg e2]
      by_cases hi : i < nfl (K a)
      · rw [List.getElem?_map, List.getElem?_map, List.getElem?_range hi]
        simp [va_up, Ne.symm e2]
      · rw [List.getElem?_eq_none (by simp; omega), List.getElem?_eq_none (by simp; omega)]
  · simp [va_up, e, tcell]
theorem wC_new {Z : Nat → Prop} {q ci : Nat} {fs : List Value} (hD : va_D Z (wC cy ad I A T L K F ++ [(q, .inr (ci, fs))])) (hf : fs = (List.range (nfl ci)).map (fun _ => Value.int 0)) : wC cy ad I A T L K F ++ [(q, .inr (ci, fs))] = wC cy ad I A T (L ++ [q]) (va_up K q ci) (va_up F q (fun _ => 0)) := by
  subst hf
  have hn : q ∉ L := by
    intro hq
    obtain ⟨k, hk⟩ := va_pl_get (X := (List.range 49).map (fun h => (ad h, EC cy ad I A T h))) (f := tcell K F) hq
    have hkl := (List.getElem?_eq_some_iff.mp hk).1
    have e := hD.1 k (wC cy ad I A T L K F).length (q, tcell K F q) (q, .inr (ci, (List.range (nfl ci)).map (fun _ => Value.int 0))) (by rw [List.getElem?_append_left (show k < (wC cy ad I A T L K F).length from hkl)]; exact hk) (by simp) rfl
    have : k < (wC cy ad I A T L K F).length := hkl
    omega
  unfold wC
  rw [List.append_assoc, va_pl_push hn]
  congr 2
  funext a
  by_cases e : a = q
  · subst e
    simp [va_up, tcell]
  · simp [va_up, e, tcell]
end WC
def tyM (k : Nat) : Nat := match k with
  | 8 => 1
  | 11 => 1
  | 19 => 1
  | 22 => 1
  | 32 => 1
  | _ => 0
def lenM (k : Nat) : Nat := match k with
  | 0 => 12
  | 1 => 12
  | 2 => 12
  | 3 => 12
  | 4 => 12
  | 5 => 12
  | 6 => 12
  | 7 => 12
  | 8 => 12
  | 9 => 12
  | 10 => 12
  | 11 => 12
  | 12 => 12
  | 13 => 12
  | 14 => 18
  | 15 => 18
  | 16 => 18
  | 17 => 12
  | 18 => 12
  | 19 => 12
  | 20 => 4
  | 21 => 80
  | 22 => 80
  | 23 => 40
  | 24 => 6
  | 25 => 6
  | 26 => 240
  | 27 => 8
  | 28 => 3
  | 29 => 3
  | 30 => 4
  | 31 => 12
  | 32 => 12
  | 33 => 12
  | 34 => 12
  | 35 => 12
  | 36 => 14472
  | _ => 0
def EM (cy : Nat → ClassId) (ad : Nat → Nat) (I : Nat → Int32) (A : Nat → Nat → Int32) : Nat → va_E := fun h => match h with
  | 0 => .inr (11, [.int (I 0), .ref (ad 1), .ref (ad 2), .ref (ad 3), .ref (ad 4), .ref (ad 5), .ref (ad 6), .ref (ad 7), .ref (ad 8), .ref (ad 9), .ref (ad 10), .ref (ad 11), .ref (ad 12), .ref (ad 13), .ref (ad 14), .int (I 1), .ref (ad 15), .ref (ad 16), .ref (ad 17), .int (I 2), .ref (ad 18), .ref (ad 19), .ref (ad 20), .int (I 3), .int (I 4), .int (I 5), .int (I 6), .int (I 7), .int (I 8), .ref (ad 21), .ref (ad 22), .ref (ad 23), .int (I 9), .ref (ad 24), .int (I 10), .ref (ad 25), .ref (ad 26), .ref (ad 27), .int (I 11), .ref (ad 28), .ref (ad 29), .ref (ad 30), .ref (ad 31), .ref (ad 32), .ref (ad 33), .int (I 12), .ref (ad 34), .ref (ad 35), .ref (ad 36), .ref (ad 37)])
  | k + 1 => .inl (cy (tyM k), lenM k, .inl (A k))
def wM (cy : Nat → ClassId) (ad : Nat → Nat) (I : Nat → Int32) (A : Nat → Nat → Int32) : va_W := (List.range 38).map (fun h => (ad h, EM cy ad I A h)) ++ []
section WM
variable {cy : Nat → ClassId} {ad : Nat → Nat} {I : Nat → Int32} {A : Nat → Nat → Int32} {T : Nat → Option Nat} {L : List Nat} {K : Nat → Nat} {F : Nat → Nat → Int32}
theorem wM_get {h : Nat} (hh : h < 38) : (wM cy ad I A)[h]? = some (ad h, EM cy ad I A h) := wd_get hh
theorem wM_arr (k : Nat) (hk : k < 37) {h : Nat} (hh : k + 1 = h) : (wM cy ad I A)[h]? = some (ad h, .inl (cy (tyM k), lenM k, .inl (A k))) := by
  subst hh
  exact wd_get (by omega)
theorem wM_setA (k : Nat) (hk : k < 37) {h : Nat} (hh : k + 1 = h) (f : Nat → Int32) : (wM cy ad I A).set h (ad h, .inl (cy (tyM k), lenM k, .inl f)) = wM cy ad I (va_up A k f) := by
  subst hh
  unfold wM
  rw [wd_set (by omega)]
  congr 2
  funext h
  congr 1
  by_cases e : h = k + 1
  · subst e
    simp [va_up, EM]
  · rw [va_up, if_neg e]
    match h, e with
    | 0, _ => rfl
    | j + 1, e => simp [EM, va_up, show ¬ j = k from fun q => e (by rw [q])]
theorem wM_setI0 (v : Int32) : (wM cy ad I A).set 0 (ad 0, .inr (11, [.int v, .ref (ad 1), .ref (ad 2), .ref (ad 3), .ref (ad 4), .ref (ad 5), .ref (ad 6), .ref (ad 7), .ref (ad 8), .ref (ad 9), .ref (ad 10), .ref (ad 11), .ref (ad 12), .ref (ad 13), .ref (ad 14), .int (I 1), .ref (ad 15), .ref (ad 16), .ref (ad 17), .int (I 2), .ref (ad 18), .ref (ad 19), .ref (ad 20), .int (I 3), .int (I 4), .int (I 5), .int (I 6), .int (I 7), .int (I 8), .ref (ad 21), .ref (ad 22), .ref (ad 23), .int (I 9), .ref (ad 24), .int (I 10), .ref (ad 25), .ref (ad 26), .ref (ad 27), .int (I 11), .ref (ad 28), .ref (ad 29), .ref (ad 30), .ref (ad 31), .ref (ad 32), .ref (ad 33), .int (I 12), .ref (ad 34), .ref (ad 35), .ref (ad 36), .ref (ad 37)])) = wM cy ad (va_up I 0 v) A := by
  unfold wM
  rw [wd_set (by omega)]
  congr 2
  funext h
  congr 1
  match h with
  | 0 => rfl
  | j + 1 => simp [EM, va_up]
theorem wM_setI1 (v : Int32) : (wM cy ad I A).set 0 (ad 0, .inr (11, [.int (I 0), .ref (ad 1), .ref (ad 2), .ref (ad 3), .ref (ad 4), .ref (ad 5), .ref (ad 6), .ref (ad 7), .ref (ad 8), .ref (ad 9), .ref (ad 10), .ref (ad 11), .ref (ad 12), .ref (ad 13), .ref (ad 14), .int v, .ref (ad 15), .ref (ad 16), .ref (ad 17), .int (I 2), .ref (ad 18), .ref (ad 19), .ref (ad 20), .int (I 3), .int (I 4), .int (I 5), .int (I 6), .int (I 7), .int (I 8), .ref (ad 21), .ref (ad 22), .ref (ad 23), .int (I 9), .ref (ad 24), .int (I 10), .ref (ad 25), .ref (ad 26), .ref (ad 27), .int (I 11), .ref (ad 28), .ref (ad 29), .ref (ad 30), .ref (ad 31), .ref (ad 32), .ref (ad 33), .int (I 12), .ref (ad 34), .ref (ad 35), .ref (ad 36), .ref (ad 37)])) = wM cy ad (va_up I 1 v) A := by
  unfold wM
  rw [wd_set (by omega)]
  congr 2
  funext h
  congr 1
  match h with
  | 0 => rfl
  | j + 1 => simp [EM, va_up]
theorem wM_setI2 (v : Int32) : (wM cy ad I A).set 0 (ad 0, .inr (11, [.int (I 0), .ref (ad 1), .ref (ad 2), .ref (ad 3), .ref (ad 4), .ref (ad 5), .ref (ad 6), .ref (ad 7), .ref (ad 8), .ref (ad 9), .ref (ad 10), .ref (ad 11), .ref (ad 12), .ref (ad 13), .ref (ad 14), .int (I 1), .ref (ad 15), .ref (ad 16), .ref (ad 17), .int v, .ref (ad 18), .ref (ad 19), .ref (ad 20), .int (I 3), .int (I 4), .int (I 5), .int (I 6), .int (I 7), .int (I 8), .ref (ad 21), .ref (ad 22), .ref (ad 23), .int (I 9), .ref (ad 24), .int (I 10), .ref (ad 25), .ref (ad 26), .ref (ad 27), .int (I 11), .ref (ad 28), .ref (ad 29), .ref (ad 30), .ref (ad 31), .ref (ad 32), .ref (ad 33), .int (I 12), .ref (ad 34), .ref (ad 35), .ref (ad 36), .ref (ad 37)])) = wM cy ad (va_up I 2 v) A := by
  unfold wM
  rw [wd_set (by omega)]
  congr 2
  funext h
  congr 1
  match h with
  | 0 => rfl
  | j + 1 => simp [EM, va_up]
theorem wM_setI3 (v : Int32) : (wM cy ad I A).set 0 (ad 0, .inr (11, [.int (I 0), .ref (ad 1), .ref (ad 2), .ref (ad 3), .ref (ad 4), .ref (ad 5), .ref (ad 6), .ref (ad 7), .ref (ad 8), .ref (ad 9), .ref (ad 10), .ref (ad 11), .ref (ad 12), .ref (ad 13), .ref (ad 14), .int (I 1), .ref (ad 15), .ref (ad 16), .ref (ad 17), .int (I 2), .ref (ad 18), .ref (ad 19), .ref (ad 20), .int v, .int (I 4), .int (I 5), .int (I 6), .int (I 7), .int (I 8), .ref (ad 21), .ref (ad 22), .ref (ad 23), .int (I 9), .ref (ad 24), .int (I 10), .ref (ad 25), .ref (ad 26), .ref (ad 27), .int (I 11), .ref (ad 28), .ref (ad 29), .ref (ad 30), .ref (ad 31), .ref (ad 32), .ref (ad 33), .int (I 12), .ref (ad 34), .ref (ad 35), .ref (ad 36), .ref (ad 37)])) = wM cy ad (va_up I 3 v) A := by
  unfold wM
  rw [wd_set (by omega)]
  congr 2
  funext h
  congr 1
  match h with
  | 0 => rfl
  | j + 1 => simp [EM, va_up]
theorem wM_setI4 (v : Int32) : (wM cy ad I A).set 0 (ad 0, .inr (11, [.int (I 0), .ref (ad 1), .ref (ad 2), .ref (ad 3), .ref (ad 4), .ref (ad 5), .ref (ad 6), .ref (ad 7), .ref (ad 8), .ref (ad 9), .ref (ad 10), .ref (ad 11), .ref (ad 12), .ref (ad 13), .ref (ad 14), .int (I 1), .ref (ad 15), .ref (ad 16), .ref (ad 17), .int (I 2), .ref (ad 18), .ref (ad 19), .ref (ad 20), .int (I 3), .int v, .int (I 5), .int (I 6), .int (I 7), .int (I 8), .ref (ad 21), .ref (ad 22), .ref (ad 23), .int (I 9), .ref (ad 24), .int (I 10), .ref (ad 25), .ref (ad 26), .ref (ad 27), .int (I 11), .ref (ad 28), .ref (ad 29), .ref (ad 30), .ref (ad 31), .ref (ad 32), .ref (ad 33), .int (I 12), .ref (ad 34), .ref (ad 35), .ref (ad 36), .ref (ad 37)])) = wM cy ad (va_up I 4 v) A := by
  unfold wM
  rw [wd_set (by omega)]
  congr 2
  funext h
  congr 1
  match h with
  | 0 => rfl
  | j + 1 => simp [EM, va_up]
theorem wM_setI5 (v : Int32) : (wM cy ad I A).set 0 (ad 0, .inr (11, [.int (I 0), .ref (ad 1), .ref (ad 2), .ref (ad 3), .ref (ad 4), .ref (ad 5), .ref (ad 6), .ref (ad 7), .ref (ad 8), .ref (ad 9), .ref (ad 10), .ref (ad 11), .ref (ad 12), .ref (ad 13), .ref (ad 14), .int (I 1), .ref (ad 15), .ref (ad 16), .ref (ad 17), .int (I 2), .ref (ad 18), .ref (ad 19), .ref (ad 20), .int (I 3), .int (I 4), .int v, .int (I 6), .int (I 7), .int (I 8), .ref (ad 21), .ref (ad 22), .ref (ad 23), .int (I 9), .ref (ad 24), .int (I 10), .ref (ad 25), .ref (ad 26), .ref (ad 27), .int (I 11), .ref (ad 28), .ref (ad 29), .ref (ad 30), .ref (ad 31), .ref (ad 32), .ref (ad 33), .int (I 12), .ref (ad 34), .ref (ad 35), .ref (ad 36), .ref (ad 37)])) = wM cy ad (va_up I 5 v) A := by
  unfold wM
  rw [wd_set (by omega)]
  congr 2
  funext h
  congr 1
  match h with
  | 0 => rfl
  | j + 1 => simp [EM, va_up]
theorem wM_setI6 (v : Int32) : (wM cy ad I A).set 0 (ad 0, .inr (11, [.int (I 0), .ref (ad 1), .ref (ad 2), .ref (ad 3), .ref (ad 4), .ref (ad 5), .ref (ad 6), .ref (ad 7), .ref (ad 8), .ref (ad 9), .ref (ad 10), .ref (ad 11), .ref (ad 12), .ref (ad 13), .ref (ad 14), .int (I 1), .ref (ad 15), .ref (ad 16), .ref (ad 17), .int (I 2), .ref (ad 18), .ref (ad 19), .ref (ad 20), .int (I 3), .int (I 4), .int (I 5), .int v, .int (I 7), .int (I 8), .ref (ad 21), .ref (ad 22), .ref (ad 23), .int (I 9), .ref (ad 24), .int (I 10), .ref (ad 25), .ref (ad 26), .ref (ad 27), .int (I 11), .ref (ad 28), .ref (ad 29), .ref (ad 30), .ref (ad 31), .ref (ad 32), .ref (ad 33), .int (I 12), .ref (ad 34), .ref (ad 35), .ref (ad 36), .ref (ad 37)])) = wM cy ad (va_up I 6 v) A := by
  unfold wM
  rw [wd_set (by omega)]
  congr 2
  funext h
  congr 1
  match h with
  | 0 => rfl
  | j + 1 => simp [EM, va_up]
theorem wM_setI7 (v : Int32) : (wM cy ad I A).set 0 (ad 0, .inr (11, [.int (I 0), .ref (ad 1), .ref (ad 2), .ref (ad 3), .ref (ad 4), .ref (ad 5), .ref (ad 6), .ref (ad 7), .ref (ad 8), .ref (ad 9), .ref (ad 10), .ref (ad 11), .ref (ad 12), .ref (ad 13), .ref (ad 14), .int (I 1), .ref (ad 15), .ref (ad 16), .ref (ad 17), .int (I 2), .ref (ad 18), .ref (ad 19), .ref (ad 20), .int (I 3), .int (I 4), .int (I 5), .int (I 6), .int v, .int (I 8), .ref (ad 21), .ref (ad 22), .ref (ad 23), .int (I 9), .ref (ad 24), .int (I 10), .ref (ad 25), .ref (ad 26), .ref (ad 27), .int (I 11), .ref (ad 28), .ref (ad 29), .ref (ad 30), .ref (ad 31), .ref (ad 32), .ref (ad 33), .int (I 12), .ref (ad 34), .ref (ad 35), .ref (ad 36), .ref (ad 37)])) = wM cy ad (va_up I 7 v) A := by
  unfold wM
  rw [wd_set (by omega)]
  congr 2
  funext h
  congr 1
  match h with
  | 0 => rfl
  | j + 1 => simp [EM, va_up]
theorem wM_setI8 (v : Int32) : (wM cy ad I A).set 0 (ad 0, .inr (11, [.int (I 0), .ref (ad 1), .ref (ad 2), .ref (ad 3), .ref (ad 4), .ref (ad 5), .ref (ad 6), .ref (ad 7), .ref (ad 8), .ref (ad 9), .ref (ad 10), .ref (ad 11), .ref (ad 12), .ref (ad 13), .ref (ad 14), .int (I 1), .ref (ad 15), .ref (ad 16), .ref (ad 17), .int (I 2), .ref (ad 18), .ref (ad 19), .ref (ad 20), .int (I 3), .int (I 4), .int (I 5), .int (I 6), .int (I 7), .int v, .ref (ad 21), .ref (ad 22), .ref (ad 23), .int (I 9), .ref (ad 24), .int (I 10), .ref (ad 25), .ref (ad 26), .ref (ad 27), .int (I 11), .ref (ad 28), .ref (ad 29), .ref (ad 30), .ref (ad 31), .ref (ad 32), .ref (ad 33), .int (I 12), .ref (ad 34), .ref (ad 35), .ref (ad 36), .ref (ad 37)])) = wM cy ad (va_up I 8 v) A := by
  unfold wM
  rw [wd_set (by omega)]
  congr 2
  funext h
  congr 1
  match h with
  | 0 => rfl
  | j + 1 => simp [EM, va_up]
theorem wM_setI9 (v : Int32) : (wM cy ad I A).set 0 (ad 0, .inr (11, [.int (I 0), .ref (ad 1), .ref (ad 2), .ref (ad 3), .ref (ad 4), .ref (ad 5), .ref (ad 6), .ref (ad 7), .ref (ad 8), .ref (ad 9), .ref (ad 10), .ref (ad 11), .ref (ad 12), .ref (ad 13), .ref (ad 14), .int (I 1), .ref (ad 15), .ref (ad 16), .ref (ad 17), .int (I 2), .ref (ad 18), .ref (ad 19), .ref (ad 20), .int (I 3), .int (I 4), .int (I 5), .int (I 6), .int (I 7), .int (I 8), .ref (ad 21), .ref (ad 22), .ref (ad 23), .int v, .ref (ad 24), .int (I 10), .ref (ad 25), .ref (ad 26), .ref (ad 27), .int (I 11), .ref (ad 28), .ref (ad 29), .ref (ad 30), .ref (ad 31), .ref (ad 32), .ref (ad 33), .int (I 12), .ref (ad 34), .ref (ad 35), .ref (ad 36), .ref (ad 37)])) = wM cy ad (va_up I 9 v) A := by
  unfold wM
  rw [wd_set (by omega)]
  congr 2
  funext h
  congr 1
  match h with
  | 0 => rfl
  | j + 1 => simp [EM, va_up]
theorem wM_setI10 (v : Int32) : (wM cy ad I A).set 0 (ad 0, .inr (11, [.int (I 0), .ref (ad 1), .ref (ad 2), .ref (ad 3), .ref (ad 4), .ref (ad 5), .ref (ad 6), .ref (ad 7), .ref (ad 8), .ref (ad 9), .ref (ad 10), .ref (ad 11), .ref (ad 12), .ref (ad 13), .ref (ad 14), .int (I 1), .ref (ad 15), .ref (ad 16), .ref (ad 17), .int (I 2), .ref (ad 18), .ref (ad 19), .ref (ad 20), .int (I 3), .int (I 4), .int (I 5), .int (I 6), .int (I 7), .int (I 8), .ref (ad 21), .ref (ad 22), .ref (ad 23), .int (I 9), .ref (ad 24), .int v, .ref (ad 25), .ref (ad 26), .ref (ad 27), .int (I 11), .ref (ad 28), .ref (ad 29), .ref (ad 30), .ref (ad 31), .ref (ad 32), .ref (ad 33), .int (I 12), .ref (ad 34), .ref (ad 35), .ref (ad 36), .ref (ad 37)])) = wM cy ad (va_up I 10 v) A := by
  unfold wM
  rw [wd_set (by omega)]
  congr 2
  funext h
  congr 1
  match h with
  | 0 => rfl
  | j + 1 => simp [EM, va_up]
theorem wM_setI11 (v : Int32) : (wM cy ad I A).set 0 (ad 0, .inr (11, [.int (I 0), .ref (ad 1), .ref (ad 2), .ref (ad 3), .ref (ad 4), .ref (ad 5), .ref (ad 6), .ref (ad 7), .ref (ad 8), .ref (ad 9), .ref (ad 10), .ref (ad 11), .ref (ad 12), .ref (ad 13), .ref (ad 14), .int (I 1), .ref (ad 15), .ref (ad 16), .ref (ad 17), .int (I 2), .ref (ad 18), .ref (ad 19), .ref (ad 20), .int (I 3), .int (I 4), .int (I 5), .int (I 6), .int (I 7), .int (I 8), .ref (ad 21), .ref (ad 22), .ref (ad 23), .int (I 9), .ref (ad 24), .int (I 10), .ref (ad 25), .ref (ad 26), .ref (ad 27), .int v, .ref (ad 28), .ref (ad 29), .ref (ad 30), .ref (ad 31), .ref (ad 32), .ref (ad 33), .int (I 12), .ref (ad 34), .ref (ad 35), .ref (ad 36), .ref (ad 37)])) = wM cy ad (va_up I 11 v) A := by
  unfold wM
  rw [wd_set (by omega)]
  congr 2
  funext h
  congr 1
  match h with
  | 0 => rfl
  | j + 1 => simp [EM, va_up]
theorem wM_setI12 (v : Int32) : (wM cy ad I A).set 0 (ad 0, .inr (11, [.int (I 0), .ref (ad 1), .ref (ad 2), .ref (ad 3), .ref (ad 4), .ref (ad 5), .ref (ad 6), .ref (ad 7), .ref (ad 8), .ref (ad 9), .ref (ad 10), .ref (ad 11), .ref (ad 12), .ref (ad 13), .ref (ad 14), .int (I 1), .ref (ad 15), .ref (ad 16), .ref (ad 17), .int (I 2), .ref (ad 18), .ref (ad 19), .ref (ad 20), .int (I 3), .int (I 4), .int (I 5), .int (I 6), .int (I 7), .int (I 8), .ref (ad 21), .ref (ad 22), .ref (ad 23), .int (I 9), .ref (ad 24), .int (I 10), .ref (ad 25), .ref (ad 26), .ref (ad 27), .int (I 11), .ref (ad 28), .ref (ad 29), .ref (ad 30), .ref (ad 31), .ref (ad 32), .ref (ad 33), .int v, .ref (ad 34), .ref (ad 35), .ref (ad 36), .ref (ad 37)])) = wM cy ad (va_up I 12 v) A := by
  unfold wM
  rw [wd_set (by omega)]
  congr 2
  funext h
  congr 1
  match h with
  | 0 => rfl
  | j + 1 => simp [EM, va_up]
end WM
end
