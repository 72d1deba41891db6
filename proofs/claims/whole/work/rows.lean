section
-- ===== PART A: goes FIRST, ahead of the names: the tables' words, and 'selects' of the private methods out of them =====
/-- a private method of a class that the tables say can be made, by its rows of tables_1 -/
def lw_okq (q : MethodName × Nat) : Prop := (q.1.cls ≠ "java/lang/invoke/MethodHandle" ∧ q.1.cls ≠ "java/lang/invoke/VarHandle") ∧ Cond.instantiable q.1.cls q.2 ∈ tables_1 ∧ Cond.privateMethod q.1 ∈ tables_1 ∧ Cond.instanceMethod q.1 ∈ tables_1
theorem lw_p0 : lw_okq (⟨"PegWatch$Watch", "sumUp", "()V"⟩, 9) := ⟨⟨by decide +kernel, by decide +kernel⟩, List.mem_of_getElem? (i := 52) (by decide +kernel), List.mem_of_getElem? (i := 518) (by decide +kernel), List.mem_of_getElem? (i := 519) (by decide +kernel)⟩
theorem lw_p1 : lw_okq (⟨"PegWatch$Watch", "sumSpreads", "()V"⟩, 9) := ⟨⟨by decide +kernel, by decide +kernel⟩, List.mem_of_getElem? (i := 52) (by decide +kernel), List.mem_of_getElem? (i := 522) (by decide +kernel), List.mem_of_getElem? (i := 523) (by decide +kernel)⟩
theorem lw_p2 : lw_okq (⟨"PegWatch$Watch", "knotsOfPeg", "(I)I"⟩, 9) := ⟨⟨by decide +kernel, by decide +kernel⟩, List.mem_of_getElem? (i := 52) (by decide +kernel), List.mem_of_getElem? (i := 526) (by decide +kernel), List.mem_of_getElem? (i := 527) (by decide +kernel)⟩
theorem lw_p3 : lw_okq (⟨"PegWatch$Watch", "sumParts", "(I)V"⟩, 9) := ⟨⟨by decide +kernel, by decide +kernel⟩, List.mem_of_getElem? (i := 52) (by decide +kernel), List.mem_of_getElem? (i := 530) (by decide +kernel), List.mem_of_getElem? (i := 531) (by decide +kernel)⟩
theorem lw_p4 : lw_okq (⟨"PegWatch$Watch", "madeGood", "(II)I"⟩, 9) := ⟨⟨by decide +kernel, by decide +kernel⟩, List.mem_of_getElem? (i := 52) (by decide +kernel), List.mem_of_getElem? (i := 534) (by decide +kernel), List.mem_of_getElem? (i := 535) (by decide +kernel)⟩
theorem lw_p5 : lw_okq (⟨"PegWatch$Reckoning", "findStart", "()V"⟩, 10) := ⟨⟨by decide +kernel, by decide +kernel⟩, List.mem_of_getElem? (i := 303) (by decide +kernel), List.mem_of_getElem? (i := 654) (by decide +kernel), List.mem_of_getElem? (i := 655) (by decide +kernel)⟩
theorem lw_p6 : lw_okq (⟨"PegWatch$Reckoning", "makeReady", "(LPegWatch$Row;)V"⟩, 10) := ⟨⟨by decide +kernel, by decide +kernel⟩, List.mem_of_getElem? (i := 303) (by decide +kernel), List.mem_of_getElem? (i := 736) (by decide +kernel), List.mem_of_getElem? (i := 737) (by decide +kernel)⟩
theorem lw_p7 : lw_okq (⟨"PegWatch$Reckoning", "stretchCounted", "(LPegWatch$Row;II)Z"⟩, 10) := ⟨⟨by decide +kernel, by decide +kernel⟩, List.mem_of_getElem? (i := 303) (by decide +kernel), List.mem_of_getElem? (i := 744) (by decide +kernel), List.mem_of_getElem? (i := 745) (by decide +kernel)⟩
theorem lw_p8 : lw_okq (⟨"PegWatch$Reckoning", "stretch", "(LPegWatch$Reach;III)Z"⟩, 10) := ⟨⟨by decide +kernel, by decide +kernel⟩, List.mem_of_getElem? (i := 303) (by decide +kernel), List.mem_of_getElem? (i := 750) (by decide +kernel), List.mem_of_getElem? (i := 751) (by decide +kernel)⟩
theorem lw_p9 : lw_okq (⟨"PegWatch$Reckoning", "takeOnFrom", "(I)V"⟩, 10) := ⟨⟨by decide +kernel, by decide +kernel⟩, List.mem_of_getElem? (i := 303) (by decide +kernel), List.mem_of_getElem? (i := 798) (by decide +kernel), List.mem_of_getElem? (i := 799) (by decide +kernel)⟩
theorem lw_p10 : lw_okq (⟨"PegWatch$Row", "cut", "(ZLPegWatch$Patch;LPegWatch$Patch;)V"⟩, 8) := ⟨⟨by decide +kernel, by decide +kernel⟩, List.mem_of_getElem? (i := 206) (by decide +kernel), List.mem_of_getElem? (i := 809) (by decide +kernel), List.mem_of_getElem? (i := 810) (by decide +kernel)⟩
theorem lw_p11 : lw_okq (⟨"PegWatch$Reckoning", "lookBack", "()V"⟩, 10) := ⟨⟨by decide +kernel, by decide +kernel⟩, List.mem_of_getElem? (i := 303) (by decide +kernel), List.mem_of_getElem? (i := 827) (by decide +kernel), List.mem_of_getElem? (i := 828) (by decide +kernel)⟩
theorem lw_p12 : lw_okq (⟨"PegWatch", "mayBlame", "()Z"⟩, 9) := ⟨⟨by decide +kernel, by decide +kernel⟩, List.mem_of_getElem? (i := 19) (by decide +kernel), List.mem_of_getElem? (i := 844) (by decide +kernel), List.mem_of_getElem? (i := 845) (by decide +kernel)⟩
theorem lw_p13 : lw_okq (⟨"PegWatch$Reckoning", "leadsOnWithout", "(ILPegWatch$Patch;LPegWatch$Patch;)Z"⟩, 10) := ⟨⟨by decide +kernel, by decide +kernel⟩, List.mem_of_getElem? (i := 303) (by decide +kernel), List.mem_of_getElem? (i := 856) (by decide +kernel), List.mem_of_getElem? (i := 857) (by decide +kernel)⟩
theorem lw_p14 : lw_okq (⟨"PegWatch$Reckoning", "add", "(I)V"⟩, 10) := ⟨⟨by decide +kernel, by decide +kernel⟩, List.mem_of_getElem? (i := 303) (by decide +kernel), List.mem_of_getElem? (i := 864) (by decide +kernel), List.mem_of_getElem? (i := 865) (by decide +kernel)⟩
theorem lw_p15 : lw_okq (⟨"PegWatch$Reckoning", "findPairsOf", "(I)V"⟩, 10) := ⟨⟨by decide +kernel, by decide +kernel⟩, List.mem_of_getElem? (i := 303) (by decide +kernel), List.mem_of_getElem? (i := 868) (by decide +kernel), List.mem_of_getElem? (i := 869) (by decide +kernel)⟩
def lw_privs_1 : List (MethodName × Nat) := [(⟨"PegWatch$Watch", "sumUp", "()V"⟩, 9), (⟨"PegWatch$Watch", "sumSpreads", "()V"⟩, 9), (⟨"PegWatch$Watch", "knotsOfPeg", "(I)I"⟩, 9), (⟨"PegWatch$Watch", "sumParts", "(I)V"⟩, 9), (⟨"PegWatch$Watch", "madeGood", "(II)I"⟩, 9), (⟨"PegWatch$Reckoning", "findStart", "()V"⟩, 10), (⟨"PegWatch$Reckoning", "makeReady", "(LPegWatch$Row;)V"⟩, 10), (⟨"PegWatch$Reckoning", "stretchCounted", "(LPegWatch$Row;II)Z"⟩, 10), (⟨"PegWatch$Reckoning", "stretch", "(LPegWatch$Reach;III)Z"⟩, 10), (⟨"PegWatch$Reckoning", "takeOnFrom", "(I)V"⟩, 10), (⟨"PegWatch$Row", "cut", "(ZLPegWatch$Patch;LPegWatch$Patch;)V"⟩, 8), (⟨"PegWatch$Reckoning", "lookBack", "()V"⟩, 10), (⟨"PegWatch", "mayBlame", "()Z"⟩, 9), (⟨"PegWatch$Reckoning", "leadsOnWithout", "(ILPegWatch$Patch;LPegWatch$Patch;)Z"⟩, 10), (⟨"PegWatch$Reckoning", "add", "(I)V"⟩, 10), (⟨"PegWatch$Reckoning", "findPairsOf", "(I)V"⟩, 10)]
theorem lw_r1 : ∀ q ∈ lw_privs_1, lw_okq q := List.forall_mem_cons.mpr ⟨lw_p0, List.forall_mem_cons.mpr ⟨lw_p1, List.forall_mem_cons.mpr ⟨lw_p2, List.forall_mem_cons.mpr ⟨lw_p3, List.forall_mem_cons.mpr ⟨lw_p4, List.forall_mem_cons.mpr ⟨lw_p5, List.forall_mem_cons.mpr ⟨lw_p6, List.forall_mem_cons.mpr ⟨lw_p7, List.forall_mem_cons.mpr ⟨lw_p8, List.forall_mem_cons.mpr ⟨lw_p9, List.forall_mem_cons.mpr ⟨lw_p10, List.forall_mem_cons.mpr ⟨lw_p11, List.forall_mem_cons.mpr ⟨lw_p12, List.forall_mem_cons.mpr ⟨lw_p13, List.forall_mem_cons.mpr ⟨lw_p14, List.forall_mem_cons.mpr ⟨lw_p15, fun _ h => absurd h List.not_mem_nil⟩⟩⟩⟩⟩⟩⟩⟩⟩⟩⟩⟩⟩⟩⟩⟩
theorem lw_p16 : lw_okq (⟨"PegWatch$Reckoning", "lookAheadBy", "(III)LPegWatch$Patch;"⟩, 10) := ⟨⟨by decide +kernel, by decide +kernel⟩, List.mem_of_getElem? (i := 303) (by decide +kernel), List.mem_of_getElem? (i := 888) (by decide +kernel), List.mem_of_getElem? (i := 889) (by decide +kernel)⟩
theorem lw_p17 : lw_okq (⟨"PegWatch$Voyage", "sightedFromLeft", "(II)I"⟩, 6) := ⟨⟨by decide +kernel, by decide +kernel⟩, List.mem_of_getElem? (i := 345) (by decide +kernel), List.mem_of_getElem? (i := 916) (by decide +kernel), List.mem_of_getElem? (i := 917) (by decide +kernel)⟩
theorem lw_p18 : lw_okq (⟨"PegWatch$Voyage", "isOneAground", "()Z"⟩, 6) := ⟨⟨by decide +kernel, by decide +kernel⟩, List.mem_of_getElem? (i := 345) (by decide +kernel), List.mem_of_getElem? (i := 925) (by decide +kernel), List.mem_of_getElem? (i := 926) (by decide +kernel)⟩
theorem lw_p19 : lw_okq (⟨"PegWatch$Voyage", "dropSighted", "()V"⟩, 6) := ⟨⟨by decide +kernel, by decide +kernel⟩, List.mem_of_getElem? (i := 345) (by decide +kernel), List.mem_of_getElem? (i := 933) (by decide +kernel), List.mem_of_getElem? (i := 934) (by decide +kernel)⟩
theorem lw_p20 : lw_okq (⟨"PegWatchModel", "flood", "()V"⟩, 35) := ⟨⟨by decide +kernel, by decide +kernel⟩, List.mem_of_getElem? (i := 995) (by decide +kernel), List.mem_of_getElem? (i := 1001) (by decide +kernel), List.mem_of_getElem? (i := 1002) (by decide +kernel)⟩
theorem lw_p21 : lw_okq (⟨"PegWatchModel", "begins", "(I)Z"⟩, 35) := ⟨⟨by decide +kernel, by decide +kernel⟩, List.mem_of_getElem? (i := 995) (by decide +kernel), List.mem_of_getElem? (i := 1132) (by decide +kernel), List.mem_of_getElem? (i := 1133) (by decide +kernel)⟩
theorem lw_p22 : lw_okq (⟨"PegWatchModel", "eastOf", "(I)I"⟩, 35) := ⟨⟨by decide +kernel, by decide +kernel⟩, List.mem_of_getElem? (i := 995) (by decide +kernel), List.mem_of_getElem? (i := 1148) (by decide +kernel), List.mem_of_getElem? (i := 1149) (by decide +kernel)⟩
theorem lw_p23 : lw_okq (⟨"PegWatchModel", "northOf", "(I)I"⟩, 35) := ⟨⟨by decide +kernel, by decide +kernel⟩, List.mem_of_getElem? (i := 995) (by decide +kernel), List.mem_of_getElem? (i := 1152) (by decide +kernel), List.mem_of_getElem? (i := 1153) (by decide +kernel)⟩
theorem lw_p24 : lw_okq (⟨"PegWatchModel", "faultOf", "()I"⟩, 35) := ⟨⟨by decide +kernel, by decide +kernel⟩, List.mem_of_getElem? (i := 995) (by decide +kernel), List.mem_of_getElem? (i := 1169) (by decide +kernel), List.mem_of_getElem? (i := 1170) (by decide +kernel)⟩
theorem lw_p25 : lw_okq (⟨"PegWatchModel", "isWatch", "(I)Z"⟩, 35) := ⟨⟨by decide +kernel, by decide +kernel⟩, List.mem_of_getElem? (i := 995) (by decide +kernel), List.mem_of_getElem? (i := 1185) (by decide +kernel), List.mem_of_getElem? (i := 1186) (by decide +kernel)⟩
theorem lw_p26 : lw_okq (⟨"PegWatchModel", "goWatch", "(IIIZ)V"⟩, 35) := ⟨⟨by decide +kernel, by decide +kernel⟩, List.mem_of_getElem? (i := 995) (by decide +kernel), List.mem_of_getElem? (i := 1210) (by decide +kernel), List.mem_of_getElem? (i := 1211) (by decide +kernel)⟩
theorem lw_p27 : lw_okq (⟨"PegWatchModel", "isCell", "(II)Z"⟩, 35) := ⟨⟨by decide +kernel, by decide +kernel⟩, List.mem_of_getElem? (i := 995) (by decide +kernel), List.mem_of_getElem? (i := 1229) (by decide +kernel), List.mem_of_getElem? (i := 1230) (by decide +kernel)⟩
theorem lw_p28 : lw_okq (⟨"PegWatchModel", "nearest", "(II)I"⟩, 35) := ⟨⟨by decide +kernel, by decide +kernel⟩, List.mem_of_getElem? (i := 995) (by decide +kernel), List.mem_of_getElem? (i := 1244) (by decide +kernel), List.mem_of_getElem? (i := 1245) (by decide +kernel)⟩
theorem lw_p29 : lw_okq (⟨"PegWatchModel", "isLand", "(II)Z"⟩, 35) := ⟨⟨by decide +kernel, by decide +kernel⟩, List.mem_of_getElem? (i := 995) (by decide +kernel), List.mem_of_getElem? (i := 1248) (by decide +kernel), List.mem_of_getElem? (i := 1249) (by decide +kernel)⟩
theorem lw_p30 : lw_okq (⟨"PegWatchModel", "add", "(IIII)I"⟩, 35) := ⟨⟨by decide +kernel, by decide +kernel⟩, List.mem_of_getElem? (i := 995) (by decide +kernel), List.mem_of_getElem? (i := 1260) (by decide +kernel), List.mem_of_getElem? (i := 1261) (by decide +kernel)⟩
theorem lw_p31 : lw_okq (⟨"PegWatchModel", "isRow", "(I)Z"⟩, 35) := ⟨⟨by decide +kernel, by decide +kernel⟩, List.mem_of_getElem? (i := 995) (by decide +kernel), List.mem_of_getElem? (i := 1272) (by decide +kernel), List.mem_of_getElem? (i := 1273) (by decide +kernel)⟩
def lw_privs_2 : List (MethodName × Nat) := [(⟨"PegWatch$Reckoning", "lookAheadBy", "(III)LPegWatch$Patch;"⟩, 10), (⟨"PegWatch$Voyage", "sightedFromLeft", "(II)I"⟩, 6), (⟨"PegWatch$Voyage", "isOneAground", "()Z"⟩, 6), (⟨"PegWatch$Voyage", "dropSighted", "()V"⟩, 6), (⟨"PegWatchModel", "flood", "()V"⟩, 35), (⟨"PegWatchModel", "begins", "(I)Z"⟩, 35), (⟨"PegWatchModel", "eastOf", "(I)I"⟩, 35), (⟨"PegWatchModel", "northOf", "(I)I"⟩, 35), (⟨"PegWatchModel", "faultOf", "()I"⟩, 35), (⟨"PegWatchModel", "isWatch", "(I)Z"⟩, 35), (⟨"PegWatchModel", "goWatch", "(IIIZ)V"⟩, 35), (⟨"PegWatchModel", "isCell", "(II)Z"⟩, 35), (⟨"PegWatchModel", "nearest", "(II)I"⟩, 35), (⟨"PegWatchModel", "isLand", "(II)Z"⟩, 35), (⟨"PegWatchModel", "add", "(IIII)I"⟩, 35), (⟨"PegWatchModel", "isRow", "(I)Z"⟩, 35)]
theorem lw_r2 : ∀ q ∈ lw_privs_2, lw_okq q := List.forall_mem_cons.mpr ⟨lw_p16, List.forall_mem_cons.mpr ⟨lw_p17, List.forall_mem_cons.mpr ⟨lw_p18, List.forall_mem_cons.mpr ⟨lw_p19, List.forall_mem_cons.mpr ⟨lw_p20, List.forall_mem_cons.mpr ⟨lw_p21, List.forall_mem_cons.mpr ⟨lw_p22, List.forall_mem_cons.mpr ⟨lw_p23, List.forall_mem_cons.mpr ⟨lw_p24, List.forall_mem_cons.mpr ⟨lw_p25, List.forall_mem_cons.mpr ⟨lw_p26, List.forall_mem_cons.mpr ⟨lw_p27, List.forall_mem_cons.mpr ⟨lw_p28, List.forall_mem_cons.mpr ⟨lw_p29, List.forall_mem_cons.mpr ⟨lw_p30, List.forall_mem_cons.mpr ⟨lw_p31, fun _ h => absurd h List.not_mem_nil⟩⟩⟩⟩⟩⟩⟩⟩⟩⟩⟩⟩⟩⟩⟩⟩
theorem lw_p32 : lw_okq (⟨"PegWatchModel", "begin", "()V"⟩, 35) := ⟨⟨by decide +kernel, by decide +kernel⟩, List.mem_of_getElem? (i := 995) (by decide +kernel), List.mem_of_getElem? (i := 1288) (by decide +kernel), List.mem_of_getElem? (i := 1289) (by decide +kernel)⟩
theorem lw_p33 : lw_okq (⟨"PegWatchModel", "cells", "()I"⟩, 35) := ⟨⟨by decide +kernel, by decide +kernel⟩, List.mem_of_getElem? (i := 995) (by decide +kernel), List.mem_of_getElem? (i := 1292) (by decide +kernel), List.mem_of_getElem? (i := 1293) (by decide +kernel)⟩
theorem lw_p34 : lw_okq (⟨"PegWatchModel", "goPlain", "()V"⟩, 35) := ⟨⟨by decide +kernel, by decide +kernel⟩, List.mem_of_getElem? (i := 995) (by decide +kernel), List.mem_of_getElem? (i := 1300) (by decide +kernel), List.mem_of_getElem? (i := 1301) (by decide +kernel)⟩
theorem lw_p35 : lw_okq (⟨"PegWatchModel", "measure", "()V"⟩, 35) := ⟨⟨by decide +kernel, by decide +kernel⟩, List.mem_of_getElem? (i := 995) (by decide +kernel), List.mem_of_getElem? (i := 1304) (by decide +kernel), List.mem_of_getElem? (i := 1305) (by decide +kernel)⟩
theorem lw_p36 : lw_okq (⟨"PegWatchModel", "goAll", "(III)V"⟩, 35) := ⟨⟨by decide +kernel, by decide +kernel⟩, List.mem_of_getElem? (i := 995) (by decide +kernel), List.mem_of_getElem? (i := 1308) (by decide +kernel), List.mem_of_getElem? (i := 1309) (by decide +kernel)⟩
theorem lw_p37 : lw_okq (⟨"PegWatchModel", "keep", "(I)V"⟩, 35) := ⟨⟨by decide +kernel, by decide +kernel⟩, List.mem_of_getElem? (i := 995) (by decide +kernel), List.mem_of_getElem? (i := 1312) (by decide +kernel), List.mem_of_getElem? (i := 1313) (by decide +kernel)⟩
theorem lw_p38 : lw_okq (⟨"PegWatchModel", "step", "(IIII)V"⟩, 35) := ⟨⟨by decide +kernel, by decide +kernel⟩, List.mem_of_getElem? (i := 995) (by decide +kernel), List.mem_of_getElem? (i := 1316) (by decide +kernel), List.mem_of_getElem? (i := 1317) (by decide +kernel)⟩
theorem lw_p39 : lw_okq (⟨"PegWatchModel", "wayOf", "(IIII)V"⟩, 35) := ⟨⟨by decide +kernel, by decide +kernel⟩, List.mem_of_getElem? (i := 995) (by decide +kernel), List.mem_of_getElem? (i := 1320) (by decide +kernel), List.mem_of_getElem? (i := 1321) (by decide +kernel)⟩
theorem lw_p40 : lw_okq (⟨"PegWatchModel", "eastLow", "()I"⟩, 35) := ⟨⟨by decide +kernel, by decide +kernel⟩, List.mem_of_getElem? (i := 995) (by decide +kernel), List.mem_of_getElem? (i := 1324) (by decide +kernel), List.mem_of_getElem? (i := 1325) (by decide +kernel)⟩
theorem lw_p41 : lw_okq (⟨"PegWatchModel", "eastHigh", "()I"⟩, 35) := ⟨⟨by decide +kernel, by decide +kernel⟩, List.mem_of_getElem? (i := 995) (by decide +kernel), List.mem_of_getElem? (i := 1328) (by decide +kernel), List.mem_of_getElem? (i := 1329) (by decide +kernel)⟩
theorem lw_p42 : lw_okq (⟨"PegWatchModel", "northLow", "()I"⟩, 35) := ⟨⟨by decide +kernel, by decide +kernel⟩, List.mem_of_getElem? (i := 995) (by decide +kernel), List.mem_of_getElem? (i := 1332) (by decide +kernel), List.mem_of_getElem? (i := 1333) (by decide +kernel)⟩
theorem lw_p43 : lw_okq (⟨"PegWatchModel", "northHigh", "()I"⟩, 35) := ⟨⟨by decide +kernel, by decide +kernel⟩, List.mem_of_getElem? (i := 995) (by decide +kernel), List.mem_of_getElem? (i := 1336) (by decide +kernel), List.mem_of_getElem? (i := 1337) (by decide +kernel)⟩
theorem lw_p44 : lw_okq (⟨"PegWatchModel", "dilate", "(IIII)V"⟩, 35) := ⟨⟨by decide +kernel, by decide +kernel⟩, List.mem_of_getElem? (i := 995) (by decide +kernel), List.mem_of_getElem? (i := 1340) (by decide +kernel), List.mem_of_getElem? (i := 1341) (by decide +kernel)⟩
theorem lw_p45 : lw_okq (⟨"PegWatchModel", "cutBy", "(I)V"⟩, 35) := ⟨⟨by decide +kernel, by decide +kernel⟩, List.mem_of_getElem? (i := 995) (by decide +kernel), List.mem_of_getElem? (i := 1344) (by decide +kernel), List.mem_of_getElem? (i := 1345) (by decide +kernel)⟩
theorem lw_p46 : lw_okq (⟨"PegWatchModel", "isSign", "(III)Z"⟩, 35) := ⟨⟨by decide +kernel, by decide +kernel⟩, List.mem_of_getElem? (i := 995) (by decide +kernel), List.mem_of_getElem? (i := 1348) (by decide +kernel), List.mem_of_getElem? (i := 1349) (by decide +kernel)⟩
theorem lw_p47 : lw_okq (⟨"PegWatchModel", "isNear", "(III)Z"⟩, 35) := ⟨⟨by decide +kernel, by decide +kernel⟩, List.mem_of_getElem? (i := 995) (by decide +kernel), List.mem_of_getElem? (i := 1352) (by decide +kernel), List.mem_of_getElem? (i := 1353) (by decide +kernel)⟩
def lw_privs_3 : List (MethodName × Nat) := [(⟨"PegWatchModel", "begin", "()V"⟩, 35), (⟨"PegWatchModel", "cells", "()I"⟩, 35), (⟨"PegWatchModel", "goPlain", "()V"⟩, 35), (⟨"PegWatchModel", "measure", "()V"⟩, 35), (⟨"PegWatchModel", "goAll", "(III)V"⟩, 35), (⟨"PegWatchModel", "keep", "(I)V"⟩, 35), (⟨"PegWatchModel", "step", "(IIII)V"⟩, 35), (⟨"PegWatchModel", "wayOf", "(IIII)V"⟩, 35), (⟨"PegWatchModel", "eastLow", "()I"⟩, 35), (⟨"PegWatchModel", "eastHigh", "()I"⟩, 35), (⟨"PegWatchModel", "northLow", "()I"⟩, 35), (⟨"PegWatchModel", "northHigh", "()I"⟩, 35), (⟨"PegWatchModel", "dilate", "(IIII)V"⟩, 35), (⟨"PegWatchModel", "cutBy", "(I)V"⟩, 35), (⟨"PegWatchModel", "isSign", "(III)Z"⟩, 35), (⟨"PegWatchModel", "isNear", "(III)Z"⟩, 35)]
theorem lw_r3 : ∀ q ∈ lw_privs_3, lw_okq q := List.forall_mem_cons.mpr ⟨lw_p32, List.forall_mem_cons.mpr ⟨lw_p33, List.forall_mem_cons.mpr ⟨lw_p34, List.forall_mem_cons.mpr ⟨lw_p35, List.forall_mem_cons.mpr ⟨lw_p36, List.forall_mem_cons.mpr ⟨lw_p37, List.forall_mem_cons.mpr ⟨lw_p38, List.forall_mem_cons.mpr ⟨lw_p39, List.forall_mem_cons.mpr ⟨lw_p40, List.forall_mem_cons.mpr ⟨lw_p41, List.forall_mem_cons.mpr ⟨lw_p42, List.forall_mem_cons.mpr ⟨lw_p43, List.forall_mem_cons.mpr ⟨lw_p44, List.forall_mem_cons.mpr ⟨lw_p45, List.forall_mem_cons.mpr ⟨lw_p46, List.forall_mem_cons.mpr ⟨lw_p47, fun _ h => absurd h List.not_mem_nil⟩⟩⟩⟩⟩⟩⟩⟩⟩⟩⟩⟩⟩⟩⟩⟩
theorem lw_p48 : lw_okq (⟨"PegWatchModel", "lay", "(I)V"⟩, 35) := ⟨⟨by decide +kernel, by decide +kernel⟩, List.mem_of_getElem? (i := 995) (by decide +kernel), List.mem_of_getElem? (i := 1356) (by decide +kernel), List.mem_of_getElem? (i := 1357) (by decide +kernel)⟩
theorem lw_p49 : lw_okq (⟨"PegWatchModel", "goBack", "(I)V"⟩, 35) := ⟨⟨by decide +kernel, by decide +kernel⟩, List.mem_of_getElem? (i := 995) (by decide +kernel), List.mem_of_getElem? (i := 1368) (by decide +kernel), List.mem_of_getElem? (i := 1369) (by decide +kernel)⟩
theorem lw_p50 : lw_okq (⟨"PegWatchModel", "isBlaming", "()Z"⟩, 35) := ⟨⟨by decide +kernel, by decide +kernel⟩, List.mem_of_getElem? (i := 995) (by decide +kernel), List.mem_of_getElem? (i := 1380) (by decide +kernel), List.mem_of_getElem? (i := 1381) (by decide +kernel)⟩
theorem lw_p51 : lw_okq (⟨"PegWatchModel", "isEmptyNow", "()Z"⟩, 35) := ⟨⟨by decide +kernel, by decide +kernel⟩, List.mem_of_getElem? (i := 995) (by decide +kernel), List.mem_of_getElem? (i := 1384) (by decide +kernel), List.mem_of_getElem? (i := 1385) (by decide +kernel)⟩
theorem lw_p52 : lw_okq (⟨"PegWatchModel", "seek", "(I)I"⟩, 35) := ⟨⟨by decide +kernel, by decide +kernel⟩, List.mem_of_getElem? (i := 995) (by decide +kernel), List.mem_of_getElem? (i := 1388) (by decide +kernel), List.mem_of_getElem? (i := 1389) (by decide +kernel)⟩
theorem lw_p53 : lw_okq (⟨"PegWatchModel", "helps", "(II)Z"⟩, 35) := ⟨⟨by decide +kernel, by decide +kernel⟩, List.mem_of_getElem? (i := 995) (by decide +kernel), List.mem_of_getElem? (i := 1392) (by decide +kernel), List.mem_of_getElem? (i := 1393) (by decide +kernel)⟩
theorem lw_p54 : lw_okq (⟨"PegWatchModel", "seekPairs", "(I)I"⟩, 35) := ⟨⟨by decide +kernel, by decide +kernel⟩, List.mem_of_getElem? (i := 995) (by decide +kernel), List.mem_of_getElem? (i := 1396) (by decide +kernel), List.mem_of_getElem? (i := 1397) (by decide +kernel)⟩
theorem lw_p55 : lw_okq (⟨"PegWatchModel", "seekFits", "(III)I"⟩, 35) := ⟨⟨by decide +kernel, by decide +kernel⟩, List.mem_of_getElem? (i := 995) (by decide +kernel), List.mem_of_getElem? (i := 1408) (by decide +kernel), List.mem_of_getElem? (i := 1409) (by decide +kernel)⟩
theorem lw_p56 : lw_okq (⟨"PegWatchModel", "seesAt", "(IIIIIII)I"⟩, 35) := ⟨⟨by decide +kernel, by decide +kernel⟩, List.mem_of_getElem? (i := 995) (by decide +kernel), List.mem_of_getElem? (i := 1423) (by decide +kernel), List.mem_of_getElem? (i := 1424) (by decide +kernel)⟩
theorem lw_p57 : lw_okq (⟨"PegWatchModel", "sureBy", "(IIIII)I"⟩, 35) := ⟨⟨by decide +kernel, by decide +kernel⟩, List.mem_of_getElem? (i := 995) (by decide +kernel), List.mem_of_getElem? (i := 1434) (by decide +kernel), List.mem_of_getElem? (i := 1435) (by decide +kernel)⟩
theorem lw_p58 : lw_okq (⟨"PegWatchModel", "landMany", "()I"⟩, 35) := ⟨⟨by decide +kernel, by decide +kernel⟩, List.mem_of_getElem? (i := 995) (by decide +kernel), List.mem_of_getElem? (i := 1446) (by decide +kernel), List.mem_of_getElem? (i := 1447) (by decide +kernel)⟩
theorem lw_p59 : lw_okq (⟨"PegWatchModel", "mix", "(J)V"⟩, 35) := ⟨⟨by decide +kernel, by decide +kernel⟩, List.mem_of_getElem? (i := 995) (by decide +kernel), List.mem_of_getElem? (i := 1455) (by decide +kernel), List.mem_of_getElem? (i := 1456) (by decide +kernel)⟩
theorem lw_p60 : lw_okq (⟨"PegWatchModel", "mixWatch", "(I)V"⟩, 35) := ⟨⟨by decide +kernel, by decide +kernel⟩, List.mem_of_getElem? (i := 995) (by decide +kernel), List.mem_of_getElem? (i := 1460) (by decide +kernel), List.mem_of_getElem? (i := 1461) (by decide +kernel)⟩
theorem lw_p61 : lw_okq (⟨"PegWatchModel", "mixChart", "()V"⟩, 35) := ⟨⟨by decide +kernel, by decide +kernel⟩, List.mem_of_getElem? (i := 995) (by decide +kernel), List.mem_of_getElem? (i := 1464) (by decide +kernel), List.mem_of_getElem? (i := 1465) (by decide +kernel)⟩
def lw_privs_4 : List (MethodName × Nat) := [(⟨"PegWatchModel", "lay", "(I)V"⟩, 35), (⟨"PegWatchModel", "goBack", "(I)V"⟩, 35), (⟨"PegWatchModel", "isBlaming", "()Z"⟩, 35), (⟨"PegWatchModel", "isEmptyNow", "()Z"⟩, 35), (⟨"PegWatchModel", "seek", "(I)I"⟩, 35), (⟨"PegWatchModel", "helps", "(II)Z"⟩, 35), (⟨"PegWatchModel", "seekPairs", "(I)I"⟩, 35), (⟨"PegWatchModel", "seekFits", "(III)I"⟩, 35), (⟨"PegWatchModel", "seesAt", "(IIIIIII)I"⟩, 35), (⟨"PegWatchModel", "sureBy", "(IIIII)I"⟩, 35), (⟨"PegWatchModel", "landMany", "()I"⟩, 35), (⟨"PegWatchModel", "mix", "(J)V"⟩, 35), (⟨"PegWatchModel", "mixWatch", "(I)V"⟩, 35), (⟨"PegWatchModel", "mixChart", "()V"⟩, 35)]
theorem lw_r4 : ∀ q ∈ lw_privs_4, lw_okq q := List.forall_mem_cons.mpr ⟨lw_p48, List.forall_mem_cons.mpr ⟨lw_p49, List.forall_mem_cons.mpr ⟨lw_p50, List.forall_mem_cons.mpr ⟨lw_p51, List.forall_mem_cons.mpr ⟨lw_p52, List.forall_mem_cons.mpr ⟨lw_p53, List.forall_mem_cons.mpr ⟨lw_p54, List.forall_mem_cons.mpr ⟨lw_p55, List.forall_mem_cons.mpr ⟨lw_p56, List.forall_mem_cons.mpr ⟨lw_p57, List.forall_mem_cons.mpr ⟨lw_p58, List.forall_mem_cons.mpr ⟨lw_p59, List.forall_mem_cons.mpr ⟨lw_p60, List.forall_mem_cons.mpr ⟨lw_p61, fun _ h => absurd h List.not_mem_nil⟩⟩⟩⟩⟩⟩⟩⟩⟩⟩⟩⟩⟩⟩
def lw_privs : List (MethodName × Nat) := lw_privs_1 ++ (lw_privs_2 ++ (lw_privs_3 ++ (lw_privs_4)))
def lw_tbl : List Cond := k2_sels lw_privs ++ tables_1
theorem lw_privs_ok : ∀ q ∈ lw_privs, lw_okq q := by
  show ∀ q ∈ lw_privs_1 ++ (lw_privs_2 ++ (lw_privs_3 ++ (lw_privs_4))), lw_okq q
  exact List.forall_mem_append.mpr ⟨lw_r1, List.forall_mem_append.mpr ⟨lw_r2, List.forall_mem_append.mpr ⟨lw_r3, lw_r4⟩⟩⟩
-- ===== end of PART A; then your names; then what follows =====
end
section
/-! names: the tables that may be carried into a call, the classes with their fields, the methods -/
def wsG : List Cond := lw_tbl.filter goodWord
theorem mem_g {w : Cond} (i : Nat) (h : lw_tbl[i]? = some w) (hg : goodWord w = true) : w ∈ wsG := List.mem_filter.mpr ⟨List.mem_of_getElem? h, hg⟩
theorem mem_gs {ws : List Cond} (ps : List Nat) (hp : ws = ps.filterMap (fun i => lw_tbl[i]?)) (h : ws.all goodWord = true) : ∀ w ∈ ws, w ∈ wsG := by
  intro w hw
  have h1 := List.all_eq_true.mp h w hw
  rw [hp] at hw
  obtain ⟨i, -, hi⟩ := List.mem_filterMap.mp hw
  exact mem_g i hi h1
def tch (k : Nat) : List Cond := match k with
  | 0 => tables_1_1
  | 1 => tables_1_2
  | 2 => tables_1_3
  | 3 => tables_1_4
  | 4 => tables_1_5
  | 5 => tables_1_6
  | _ => tables_1_7
theorem tch_in (k : Nat) {w : Cond} (h : w ∈ tch k) : w ∈ lw_tbl := by
  refine List.mem_append_right _ ?_
  simp only [tables_1, List.mem_append]
  unfold tch at h
  split at h
  · exact Or.inl h
  · exact Or.inr (Or.inl h)
  · exact Or.inr (Or.inr (Or.inl h))
  · exact Or.inr (Or.inr (Or.inr (Or.inl h)))
  · exact Or.inr (Or.inr (Or.inr (Or.inr (Or.inl h))))
  · exact Or.inr (Or.inr (Or.inr (Or.inr (Or.inr (Or.inl h)))))
  · exact Or.inr (Or.inr (Or.inr (Or.inr (Or.inr (Or.inr h)))))
theorem mem_t {w : Cond} (k j : Nat) (h : (tch k)[j]? = some w) (hg : goodWord w = true) : w ∈ wsG := List.mem_filter.mpr ⟨tch_in k (List.mem_of_getElem? h), hg⟩
def isNest (w : Cond) : Bool := match w with
  | .fieldLinkNest _ _ _ _ _ _ => true
  | .methodLinkNest _ _ _ _ => true
  | _ => false
def nestW : List Cond := lw_tbl.filter isNest
theorem mem_n {w : Cond} (k j : Nat) (h : (tch k)[j]? = some w) (hg : isNest w = true) : w ∈ nestW := List.mem_filter.mpr ⟨tch_in k (List.mem_of_getElem? h), hg⟩
def cN0 : String := "PegWatch$Board"
def cT0 : u_T := fun k => match k with
  | 0 => ("PegWatch$Board", "watches", "[LPegWatch$Watch;", true)
  | 1 => ("PegWatch$Board", "size", "I", false)
  | _ => ("PegWatch$Board", "miss", "I", false)
def ct0 : Nat → FieldType := fun k => match k with
  | 0 => .array (.object "PegWatch$Watch")
  | 1 => .int
  | _ => .int
theorem cw0 : ∀ w ∈ u_ws cN0 cT0 3, w ∈ wsG := mem_gs [162, 164, 166] (by decide +kernel) (by decide +kernel)
theorem cm0 : ∀ a, a < 3 → ∀ b, b < 3 → a ≠ b → (cT0 a).2.1 ≠ (cT0 b).2.1 := by decide +kernel
theorem cy0 : ∀ k, k < 3 → parseFieldDescriptor (cT0 k).2.2.1 = some (ct0 k) := by decide +kernel
def cN1 : String := "PegWatch$Chart"
def cT1 : u_T := fun k => match k with
  | 0 => ("PegWatch$Chart", "depths", "[I", true)
  | 1 => ("PegWatch$Chart", "open", "LPegWatch$Patch;", true)
  | 2 => ("PegWatch$Chart", "land", "LPegWatch$Patch;", true)
  | 3 => ("PegWatch$Chart", "weedy", "LPegWatch$Patch;", true)
  | 4 => ("PegWatch$Chart", "width", "I", false)
  | 5 => ("PegWatch$Chart", "height", "I", false)
  | 6 => ("PegWatch$Chart", "fromEast", "I", false)
  | 7 => ("PegWatch$Chart", "toEast", "I", false)
  | 8 => ("PegWatch$Chart", "fromNorth", "I", false)
  | _ => ("PegWatch$Chart", "toNorth", "I", false)
def ct1 : Nat → FieldType := fun k => match k with
  | 0 => .array .int
  | 1 => .object "PegWatch$Patch"
  | 2 => .object "PegWatch$Patch"
  | 3 => .object "PegWatch$Patch"
  | 4 => .int
  | 5 => .int
  | 6 => .int
  | 7 => .int
  | 8 => .int
  | _ => .int
theorem cw1 : ∀ w ∈ u_ws cN1 cT1 10, w ∈ wsG := mem_gs [239, 241, 243, 245, 247, 249, 251, 253, 255, 257] (by decide +kernel) (by decide +kernel)
theorem cm1 : ∀ a, a < 10 → ∀ b, b < 10 → a ≠ b → (cT1 a).2.1 ≠ (cT1 b).2.1 := by decide +kernel
theorem cy1 : ∀ k, k < 10 → parseFieldDescriptor (cT1 k).2.2.1 = some (ct1 k) := by decide +kernel
def cN2 : String := "PegWatch$Compass"
def cT2 : u_T := fun k => match k with
  | _ => ("", "", "", false)
def ct2 : Nat → FieldType := fun k => match k with
  | _ => .int
theorem cw2 : ∀ w ∈ u_ws cN2 cT2 0, w ∈ wsG := mem_gs [] (by decide +kernel) (by decide +kernel)
theorem cm2 : ∀ a, a < 0 → ∀ b, b < 0 → a ≠ b → (cT2 a).2.1 ≠ (cT2 b).2.1 := by decide +kernel
theorem cy2 : ∀ k, k < 0 → parseFieldDescriptor (cT2 k).2.2.1 = some (ct2 k) := by decide +kernel
def cN3 : String := "PegWatch$Log"
def cT3 : u_T := fun k => match k with
  | 0 => ("PegWatch$Log", "rows", "[LPegWatch$Row;", true)
  | 1 => ("PegWatch$Log", "size", "I", false)
  | 2 => ("PegWatch$Log", "startX", "I", false)
  | 3 => ("PegWatch$Log", "startY", "I", false)
  | _ => ("PegWatch$Log", "startR", "I", false)
def ct3 : Nat → FieldType := fun k => match k with
  | 0 => .array (.object "PegWatch$Row")
  | 1 => .int
  | 2 => .int
  | 3 => .int
  | _ => .int
theorem cw3 : ∀ w ∈ u_ws cN3 cT3 5, w ∈ wsG := mem_gs [353, 355, 357, 359, 361] (by decide +kernel) (by decide +kernel)
theorem cm3 : ∀ a, a < 5 → ∀ b, b < 5 → a ≠ b → (cT3 a).2.1 ≠ (cT3 b).2.1 := by decide +kernel
theorem cy3 : ∀ k, k < 5 → parseFieldDescriptor (cT3 k).2.2.1 = some (ct3 k) := by decide +kernel
def cN4 : String := "PegWatch$Patch"
def cT4 : u_T := fun k => match k with
  | _ => ("PegWatch$Patch", "bits", "[I", true)
def ct4 : Nat → FieldType := fun k => match k with
  | _ => .array .int
theorem cw4 : ∀ w ∈ u_ws cN4 cT4 1, w ∈ wsG := mem_gs [183] (by decide +kernel) (by decide +kernel)
theorem cm4 : ∀ a, a < 1 → ∀ b, b < 1 → a ≠ b → (cT4 a).2.1 ≠ (cT4 b).2.1 := by decide +kernel
theorem cy4 : ∀ k, k < 1 → parseFieldDescriptor (cT4 k).2.2.1 = some (ct4 k) := by decide +kernel
def cN5 : String := "PegWatch$Reach"
def cT5 : u_T := fun k => match k with
  | 0 => ("PegWatch$Reach", "west", "I", false)
  | 1 => ("PegWatch$Reach", "east", "I", false)
  | 2 => ("PegWatch$Reach", "south", "I", false)
  | _ => ("PegWatch$Reach", "north", "I", false)
def ct5 : Nat → FieldType := fun k => match k with
  | 0 => .int
  | 1 => .int
  | 2 => .int
  | _ => .int
theorem cw5 : ∀ w ∈ u_ws cN5 cT5 4, w ∈ wsG := mem_gs [291, 293, 295, 297] (by decide +kernel) (by decide +kernel)
theorem cm5 : ∀ a, a < 4 → ∀ b, b < 4 → a ≠ b → (cT5 a).2.1 ≠ (cT5 b).2.1 := by decide +kernel
theorem cy5 : ∀ k, k < 4 → parseFieldDescriptor (cT5 k).2.2.1 = some (ct5 k) := by decide +kernel
def cN6 : String := "PegWatch$Reckoning"
def cT6 : u_T := fun k => match k with
  | 0 => ("PegWatch$Reckoning", "chart", "LPegWatch$Chart;", true)
  | 1 => ("PegWatch$Reckoning", "board", "LPegWatch$Board;", true)
  | 2 => ("PegWatch$Reckoning", "log", "LPegWatch$Log;", true)
  | 3 => ("PegWatch$Reckoning", "ahead", "[LPegWatch$Patch;", true)
  | 4 => ("PegWatch$Reckoning", "back", "[LPegWatch$Patch;", true)
  | 5 => ("PegWatch$Reckoning", "here", "LPegWatch$Patch;", true)
  | 6 => ("PegWatch$Reckoning", "without", "LPegWatch$Patch;", true)
  | 7 => ("PegWatch$Reckoning", "withoutTwo", "LPegWatch$Patch;", true)
  | 8 => ("PegWatch$Reckoning", "found", "[I", true)
  | _ => ("PegWatch$Reckoning", "foundSize", "I", false)
def ct6 : Nat → FieldType := fun k => match k with
  | 0 => .object "PegWatch$Chart"
  | 1 => .object "PegWatch$Board"
  | 2 => .object "PegWatch$Log"
  | 3 => .array (.object "PegWatch$Patch")
  | 4 => .array (.object "PegWatch$Patch")
  | 5 => .object "PegWatch$Patch"
  | 6 => .object "PegWatch$Patch"
  | 7 => .object "PegWatch$Patch"
  | 8 => .array .int
  | _ => .int
theorem cw6 : ∀ w ∈ u_ws cN6 cT6 10, w ∈ wsG := mem_gs [385, 387, 389, 391, 393, 395, 397, 399, 401, 403] (by decide +kernel) (by decide +kernel)
theorem cm6 : ∀ a, a < 10 → ∀ b, b < 10 → a ≠ b → (cT6 a).2.1 ≠ (cT6 b).2.1 := by decide +kernel
theorem cy6 : ∀ k, k < 10 → parseFieldDescriptor (cT6 k).2.2.1 = some (ct6 k) := by decide +kernel
def cN7 : String := "PegWatch$Row"
def cT7 : u_T := fun k => match k with
  | 0 => ("PegWatch$Row", "counted", "LPegWatch$Reach;", true)
  | 1 => ("PegWatch$Row", "uncounted", "LPegWatch$Reach;", true)
  | 2 => ("PegWatch$Row", "staying", "LPegWatch$Patch;", true)
  | 3 => ("PegWatch$Row", "watch", "I", false)
  | 4 => ("PegWatch$Row", "sort", "I", false)
  | 5 => ("PegWatch$Row", "a", "I", false)
  | 6 => ("PegWatch$Row", "b", "I", false)
  | _ => ("PegWatch$Row", "counts", "Z", false)
def ct7 : Nat → FieldType := fun k => match k with
  | 0 => .object "PegWatch$Reach"
  | 1 => .object "PegWatch$Reach"
  | 2 => .object "PegWatch$Patch"
  | 3 => .int
  | 4 => .int
  | 5 => .int
  | 6 => .int
  | _ => .boolean
theorem cw7 : ∀ w ∈ u_ws cN7 cT7 8, w ∈ wsG := mem_gs [320, 322, 324, 326, 328, 330, 332, 334] (by decide +kernel) (by decide +kernel)
theorem cm7 : ∀ a, a < 8 → ∀ b, b < 8 → a ≠ b → (cT7 a).2.1 ≠ (cT7 b).2.1 := by decide +kernel
theorem cy7 : ∀ k, k < 8 → parseFieldDescriptor (cT7 k).2.2.1 = some (ct7 k) := by decide +kernel
def cN8 : String := "PegWatch$Voyage"
def cT8 : u_T := fun k => match k with
  | 0 => ("PegWatch$Voyage", "chart", "LPegWatch$Chart;", true)
  | 1 => ("PegWatch$Voyage", "near", "LPegWatch$Patch;", true)
  | 2 => ("PegWatch$Voyage", "left", "LPegWatch$Patch;", true)
  | 3 => ("PegWatch$Voyage", "reach", "LPegWatch$Reach;", true)
  | 4 => ("PegWatch$Voyage", "knots", "I", false)
  | _ => ("PegWatch$Voyage", "hour", "I", false)
def ct8 : Nat → FieldType := fun k => match k with
  | 0 => .object "PegWatch$Chart"
  | 1 => .object "PegWatch$Patch"
  | 2 => .object "PegWatch$Patch"
  | 3 => .object "PegWatch$Reach"
  | 4 => .int
  | _ => .int
theorem cw8 : ∀ w ∈ u_ws cN8 cT8 6, w ∈ wsG := mem_gs [422, 424, 426, 428, 430, 432] (by decide +kernel) (by decide +kernel)
theorem cm8 : ∀ a, a < 6 → ∀ b, b < 6 → a ≠ b → (cT8 a).2.1 ≠ (cT8 b).2.1 := by decide +kernel
theorem cy8 : ∀ k, k < 6 → parseFieldDescriptor (cT8 k).2.2.1 = some (ct8 k) := by decide +kernel
def cN9 : String := "PegWatch$Watch"
def cT9 : u_T := fun k => match k with
  | 0 => ("PegWatch$Watch", "pegs", "[I", true)
  | 1 => ("PegWatch$Watch", "knots", "[I", true)
  | 2 => ("PegWatch$Watch", "eastParts", "[I", true)
  | 3 => ("PegWatch$Watch", "northParts", "[I", true)
  | 4 => ("PegWatch$Watch", "spreadOfLost", "I", false)
  | 5 => ("PegWatch$Watch", "spreadIfAllLost", "I", false)
  | 6 => ("PegWatch$Watch", "helmsman", "I", false)
  | 7 => ("PegWatch$Watch", "wind", "I", false)
  | _ => ("PegWatch$Watch", "sail", "I", false)
def ct9 : Nat → FieldType := fun k => match k with
  | 0 => .array .int
  | 1 => .array .int
  | 2 => .array .int
  | 3 => .array .int
  | 4 => .int
  | 5 => .int
  | 6 => .int
  | 7 => .int
  | _ => .int
theorem cw9 : ∀ w ∈ u_ws cN9 cT9 9, w ∈ wsG := mem_gs [135, 137, 139, 141, 143, 145, 147, 149, 151] (by decide +kernel) (by decide +kernel)
theorem cm9 : ∀ a, a < 9 → ∀ b, b < 9 → a ≠ b → (cT9 a).2.1 ≠ (cT9 b).2.1 := by decide +kernel
theorem cy9 : ∀ k, k < 9 → parseFieldDescriptor (cT9 k).2.2.1 = some (ct9 k) := by decide +kernel
def cN10 : String := "PegWatch$Words"
def cT10 : u_T := fun k => match k with
  | 0 => ("PegWatch$Words", "numbers", "[I", true)
  | 1 => ("PegWatch$Words", "meanings", "[I", true)
  | _ => ("PegWatch$Words", "length", "I", false)
def ct10 : Nat → FieldType := fun k => match k with
  | 0 => .array .int
  | 1 => .array .int
  | _ => .int
theorem cw10 : ∀ w ∈ u_ws cN10 cT10 3, w ∈ wsG := mem_gs [98, 100, 102] (by decide +kernel) (by decide +kernel)
theorem cm10 : ∀ a, a < 3 → ∀ b, b < 3 → a ≠ b → (cT10 a).2.1 ≠ (cT10 b).2.1 := by decide +kernel
theorem cy10 : ∀ k, k < 3 → parseFieldDescriptor (cT10 k).2.2.1 = some (ct10 k) := by decide +kernel
def cN11 : String := "PegWatch"
def cT11 : u_T := fun k => match k with
  | 0 => ("PegWatch", "words", "LPegWatch$Words;", true)
  | 1 => ("PegWatch", "board", "LPegWatch$Board;", true)
  | 2 => ("PegWatch", "chart", "LPegWatch$Chart;", true)
  | 3 => ("PegWatch", "log", "LPegWatch$Log;", true)
  | 4 => ("PegWatch", "reckoning", "LPegWatch$Reckoning;", true)
  | 5 => ("PegWatch", "voyage", "LPegWatch$Voyage;", true)
  | 6 => ("PegWatch", "landfallsDone", "I", false)
  | 7 => ("PegWatch", "coursesDone", "I", false)
  | _ => ("PegWatch", "blamesDone", "I", false)
def ct11 : Nat → FieldType := fun k => match k with
  | 0 => .object "PegWatch$Words"
  | 1 => .object "PegWatch$Board"
  | 2 => .object "PegWatch$Chart"
  | 3 => .object "PegWatch$Log"
  | 4 => .object "PegWatch$Reckoning"
  | 5 => .object "PegWatch$Voyage"
  | 6 => .int
  | 7 => .int
  | _ => .int
theorem cw11 : ∀ w ∈ u_ws cN11 cT11 9, w ∈ wsG := mem_gs [444, 446, 448, 450, 452, 454, 456, 458, 460] (by decide +kernel) (by decide +kernel)
theorem cm11 : ∀ a, a < 9 → ∀ b, b < 9 → a ≠ b → (cT11 a).2.1 ≠ (cT11 b).2.1 := by decide +kernel
theorem cy11 : ∀ k, k < 9 → parseFieldDescriptor (cT11 k).2.2.1 = some (ct11 k) := by decide +kernel
def cN12 : String := "PegWatchModel"
def cT12 : u_T := fun k => match k with
  | 0 => ("PegWatchModel", "names", "[I", true)
  | 1 => ("PegWatchModel", "thousandths", "[I", true)
  | 2 => ("PegWatchModel", "words", "I", false)
  | 3 => ("PegWatchModel", "wordOf", "[I", true)
  | 4 => ("PegWatchModel", "watches", "I", false)
  | 5 => ("PegWatchModel", "pegs", "[I", true)
  | 6 => ("PegWatchModel", "knotsOf", "[I", true)
  | 7 => ("PegWatchModel", "sets", "[I", true)
  | 8 => ("PegWatchModel", "miss", "I", false)
  | 9 => ("PegWatchModel", "wide", "I", false)
  | 10 => ("PegWatchModel", "high", "I", false)
  | 11 => ("PegWatchModel", "depths", "[I", true)
  | 12 => ("PegWatchModel", "isWeed", "[Z", true)
  | 13 => ("PegWatchModel", "eastFrom", "I", false)
  | 14 => ("PegWatchModel", "eastTo", "I", false)
  | 15 => ("PegWatchModel", "northFrom", "I", false)
  | 16 => ("PegWatchModel", "northTo", "I", false)
  | 17 => ("PegWatchModel", "startX", "I", false)
  | 18 => ("PegWatchModel", "startY", "I", false)
  | 19 => ("PegWatchModel", "startR", "I", false)
  | 20 => ("PegWatchModel", "rows", "I", false)
  | 21 => ("PegWatchModel", "rowOf", "[I", true)
  | 22 => ("PegWatchModel", "fitsDone", "I", false)
  | 23 => ("PegWatchModel", "coursesDone", "I", false)
  | 24 => ("PegWatchModel", "blamesDone", "I", false)
  | 25 => ("PegWatchModel", "waits", "[I", true)
  | 26 => ("PegWatchModel", "east", "I", false)
  | 27 => ("PegWatchModel", "north", "I", false)
  | 28 => ("PegWatchModel", "spread", "I", false)
  | 29 => ("PegWatchModel", "held", "[Z", true)
  | 30 => ("PegWatchModel", "between", "[Z", true)
  | 31 => ("PegWatchModel", "history", "[Z", true)
  | 32 => ("PegWatchModel", "nearOf", "[I", true)
  | 33 => ("PegWatchModel", "blamedOne", "I", false)
  | _ => ("PegWatchModel", "h", "J", false)
def ct12 : Nat → FieldType := fun k => match k with
  | 0 => .array .int
  | 1 => .array .int
  | 2 => .int
  | 3 => .array .int
  | 4 => .int
  | 5 => .array .int
  | 6 => .array .int
  | 7 => .array .int
  | 8 => .int
  | 9 => .int
  | 10 => .int
  | 11 => .array .int
  | 12 => .array .boolean
  | 13 => .int
  | 14 => .int
  | 15 => .int
  | 16 => .int
  | 17 => .int
  | 18 => .int
  | 19 => .int
  | 20 => .int
  | 21 => .array .int
  | 22 => .int
  | 23 => .int
  | 24 => .int
  | 25 => .array .int
  | 26 => .int
  | 27 => .int
  | 28 => .int
  | 29 => .array .boolean
  | 30 => .array .boolean
  | 31 => .array .boolean
  | 32 => .array .int
  | 33 => .int
  | _ => .long
theorem cw12 : ∀ w ∈ u_ws cN12 cT12 35, w ∈ wsG := mem_gs [1101, 1103, 1105, 1107, 1109, 1111, 1113, 1115, 1117, 1119, 1121, 1123, 1125, 1127, 1129, 1131, 1133, 1135, 1137, 1139, 1141, 1143, 1145, 1147, 1149, 1151, 1153, 1155, 1157, 1159, 1161, 1163, 1165, 1167, 1169] (by decide +kernel) (by decide +kernel)
theorem cm12 : ∀ a, a < 35 → ∀ b, b < 35 → a ≠ b → (cT12 a).2.1 ≠ (cT12 b).2.1 := by decide +kernel
theorem cy12 : ∀ k, k < 35 → parseFieldDescriptor (cT12 k).2.2.1 = some (ct12 k) := by decide +kernel
abbrev clsL : List vw_C := [(cN0, cT0, 3), (cN1, cT1, 10), (cN2, cT2, 0), (cN3, cT3, 5), (cN4, cT4, 1), (cN5, cT5, 4), (cN6, cT6, 10), (cN7, cT7, 8), (cN8, cT8, 6), (cN9, cT9, 9), (cN10, cT10, 3), (cN11, cT11, 9), (cN12, cT12, 35)]
def clT (ci : Nat) : Nat → FieldType := match ci with
  | 0 => ct0
  | 1 => ct1
  | 2 => ct2
  | 3 => ct3
  | 4 => ct4
  | 5 => ct5
  | 6 => ct6
  | 7 => ct7
  | 8 => ct8
  | 9 => ct9
  | 10 => ct10
  | 11 => ct11
  | _ => ct12
def ClOk (ci : Nat) (r : vw_C) : Prop := (∀ w ∈ u_ws r.1 r.2.1 r.2.2, w ∈ wsG) ∧ (∀ k, k < r.2.2 → parseFieldDescriptor (r.2.1 k).2.2.1 = some (clT ci k)) ∧ ∀ a, a < r.2.2 → ∀ b, b < r.2.2 → a ≠ b → (r.2.1 a).2.1 ≠ (r.2.1 b).2.1
theorem cl_ok {ci : Nat} {r : vw_C} (h : clsL[ci]? = some r) : ClOk ci r := by
  match ci, h with
  | 0, h => cases h; exact ⟨cw0, cy0, cm0⟩
  | 1, h => cases h; exact ⟨cw1, cy1, cm1⟩
  | 2, h => cases h; exact ⟨cw2, cy2, cm2⟩
  | 3, h => cases h; exact ⟨cw3, cy3, cm3⟩
  | 4, h => cases h; exact ⟨cw4, cy4, cm4⟩
  | 5, h => cases h; exact ⟨cw5, cy5, cm5⟩
  | 6, h => cases h; exact ⟨cw6, cy6, cm6⟩
  | 7, h => cases h; exact ⟨cw7, cy7, cm7⟩
  | 8, h => cases h; exact ⟨cw8, cy8, cm8⟩
  | 9, h => cases h; exact ⟨cw9, cy9, cm9⟩
  | 10, h => cases h; exact ⟨cw10, cy10, cm10⟩
  | 11, h => cases h; exact ⟨cw11, cy11, cm11⟩
  | 12, h => cases h; exact ⟨cw12, cy12, cm12⟩
  | n + 13, h => simp [clsL] at h
abbrev Md : Type := MethodName × ByteArray × Nat × Option FieldType × Nat × Nat
def mY (m : Md) : MethodName := m.1
def mB (m : Md) : ByteArray := m.2.1
def mL (m : Md) : Nat := m.2.2.1
def mR (m : Md) : Option FieldType := m.2.2.2.1
def mF (m : Md) : Nat := m.2.2.2.2.1
def mO (m : Md) : Nat := m.2.2.2.2.2
def md_Peg_init : Md := (⟨"PegWatch", "<init>", "()V"⟩, prog_1_method_1_code, 1, (Option.none : Option Jvm.ClassFile.FieldType), 4, 93)
def md_Words_init : Md := (⟨"PegWatch$Words", "<init>", "()V"⟩, prog_12_method_1_code, 1, (Option.none : Option Jvm.ClassFile.FieldType), 1, 20)
def md_Board_init : Md := (⟨"PegWatch$Board", "<init>", "()V"⟩, prog_2_method_1_code, 2, (Option.none : Option Jvm.ClassFile.FieldType), 2, 43)
def md_Watch_init : Md := (⟨"PegWatch$Watch", "<init>", "()V"⟩, prog_11_method_1_code, 1, (Option.none : Option Jvm.ClassFile.FieldType), 1, 23)
def md_JArrays_fill : Md := (⟨"java/util/Arrays", "fill", "([II)V"⟩, prog_18_method_103_code, 4, (Option.none : Option Jvm.ClassFile.FieldType), 0, 0)
def md_Chart_init : Md := (⟨"PegWatch$Chart", "<init>", "()V"⟩, prog_3_method_1_code, 1, (Option.none : Option Jvm.ClassFile.FieldType), 3, 73)
def md_Patch_init : Md := (⟨"PegWatch$Patch", "<init>", "()V"⟩, prog_6_method_1_code, 1, (Option.none : Option Jvm.ClassFile.FieldType), 1, 20)
def md_Chart_streamBecomes : Md := (⟨"PegWatch$Chart", "streamBecomes", "(IIII)V"⟩, prog_3_method_3_code, 5, (Option.none : Option Jvm.ClassFile.FieldType), 0, 0)
def md_Chart_drawAnew : Md := (⟨"PegWatch$Chart", "drawAnew", "(II)V"⟩, prog_3_method_2_code, 3, (Option.none : Option Jvm.ClassFile.FieldType), 2, 51)
def md_Patch_clear : Md := (⟨"PegWatch$Patch", "clear", "()V"⟩, prog_6_method_2_code, 1, (Option.none : Option Jvm.ClassFile.FieldType), 1, 23)
def md_Patch_put : Md := (⟨"PegWatch$Patch", "put", "(IIIIZ)V"⟩, prog_6_method_10_code, 11, (Option.none : Option Jvm.ClassFile.FieldType), 1, 21)
def md_JMath_max : Md := (⟨"java/lang/Math", "max", "(II)I"⟩, prog_16_method_65_code, 2, (Option.some Jvm.ClassFile.FieldType.int), 0, 0)
def md_JMath_min : Md := (⟨"java/lang/Math", "min", "(II)I"⟩, prog_16_method_69_code, 2, (Option.some Jvm.ClassFile.FieldType.int), 0, 0)
def md_Patch_firstBits : Md := (⟨"PegWatch$Patch", "firstBits", "(I)I"⟩, prog_6_method_13_code, 1, (Option.some Jvm.ClassFile.FieldType.int), 0, 0)
def md_Log_init : Md := (⟨"PegWatch$Log", "<init>", "()V"⟩, prog_5_method_1_code, 2, (Option.none : Option Jvm.ClassFile.FieldType), 3, 60)
def md_Row_init : Md := (⟨"PegWatch$Row", "<init>", "()V"⟩, prog_9_method_1_code, 1, (Option.none : Option Jvm.ClassFile.FieldType), 2, 40)
def md_Reach_init : Md := (⟨"PegWatch$Reach", "<init>", "()V"⟩, prog_7_method_1_code, 1, (Option.none : Option Jvm.ClassFile.FieldType), 1, 20)
def md_Row_become : Md := (⟨"PegWatch$Row", "become", "(IIII)V"⟩, prog_9_method_5_code, 5, (Option.none : Option Jvm.ClassFile.FieldType), 0, 0)
def md_Log_startFrom : Md := (⟨"PegWatch$Log", "startFrom", "(III)V"⟩, prog_5_method_2_code, 4, (Option.none : Option Jvm.ClassFile.FieldType), 0, 0)
def md_Reckoning_init : Md := (⟨"PegWatch$Reckoning", "<init>", "(LPegWatch$Chart;LPegWatch$Board;LPegWatch$Log;)V"⟩, prog_8_method_1_code, 5, (Option.none : Option Jvm.ClassFile.FieldType), 2, 40)
def md_Voyage_init : Md := (⟨"PegWatch$Voyage", "<init>", "(LPegWatch$Chart;)V"⟩, prog_10_method_1_code, 2, (Option.none : Option Jvm.ClassFile.FieldType), 2, 40)
def md_Peg_name : Md := (⟨"PegWatch", "name", "(I)I"⟩, prog_1_method_2_code, 2, (Option.some Jvm.ClassFile.FieldType.int), 1, 20)
def md_Compass_isPoint : Md := (⟨"PegWatch$Compass", "isPoint", "(I)Z"⟩, prog_4_method_2_code, 1, (Option.some Jvm.ClassFile.FieldType.boolean), 0, 0)
def md_Peg_read : Md := (⟨"PegWatch", "read", "(I)I"⟩, prog_1_method_3_code, 3, (Option.some Jvm.ClassFile.FieldType.int), 2, 44)
def md_Compass_hasFigureZero : Md := (⟨"PegWatch$Compass", "hasFigureZero", "(I)Z"⟩, prog_4_method_10_code, 2, (Option.some Jvm.ClassFile.FieldType.boolean), 0, 0)
def md_Compass_pointNamed : Md := (⟨"PegWatch$Compass", "pointNamed", "(I)I"⟩, prog_4_method_9_code, 2, (Option.some Jvm.ClassFile.FieldType.int), 0, 0)
def md_Compass_lettersThatBegin : Md := (⟨"PegWatch$Compass", "lettersThatBegin", "(I)I"⟩, prog_4_method_11_code, 3, (Option.some Jvm.ClassFile.FieldType.int), 1, 22)
def md_Compass_isBeginning : Md := (⟨"PegWatch$Compass", "isBeginning", "(I)Z"⟩, prog_4_method_12_code, 3, (Option.some Jvm.ClassFile.FieldType.boolean), 0, 0)
def md_Peg_turns : Md := (⟨"PegWatch", "turns", "(II)I"⟩, prog_1_method_4_code, 3, (Option.some Jvm.ClassFile.FieldType.int), 1, 21)
def md_Compass_turnsBetween : Md := (⟨"PegWatch$Compass", "turnsBetween", "(II)I"⟩, prog_4_method_4_code, 2, (Option.some Jvm.ClassFile.FieldType.int), 0, 0)
def md_Peg_go : Md := (⟨"PegWatch", "go", "(II)I"⟩, prog_1_method_5_code, 3, (Option.some Jvm.ClassFile.FieldType.int), 4, 85)
def md_Peg_isWithin : Md := (⟨"PegWatch", "isWithin", "(III)Z"⟩, prog_1_method_41_code, 3, (Option.some Jvm.ClassFile.FieldType.boolean), 0, 0)
def md_Compass_eastOf : Md := (⟨"PegWatch$Compass", "eastOf", "(I)I"⟩, prog_4_method_7_code, 1, (Option.some Jvm.ClassFile.FieldType.int), 3, 65)
def md_Compass_turned : Md := (⟨"PegWatch$Compass", "turned", "(II)I"⟩, prog_4_method_3_code, 2, (Option.some Jvm.ClassFile.FieldType.int), 0, 0)
def md_Compass_northOf : Md := (⟨"PegWatch$Compass", "northOf", "(I)I"⟩, prog_4_method_6_code, 3, (Option.some Jvm.ClassFile.FieldType.int), 2, 43)
def md_Compass_angle : Md := (⟨"PegWatch$Compass", "angle", "(II)I"⟩, prog_4_method_5_code, 3, (Option.some Jvm.ClassFile.FieldType.int), 1, 21)
def md_Peg_word : Md := (⟨"PegWatch", "word", "(I)I"⟩, prog_1_method_6_code, 2, (Option.some Jvm.ClassFile.FieldType.int), 1, 22)
def md_Words_append : Md := (⟨"PegWatch$Words", "append", "(I)Z"⟩, prog_12_method_2_code, 2, (Option.some Jvm.ClassFile.FieldType.boolean), 0, 0)
def md_Peg_hush : Md := (⟨"PegWatch", "hush", "()I"⟩, prog_1_method_7_code, 2, (Option.some Jvm.ClassFile.FieldType.int), 0, 0)
def md_Peg_fault : Md := (⟨"PegWatch", "fault", "()I"⟩, prog_1_method_8_code, 1, (Option.some Jvm.ClassFile.FieldType.int), 4, 85)
def md_Words_firstFault : Md := (⟨"PegWatch$Words", "firstFault", "()I"⟩, prog_12_method_3_code, 4, (Option.some Jvm.ClassFile.FieldType.int), 3, 62)
def md_Words_isWord : Md := (⟨"PegWatch$Words", "isWord", "(I)Z"⟩, prog_12_method_6_code, 1, (Option.some Jvm.ClassFile.FieldType.boolean), 2, 42)
def md_Words_turnOf : Md := (⟨"PegWatch$Words", "turnOf", "(I)I"⟩, prog_12_method_7_code, 1, (Option.some Jvm.ClassFile.FieldType.int), 1, 22)
def md_Peg_told : Md := (⟨"PegWatch", "told", "()I"⟩, prog_1_method_9_code, 1, (Option.some Jvm.ClassFile.FieldType.int), 4, 85)
def md_Words_meaning : Md := (⟨"PegWatch$Words", "meaning", "()I"⟩, prog_12_method_4_code, 4, (Option.some Jvm.ClassFile.FieldType.int), 2, 42)
def md_Words_halfway : Md := (⟨"PegWatch$Words", "halfway", "(II)I"⟩, prog_12_method_8_code, 2, (Option.some Jvm.ClassFile.FieldType.int), 1, 21)
def md_Peg_watch : Md := (⟨"PegWatch", "watch", "()I"⟩, prog_1_method_10_code, 1, (Option.some Jvm.ClassFile.FieldType.int), 0, 0)
def md_Peg_peg : Md := (⟨"PegWatch", "peg", "(III)I"⟩, prog_1_method_11_code, 4, (Option.some Jvm.ClassFile.FieldType.int), 7, 160)
def md_Board_isWatch : Md := (⟨"PegWatch$Board", "isWatch", "(I)Z"⟩, prog_2_method_2_code, 2, (Option.some Jvm.ClassFile.FieldType.boolean), 0, 0)
def md_Watch_putPeg : Md := (⟨"PegWatch$Watch", "putPeg", "(II)I"⟩, prog_11_method_3_code, 4, (Option.some Jvm.ClassFile.FieldType.int), 6, 137)
def md_Watch_sumUp : Md := (⟨"PegWatch$Watch", "sumUp", "()V"⟩, prog_11_method_11_code, 2, (Option.none : Option Jvm.ClassFile.FieldType), 5, 116)
def md_Watch_sumSpreads : Md := (⟨"PegWatch$Watch", "sumSpreads", "()V"⟩, prog_11_method_12_code, 4, (Option.none : Option Jvm.ClassFile.FieldType), 1, 21)
def md_Watch_knotsOfPeg : Md := (⟨"PegWatch$Watch", "knotsOfPeg", "(I)I"⟩, prog_11_method_9_code, 2, (Option.some Jvm.ClassFile.FieldType.int), 0, 0)
def md_Watch_sumParts : Md := (⟨"PegWatch$Watch", "sumParts", "(I)V"⟩, prog_11_method_13_code, 6, (Option.none : Option Jvm.ClassFile.FieldType), 4, 91)
def md_Watch_madeGood : Md := (⟨"PegWatch$Watch", "madeGood", "(II)I"⟩, prog_11_method_14_code, 6, (Option.some Jvm.ClassFile.FieldType.int), 3, 66)
def md_Compass_pointsFarther : Md := (⟨"PegWatch$Compass", "pointsFarther", "(III)I"⟩, prog_4_method_8_code, 4, (Option.some Jvm.ClassFile.FieldType.int), 2, 43)
def md_Peg_knots : Md := (⟨"PegWatch", "knots", "(III)I"⟩, prog_1_method_12_code, 4, (Option.some Jvm.ClassFile.FieldType.int), 7, 160)
def md_Watch_putKnots : Md := (⟨"PegWatch$Watch", "putKnots", "(II)I"⟩, prog_11_method_4_code, 4, (Option.some Jvm.ClassFile.FieldType.int), 6, 137)
def md_Peg_set : Md := (⟨"PegWatch", "set", "(III)I"⟩, prog_1_method_13_code, 4, (Option.some Jvm.ClassFile.FieldType.int), 7, 160)
def md_Watch_mostOf : Md := (⟨"PegWatch$Watch", "mostOf", "(I)I"⟩, prog_11_method_2_code, 1, (Option.some Jvm.ClassFile.FieldType.int), 0, 0)
def md_Watch_putTrait : Md := (⟨"PegWatch$Watch", "putTrait", "(II)I"⟩, prog_11_method_5_code, 4, (Option.some Jvm.ClassFile.FieldType.int), 6, 137)
def md_Peg_leeway : Md := (⟨"PegWatch", "leeway", "(III)I"⟩, prog_1_method_14_code, 4, (Option.some Jvm.ClassFile.FieldType.int), 3, 66)
def md_Peg_way : Md := (⟨"PegWatch", "way", "(IIII)I"⟩, prog_1_method_15_code, 7, (Option.some Jvm.ClassFile.FieldType.int), 3, 65)
def md_Watch_wayEast : Md := (⟨"PegWatch$Watch", "wayEast", "(II)I"⟩, prog_11_method_6_code, 3, (Option.some Jvm.ClassFile.FieldType.int), 2, 43)
def md_Watch_byGlass : Md := (⟨"PegWatch$Watch", "byGlass", "(II)I"⟩, prog_11_method_10_code, 2, (Option.some Jvm.ClassFile.FieldType.int), 1, 22)
def md_JMath_floorDiv : Md := (⟨"java/lang/Math", "floorDiv", "(II)I"⟩, prog_16_method_47_code, 3, (Option.some Jvm.ClassFile.FieldType.int), 0, 0)
def md_Watch_wayNorth : Md := (⟨"PegWatch$Watch", "wayNorth", "(II)I"⟩, prog_11_method_7_code, 3, (Option.some Jvm.ClassFile.FieldType.int), 2, 43)
def md_Peg_miss : Md := (⟨"PegWatch", "miss", "(I)I"⟩, prog_1_method_16_code, 3, (Option.some Jvm.ClassFile.FieldType.int), 1, 22)
def md_Peg_chart : Md := (⟨"PegWatch", "chart", "(II)I"⟩, prog_1_method_17_code, 3, (Option.some Jvm.ClassFile.FieldType.int), 3, 73)
def md_Peg_sea : Md := (⟨"PegWatch", "sea", "(IIIII)I"⟩, prog_1_method_18_code, 6, (Option.some Jvm.ClassFile.FieldType.int), 3, 78)
def md_Chart_isCell : Md := (⟨"PegWatch$Chart", "isCell", "(II)Z"⟩, prog_3_method_4_code, 3, (Option.some Jvm.ClassFile.FieldType.boolean), 0, 0)
def md_Chart_putDepth : Md := (⟨"PegWatch$Chart", "putDepth", "(IIIII)V"⟩, prog_3_method_6_code, 8, (Option.none : Option Jvm.ClassFile.FieldType), 2, 51)
def md_Peg_weed : Md := (⟨"PegWatch", "weed", "(IIIIZ)I"⟩, prog_1_method_19_code, 6, (Option.some Jvm.ClassFile.FieldType.int), 2, 51)
def md_Peg_about : Md := (⟨"PegWatch", "about", "(III)I"⟩, prog_1_method_20_code, 4, (Option.some Jvm.ClassFile.FieldType.int), 3, 69)
def md_Chart_depthAt : Md := (⟨"PegWatch$Chart", "depthAt", "(II)I"⟩, prog_3_method_5_code, 3, (Option.some Jvm.ClassFile.FieldType.int), 1, 22)
def md_Patch_holds : Md := (⟨"PegWatch$Patch", "holds", "(II)Z"⟩, prog_6_method_6_code, 3, (Option.some Jvm.ClassFile.FieldType.boolean), 1, 22)
def md_Peg_asNumber : Md := (⟨"PegWatch", "asNumber", "(Z)I"⟩, prog_1_method_42_code, 1, (Option.some Jvm.ClassFile.FieldType.int), 0, 0)
def md_Chart_leastNear : Md := (⟨"PegWatch$Chart", "leastNear", "(II)I"⟩, prog_3_method_7_code, 6, (Option.some Jvm.ClassFile.FieldType.int), 2, 44)
def md_Peg_stream : Md := (⟨"PegWatch", "stream", "(IIII)I"⟩, prog_1_method_21_code, 5, (Option.some Jvm.ClassFile.FieldType.int), 1, 24)
def md_Peg_isStream : Md := (⟨"PegWatch", "isStream", "(II)Z"⟩, prog_1_method_44_code, 2, (Option.some Jvm.ClassFile.FieldType.boolean), 0, 0)
def md_Peg_start : Md := (⟨"PegWatch", "start", "(III)I"⟩, prog_1_method_22_code, 4, (Option.some Jvm.ClassFile.FieldType.int), 4, 92)
def md_Reckoning_startCells : Md := (⟨"PegWatch$Reckoning", "startCells", "()I"⟩, prog_8_method_2_code, 1, (Option.some Jvm.ClassFile.FieldType.int), 3, 72)
def md_Reckoning_findStart : Md := (⟨"PegWatch$Reckoning", "findStart", "()V"⟩, prog_8_method_8_code, 2, (Option.none : Option Jvm.ClassFile.FieldType), 2, 51)
def md_Patch_cutTo : Md := (⟨"PegWatch$Patch", "cutTo", "(LPegWatch$Patch;)V"⟩, prog_6_method_8_code, 3, (Option.none : Option Jvm.ClassFile.FieldType), 0, 0)
def md_Patch_size : Md := (⟨"PegWatch$Patch", "size", "()I"⟩, prog_6_method_4_code, 3, (Option.some Jvm.ClassFile.FieldType.int), 1, 20)
def md_JInteger_bitCount : Md := (⟨"java/lang/Integer", "bitCount", "(I)I"⟩, prog_15_method_49_code, 1, (Option.some Jvm.ClassFile.FieldType.int), 0, 0)
def md_Peg_run : Md := (⟨"PegWatch", "run", "(I)I"⟩, prog_1_method_23_code, 2, (Option.some Jvm.ClassFile.FieldType.int), 2, 48)
def md_Log_holdsWatch : Md := (⟨"PegWatch$Log", "holdsWatch", "(I)Z"⟩, prog_5_method_5_code, 3, (Option.some Jvm.ClassFile.FieldType.boolean), 0, 0)
def md_Log_append : Md := (⟨"PegWatch$Log", "append", "(IIII)Z"⟩, prog_5_method_6_code, 5, (Option.some Jvm.ClassFile.FieldType.boolean), 1, 24)
def md_Peg_sign : Md := (⟨"PegWatch", "sign", "(III)I"⟩, prog_1_method_24_code, 6, (Option.some Jvm.ClassFile.FieldType.int), 2, 48)
def md_Row_isSign : Md := (⟨"PegWatch$Row", "isSign", "(III)Z"⟩, prog_9_method_4_code, 4, (Option.some Jvm.ClassFile.FieldType.boolean), 1, 22)
def md_Row_needsFirst : Md := (⟨"PegWatch$Row", "needsFirst", "(I)Z"⟩, prog_9_method_2_code, 1, (Option.some Jvm.ClassFile.FieldType.boolean), 0, 0)
def md_Row_needsSecond : Md := (⟨"PegWatch$Row", "needsSecond", "(I)Z"⟩, prog_9_method_3_code, 1, (Option.some Jvm.ClassFile.FieldType.boolean), 0, 0)
def md_Peg_count : Md := (⟨"PegWatch", "count", "(IZ)I"⟩, prog_1_method_25_code, 4, (Option.some Jvm.ClassFile.FieldType.int), 1, 21)
def md_Log_isRow : Md := (⟨"PegWatch$Log", "isRow", "(I)Z"⟩, prog_5_method_3_code, 2, (Option.some Jvm.ClassFile.FieldType.boolean), 0, 0)
def md_Peg_strike : Md := (⟨"PegWatch", "strike", "()I"⟩, prog_1_method_26_code, 1, (Option.some Jvm.ClassFile.FieldType.int), 0, 0)
def md_Peg_row : Md := (⟨"PegWatch", "row", "(II)I"⟩, prog_1_method_27_code, 3, (Option.some Jvm.ClassFile.FieldType.int), 2, 41)
def md_Row_fact : Md := (⟨"PegWatch$Row", "fact", "(I)I"⟩, prog_9_method_7_code, 2, (Option.some Jvm.ClassFile.FieldType.int), 1, 20)
def md_Peg_patch : Md := (⟨"PegWatch", "patch", "(I)I"⟩, prog_1_method_28_code, 2, (Option.some Jvm.ClassFile.FieldType.int), 6, 160)
def md_Log_isBehind : Md := (⟨"PegWatch$Log", "isBehind", "(I)Z"⟩, prog_5_method_4_code, 2, (Option.some Jvm.ClassFile.FieldType.boolean), 0, 0)
def md_Reckoning_lookAhead : Md := (⟨"PegWatch$Reckoning", "lookAhead", "()LPegWatch$Patch;"⟩, prog_8_method_3_code, 2, (Option.some (Jvm.ClassFile.FieldType.object "PegWatch$Patch")), 5, 139)
def md_Reckoning_makeReady : Md := (⟨"PegWatch$Reckoning", "makeReady", "(LPegWatch$Row;)V"⟩, prog_8_method_9_code, 2, (Option.none : Option Jvm.ClassFile.FieldType), 4, 102)
def md_Row_isWatch : Md := (⟨"PegWatch$Row", "isWatch", "()Z"⟩, prog_9_method_6_code, 1, (Option.some Jvm.ClassFile.FieldType.boolean), 0, 0)
def md_Reckoning_stretchCounted : Md := (⟨"PegWatch$Reckoning", "stretchCounted", "(LPegWatch$Row;II)Z"⟩, prog_8_method_10_code, 5, (Option.some Jvm.ClassFile.FieldType.boolean), 3, 67)
def md_Reckoning_stretch : Md := (⟨"PegWatch$Reckoning", "stretch", "(LPegWatch$Reach;III)Z"⟩, prog_8_method_11_code, 6, (Option.some Jvm.ClassFile.FieldType.boolean), 2, 42)
def md_Reach_cellsDown : Md := (⟨"PegWatch$Reach", "cellsDown", "(I)I"⟩, prog_7_method_3_code, 1, (Option.some Jvm.ClassFile.FieldType.int), 1, 22)
def md_Reach_cellsUp : Md := (⟨"PegWatch$Reach", "cellsUp", "(I)I"⟩, prog_7_method_4_code, 1, (Option.some Jvm.ClassFile.FieldType.int), 1, 22)
def md_Reach_become : Md := (⟨"PegWatch$Reach", "become", "(IIII)Z"⟩, prog_7_method_2_code, 6, (Option.some Jvm.ClassFile.FieldType.boolean), 0, 0)
def md_Row_findStaying : Md := (⟨"PegWatch$Row", "findStaying", "(LPegWatch$Chart;)V"⟩, prog_9_method_8_code, 2, (Option.none : Option Jvm.ClassFile.FieldType), 3, 81)
def md_Chart_findDepths : Md := (⟨"PegWatch$Chart", "findDepths", "(IILPegWatch$Patch;)V"⟩, prog_3_method_9_code, 6, (Option.none : Option Jvm.ClassFile.FieldType), 2, 51)
def md_Chart_findNear : Md := (⟨"PegWatch$Chart", "findNear", "(ILPegWatch$Patch;)V"⟩, prog_3_method_8_code, 3, (Option.none : Option Jvm.ClassFile.FieldType), 2, 59)
def md_Patch_becomeReached : Md := (⟨"PegWatch$Patch", "becomeReached", "(LPegWatch$Patch;IIIILPegWatch$Chart;)V"⟩, prog_6_method_11_code, 14, (Option.none : Option Jvm.ClassFile.FieldType), 1, 26)
def md_Patch_smear : Md := (⟨"PegWatch$Patch", "smear", "(III)I"⟩, prog_6_method_14_code, 7, (Option.some Jvm.ClassFile.FieldType.int), 0, 0)
def md_Patch_copy : Md := (⟨"PegWatch$Patch", "copy", "(LPegWatch$Patch;)V"⟩, prog_6_method_3_code, 2, (Option.none : Option Jvm.ClassFile.FieldType), 1, 48)
def md_Patch_turnOver : Md := (⟨"PegWatch$Patch", "turnOver", "(LPegWatch$Patch;)V"⟩, prog_6_method_9_code, 3, (Option.none : Option Jvm.ClassFile.FieldType), 0, 0)
def md_Reckoning_takeOnFrom : Md := (⟨"PegWatch$Reckoning", "takeOnFrom", "(I)V"⟩, prog_8_method_13_code, 3, (Option.none : Option Jvm.ClassFile.FieldType), 4, 117)
def md_Row_takeOn : Md := (⟨"PegWatch$Row", "takeOn", "(ZLPegWatch$Patch;LPegWatch$Patch;LPegWatch$Chart;)V"⟩, prog_9_method_9_code, 6, (Option.none : Option Jvm.ClassFile.FieldType), 3, 92)
def md_Row_cut : Md := (⟨"PegWatch$Row", "cut", "(ZLPegWatch$Patch;LPegWatch$Patch;)V"⟩, prog_9_method_11_code, 4, (Option.none : Option Jvm.ClassFile.FieldType), 2, 69)
def md_Peg_has : Md := (⟨"PegWatch", "has", "(III)I"⟩, prog_1_method_29_code, 4, (Option.some Jvm.ClassFile.FieldType.int), 6, 160)
def md_Peg_here : Md := (⟨"PegWatch", "here", "(I)I"⟩, prog_1_method_30_code, 2, (Option.some Jvm.ClassFile.FieldType.int), 7, 181)
def md_Reckoning_seenFromEnd : Md := (⟨"PegWatch$Reckoning", "seenFromEnd", "(I)LPegWatch$Patch;"⟩, prog_8_method_4_code, 2, (Option.some (Jvm.ClassFile.FieldType.object "PegWatch$Patch")), 6, 160)
def md_Reckoning_lookBack : Md := (⟨"PegWatch$Reckoning", "lookBack", "()V"⟩, prog_8_method_14_code, 2, (Option.none : Option Jvm.ClassFile.FieldType), 4, 116)
def md_Row_takeBack : Md := (⟨"PegWatch$Row", "takeBack", "(LPegWatch$Patch;LPegWatch$Patch;LPegWatch$Chart;)V"⟩, prog_9_method_10_code, 5, (Option.none : Option Jvm.ClassFile.FieldType), 3, 92)
def md_Peg_was : Md := (⟨"PegWatch", "was", "(III)I"⟩, prog_1_method_31_code, 4, (Option.some Jvm.ClassFile.FieldType.int), 7, 181)
def md_Peg_blamed : Md := (⟨"PegWatch", "blamed", "()I"⟩, prog_1_method_32_code, 1, (Option.some Jvm.ClassFile.FieldType.int), 7, 185)
def md_Peg_mayBlame : Md := (⟨"PegWatch", "mayBlame", "()Z"⟩, prog_1_method_45_code, 1, (Option.some Jvm.ClassFile.FieldType.boolean), 6, 160)
def md_Patch_isEmpty : Md := (⟨"PegWatch$Patch", "isEmpty", "()Z"⟩, prog_6_method_5_code, 2, (Option.some Jvm.ClassFile.FieldType.boolean), 0, 0)
def md_Reckoning_findBlamed : Md := (⟨"PegWatch$Reckoning", "findBlamed", "()V"⟩, prog_8_method_6_code, 3, (Option.none : Option Jvm.ClassFile.FieldType), 6, 163)
def md_Reckoning_leadsOnWithout : Md := (⟨"PegWatch$Reckoning", "leadsOnWithout", "(ILPegWatch$Patch;LPegWatch$Patch;)Z"⟩, prog_8_method_15_code, 4, (Option.some Jvm.ClassFile.FieldType.boolean), 4, 117)
def md_Patch_meets : Md := (⟨"PegWatch$Patch", "meets", "(LPegWatch$Patch;)Z"⟩, prog_6_method_7_code, 3, (Option.some Jvm.ClassFile.FieldType.boolean), 0, 0)
def md_Reckoning_add : Md := (⟨"PegWatch$Reckoning", "add", "(I)V"⟩, prog_8_method_17_code, 2, (Option.none : Option Jvm.ClassFile.FieldType), 0, 0)
def md_Reckoning_findPairsOf : Md := (⟨"PegWatch$Reckoning", "findPairsOf", "(I)V"⟩, prog_8_method_16_code, 4, (Option.none : Option Jvm.ClassFile.FieldType), 5, 140)
def md_Peg_blame : Md := (⟨"PegWatch", "blame", "(I)I"⟩, prog_1_method_33_code, 2, (Option.some Jvm.ClassFile.FieldType.int), 7, 185)
def md_Reckoning_foundAt : Md := (⟨"PegWatch$Reckoning", "foundAt", "(I)I"⟩, prog_8_method_5_code, 2, (Option.some Jvm.ClassFile.FieldType.int), 0, 0)
def md_Peg_fits : Md := (⟨"PegWatch", "fits", "(II)I"⟩, prog_1_method_34_code, 3, (Option.some Jvm.ClassFile.FieldType.int), 7, 191)
def md_Reckoning_findFits : Md := (⟨"PegWatch$Reckoning", "findFits", "(II)V"⟩, prog_8_method_7_code, 6, (Option.none : Option Jvm.ClassFile.FieldType), 6, 166)
def md_Reckoning_lookAheadBy : Md := (⟨"PegWatch$Reckoning", "lookAheadBy", "(III)LPegWatch$Patch;"⟩, prog_8_method_12_code, 8, (Option.some (Jvm.ClassFile.FieldType.object "PegWatch$Patch")), 5, 139)
def md_Peg_fit : Md := (⟨"PegWatch", "fit", "(III)I"⟩, prog_1_method_35_code, 4, (Option.some Jvm.ClassFile.FieldType.int), 7, 191)
def md_Peg_sights : Md := (⟨"PegWatch", "sights", "(IIIIIII)I"⟩, prog_1_method_36_code, 8, (Option.some Jvm.ClassFile.FieldType.int), 6, 160)
def md_Voyage_isVoyage : Md := (⟨"PegWatch$Voyage", "isVoyage", "(IIII)Z"⟩, prog_10_method_2_code, 4, (Option.some Jvm.ClassFile.FieldType.boolean), 1, 22)
def md_Voyage_fitOut : Md := (⟨"PegWatch$Voyage", "fitOut", "(III)V"⟩, prog_10_method_3_code, 4, (Option.none : Option Jvm.ClassFile.FieldType), 3, 81)
def md_Voyage_sightedFromCell : Md := (⟨"PegWatch$Voyage", "sightedFromCell", "(IIII)I"⟩, prog_10_method_4_code, 5, (Option.some Jvm.ClassFile.FieldType.int), 5, 110)
def md_Voyage_sightedFromLeft : Md := (⟨"PegWatch$Voyage", "sightedFromLeft", "(II)I"⟩, prog_10_method_7_code, 6, (Option.some Jvm.ClassFile.FieldType.int), 4, 85)
def md_Voyage_isOneAground : Md := (⟨"PegWatch$Voyage", "isOneAground", "()Z"⟩, prog_10_method_8_code, 4, (Option.some Jvm.ClassFile.FieldType.boolean), 2, 44)
def md_Patch_seenFrom : Md := (⟨"PegWatch$Patch", "seenFrom", "(II)I"⟩, prog_6_method_12_code, 3, (Option.some Jvm.ClassFile.FieldType.int), 1, 22)
def md_Voyage_dropSighted : Md := (⟨"PegWatch$Voyage", "dropSighted", "()V"⟩, prog_10_method_9_code, 5, (Option.none : Option Jvm.ClassFile.FieldType), 2, 44)
def md_Peg_sure : Md := (⟨"PegWatch", "sure", "(IIIII)I"⟩, prog_1_method_37_code, 7, (Option.some Jvm.ClassFile.FieldType.int), 6, 160)
def md_Voyage_sightedFromAll : Md := (⟨"PegWatch$Voyage", "sightedFromAll", "(LPegWatch$Patch;II)I"⟩, prog_10_method_5_code, 4, (Option.some Jvm.ClassFile.FieldType.int), 5, 110)
def md_Peg_course : Md := (⟨"PegWatch", "course", "(IIII)I"⟩, prog_1_method_38_code, 6, (Option.some Jvm.ClassFile.FieldType.int), 7, 160)
def md_Voyage_soonestPoint : Md := (⟨"PegWatch$Voyage", "soonestPoint", "(LPegWatch$Patch;I)I"⟩, prog_10_method_6_code, 7, (Option.some Jvm.ClassFile.FieldType.int), 6, 133)
def md_Peg_many : Md := (⟨"PegWatch", "many", "(I)I"⟩, prog_1_method_39_code, 2, (Option.some Jvm.ClassFile.FieldType.int), 2, 42)
def md_Peg_digest : Md := (⟨"PegWatch", "digest", "()J"⟩, prog_1_method_40_code, 3, (Option.some Jvm.ClassFile.FieldType.long), 6, 160)
def md_Words_foldInto : Md := (⟨"PegWatch$Words", "foldInto", "(J)J"⟩, prog_12_method_5_code, 6, (Option.some Jvm.ClassFile.FieldType.long), 1, 22)
def md_Peg_fold : Md := (⟨"PegWatch", "fold", "(JI)J"⟩, prog_1_method_43_code, 3, (Option.some Jvm.ClassFile.FieldType.long), 0, 0)
def md_Board_foldWatchesInto : Md := (⟨"PegWatch$Board", "foldWatchesInto", "(J)J"⟩, prog_2_method_3_code, 6, (Option.some Jvm.ClassFile.FieldType.long), 2, 47)
def md_Watch_foldInto : Md := (⟨"PegWatch$Watch", "foldInto", "(J)J"⟩, prog_11_method_8_code, 6, (Option.some Jvm.ClassFile.FieldType.long), 1, 22)
def md_Chart_foldInto : Md := (⟨"PegWatch$Chart", "foldInto", "(J)J"⟩, prog_3_method_10_code, 7, (Option.some Jvm.ClassFile.FieldType.long), 2, 44)
def md_Log_foldInto : Md := (⟨"PegWatch$Log", "foldInto", "(J)J"⟩, prog_5_method_7_code, 7, (Option.some Jvm.ClassFile.FieldType.long), 2, 41)
def md_Mod_init : Md := (⟨"PegWatchModel", "<init>", "()V"⟩, prog_14_method_1_code, 1, (Option.none : Option Jvm.ClassFile.FieldType), 1, 21)
def md_Mod_flood : Md := (⟨"PegWatchModel", "flood", "()V"⟩, prog_14_method_4_code, 2, (Option.none : Option Jvm.ClassFile.FieldType), 0, 0)
def md_Mod_name : Md := (⟨"PegWatchModel", "name", "(I)I"⟩, prog_14_method_6_code, 2, (Option.some Jvm.ClassFile.FieldType.int), 2, 42)
def md_Mod_isPoint : Md := (⟨"PegWatchModel", "isPoint", "(I)Z"⟩, prog_14_method_5_code, 1, (Option.some Jvm.ClassFile.FieldType.boolean), 1, 22)
def md_Mod_in : Md := (⟨"PegWatchModel", "in", "(III)Z"⟩, prog_14_method_3_code, 3, (Option.some Jvm.ClassFile.FieldType.boolean), 0, 0)
def md_Mod_read : Md := (⟨"PegWatchModel", "read", "(I)I"⟩, prog_14_method_10_code, 4, (Option.some Jvm.ClassFile.FieldType.int), 2, 47)
def md_Mod_lettersOf : Md := (⟨"PegWatchModel", "lettersOf", "(I)I"⟩, prog_14_method_7_code, 3, (Option.some Jvm.ClassFile.FieldType.int), 0, 0)
def md_Mod_cutOff : Md := (⟨"PegWatchModel", "cutOff", "(II)I"⟩, prog_14_method_8_code, 4, (Option.some Jvm.ClassFile.FieldType.int), 0, 0)
def md_Mod_begins : Md := (⟨"PegWatchModel", "begins", "(I)Z"⟩, prog_14_method_9_code, 5, (Option.some Jvm.ClassFile.FieldType.boolean), 1, 23)
def md_Mod_turns : Md := (⟨"PegWatchModel", "turns", "(II)I"⟩, prog_14_method_12_code, 3, (Option.some Jvm.ClassFile.FieldType.int), 2, 42)
def md_Mod_turnsOf : Md := (⟨"PegWatchModel", "turnsOf", "(II)I"⟩, prog_14_method_11_code, 2, (Option.some Jvm.ClassFile.FieldType.int), 0, 0)
def md_Mod_go : Md := (⟨"PegWatchModel", "go", "(II)I"⟩, prog_14_method_15_code, 3, (Option.some Jvm.ClassFile.FieldType.int), 2, 43)
def md_Mod_eastOf : Md := (⟨"PegWatchModel", "eastOf", "(I)I"⟩, prog_14_method_14_code, 2, (Option.some Jvm.ClassFile.FieldType.int), 1, 22)
def md_Mod_northOf : Md := (⟨"PegWatchModel", "northOf", "(I)I"⟩, prog_14_method_13_code, 3, (Option.some Jvm.ClassFile.FieldType.int), 0, 0)
def md_Mod_word : Md := (⟨"PegWatchModel", "word", "(I)I"⟩, prog_14_method_16_code, 2, (Option.some Jvm.ClassFile.FieldType.int), 1, 22)
def md_Mod_hush : Md := (⟨"PegWatchModel", "hush", "()I"⟩, prog_14_method_17_code, 2, (Option.some Jvm.ClassFile.FieldType.int), 0, 0)
def md_Mod_fault : Md := (⟨"PegWatchModel", "fault", "()I"⟩, prog_14_method_19_code, 1, (Option.some Jvm.ClassFile.FieldType.int), 3, 66)
def md_Mod_faultOf : Md := (⟨"PegWatchModel", "faultOf", "()I"⟩, prog_14_method_18_code, 5, (Option.some Jvm.ClassFile.FieldType.int), 2, 42)
def md_Mod_told : Md := (⟨"PegWatchModel", "told", "()I"⟩, prog_14_method_20_code, 6, (Option.some Jvm.ClassFile.FieldType.int), 3, 66)
def md_Mod_watch : Md := (⟨"PegWatchModel", "watch", "()I"⟩, prog_14_method_22_code, 2, (Option.some Jvm.ClassFile.FieldType.int), 0, 0)
def md_Mod_peg : Md := (⟨"PegWatchModel", "peg", "(III)I"⟩, prog_14_method_23_code, 5, (Option.some Jvm.ClassFile.FieldType.int), 2, 43)
def md_Mod_isWatch : Md := (⟨"PegWatchModel", "isWatch", "(I)Z"⟩, prog_14_method_21_code, 2, (Option.some Jvm.ClassFile.FieldType.boolean), 1, 22)
def md_Mod_knots : Md := (⟨"PegWatchModel", "knots", "(III)I"⟩, prog_14_method_24_code, 5, (Option.some Jvm.ClassFile.FieldType.int), 2, 43)
def md_Mod_set : Md := (⟨"PegWatchModel", "set", "(III)I"⟩, prog_14_method_25_code, 5, (Option.some Jvm.ClassFile.FieldType.int), 2, 43)
def md_Mod_leeway : Md := (⟨"PegWatchModel", "leeway", "(III)I"⟩, prog_14_method_27_code, 4, (Option.some Jvm.ClassFile.FieldType.int), 2, 45)
def md_Mod_leewayOf : Md := (⟨"PegWatchModel", "leewayOf", "(III)I"⟩, prog_14_method_26_code, 5, (Option.some Jvm.ClassFile.FieldType.int), 1, 21)
def md_Mod_way : Md := (⟨"PegWatchModel", "way", "(IIII)I"⟩, prog_14_method_30_code, 5, (Option.some Jvm.ClassFile.FieldType.int), 3, 75)
def md_Mod_goWatch : Md := (⟨"PegWatchModel", "goWatch", "(IIIZ)V"⟩, prog_14_method_29_code, 11, (Option.none : Option Jvm.ClassFile.FieldType), 2, 45)
def md_Mod_down : Md := (⟨"PegWatchModel", "down", "(II)I"⟩, prog_14_method_28_code, 3, (Option.some Jvm.ClassFile.FieldType.int), 0, 0)
def md_Mod_miss : Md := (⟨"PegWatchModel", "miss", "(I)I"⟩, prog_14_method_31_code, 3, (Option.some Jvm.ClassFile.FieldType.int), 1, 22)
def md_Mod_chart : Md := (⟨"PegWatchModel", "chart", "(II)I"⟩, prog_14_method_34_code, 3, (Option.some Jvm.ClassFile.FieldType.int), 1, 22)
def md_Mod_sea : Md := (⟨"PegWatchModel", "sea", "(IIIII)I"⟩, prog_14_method_35_code, 8, (Option.some Jvm.ClassFile.FieldType.int), 2, 44)
def md_Mod_isCell : Md := (⟨"PegWatchModel", "isCell", "(II)Z"⟩, prog_14_method_32_code, 3, (Option.some Jvm.ClassFile.FieldType.boolean), 1, 22)
def md_Mod_at : Md := (⟨"PegWatchModel", "at", "(II)I"⟩, prog_14_method_33_code, 2, (Option.some Jvm.ClassFile.FieldType.int), 0, 0)
def md_Mod_weed : Md := (⟨"PegWatchModel", "weed", "(IIIIZ)I"⟩, prog_14_method_36_code, 8, (Option.some Jvm.ClassFile.FieldType.int), 2, 44)
def md_Mod_about : Md := (⟨"PegWatchModel", "about", "(III)I"⟩, prog_14_method_39_code, 4, (Option.some Jvm.ClassFile.FieldType.int), 4, 91)
def md_Mod_nearest : Md := (⟨"PegWatchModel", "nearest", "(II)I"⟩, prog_14_method_38_code, 6, (Option.some Jvm.ClassFile.FieldType.int), 3, 66)
def md_Mod_isLand : Md := (⟨"PegWatchModel", "isLand", "(II)Z"⟩, prog_14_method_37_code, 3, (Option.some Jvm.ClassFile.FieldType.boolean), 2, 44)
def md_Mod_stream : Md := (⟨"PegWatchModel", "stream", "(IIII)I"⟩, prog_14_method_40_code, 5, (Option.some Jvm.ClassFile.FieldType.int), 1, 22)
def md_Mod_run : Md := (⟨"PegWatchModel", "run", "(I)I"⟩, prog_14_method_41_code, 3, (Option.some Jvm.ClassFile.FieldType.int), 2, 43)
def md_Mod_add : Md := (⟨"PegWatchModel", "add", "(IIII)I"⟩, prog_14_method_42_code, 5, (Option.some Jvm.ClassFile.FieldType.int), 0, 0)
def md_Mod_sign : Md := (⟨"PegWatchModel", "sign", "(III)I"⟩, prog_14_method_43_code, 7, (Option.some Jvm.ClassFile.FieldType.int), 1, 24)
def md_Mod_count : Md := (⟨"PegWatchModel", "count", "(IZ)I"⟩, prog_14_method_45_code, 4, (Option.some Jvm.ClassFile.FieldType.int), 2, 43)
def md_Mod_isRow : Md := (⟨"PegWatchModel", "isRow", "(I)Z"⟩, prog_14_method_44_code, 2, (Option.some Jvm.ClassFile.FieldType.boolean), 1, 22)
def md_Mod_strike : Md := (⟨"PegWatchModel", "strike", "()I"⟩, prog_14_method_46_code, 1, (Option.some Jvm.ClassFile.FieldType.int), 0, 0)
def md_Mod_row : Md := (⟨"PegWatchModel", "row", "(II)I"⟩, prog_14_method_47_code, 3, (Option.some Jvm.ClassFile.FieldType.int), 2, 43)
def md_Mod_start : Md := (⟨"PegWatchModel", "start", "(III)I"⟩, prog_14_method_48_code, 4, (Option.some Jvm.ClassFile.FieldType.int), 4, 89)
def md_Mod_begin : Md := (⟨"PegWatchModel", "begin", "()V"⟩, prog_14_method_49_code, 4, (Option.none : Option Jvm.ClassFile.FieldType), 3, 66)
def md_Mod_cells : Md := (⟨"PegWatchModel", "cells", "()I"⟩, prog_14_method_50_code, 4, (Option.some Jvm.ClassFile.FieldType.int), 1, 21)
def md_Mod_patch : Md := (⟨"PegWatchModel", "patch", "(I)I"⟩, prog_14_method_66_code, 2, (Option.some Jvm.ClassFile.FieldType.int), 8, 183)
def md_Mod_goPlain : Md := (⟨"PegWatchModel", "goPlain", "()V"⟩, prog_14_method_64_code, 1, (Option.none : Option Jvm.ClassFile.FieldType), 7, 163)
def md_Mod_measure : Md := (⟨"PegWatchModel", "measure", "()V"⟩, prog_14_method_52_code, 3, (Option.none : Option Jvm.ClassFile.FieldType), 4, 91)
def md_Mod_goAll : Md := (⟨"PegWatchModel", "goAll", "(III)V"⟩, prog_14_method_63_code, 5, (Option.none : Option Jvm.ClassFile.FieldType), 6, 139)
def md_Mod_keep : Md := (⟨"PegWatchModel", "keep", "(I)V"⟩, prog_14_method_62_code, 3, (Option.none : Option Jvm.ClassFile.FieldType), 0, 0)
def md_Mod_step : Md := (⟨"PegWatchModel", "step", "(IIII)V"⟩, prog_14_method_61_code, 5, (Option.none : Option Jvm.ClassFile.FieldType), 5, 115)
def md_Mod_wayOf : Md := (⟨"PegWatchModel", "wayOf", "(IIII)V"⟩, prog_14_method_60_code, 7, (Option.none : Option Jvm.ClassFile.FieldType), 3, 75)
def md_Mod_eastLow : Md := (⟨"PegWatchModel", "eastLow", "()I"⟩, prog_14_method_56_code, 1, (Option.some Jvm.ClassFile.FieldType.int), 1, 22)
def md_Mod_eastHigh : Md := (⟨"PegWatchModel", "eastHigh", "()I"⟩, prog_14_method_57_code, 1, (Option.some Jvm.ClassFile.FieldType.int), 1, 22)
def md_Mod_northLow : Md := (⟨"PegWatchModel", "northLow", "()I"⟩, prog_14_method_58_code, 1, (Option.some Jvm.ClassFile.FieldType.int), 1, 22)
def md_Mod_northHigh : Md := (⟨"PegWatchModel", "northHigh", "()I"⟩, prog_14_method_59_code, 1, (Option.some Jvm.ClassFile.FieldType.int), 1, 22)
def md_Mod_dilate : Md := (⟨"PegWatchModel", "dilate", "(IIII)V"⟩, prog_14_method_51_code, 11, (Option.none : Option Jvm.ClassFile.FieldType), 1, 21)
def md_Mod_cutBy : Md := (⟨"PegWatchModel", "cutBy", "(I)V"⟩, prog_14_method_55_code, 4, (Option.none : Option Jvm.ClassFile.FieldType), 4, 92)
def md_Mod_isSign : Md := (⟨"PegWatchModel", "isSign", "(III)Z"⟩, prog_14_method_54_code, 6, (Option.some Jvm.ClassFile.FieldType.boolean), 3, 67)
def md_Mod_isNear : Md := (⟨"PegWatchModel", "isNear", "(III)Z"⟩, prog_14_method_53_code, 4, (Option.some Jvm.ClassFile.FieldType.boolean), 2, 44)
def md_Mod_lay : Md := (⟨"PegWatchModel", "lay", "(I)V"⟩, prog_14_method_65_code, 3, (Option.none : Option Jvm.ClassFile.FieldType), 0, 0)
def md_Mod_has : Md := (⟨"PegWatchModel", "has", "(III)I"⟩, prog_14_method_67_code, 4, (Option.some Jvm.ClassFile.FieldType.int), 8, 183)
def md_Mod_here : Md := (⟨"PegWatchModel", "here", "(I)I"⟩, prog_14_method_69_code, 2, (Option.some Jvm.ClassFile.FieldType.int), 9, 206)
def md_Mod_goBack : Md := (⟨"PegWatchModel", "goBack", "(I)V"⟩, prog_14_method_68_code, 4, (Option.none : Option Jvm.ClassFile.FieldType), 8, 183)
def md_Mod_was : Md := (⟨"PegWatchModel", "was", "(III)I"⟩, prog_14_method_70_code, 4, (Option.some Jvm.ClassFile.FieldType.int), 9, 206)
def md_Mod_blamed : Md := (⟨"PegWatchModel", "blamed", "()I"⟩, prog_14_method_76_code, 1, (Option.some Jvm.ClassFile.FieldType.int), 10, 233)
def md_Mod_isBlaming : Md := (⟨"PegWatchModel", "isBlaming", "()Z"⟩, prog_14_method_75_code, 1, (Option.some Jvm.ClassFile.FieldType.boolean), 7, 161)
def md_Mod_isEmptyNow : Md := (⟨"PegWatchModel", "isEmptyNow", "()Z"⟩, prog_14_method_71_code, 3, (Option.some Jvm.ClassFile.FieldType.boolean), 6, 139)
def md_Mod_seek : Md := (⟨"PegWatchModel", "seek", "(I)I"⟩, prog_14_method_73_code, 4, (Option.some Jvm.ClassFile.FieldType.int), 9, 210)
def md_Mod_helps : Md := (⟨"PegWatchModel", "helps", "(II)Z"⟩, prog_14_method_72_code, 6, (Option.some Jvm.ClassFile.FieldType.boolean), 7, 161)
def md_Mod_seekPairs : Md := (⟨"PegWatchModel", "seekPairs", "(I)I"⟩, prog_14_method_74_code, 5, (Option.some Jvm.ClassFile.FieldType.int), 8, 186)
def md_Mod_blame : Md := (⟨"PegWatchModel", "blame", "(I)I"⟩, prog_14_method_77_code, 2, (Option.some Jvm.ClassFile.FieldType.int), 10, 233)
def md_Mod_fits : Md := (⟨"PegWatchModel", "fits", "(II)I"⟩, prog_14_method_79_code, 3, (Option.some Jvm.ClassFile.FieldType.int), 8, 191)
def md_Mod_seekFits : Md := (⟨"PegWatchModel", "seekFits", "(III)I"⟩, prog_14_method_78_code, 9, (Option.some Jvm.ClassFile.FieldType.int), 7, 163)
def md_Mod_fit : Md := (⟨"PegWatchModel", "fit", "(III)I"⟩, prog_14_method_80_code, 4, (Option.some Jvm.ClassFile.FieldType.int), 8, 191)
def md_Mod_sights : Md := (⟨"PegWatchModel", "sights", "(IIIIIII)I"⟩, prog_14_method_84_code, 8, (Option.some Jvm.ClassFile.FieldType.int), 8, 183)
def md_Mod_isCourse : Md := (⟨"PegWatchModel", "isCourse", "(IIII)Z"⟩, prog_14_method_83_code, 4, (Option.some Jvm.ClassFile.FieldType.boolean), 1, 22)
def md_Mod_seesAt : Md := (⟨"PegWatchModel", "seesAt", "(IIIIIII)I"⟩, prog_14_method_82_code, 12, (Option.some Jvm.ClassFile.FieldType.int), 3, 67)
def md_Mod_up : Md := (⟨"PegWatchModel", "up", "(II)I"⟩, prog_14_method_81_code, 2, (Option.some Jvm.ClassFile.FieldType.int), 1, 22)
def md_Mod_sure : Md := (⟨"PegWatchModel", "sure", "(IIIII)I"⟩, prog_14_method_86_code, 6, (Option.some Jvm.ClassFile.FieldType.int), 8, 183)
def md_Mod_sureBy : Md := (⟨"PegWatchModel", "sureBy", "(IIIII)I"⟩, prog_14_method_85_code, 10, (Option.some Jvm.ClassFile.FieldType.int), 4, 98)
def md_Mod_course : Md := (⟨"PegWatchModel", "course", "(IIII)I"⟩, prog_14_method_87_code, 9, (Option.some Jvm.ClassFile.FieldType.int), 8, 183)
def md_Mod_many : Md := (⟨"PegWatchModel", "many", "(I)I"⟩, prog_14_method_89_code, 2, (Option.some Jvm.ClassFile.FieldType.int), 4, 89)
def md_Mod_landMany : Md := (⟨"PegWatchModel", "landMany", "()I"⟩, prog_14_method_88_code, 4, (Option.some Jvm.ClassFile.FieldType.int), 3, 66)
def md_Mod_digest : Md := (⟨"PegWatchModel", "digest", "()J"⟩, prog_14_method_93_code, 3, (Option.some Jvm.ClassFile.FieldType.long), 9, 204)
def md_Mod_mix : Md := (⟨"PegWatchModel", "mix", "(J)V"⟩, prog_14_method_90_code, 3, (Option.none : Option Jvm.ClassFile.FieldType), 0, 0)
def md_Mod_mixWatch : Md := (⟨"PegWatchModel", "mixWatch", "(I)V"⟩, prog_14_method_91_code, 3, (Option.none : Option Jvm.ClassFile.FieldType), 1, 22)
def md_Mod_mixChart : Md := (⟨"PegWatchModel", "mixChart", "()V"⟩, prog_14_method_92_code, 3, (Option.none : Option Jvm.ClassFile.FieldType), 1, 22)
def md_Law_law : Md := (⟨"PegWatchLaw", "law", "([I)Z"⟩, code, 4, (Option.some Jvm.ClassFile.FieldType.boolean), 11, 254)
end
section
/-! THE ABSTRACT HEAP: a list of cells; an address is a place in the list (the machine's is z more); statics' arrays and the script, which nobody writes, are references of another kind (retAddr k) -/
abbrev Ce : Type := (Nat × Nat × (Nat → Int32)) ⊕ ((Nat × Nat × (Nat → Option Nat)) ⊕ (Nat × List Value))
def tv (z : Nat) (ar : Nat → Nat) (v : Value) : Value := match v with
  | .ref a => .ref (z + a)
  | .retAddr k => .ref (ar k)
  | w => w
theorem tv_cat (z : Nat) (ar : Nat → Nat) (v : Value) : (tv z ar v).category = v.category := by cases v <;> rfl
def tf (n : Nat) : FieldType := match n with
  | 0 => .int
  | _ => .boolean
def atC (D : va_G) (z : Nat) (ar : Nat → Nat) (ac : Nat → ClassId) (a : Nat) (c : Ce) (H : Heap) : Prop := match c with
  | .inl (_, n, f) => H[z + a]? = some (arrV (ac a) n (fun j => .int (f j)))
  | .inr (.inl (_, n, f)) => H[z + a]? = some (arrV (ac a) n (fun j => va_rf ((f j).map (fun x => z + x))))
  | .inr (.inr (ci, fs)) => ∃ r : vw_C, clsL[ci]? = some r ∧ fs.length = r.2.2 ∧ t_OB (z + a) (D.1 ci) r.2.2 (D.2 ci) H (fun k => tv z ar (vp_V fs k))
def tyC (U : State) (ac : Nat → ClassId) (a : Nat) (c : Ce) : Prop := match c with
  | .inl (t, _, _) => ArrOfT U (ac a) (tf t)
  | .inr (.inl (ci, _, _)) => ∃ r : vw_C, clsL[ci]? = some r ∧ ArrOfT U (ac a) (.object r.1) ∧ va_RA U (ac a) (.object r.1)
  | .inr (.inr _) => True
def aoL : List String := ["PegWatch$Watch", "PegWatch$Row", "PegWatch$Patch"]
def KS (D : va_G) (U : State) : Prop := va_K D clsL [] U ∧ (∀ w ∈ nestW, va_Nw w U) ∧ ∀ C ∈ aoL, va_AO C U
def namesT : List Int32 := [1, 68, 44, 319, 8, 320, 80, 103, 2, 105, 92, 752, 20, 753, 128, 140, 3, 142, 130, 825, 22, 826, 166, 177, 4, 175, 154, 394, 10, 391, 46, 70]
def lengthsT : List Int32 := [1000, 981, 924, 831, 707, 556, 383, 195, 0]
def roT (xs : List Int32) (k : Nat) : List Int32 := match k with
  | 0 => xs
  | 1 => namesT
  | _ => lengthsT
def RO (xs : List Int32) (z : Nat) (ar : Nat → Nat) (U : State) (H : Heap) : Prop :=
  (∀ k, k < 3 → va_T .int (ar k) (roT xs k).length (fun j => .int ((roT xs k).getD j 0)) (fun q => z ≤ q) U H) ∧ va_Z "PegWatch$Compass" "NAMES" "[I" (.ref (ar 1)) (fun q => z ≤ q) U H ∧ va_Z "PegWatch$Compass" "LENGTHS" "[I" (.ref (ar 2)) (fun q => z ≤ q) U H
def Wd (xs : List Int32) (z : Nat) (D : va_G) (ar : Nat → Nat) (ac : Nat → ClassId) (h : List Ce) (U : State) (H : Heap) : Prop :=
  H.size = z + h.length ∧ (∀ (a : Nat) (c : Ce), h[a]? = some c → atC D z ar ac a c H ∧ tyC U ac a c) ∧ KS D U ∧ RO xs z ar U H
def Fr (z : Nat) (s : State) (H : Heap) (locs : List Loc) : Prop := (∀ q : Nat, q < z → H[q]? = s.heap[q]?) ∧ ∀ q ∈ locs, z ≤ q.base
theorem KS.moved {D : va_G} {s U : State} (hW : s.WarmedH U.vm) (h : KS D s) : KS D U := by
  refine ⟨va_K.moved hW.alike h.1, fun w hw => ?_, fun C hC => va_AO.moved hW.alike (h.2.2 C hC)⟩
  have h1 := h.2.1 w hw
  have h2 : isNest w = true := (List.mem_filter.mp hw).2
  unfold isNest at h2
  split at h2
  · exact va_Nw.warmF hW h1
  · exact va_Nw.warmM hW h1
  · cases h2
theorem RO.moved {xs : List Int32} {z : Nat} {ar : Nat → Nat} {s U : State} {H : Heap} (hvm : s.vm.Alike U.vm) (h : RO xs z ar s H) : RO xs z ar U H :=
  ⟨fun k hk => va_T.moved hvm (h.1 k hk), va_Z.moved hvm h.2.1, va_Z.moved hvm h.2.2⟩
theorem RO.kept {xs : List Int32} {z : Nat} {ar : Nat → Nat} {s : State} {H H1 : Heap} (h : RO xs z ar s H) (hq : ∀ q : Nat, q < z → H1[q]? = H[q]?) : RO xs z ar s H1 := by
  have hq' : ∀ a : Nat, a < H.size → ¬ z ≤ a → H1[a]? = H[a]? := fun a _ hn => hq a (Nat.not_le.mp hn)
  exact ⟨fun k hk => (h.1 k hk).kept hq', h.2.1.kept hq', h.2.2.kept hq'⟩
theorem tyC.moved {s U : State} {ac : Nat → ClassId} {a : Nat} {c : Ce} (hvm : s.vm.Alike U.vm) (h : tyC s ac a c) : tyC U ac a c := by
  match c, h with
  | .inl (t, n, f), h => exact arrOfT_moved hvm h
  | .inr (.inl (ci, n, f)), h =>
    obtain ⟨r, h1, h2, h3⟩ := h
    exact ⟨r, h1, arrOfT_moved hvm h2, va_RA.moved hvm h3⟩
  | .inr (.inr q), h => exact trivial
theorem atC.kept {D : va_G} {z : Nat} {ar : Nat → Nat} {ac ac' : Nat → ClassId} {a : Nat} {c : Ce} {H H1 : Heap} (h : atC D z ar ac a c H) (ha : ac' a = ac a) (hq : H1[z + a]? = H[z + a]?) : atC D z ar ac' a c H1 := by
  match c, h with
  | .inl (t, n, f), h =>
    show H1[z + a]? = _
    rw [hq, ha]; exact h
  | .inr (.inl (ci, n, f)), h =>
    show H1[z + a]? = _
    rw [hq, ha]; exact h
  | .inr (.inr (ci, fs)), h =>
    obtain ⟨r, h1, h2, h3⟩ := h
    exact ⟨r, h1, h2, h3.kept hq⟩
theorem tyC.same {U : State} {ac ac' : Nat → ClassId} {a : Nat} {c : Ce} (h : tyC U ac a c) (ha : ac' a = ac a) : tyC U ac' a c := by
  match c, h with
  | .inl (t, n, f), h =>
    show ArrOfT U (ac' a) _
    rw [ha]; exact h
  | .inr (.inl (ci, n, f)), h =>
    obtain ⟨r, h1, h2, h3⟩ := h
    refine ⟨r, h1, ?_, ?_⟩
    · rw [ha]; exact h2
    · rw [ha]; exact h3
  | .inr (.inr q), h => exact trivial
theorem Wd.moved {xs : List Int32} {z : Nat} {D : va_G} {ar : Nat → Nat} {ac : Nat → ClassId} {h : List Ce} {s U : State} {H : Heap} (hW : s.WarmedH U.vm) (w : Wd xs z D ar ac h s H) : Wd xs z D ar ac h U H :=
  ⟨w.1, fun a c hc => ⟨(w.2.1 a c hc).1, (w.2.1 a c hc).2.moved hW.alike⟩, w.2.2.1.moved hW, w.2.2.2.moved hW.alike⟩
/-- one cell is written -/
theorem Wd.upd {xs : List Int32} {z : Nat} {D : va_G} {ar : Nat → Nat} {ac : Nat → ClassId} {h : List Ce} {s : State} {H H1 : Heap} (w : Wd xs z D ar ac h s H) {a : Nat} {c' : Ce} (hz : H1.size = H.size) (oq : ∀ q : Nat, q ≠ z + a → H1[q]? = H[q]?) (h1 : atC D z ar ac a c' H1) (h2 : tyC s ac a c') : Wd xs z D ar ac (h.set a c') s H1 := by
  refine ⟨by rw [hz, List.length_set]; exact w.1, fun b c hc => ?_, w.2.2.1, w.2.2.2.kept fun q hq => oq q (by omega)⟩
  rw [List.getElem?_set] at hc
  by_cases hb : a = b
  · subst hb
    rw [if_pos rfl] at hc
    split at hc
    · cases hc; exact ⟨h1, h2⟩
    · cases hc
  · rw [if_neg hb] at hc
    exact ⟨(w.2.1 b c hc).1.kept rfl (oq _ (by omega)), (w.2.1 b c hc).2⟩
/-- a cell is made -/
theorem Wd.push {xs : List Int32} {z : Nat} {D : va_G} {ar : Nat → Nat} {ac ac' : Nat → ClassId} {h : List Ce} {s : State} {H H1 : Heap} (w : Wd xs z D ar ac h s H) {c' : Ce} (hz : H1.size = H.size + 1) (oq : ∀ q : Nat, q < H.size → H1[q]? = H[q]?) (ha : ∀ a, a < h.length → ac' a = ac a) (h1 : atC D z ar ac' h.length c' H1) (h2 : tyC s ac' h.length c') : Wd xs z D ar ac' (h ++ [c']) s H1 := by
  refine ⟨by rw [hz, w.1, List.length_append]; simp; omega, fun b c hc => ?_, w.2.2.1, w.2.2.2.kept fun q hq => oq q (by have := w.1; omega)⟩
  by_cases hb : b < h.length
  · rw [List.getElem?_append_left hb] at hc
    exact ⟨(w.2.1 b c hc).1.kept (ha b hb) (oq _ (by have := w.1; omega)), (w.2.1 b c hc).2.same (ha b hb)⟩
  · rw [List.getElem?_append_right (by omega)] at hc
    have hz : b - h.length < 1 := (List.getElem?_eq_some_iff.mp hc).1
    have hb' : b = h.length := by omega
    subst hb'
    rw [Nat.sub_self] at hc
    cases hc
    exact ⟨h1, h2⟩
theorem Fr.put {z : Nat} {s : State} {H H1 : Heap} {locs : List Loc} (f : Fr z s H locs) {a k : Nat} (oq : ∀ q : Nat, q ≠ z + a → H1[q]? = H[q]?) : Fr z s H1 (locs ++ [⟨z + a, k⟩]) := by
  refine ⟨fun q hq => (oq q (by omega)).trans (f.1 q hq), fun q hq => ?_⟩
  rcases List.mem_append.mp hq with h | h
  · exact f.2 q h
  · rw [List.mem_singleton.mp h]; exact Nat.le_add_right _ _
/-- the locals: by their places; null stands for what isn't known -/
def LH (z : Nat) (ar : Nat → Nat) (ls : Array Slot) (n : Nat) (lv : List Value) : Prop := ls.size = n ∧ lv_wf ls ∧ ∀ (i : Nat) (v : Value), lv[i]? = some v → v ≠ Value.null → ls[i]? = some (Slot.val (tv z ar v))
def lpr (z : Nat) (ar : Nat → Nat) (lv : List Value) : List (Nat × Value) := (List.range lv.length).filterMap fun (i : Nat) => match (lv[i]? : Option Value) with
  | some Value.null => none
  | some v => some (i, tv z ar v)
  | none => none
theorem lpr_mem {z : Nat} {ar : Nat → Nat} {lv : List Value} {i : Nat} {v : Value} (h : lv[i]? = some v) (hn : v ≠ .null) : (i, tv z ar v) ∈ lpr z ar lv := by
  refine List.mem_filterMap.mpr ⟨i, List.mem_range.mpr (List.getElem?_eq_some_iff.mp h).1, ?_⟩
  rw [h]
  cases v <;> first | rfl | exact absurd rfl hn
theorem lpr_of {z : Nat} {ar : Nat → Nat} {lv : List Value} {q : Nat × Value} (h : q ∈ lpr z ar lv) : ∃ v, lv[q.1]? = some v ∧ v ≠ .null ∧ q.2 = tv z ar v := by
  obtain ⟨i, -, hi⟩ := List.mem_filterMap.mp h
  split at hi
  · cases hi
  · rename_i v hne hv
    cases hi
    exact ⟨v, hv, fun e => hne e, rfl⟩
  · cases hi
theorem LH.has {z : Nat} {ar : Nat → Nat} {ls : Array Slot} {n : Nat} {lv : List Value} (h : LH z ar ls n lv) : lv_has ls n (lpr z ar lv) := by
  refine ⟨h.1, h.2.1, fun q hq => ?_⟩
  obtain ⟨v, h1, h2, h3⟩ := lpr_of hq
  rw [h3]; exact h.2.2 _ v h1 h2
/-- the place ahead of i is forgotten, if a long lies there; i becomes v -/
def lset (lv : List Value) (i : Nat) (v : Value) : List Value := match i with
  | 0 => lv.set 0 v
  | j + 1 => match lv[j]? with
    | some (.long _) => (lv.set j .null).set (j + 1) v
    | some (.double _) => (lv.set j .null).set (j + 1) v
    | _ => lv.set (j + 1) v
def lset2 (lv : List Value) (i : Nat) (v : Value) : List Value := (lset lv i v).set (i + 1) .null
theorem lset_get {lv : List Value} {i : Nat} {v w : Value} {j : Nat} (h : (lset lv i v)[j]? = some w) (hw : w ≠ .null) : (j = i ∧ w = v) ∨ (j ≠ i ∧ lv[j]? = some w ∧ ¬ (j + 1 = i ∧ w.category = 2)) := by
  unfold lset at h
  split at h
  · rw [List.getElem?_set] at h
    by_cases e : 0 = j
    · subst e
      rw [if_pos rfl] at h
      split at h
      · cases h; exact Or.inl ⟨rfl, rfl⟩
      · cases h
    · rw [if_neg e] at h
      exact Or.inr ⟨fun q => e q.symm, h, fun q => by omega⟩
  · rename_i k
    have two : (lv.set k Value.null).set (k + 1) v = (lv.set k Value.null).set (k + 1) v := rfl
    have key : ∀ l : List Value, ((l.set (k + 1) v)[j]? = some w → (j = k + 1 ∧ w = v) ∨ (j ≠ k + 1 ∧ l[j]? = some w)) := by
      intro l hl
      rw [List.getElem?_set] at hl
      by_cases e : k + 1 = j
      · subst e
        rw [if_pos rfl] at hl
        split at hl
        · cases hl; exact Or.inl ⟨rfl, rfl⟩
        · cases hl
      · rw [if_neg e] at hl
        exact Or.inr ⟨fun q => e q.symm, hl⟩
    have key2 : ((lv.set k Value.null)[j]? = some w → lv[j]? = some w ∧ j ≠ k) := by
      intro hl
      rw [List.getElem?_set] at hl
      by_cases e : k = j
      · subst e
        rw [if_pos rfl] at hl
        split at hl
        · cases hl; exact absurd rfl hw
        · cases hl
      · rw [if_neg e] at hl
        exact ⟨hl, fun q => e q.symm⟩
    split at h
    · rcases key _ h with q | ⟨q1, q2⟩
      · exact Or.inl q
      · exact Or.inr ⟨q1, (key2 q2).1, fun q => (key2 q2).2 (by omega)⟩
    · rcases key _ h with q | ⟨q1, q2⟩
      · exact Or.inl q
      · exact Or.inr ⟨q1, (key2 q2).1, fun q => (key2 q2).2 (by omega)⟩
    · rename_i h1 h2
      rcases key _ h with q | ⟨q1, q2⟩
      · exact Or.inl q
      · refine Or.inr ⟨q1, q2, fun q => ?_⟩
        have ej : j = k := by omega
        subst ej
        cases w <;> first | exact h1 _ q2 | exact h2 _ q2 | (exact absurd q.2 (by simp [Value.category]))
theorem LH.store1 {z : Nat} {ar : Nat → Nat} {ls : Array Slot} {n i : Nat} {lv : List Value} {v : Value} (h : LH z ar ls n lv) (hi : i < n) (hc : v.category = 1) : ∃ ls', storeLocals ls i (tv z ar v) = some ls' ∧ LH z ar ls' n (lset lv i v) := by
  obtain ⟨ls', e, g1, g2, g3⟩ := lv_store1 (v := tv z ar v) h.has hi (by rw [tv_cat]; exact hc)
  refine ⟨ls', e, g1, g2, fun j w hj hw => ?_⟩
  rcases lset_get hj hw with ⟨rfl, rfl⟩ | ⟨a1, a2, a3⟩
  · exact g3 _ List.mem_cons_self
  · refine g3 (j, tv z ar w) (List.mem_cons_of_mem _ (List.mem_filter.mpr ⟨lpr_mem a2 hw, ?_⟩))
    simp only [tv_cat, Bool.and_eq_true, Bool.not_eq_true', Bool.and_eq_false_iff, beq_eq_false_iff_ne, ne_eq]
    refine ⟨a1, ?_⟩
    by_cases e1 : j + 1 = i
    · exact Or.inr fun q => a3 ⟨e1, q⟩
    · exact Or.inl e1
theorem LH.store2 {z : Nat} {ar : Nat → Nat} {ls : Array Slot} {n i : Nat} {lv : List Value} {v : Value} (h : LH z ar ls n lv) (hi : i + 1 < n) (hc : v.category = 2) : ∃ ls', storeLocals ls i (tv z ar v) = some ls' ∧ LH z ar ls' n (lset2 lv i v) := by
  obtain ⟨ls', e, g1, g2, g3⟩ := lv_store2 (v := tv z ar v) h.has hi (by rw [tv_cat]; exact hc)
  refine ⟨ls', e, g1, g2, fun j w hj hw => ?_⟩
  unfold lset2 at hj
  rw [List.getElem?_set] at hj
  by_cases e0 : i + 1 = j
  · rw [if_pos e0] at hj
    split at hj
    · cases hj; exact absurd rfl hw
    · cases hj
  rw [if_neg e0] at hj
  rcases lset_get hj hw with ⟨rfl, rfl⟩ | ⟨a1, a2, a3⟩
  · exact g3 _ List.mem_cons_self
  · refine g3 (j, tv z ar w) (List.mem_cons_of_mem _ (List.mem_filter.mpr ⟨lpr_mem a2 hw, ?_⟩))
    simp only [tv_cat, Bool.and_eq_true, Bool.not_eq_true', Bool.and_eq_false_iff, beq_eq_false_iff_ne, ne_eq]
    refine ⟨a1, fun q => e0 q.symm, ?_⟩
    by_cases e1 : j + 1 = i
    · exact Or.inr fun q => a3 ⟨e1, q⟩
    · exact Or.inl e1
end
section
/-! THE JUDGEMENT RR: from this place of the method m, with these locals, this stack and this heap, the method comes to its end, with an answer and a heap that Q holds of -/
def dc1 (b : ByteArray) (pc : Nat) (I : Instr) (pc' : Nat) : Prop := decode b pc = .ok (I, 1) ∧ pc' = pc + 1
def dc2 (b : ByteArray) (pc : Nat) (I : Instr) (pc' : Nat) : Prop := decode b pc = .ok (I, 2) ∧ pc' = pc + 2
def dc3 (b : ByteArray) (pc : Nat) (I : Instr) (pc' : Nat) : Prop := decode b pc = .ok (I, 3) ∧ pc' = pc + 3
def dcI (b : ByteArray) (pc : Nat) (c : Jvm.ClassFile.Cond) (tgt pc' : Nat) : Prop := ∃ off : Int, decode b pc = .ok (.if_icmp c off, 3) ∧ (pc : Int) + off = (tgt : Int) ∧ pc' = pc + 3
def dcZ (b : ByteArray) (pc : Nat) (c : Jvm.ClassFile.Cond) (tgt pc' : Nat) : Prop := ∃ off : Int, decode b pc = .ok (.ifCond c off, 3) ∧ (pc : Int) + off = (tgt : Int) ∧ pc' = pc + 3
def dcG (b : ByteArray) (pc tgt : Nat) : Prop := ∃ off : Int, decode b pc = .ok (.goto off, 3) ∧ (pc : Int) + off = (tgt : Int)
def RetOk (m : Md) (pc : Nat) (r : Option Value) : Prop := match r with
  | none => decode (mB m) pc = .ok (.return_, 1) ∧ mR m = none
  | some (.int v) => decode (mB m) pc = .ok (.ireturn, 1) ∧ ∃ ty, mR m = some ty ∧ narrow ty (.int v) = .int v
  | some (.long _) => decode (mB m) pc = .ok (.lreturn, 1) ∧ mR m = some .long
  | some (.ref _) => decode (mB m) pc = .ok (.areturn, 1) ∧ ∃ n, mR m = some (.object n)
  | _ => False
def Cx (m : Md) (p : Program) (s : State) (mi : MethodId) (args : Array Value) (meth : Method) (c : Code) (R : Room) : Prop :=
  p.tables.exec = Jvm.exec ∧ c.code = mB m ∧ c.maxLocals = mL m ∧ meth.sig.returnType = mR m ∧ s.vm.findClass (mY m).cls = some mi.cls ∧ (∀ w ∈ wsG, w.before args s = true) ∧ meth.locks = false ∧ meth.name = (mY m).name ∧ mF m ≤ R.frames ∧ mO m ≤ R.locals
def ExR (xs : List Int32) (m : Md) (Q : Option Value → List Ce → Prop) (l : Launch) (p : Program) (e : Env) (R : Room) (s : State) (mi : MethodId) (args : Array Value) (below : List Frame) (meth : Method) (c : Code) (Z : State → Prop) (z : Nat) (D : va_G) (ar : Nat → Nat) : Prop :=
  ∀ (r : Option Value) (h' : List Ce) (ac' : Nat → ClassId) (H' : Heap) (locs' : List Loc) (cells' slots' pc' : Nat) (ls' : Array Slot), Q r h' → Wd xs z D ar ac' h' s H' → Fr z s H' locs' → cells' ≤ R.cells → slots' ≤ R.slots → RetOk m pc' r → W p l e R s mi args below meth c H' locs' cells' slots' Z (F0 mi pc' ls' (r.toList.map (tv z ar)))
def RR (xs : List Int32) (m : Md) (pc : Nat) (lv : List Value) (st : List Value) (h : List Ce) (bc bs : Nat) (Q : Option Value → List Ce → Prop) : Prop :=
  ∀ (l : Launch) (p : Program) (e : Env) (R : Room) (s : State) (mi : MethodId) (args : Array Value) (below : List Frame) (meth : Method) (c : Code) (Z : State → Prop) (z : Nat) (D : va_G) (ar : Nat → Nat) (ac : Nat → ClassId) (H : Heap) (locs : List Loc) (cells slots : Nat) (ls : Array Slot),
    Cx m p s mi args meth c R → ExR xs m Q l p e R s mi args below meth c Z z D ar → Wd xs z D ar ac h s H → Fr z s H locs → cells + bc ≤ R.cells ∧ slots + bs ≤ R.slots → LH z ar ls (mL m) lv →
    W p l e R s mi args below meth c H locs cells slots Z (F0 mi pc ls (st.map (tv z ar)))
theorem LH.of1 {z : Nat} {ar : Nat → Nat} {ls' : Array Slot} {n i : Nat} {lv : List Value} {v : Value} (g : lv_has ls' n ((i, tv z ar v) :: (lpr z ar lv).filter (fun q => !(q.1 == i) && !(q.1 + 1 == i && q.2.category == 2)))) : LH z ar ls' n (lset lv i v) := by
  refine ⟨g.1, g.2.1, fun j w hj hw => ?_⟩
  rcases lset_get hj hw with ⟨rfl, rfl⟩ | ⟨a1, a2, a3⟩
  · exact g.2.2 _ List.mem_cons_self
  · refine g.2.2 (j, tv z ar w) (List.mem_cons_of_mem _ (List.mem_filter.mpr ⟨lpr_mem a2 hw, ?_⟩))
    simp only [tv_cat, Bool.and_eq_true, Bool.not_eq_true', Bool.and_eq_false_iff, beq_eq_false_iff_ne, ne_eq]
    refine ⟨a1, ?_⟩
    by_cases e1 : j + 1 = i
    · exact Or.inr fun q => a3 ⟨e1, q⟩
    · exact Or.inl e1
theorem LH.of2 {z : Nat} {ar : Nat → Nat} {ls' : Array Slot} {n i : Nat} {lv : List Value} {v : Value} (g : lv_has ls' n ((i, tv z ar v) :: (lpr z ar lv).filter (fun q => !(q.1 == i) && (!(q.1 == i + 1) && !(q.1 + 1 == i && q.2.category == 2))))) : LH z ar ls' n (lset2 lv i v) := by
  refine ⟨g.1, g.2.1, fun j w hj hw => ?_⟩
  unfold lset2 at hj
  rw [List.getElem?_set] at hj
  by_cases e0 : i + 1 = j
  · rw [if_pos e0] at hj
    split at hj
    · cases hj; exact absurd rfl hw
    · cases hj
  rw [if_neg e0] at hj
  rcases lset_get hj hw with ⟨rfl, rfl⟩ | ⟨a1, a2, a3⟩
  · exact g.2.2 _ List.mem_cons_self
  · refine g.2.2 (j, tv z ar w) (List.mem_cons_of_mem _ (List.mem_filter.mpr ⟨lpr_mem a2 hw, ?_⟩))
    simp only [tv_cat, Bool.and_eq_true, Bool.not_eq_true', Bool.and_eq_false_iff, beq_eq_false_iff_ne, ne_eq]
    refine ⟨a1, fun q => e0 q.symm, ?_⟩
    by_cases e1 : j + 1 = i
    · exact Or.inr fun q => a3 ⟨e1, q⟩
    · exact Or.inl e1
section RULES
variable {xs : List Int32} {m : Md} {pc pc' tgt : Nat} {lv : List Value} {st : List Value} {h : List Ce} {bc bs : Nat} {Q : Option Value → List Ce → Prop}
theorem r_iconst {n : Int} {v : Int32} (hd : dc1 (mB m) pc (.iconst n) pc') (hv : Int32.ofInt n = v) (kk : RR xs m pc' lv (.int v :: st) h bc bs Q) : RR xs m pc lv (st) h bc bs Q := by
  obtain ⟨hd, rfl⟩ := hd
  intro l p e R s mi args below meth c Z z D ar ac H locs cells slots ls C E hW hF hB hl
  exact lv_iconst C.1 C.2.1 hd hv (kk l p e R s mi args below meth c Z z D ar ac H locs cells slots ls C E hW hF hB hl)
theorem r_bipush {n : Int} {v : Int32} (hd : dc2 (mB m) pc (.bipush n) pc') (hv : (Int8.ofInt n).toInt32 = v) (kk : RR xs m pc' lv (.int v :: st) h bc bs Q) : RR xs m pc lv (st) h bc bs Q := by
  obtain ⟨hd, rfl⟩ := hd
  intro l p e R s mi args below meth c Z z D ar ac H locs cells slots ls C E hW hF hB hl
  exact lv_bipush C.1 C.2.1 hd hv (kk l p e R s mi args below meth c Z z D ar ac H locs cells slots ls C E hW hF hB hl)
theorem r_sipush {n : Int} {v : Int32} (hd : dc3 (mB m) pc (.sipush n) pc') (hv : (Int16.ofInt n).toInt32 = v) (kk : RR xs m pc' lv (.int v :: st) h bc bs Q) : RR xs m pc lv (st) h bc bs Q := by
  obtain ⟨hd, rfl⟩ := hd
  intro l p e R s mi args below meth c Z z D ar ac H locs cells slots ls C E hW hF hB hl
  exact lv_sipush C.1 C.2.1 hd hv (kk l p e R s mi args below meth c Z z D ar ac H locs cells slots ls C E hW hF hB hl)
theorem r_lconst {n : Fin 2} {v : Int64} (hd : dc1 (mB m) pc (.lconst n) pc') (hv : Int64.ofNat (n : Nat) = v) (kk : RR xs m pc' lv (.long v :: st) h bc bs Q) : RR xs m pc lv (st) h bc bs Q := by
  obtain ⟨hd, rfl⟩ := hd
  intro l p e R s mi args below meth c Z z D ar ac H locs cells slots ls C E hW hF hB hl
  exact lv_lconst C.1 C.2.1 hd hv (kk l p e R s mi args below meth c Z z D ar ac H locs cells slots ls C E hW hF hB hl)
theorem r_iload_n {k : Fin 4} {x : Int32} (hd : dc1 (mB m) pc (.iload_n k) pc') (hx : lv[(k : Nat)]? = some (.int x)) (kk : RR xs m pc' lv (.int x :: st) h bc bs Q) : RR xs m pc lv st h bc bs Q := by
  obtain ⟨hd, rfl⟩ := hd
  intro l p e R s mi args below meth c Z z D ar ac H locs cells slots ls C E hW hF hB hl
  exact lv_iload_n C.1 C.2.1 hd rfl (hl.2.2 _ _ hx (fun q => by cases q)) (kk l p e R s mi args below meth c Z z D ar ac H locs cells slots ls C E hW hF hB hl)
theorem r_iload {k : Nat} {x : Int32} (hd : dc2 (mB m) pc (.iload k) pc') (hx : lv[k]? = some (.int x)) (kk : RR xs m pc' lv (.int x :: st) h bc bs Q) : RR xs m pc lv st h bc bs Q := by
  obtain ⟨hd, rfl⟩ := hd
  intro l p e R s mi args below meth c Z z D ar ac H locs cells slots ls C E hW hF hB hl
  exact lv_iload C.1 C.2.1 hd (hl.2.2 _ _ hx (fun q => by cases q)) (kk l p e R s mi args below meth c Z z D ar ac H locs cells slots ls C E hW hF hB hl)
theorem r_lload_n {k : Fin 4} {x : Int64} (hd : dc1 (mB m) pc (.lload_n k) pc') (hx : lv[(k : Nat)]? = some (.long x)) (kk : RR xs m pc' lv (.long x :: st) h bc bs Q) : RR xs m pc lv st h bc bs Q := by
  obtain ⟨hd, rfl⟩ := hd
  intro l p e R s mi args below meth c Z z D ar ac H locs cells slots ls C E hW hF hB hl
  exact lv_lload_n C.1 C.2.1 hd rfl (hl.2.2 _ _ hx (fun q => by cases q)) (kk l p e R s mi args below meth c Z z D ar ac H locs cells slots ls C E hW hF hB hl)
theorem r_lload {k : Nat} {x : Int64} (hd : dc2 (mB m) pc (.lload k) pc') (hx : lv[k]? = some (.long x)) (kk : RR xs m pc' lv (.long x :: st) h bc bs Q) : RR xs m pc lv st h bc bs Q := by
  obtain ⟨hd, rfl⟩ := hd
  intro l p e R s mi args below meth c Z z D ar ac H locs cells slots ls C E hW hF hB hl
  exact lv_lload C.1 C.2.1 hd (hl.2.2 _ _ hx (fun q => by cases q)) (kk l p e R s mi args below meth c Z z D ar ac H locs cells slots ls C E hW hF hB hl)
theorem r_aload_n {k : Fin 4} {x : Nat} (hd : dc1 (mB m) pc (.aload_n k) pc') (hx : lv[(k : Nat)]? = some (.ref x)) (kk : RR xs m pc' lv (.ref x :: st) h bc bs Q) : RR xs m pc lv st h bc bs Q := by
  obtain ⟨hd, rfl⟩ := hd
  intro l p e R s mi args below meth c Z z D ar ac H locs cells slots ls C E hW hF hB hl
  exact lv_aload_n C.1 C.2.1 hd rfl (hl.2.2 _ _ hx (fun q => by cases q)) (kk l p e R s mi args below meth c Z z D ar ac H locs cells slots ls C E hW hF hB hl)
theorem r_aload {k : Nat} {x : Nat} (hd : dc2 (mB m) pc (.aload k) pc') (hx : lv[k]? = some (.ref x)) (kk : RR xs m pc' lv (.ref x :: st) h bc bs Q) : RR xs m pc lv st h bc bs Q := by
  obtain ⟨hd, rfl⟩ := hd
  intro l p e R s mi args below meth c Z z D ar ac H locs cells slots ls C E hW hF hB hl
  exact lv_aload C.1 C.2.1 hd (hl.2.2 _ _ hx (fun q => by cases q)) (kk l p e R s mi args below meth c Z z D ar ac H locs cells slots ls C E hW hF hB hl)
theorem r_aload_nR {k : Fin 4} {x : Nat} (hd : dc1 (mB m) pc (.aload_n k) pc') (hx : lv[(k : Nat)]? = some (.retAddr x)) (kk : RR xs m pc' lv (.retAddr x :: st) h bc bs Q) : RR xs m pc lv st h bc bs Q := by
  obtain ⟨hd, rfl⟩ := hd
  intro l p e R s mi args below meth c Z z D ar ac H locs cells slots ls C E hW hF hB hl
  exact lv_aload_n C.1 C.2.1 hd rfl (hl.2.2 _ _ hx (fun q => by cases q)) (kk l p e R s mi args below meth c Z z D ar ac H locs cells slots ls C E hW hF hB hl)
theorem r_aloadR {k : Nat} {x : Nat} (hd : dc2 (mB m) pc (.aload k) pc') (hx : lv[k]? = some (.retAddr x)) (kk : RR xs m pc' lv (.retAddr x :: st) h bc bs Q) : RR xs m pc lv st h bc bs Q := by
  obtain ⟨hd, rfl⟩ := hd
  intro l p e R s mi args below meth c Z z D ar ac H locs cells slots ls C E hW hF hB hl
  exact lv_aload C.1 C.2.1 hd (hl.2.2 _ _ hx (fun q => by cases q)) (kk l p e R s mi args below meth c Z z D ar ac H locs cells slots ls C E hW hF hB hl)
theorem r_istore_n {k : Fin 4} {x : Int32} (hd : dc1 (mB m) pc (.istore_n k) pc') (hk : (k : Nat) < mL m) (kk : RR xs m pc' (lset lv (k : Nat) (.int x)) st h bc bs Q) : RR xs m pc lv (.int x :: st) h bc bs Q := by
  obtain ⟨hd, rfl⟩ := hd
  intro l p e R s mi args below meth c Z z D ar ac H locs cells slots ls C E hW hF hB hl
  exact lv_istore_n C.1 C.2.1 hd rfl hl.has hk rfl (fun ls' hl' => kk l p e R s mi args below meth c Z z D ar ac H locs cells slots ls' C E hW hF hB (LH.of1 (v := .int x) hl'))
theorem r_istore {k : Nat} {x : Int32} (hd : dc2 (mB m) pc (.istore k) pc') (hk : (k : Nat) < mL m) (kk : RR xs m pc' (lset lv k (.int x)) st h bc bs Q) : RR xs m pc lv (.int x :: st) h bc bs Q := by
  obtain ⟨hd, rfl⟩ := hd
  intro l p e R s mi args below meth c Z z D ar ac H locs cells slots ls C E hW hF hB hl
  exact lv_istore C.1 C.2.1 hd hl.has hk rfl (fun ls' hl' => kk l p e R s mi args below meth c Z z D ar ac H locs cells slots ls' C E hW hF hB (LH.of1 (v := .int x) hl'))
theorem r_astore_n {k : Fin 4} {x : Nat} (hd : dc1 (mB m) pc (.astore_n k) pc') (hk : (k : Nat) < mL m) (kk : RR xs m pc' (lset lv (k : Nat) (.ref x)) st h bc bs Q) : RR xs m pc lv (.ref x :: st) h bc bs Q := by
  obtain ⟨hd, rfl⟩ := hd
  intro l p e R s mi args below meth c Z z D ar ac H locs cells slots ls C E hW hF hB hl
  exact lv_astore_n C.1 C.2.1 hd rfl hl.has hk rfl (fun ls' hl' => kk l p e R s mi args below meth c Z z D ar ac H locs cells slots ls' C E hW hF hB (LH.of1 (v := .ref x) hl'))
theorem r_astore {k : Nat} {x : Nat} (hd : dc2 (mB m) pc (.astore k) pc') (hk : (k : Nat) < mL m) (kk : RR xs m pc' (lset lv k (.ref x)) st h bc bs Q) : RR xs m pc lv (.ref x :: st) h bc bs Q := by
  obtain ⟨hd, rfl⟩ := hd
  intro l p e R s mi args below meth c Z z D ar ac H locs cells slots ls C E hW hF hB hl
  exact lv_astore C.1 C.2.1 hd hl.has hk rfl (fun ls' hl' => kk l p e R s mi args below meth c Z z D ar ac H locs cells slots ls' C E hW hF hB (LH.of1 (v := .ref x) hl'))
theorem r_lstore_n {k : Fin 4} {x : Int64} (hd : dc1 (mB m) pc (.lstore_n k) pc') (hk : (k : Nat) + 1 < mL m) (kk : RR xs m pc' (lset2 lv (k : Nat) (.long x)) st h bc bs Q) : RR xs m pc lv (.long x :: st) h bc bs Q := by
  obtain ⟨hd, rfl⟩ := hd
  intro l p e R s mi args below meth c Z z D ar ac H locs cells slots ls C E hW hF hB hl
  exact lv_lstore_n C.1 C.2.1 hd rfl hl.has hk rfl (fun ls' hl' => kk l p e R s mi args below meth c Z z D ar ac H locs cells slots ls' C E hW hF hB (LH.of2 (v := .long x) hl'))
theorem r_lstore {k : Nat} {x : Int64} (hd : dc2 (mB m) pc (.lstore k) pc') (hk : (k : Nat) + 1 < mL m) (kk : RR xs m pc' (lset2 lv k (.long x)) st h bc bs Q) : RR xs m pc lv (.long x :: st) h bc bs Q := by
  obtain ⟨hd, rfl⟩ := hd
  intro l p e R s mi args below meth c Z z D ar ac H locs cells slots ls C E hW hF hB hl
  exact lv_lstore C.1 C.2.1 hd hl.has hk rfl (fun ls' hl' => kk l p e R s mi args below meth c Z z D ar ac H locs cells slots ls' C E hW hF hB (LH.of2 (v := .long x) hl'))
theorem r_iinc {k : Nat} {n : Int} {x v : Int32} (hd : dc3 (mB m) pc (.iinc k n) pc') (hx : lv[k]? = some (.int x)) (hv : x + Int32.ofInt n = v) (hk : k < mL m) (kk : RR xs m pc' (lset lv k (.int v)) st h bc bs Q) : RR xs m pc lv st h bc bs Q := by
  obtain ⟨hd, rfl⟩ := hd
  intro l p e R s mi args below meth c Z z D ar ac H locs cells slots ls C E hW hF hB hl
  obtain ⟨j, hj⟩ := List.getElem?_of_mem (lpr_mem (z := z) (ar := ar) hx (fun q => by cases q))
  exact lv_iinc C.1 C.2.1 hd hl.has hj hv hk rfl (fun ls' hl' => kk l p e R s mi args below meth c Z z D ar ac H locs cells slots ls' C E hW hF hB (LH.of1 (v := .int v) hl'))
theorem r_iadd {x y : Int32} (hd : dc1 (mB m) pc .iadd pc') (kk : RR xs m pc' lv (.int (x + y) :: st) h bc bs Q) : RR xs m pc lv (.int y :: .int x :: st) h bc bs Q := by
  obtain ⟨hd, rfl⟩ := hd
  intro l p e R s mi args below meth c Z z D ar ac H locs cells slots ls C E hW hF hB hl
  exact lv_iadd C.1 C.2.1 hd  (kk l p e R s mi args below meth c Z z D ar ac H locs cells slots ls C E hW hF hB hl)
theorem r_isub {x y : Int32} (hd : dc1 (mB m) pc .isub pc') (kk : RR xs m pc' lv (.int (x - y) :: st) h bc bs Q) : RR xs m pc lv (.int y :: .int x :: st) h bc bs Q := by
  obtain ⟨hd, rfl⟩ := hd
  intro l p e R s mi args below meth c Z z D ar ac H locs cells slots ls C E hW hF hB hl
  exact lv_isub C.1 C.2.1 hd  (kk l p e R s mi args below meth c Z z D ar ac H locs cells slots ls C E hW hF hB hl)
theorem r_imul {x y : Int32} (hd : dc1 (mB m) pc .imul pc') (kk : RR xs m pc' lv (.int (x * y) :: st) h bc bs Q) : RR xs m pc lv (.int y :: .int x :: st) h bc bs Q := by
  obtain ⟨hd, rfl⟩ := hd
  intro l p e R s mi args below meth c Z z D ar ac H locs cells slots ls C E hW hF hB hl
  exact lv_imul C.1 C.2.1 hd  (kk l p e R s mi args below meth c Z z D ar ac H locs cells slots ls C E hW hF hB hl)
theorem r_iand {x y : Int32} (hd : dc1 (mB m) pc .iand pc') (kk : RR xs m pc' lv (.int (x &&& y) :: st) h bc bs Q) : RR xs m pc lv (.int y :: .int x :: st) h bc bs Q := by
  obtain ⟨hd, rfl⟩ := hd
  intro l p e R s mi args below meth c Z z D ar ac H locs cells slots ls C E hW hF hB hl
  exact lv_iand C.1 C.2.1 hd  (kk l p e R s mi args below meth c Z z D ar ac H locs cells slots ls C E hW hF hB hl)
theorem r_ior {x y : Int32} (hd : dc1 (mB m) pc .ior pc') (kk : RR xs m pc' lv (.int (x ||| y) :: st) h bc bs Q) : RR xs m pc lv (.int y :: .int x :: st) h bc bs Q := by
  obtain ⟨hd, rfl⟩ := hd
  intro l p e R s mi args below meth c Z z D ar ac H locs cells slots ls C E hW hF hB hl
  exact lv_ior C.1 C.2.1 hd  (kk l p e R s mi args below meth c Z z D ar ac H locs cells slots ls C E hW hF hB hl)
theorem r_ixor {x y : Int32} (hd : dc1 (mB m) pc .ixor pc') (kk : RR xs m pc' lv (.int (x ^^^ y) :: st) h bc bs Q) : RR xs m pc lv (.int y :: .int x :: st) h bc bs Q := by
  obtain ⟨hd, rfl⟩ := hd
  intro l p e R s mi args below meth c Z z D ar ac H locs cells slots ls C E hW hF hB hl
  exact lv_ixor C.1 C.2.1 hd  (kk l p e R s mi args below meth c Z z D ar ac H locs cells slots ls C E hW hF hB hl)
theorem r_ishl {x y : Int32} (hd : dc1 (mB m) pc .ishl pc') (kk : RR xs m pc' lv (.int (x <<< (y &&& 31)) :: st) h bc bs Q) : RR xs m pc lv (.int y :: .int x :: st) h bc bs Q := by
  obtain ⟨hd, rfl⟩ := hd
  intro l p e R s mi args below meth c Z z D ar ac H locs cells slots ls C E hW hF hB hl
  exact lv_ishl C.1 C.2.1 hd  (kk l p e R s mi args below meth c Z z D ar ac H locs cells slots ls C E hW hF hB hl)
theorem r_ishr {x y : Int32} (hd : dc1 (mB m) pc .ishr pc') (kk : RR xs m pc' lv (.int (x >>> (y &&& 31)) :: st) h bc bs Q) : RR xs m pc lv (.int y :: .int x :: st) h bc bs Q := by
  obtain ⟨hd, rfl⟩ := hd
  intro l p e R s mi args below meth c Z z D ar ac H locs cells slots ls C E hW hF hB hl
  exact lv_ishr C.1 C.2.1 hd  (kk l p e R s mi args below meth c Z z D ar ac H locs cells slots ls C E hW hF hB hl)
theorem r_idiv {x y : Int32} (hd : dc1 (mB m) pc .idiv pc') (hn : ¬ y = 0) (kk : RR xs m pc' lv (.int (x / y) :: st) h bc bs Q) : RR xs m pc lv (.int y :: .int x :: st) h bc bs Q := by
  obtain ⟨hd, rfl⟩ := hd
  intro l p e R s mi args below meth c Z z D ar ac H locs cells slots ls C E hW hF hB hl
  exact lv_idiv C.1 C.2.1 hd hn (kk l p e R s mi args below meth c Z z D ar ac H locs cells slots ls C E hW hF hB hl)
theorem r_irem {x y : Int32} (hd : dc1 (mB m) pc .irem pc') (hn : ¬ y = 0) (kk : RR xs m pc' lv (.int (x - x / y * y) :: st) h bc bs Q) : RR xs m pc lv (.int y :: .int x :: st) h bc bs Q := by
  obtain ⟨hd, rfl⟩ := hd
  intro l p e R s mi args below meth c Z z D ar ac H locs cells slots ls C E hW hF hB hl
  exact lv_irem C.1 C.2.1 hd hn (kk l p e R s mi args below meth c Z z D ar ac H locs cells slots ls C E hW hF hB hl)
theorem r_ineg {x : Int32} (hd : dc1 (mB m) pc .ineg pc') (kk : RR xs m pc' lv (.int (-x) :: st) h bc bs Q) : RR xs m pc lv (.int x :: st) h bc bs Q := by
  obtain ⟨hd, rfl⟩ := hd
  intro l p e R s mi args below meth c Z z D ar ac H locs cells slots ls C E hW hF hB hl
  exact lv_ineg C.1 C.2.1 hd  (kk l p e R s mi args below meth c Z z D ar ac H locs cells slots ls C E hW hF hB hl)
theorem r_iushr {x y : Int32} (hd : dc1 (mB m) pc .iushr pc') (kk : RR xs m pc' lv (.int ((x.toUInt32 >>> (y.toUInt32 &&& Int32.toUInt32 31)).toInt32) :: st) h bc bs Q) : RR xs m pc lv (.int y :: .int x :: st) h bc bs Q := by
  obtain ⟨hd, rfl⟩ := hd
  intro l p e R s mi args below meth c Z z D ar ac H locs cells slots ls C E hW hF hB hl
  exact lv_iushr C.1 C.2.1 hd rfl (kk l p e R s mi args below meth c Z z D ar ac H locs cells slots ls C E hW hF hB hl)
theorem r_ladd {x y : Int64} (hd : dc1 (mB m) pc .ladd pc') (kk : RR xs m pc' lv (.long (x + y) :: st) h bc bs Q) : RR xs m pc lv (.long y :: .long x :: st) h bc bs Q := by
  obtain ⟨hd, rfl⟩ := hd
  intro l p e R s mi args below meth c Z z D ar ac H locs cells slots ls C E hW hF hB hl
  exact lv_ladd C.1 C.2.1 hd  (kk l p e R s mi args below meth c Z z D ar ac H locs cells slots ls C E hW hF hB hl)
theorem r_lmul {x y : Int64} (hd : dc1 (mB m) pc .lmul pc') (kk : RR xs m pc' lv (.long (x * y) :: st) h bc bs Q) : RR xs m pc lv (.long y :: .long x :: st) h bc bs Q := by
  obtain ⟨hd, rfl⟩ := hd
  intro l p e R s mi args below meth c Z z D ar ac H locs cells slots ls C E hW hF hB hl
  exact lv_lmul C.1 C.2.1 hd  (kk l p e R s mi args below meth c Z z D ar ac H locs cells slots ls C E hW hF hB hl)
theorem r_lor {x y : Int64} (hd : dc1 (mB m) pc .lor pc') (kk : RR xs m pc' lv (.long (x ||| y) :: st) h bc bs Q) : RR xs m pc lv (.long y :: .long x :: st) h bc bs Q := by
  obtain ⟨hd, rfl⟩ := hd
  intro l p e R s mi args below meth c Z z D ar ac H locs cells slots ls C E hW hF hB hl
  exact lv_lor C.1 C.2.1 hd  (kk l p e R s mi args below meth c Z z D ar ac H locs cells slots ls C E hW hF hB hl)
theorem r_lshl {x : Int64} {y : Int32} (hd : dc1 (mB m) pc .lshl pc') (kk : RR xs m pc' lv (.long (x <<< (y.toInt64 &&& 63)) :: st) h bc bs Q) : RR xs m pc lv (.int y :: .long x :: st) h bc bs Q := by
  obtain ⟨hd, rfl⟩ := hd
  intro l p e R s mi args below meth c Z z D ar ac H locs cells slots ls C E hW hF hB hl
  exact lv_lshl C.1 C.2.1 hd rfl (kk l p e R s mi args below meth c Z z D ar ac H locs cells slots ls C E hW hF hB hl)
theorem r_lshr {x : Int64} {y : Int32} (hd : dc1 (mB m) pc .lshr pc') (kk : RR xs m pc' lv (.long (x >>> (y.toInt64 &&& 63)) :: st) h bc bs Q) : RR xs m pc lv (.int y :: .long x :: st) h bc bs Q := by
  obtain ⟨hd, rfl⟩ := hd
  intro l p e R s mi args below meth c Z z D ar ac H locs cells slots ls C E hW hF hB hl
  exact lv_lshr C.1 C.2.1 hd rfl (kk l p e R s mi args below meth c Z z D ar ac H locs cells slots ls C E hW hF hB hl)
theorem r_lcmp {x y : Int64} (hd : dc1 (mB m) pc .lcmp pc') (kk : RR xs m pc' lv (.int (lg_cmp x y) :: st) h bc bs Q) : RR xs m pc lv (.long y :: .long x :: st) h bc bs Q := by
  obtain ⟨hd, rfl⟩ := hd
  intro l p e R s mi args below meth c Z z D ar ac H locs cells slots ls C E hW hF hB hl
  exact W.lcmp C.1 C.2.1 hd  (kk l p e R s mi args below meth c Z z D ar ac H locs cells slots ls C E hW hF hB hl)
theorem r_i2l {x : Int32} (hd : dc1 (mB m) pc .i2l pc') (kk : RR xs m pc' lv (.long x.toInt64 :: st) h bc bs Q) : RR xs m pc lv (.int x :: st) h bc bs Q := by
  obtain ⟨hd, rfl⟩ := hd
  intro l p e R s mi args below meth c Z z D ar ac H locs cells slots ls C E hW hF hB hl
  exact lv_i2l C.1 C.2.1 hd rfl (kk l p e R s mi args below meth c Z z D ar ac H locs cells slots ls C E hW hF hB hl)
theorem r_l2i {x : Int64} (hd : dc1 (mB m) pc .l2i pc') (kk : RR xs m pc' lv (.int x.toInt32 :: st) h bc bs Q) : RR xs m pc lv (.long x :: st) h bc bs Q := by
  obtain ⟨hd, rfl⟩ := hd
  intro l p e R s mi args below meth c Z z D ar ac H locs cells slots ls C E hW hF hB hl
  exact lv_l2i C.1 C.2.1 hd rfl (kk l p e R s mi args below meth c Z z D ar ac H locs cells slots ls C E hW hF hB hl)
theorem r_dup {v : Value} (hd : dc1 (mB m) pc .dup pc') (hc : v.category = 1) (kk : RR xs m pc' lv (v :: v :: st) h bc bs Q) : RR xs m pc lv (v :: st) h bc bs Q := by
  obtain ⟨hd, rfl⟩ := hd
  intro l p e R s mi args below meth c Z z D ar ac H locs cells slots ls C E hW hF hB hl
  exact lv_dup C.1 C.2.1 hd (by rw [tv_cat]; exact hc) (kk l p e R s mi args below meth c Z z D ar ac H locs cells slots ls C E hW hF hB hl)
theorem r_pop {v : Value} (hd : dc1 (mB m) pc .pop pc') (hc : v.category = 1) (kk : RR xs m pc' lv (st) h bc bs Q) : RR xs m pc lv (v :: st) h bc bs Q := by
  obtain ⟨hd, rfl⟩ := hd
  intro l p e R s mi args below meth c Z z D ar ac H locs cells slots ls C E hW hF hB hl
  exact lv_pop C.1 C.2.1 hd (by rw [tv_cat]; exact hc) (kk l p e R s mi args below meth c Z z D ar ac H locs cells slots ls C E hW hF hB hl)
theorem r_dup2 {v w : Value} (hd : dc1 (mB m) pc .dup2 pc') (hc : v.category = 1) (hc2 : w.category = 1) (kk : RR xs m pc' lv (v :: w :: v :: w :: st) h bc bs Q) : RR xs m pc lv (v :: w :: st) h bc bs Q := by
  obtain ⟨hd, rfl⟩ := hd
  intro l p e R s mi args below meth c Z z D ar ac H locs cells slots ls C E hW hF hB hl
  exact lv_dup2_11 C.1 C.2.1 hd (by rw [tv_cat]; exact hc) (by rw [tv_cat]; exact hc2) (kk l p e R s mi args below meth c Z z D ar ac H locs cells slots ls C E hW hF hB hl)
theorem r_goto (hd : dcG (mB m) pc tgt) (kk : RR xs m tgt lv st h bc bs Q) : RR xs m pc lv st h bc bs Q := by
  obtain ⟨off, hd, ht⟩ := hd
  intro l p e R s mi args below meth c Z z D ar ac H locs cells slots ls C E hW hF hB hl
  exact lv_goto C.1 C.2.1 hd ht (kk l p e R s mi args below meth c Z z D ar ac H locs cells slots ls C E hW hF hB hl)
theorem r_ic_eq {x y : Int32} (hd : dcI (mB m) pc .eq tgt pc') (kt : x = y → RR xs m tgt lv st h bc bs Q) (kf : ¬ x = y → RR xs m pc' lv st h bc bs Q) : RR xs m pc lv (.int y :: .int x :: st) h bc bs Q := by
  obtain ⟨off, hd, ht, rfl⟩ := hd
  intro l p e R s mi args below meth c Z z D ar ac H locs cells slots ls C E hW hF hB hl
  exact lv_icmp_eq C.1 C.2.1 hd ht (fun q => kt q l p e R s mi args below meth c Z z D ar ac H locs cells slots ls C E hW hF hB hl) (fun q => kf q l p e R s mi args below meth c Z z D ar ac H locs cells slots ls C E hW hF hB hl)
theorem r_if_eq {x : Int32} (hd : dcZ (mB m) pc .eq tgt pc') (kt : x = 0 → RR xs m tgt lv st h bc bs Q) (kf : ¬ x = 0 → RR xs m pc' lv st h bc bs Q) : RR xs m pc lv (.int x :: st) h bc bs Q := by
  obtain ⟨off, hd, ht, rfl⟩ := hd
  intro l p e R s mi args below meth c Z z D ar ac H locs cells slots ls C E hW hF hB hl
  exact lv_if_eq C.1 C.2.1 hd ht (fun q => kt q l p e R s mi args below meth c Z z D ar ac H locs cells slots ls C E hW hF hB hl) (fun q => kf q l p e R s mi args below meth c Z z D ar ac H locs cells slots ls C E hW hF hB hl)
theorem r_ic_ne {x y : Int32} (hd : dcI (mB m) pc .ne tgt pc') (kt : ¬ x = y → RR xs m tgt lv st h bc bs Q) (kf : x = y → RR xs m pc' lv st h bc bs Q) : RR xs m pc lv (.int y :: .int x :: st) h bc bs Q := by
  obtain ⟨off, hd, ht, rfl⟩ := hd
  intro l p e R s mi args below meth c Z z D ar ac H locs cells slots ls C E hW hF hB hl
  exact lv_icmp_ne C.1 C.2.1 hd ht (fun q => kt q l p e R s mi args below meth c Z z D ar ac H locs cells slots ls C E hW hF hB hl) (fun q => kf q l p e R s mi args below meth c Z z D ar ac H locs cells slots ls C E hW hF hB hl)
theorem r_if_ne {x : Int32} (hd : dcZ (mB m) pc .ne tgt pc') (kt : ¬ x = 0 → RR xs m tgt lv st h bc bs Q) (kf : x = 0 → RR xs m pc' lv st h bc bs Q) : RR xs m pc lv (.int x :: st) h bc bs Q := by
  obtain ⟨off, hd, ht, rfl⟩ := hd
  intro l p e R s mi args below meth c Z z D ar ac H locs cells slots ls C E hW hF hB hl
  exact lv_if_ne C.1 C.2.1 hd ht (fun q => kt q l p e R s mi args below meth c Z z D ar ac H locs cells slots ls C E hW hF hB hl) (fun q => kf q l p e R s mi args below meth c Z z D ar ac H locs cells slots ls C E hW hF hB hl)
theorem r_ic_lt {x y : Int32} (hd : dcI (mB m) pc .lt tgt pc') (kt : x < y → RR xs m tgt lv st h bc bs Q) (kf : ¬ x < y → RR xs m pc' lv st h bc bs Q) : RR xs m pc lv (.int y :: .int x :: st) h bc bs Q := by
  obtain ⟨off, hd, ht, rfl⟩ := hd
  intro l p e R s mi args below meth c Z z D ar ac H locs cells slots ls C E hW hF hB hl
  exact lv_icmp_lt C.1 C.2.1 hd ht (fun q => kt q l p e R s mi args below meth c Z z D ar ac H locs cells slots ls C E hW hF hB hl) (fun q => kf q l p e R s mi args below meth c Z z D ar ac H locs cells slots ls C E hW hF hB hl)
theorem r_if_lt {x : Int32} (hd : dcZ (mB m) pc .lt tgt pc') (kt : x < 0 → RR xs m tgt lv st h bc bs Q) (kf : ¬ x < 0 → RR xs m pc' lv st h bc bs Q) : RR xs m pc lv (.int x :: st) h bc bs Q := by
  obtain ⟨off, hd, ht, rfl⟩ := hd
  intro l p e R s mi args below meth c Z z D ar ac H locs cells slots ls C E hW hF hB hl
  exact lv_if_lt C.1 C.2.1 hd ht (fun q => kt q l p e R s mi args below meth c Z z D ar ac H locs cells slots ls C E hW hF hB hl) (fun q => kf q l p e R s mi args below meth c Z z D ar ac H locs cells slots ls C E hW hF hB hl)
theorem r_ic_ge {x y : Int32} (hd : dcI (mB m) pc .ge tgt pc') (kt : y ≤ x → RR xs m tgt lv st h bc bs Q) (kf : ¬ y ≤ x → RR xs m pc' lv st h bc bs Q) : RR xs m pc lv (.int y :: .int x :: st) h bc bs Q := by
  obtain ⟨off, hd, ht, rfl⟩ := hd
  intro l p e R s mi args below meth c Z z D ar ac H locs cells slots ls C E hW hF hB hl
  exact lv_icmp_ge C.1 C.2.1 hd ht (fun q => kt q l p e R s mi args below meth c Z z D ar ac H locs cells slots ls C E hW hF hB hl) (fun q => kf q l p e R s mi args below meth c Z z D ar ac H locs cells slots ls C E hW hF hB hl)
theorem r_if_ge {x : Int32} (hd : dcZ (mB m) pc .ge tgt pc') (kt : 0 ≤ x → RR xs m tgt lv st h bc bs Q) (kf : ¬ 0 ≤ x → RR xs m pc' lv st h bc bs Q) : RR xs m pc lv (.int x :: st) h bc bs Q := by
  obtain ⟨off, hd, ht, rfl⟩ := hd
  intro l p e R s mi args below meth c Z z D ar ac H locs cells slots ls C E hW hF hB hl
  exact lv_if_ge C.1 C.2.1 hd ht (fun q => kt q l p e R s mi args below meth c Z z D ar ac H locs cells slots ls C E hW hF hB hl) (fun q => kf q l p e R s mi args below meth c Z z D ar ac H locs cells slots ls C E hW hF hB hl)
theorem r_ic_gt {x y : Int32} (hd : dcI (mB m) pc .gt tgt pc') (kt : y < x → RR xs m tgt lv st h bc bs Q) (kf : ¬ y < x → RR xs m pc' lv st h bc bs Q) : RR xs m pc lv (.int y :: .int x :: st) h bc bs Q := by
  obtain ⟨off, hd, ht, rfl⟩ := hd
  intro l p e R s mi args below meth c Z z D ar ac H locs cells slots ls C E hW hF hB hl
  exact lv_icmp_gt C.1 C.2.1 hd ht (fun q => kt q l p e R s mi args below meth c Z z D ar ac H locs cells slots ls C E hW hF hB hl) (fun q => kf q l p e R s mi args below meth c Z z D ar ac H locs cells slots ls C E hW hF hB hl)
theorem r_if_gt {x : Int32} (hd : dcZ (mB m) pc .gt tgt pc') (kt : 0 < x → RR xs m tgt lv st h bc bs Q) (kf : ¬ 0 < x → RR xs m pc' lv st h bc bs Q) : RR xs m pc lv (.int x :: st) h bc bs Q := by
  obtain ⟨off, hd, ht, rfl⟩ := hd
  intro l p e R s mi args below meth c Z z D ar ac H locs cells slots ls C E hW hF hB hl
  exact lv_if_gt C.1 C.2.1 hd ht (fun q => kt q l p e R s mi args below meth c Z z D ar ac H locs cells slots ls C E hW hF hB hl) (fun q => kf q l p e R s mi args below meth c Z z D ar ac H locs cells slots ls C E hW hF hB hl)
theorem r_ic_le {x y : Int32} (hd : dcI (mB m) pc .le tgt pc') (kt : x ≤ y → RR xs m tgt lv st h bc bs Q) (kf : ¬ x ≤ y → RR xs m pc' lv st h bc bs Q) : RR xs m pc lv (.int y :: .int x :: st) h bc bs Q := by
  obtain ⟨off, hd, ht, rfl⟩ := hd
  intro l p e R s mi args below meth c Z z D ar ac H locs cells slots ls C E hW hF hB hl
  exact lv_icmp_le C.1 C.2.1 hd ht (fun q => kt q l p e R s mi args below meth c Z z D ar ac H locs cells slots ls C E hW hF hB hl) (fun q => kf q l p e R s mi args below meth c Z z D ar ac H locs cells slots ls C E hW hF hB hl)
theorem r_if_le {x : Int32} (hd : dcZ (mB m) pc .le tgt pc') (kt : x ≤ 0 → RR xs m tgt lv st h bc bs Q) (kf : ¬ x ≤ 0 → RR xs m pc' lv st h bc bs Q) : RR xs m pc lv (.int x :: st) h bc bs Q := by
  obtain ⟨off, hd, ht, rfl⟩ := hd
  intro l p e R s mi args below meth c Z z D ar ac H locs cells slots ls C E hW hF hB hl
  exact lv_if_le C.1 C.2.1 hd ht (fun q => kt q l p e R s mi args below meth c Z z D ar ac H locs cells slots ls C E hW hF hB hl) (fun q => kf q l p e R s mi args below meth c Z z D ar ac H locs cells slots ls C E hW hF hB hl)
theorem r_ldc {idx : Nat} {v : Int32} (hd : dc2 (mB m) pc (.ldc idx) pc') (hw : Cond.constant (mY m).cls idx v ∈ wsG) (kk : RR xs m pc' lv (.int v :: st) h bc bs Q) : RR xs m pc lv st h bc bs Q := by
  obtain ⟨hd, rfl⟩ := hd
  intro l p e R s mi args below meth c Z z D ar ac H locs cells slots ls C E hW hF hB hl
  exact lv_ldc C.1 C.2.1 C.2.2.2.2.1 (C.2.2.2.2.2.1 _ hw) hd (kk l p e R s mi args below meth c Z z D ar ac H locs cells slots ls C E hW hF hB hl)
theorem r_ldcw {idx : Nat} {v : Int32} (hd : dc3 (mB m) pc (.ldc_w idx) pc') (hw : Cond.constant (mY m).cls idx v ∈ wsG) (kk : RR xs m pc' lv (.int v :: st) h bc bs Q) : RR xs m pc lv st h bc bs Q := by
  obtain ⟨hd, rfl⟩ := hd
  intro l p e R s mi args below meth c Z z D ar ac H locs cells slots ls C E hW hF hB hl
  exact lv_ldcw C.1 C.2.1 C.2.2.2.2.1 (C.2.2.2.2.2.1 _ hw) hd (kk l p e R s mi args below meth c Z z D ar ac H locs cells slots ls C E hW hF hB hl)
theorem r_ldc2 {idx : Nat} {v : Int64} (hd : dc3 (mB m) pc (.ldc2_w idx) pc') (hw : Cond.constantLong (mY m).cls idx v ∈ wsG) (kk : RR xs m pc' lv (.long v :: st) h bc bs Q) : RR xs m pc lv st h bc bs Q := by
  obtain ⟨hd, rfl⟩ := hd
  intro l p e R s mi args below meth c Z z D ar ac H locs cells slots ls C E hW hF hB hl
  exact lv_ldc2 C.1 C.2.1 C.2.2.2.2.1 (C.2.2.2.2.2.1 _ hw) hd (kk l p e R s mi args below meth c Z z D ar ac H locs cells slots ls C E hW hF hB hl)
theorem r_ret {r : Option Value} (hd : RetOk m pc r) (hq : Q r h) : RR xs m pc lv r.toList h bc bs Q := by
  intro l p e R s mi args below meth c Z z D ar ac H locs cells slots ls C E hW hF hB hl
  exact E r h ac H locs cells slots pc ls hq hW hF (by omega) (by omega) hd
theorem r_iret {v : Int32} (hd : RetOk m pc (some (.int v))) (hq : Q (some (.int v)) h) : RR xs m pc lv [.int v] h bc bs Q := r_ret hd hq
theorem r_lret {v : Int64} (hd : RetOk m pc (some (.long v))) (hq : Q (some (.long v)) h) : RR xs m pc lv [.long v] h bc bs Q := r_ret hd hq
theorem r_aret {v : Nat} (hd : RetOk m pc (some (.ref v))) (hq : Q (some (.ref v)) h) : RR xs m pc lv [.ref v] h bc bs Q := r_ret hd hq
theorem r_vret (hd : RetOk m pc none) (hq : Q none h) : RR xs m pc lv [] h bc bs Q := r_ret hd hq
/-- the switch: inside the table, and beside it -/
def dcT (b : ByteArray) (pc : Nat) (x : Int32) (tgt : Nat) : Prop := ∃ (dflt lo hi : Int) (offs : Array Int) (len : Nat), decode b pc = .ok (.tableswitch dflt lo hi offs, len) ∧ (((x.toInt < lo ∨ hi < x.toInt) ∧ (pc : Int) + dflt = (tgt : Int)) ∨ (¬ x.toInt < lo ∧ ¬ hi < x.toInt ∧ ∃ off, offs[(x.toInt - lo).toNat]? = some off ∧ (pc : Int) + off = (tgt : Int)))
theorem r_switch {x : Int32} (hd : dcT (mB m) pc x tgt) (kk : RR xs m tgt lv st h bc bs Q) : RR xs m pc lv (.int x :: st) h bc bs Q := by
  obtain ⟨dflt, lo, hi, offs, len, hd, ⟨h1, ht⟩ | ⟨h1, h2, off, ho, ht⟩⟩ := hd
  · intro l p e R s mi args below meth c Z z D ar ac H locs cells slots ls C E hW hF hB hl
    exact lv_tableOut C.1 C.2.1 hd h1 ht (kk l p e R s mi args below meth c Z z D ar ac H locs cells slots ls C E hW hF hB hl)
  · intro l p e R s mi args below meth c Z z D ar ac H locs cells slots ls C E hW hF hB hl
    exact lv_tableIn C.1 C.2.1 hd h1 h2 ho ht (kk l p e R s mi args below meth c Z z D ar ac H locs cells slots ls C E hW hF hB hl)
theorem r_mono {Q' : Option Value → List Ce → Prop} (hq : ∀ r h', Q r h' → Q' r h') (kk : RR xs m pc lv st h bc bs Q) : RR xs m pc lv st h bc bs Q' := by
  intro l p e R s mi args below meth c Z z D ar ac H locs cells slots ls C E hW hF hB hl
  exact kk l p e R s mi args below meth c Z z D ar ac H locs cells slots ls C (fun r h' ac' H' locs' cells' slots' pc' ls' q => E r h' ac' H' locs' cells' slots' pc' ls' (hq r h' q)) hW hF hB hl
end RULES
end
section
/-! rules that read and write cells -/
def VOk (ty : FieldType) (v : Value) : Prop := ∀ (z : Nat) (ar : Nat → Nat), narrow ty (tv z ar v) = tv z ar v ∧ fits ty (tv z ar v) = true
theorem VOk_int (x : Int32) : VOk .int (.int x) := fun _ _ => ⟨rfl, rfl⟩
theorem VOk_long (x : Int64) : VOk .long (.long x) := fun _ _ => ⟨rfl, rfl⟩
theorem VOk_bool {x : Int32} (h : x = 0 ∨ x = 1) : VOk .boolean (.int x) := fun _ _ => by rcases h with rfl | rfl <;> exact ⟨rfl, rfl⟩
theorem VOk_obj (n : String) (a : Nat) : VOk (.object n) (.ref a) := fun _ _ => ⟨rfl, rfl⟩
theorem VOk_arr (t : FieldType) (a : Nat) : VOk (.array t) (.ref a) := fun _ _ => ⟨rfl, rfl⟩
def FL (own : String) (idx ci k : Nat) : Prop := ∃ r : vw_C, clsL[ci]? = some r ∧ k < r.2.2 ∧ (r.2.1 k).1 = r.1 ∧ (Cond.fieldLink own idx r.1 (r.2.1 k).2.1 (r.2.1 k).2.2.1 ∈ wsG ∨ ∃ host, Cond.fieldLinkNest own idx r.1 (r.2.1 k).2.1 (r.2.1 k).2.2.1 host ∈ nestW)
section HEAP
variable {xs : List Int32} {m : Md} {pc pc' tgt : Nat} {lv : List Value} {st : List Value} {h : List Ce} {bc bs : Nat} {Q : Option Value → List Ce → Prop}
theorem r_get {idx ci k a : Nat} {fs : List Value} {v : Value} (hd : dc3 (mB m) pc (.getfield idx) pc') (hL : FL (mY m).cls idx ci k) (hc : h[a]? = some (.inr (.inr (ci, fs)))) (hv : fs[k]? = some v) (kk : RR xs m pc' lv (v :: st) h bc bs Q) : RR xs m pc lv (.ref a :: st) h bc bs Q := by
  obtain ⟨hd, rfl⟩ := hd
  intro l p e R s mi args below meth c Z z D ar ac H locs cells slots ls C E hW hF hB hl
  obtain ⟨r, hr, hk, he, hL⟩ := hL
  obtain ⟨r', h1, hlen, cell, q1, q2, q3, q4⟩ := (hW.2.1 a _ hc).1
  cases hr.symm.trans h1
  obtain ⟨hS, hfc, kC, hkC, hkind⟩ := hW.2.2.1.1.1 ci _ h1
  obtain ⟨cf, kf, fi, f, hi, hsl⟩ := hS k hk
  have hst := (u_facts hfc hkC (u_lays C.2.2.2.2.2.1 (cl_ok h1).1 hk) hi).1
  rw [he] at hi
  have hslot : cell.slots[f.slot]? = some (tv z ar v) := by
    rw [hsl, q4 k hk]
    simp [vp_V, hv]
  rcases hL with hL | ⟨host, hL⟩
  · exact W.getf C.1 C.2.1 C.2.2.2.2.1 (C.2.2.2.2.2.1 _ hL) hi hst q1 (by rw [q3]; exact fun h => by cases h) hslot rfl rfl hd (kk l p e R s mi args below meth c Z z D ar ac H locs cells slots ls C E hW hF hB hl)
  · exact va_Wgetf C.1 C.2.1 C.2.2.2.2.1 (va_Nw.use rfl (hW.2.2.1.2.1 _ hL)) hi hst q1 (by rw [q3]; exact fun h => by cases h) hslot rfl rfl hd (kk l p e R s mi args below meth c Z z D ar ac H locs cells slots ls C E hW hF hB hl)
theorem atC_put {D : va_G} {z : Nat} {ar : Nat → Nat} {ac : Nat → ClassId} {a ci k : Nat} {fs : List Value} {v : Value} {r : vw_C} {H1 : Heap} {cell : Cell} (h1 : clsL[ci]? = some r) (hlen : fs.length = r.2.2) (hk : k < r.2.2) (q2 : cell.cls = D.1 ci) (q3 : cell.vm = .none) (q4 : ∀ k, k < r.2.2 → cell.slots[(D.2 ci) k]? = some (tv z ar (vp_V fs k))) (hap : ∀ x y, x < r.2.2 → y < r.2.2 → x ≠ y → (D.2 ci) x ≠ (D.2 ci) y) (e1 : H1[z + a]? = some (cell.setSlot (D.2 ci k) (tv z ar v))) : atC D z ar ac a (.inr (.inr (ci, fs.set k v))) H1 := by
  refine ⟨r, h1, by rw [List.length_set]; exact hlen, _, e1, q2, q3, fun j hj => ?_⟩
  rw [t_set (V := fun k => tv z ar (vp_V fs k)) q4 hap hk _ j hj]
  by_cases e : j = k
  · subst e
    simp [updV, vp_V, hlen, hk]
  · simp [updV, vp_V, e, List.getElem?_set, Ne.symm e]
theorem r_put {idx ci k a : Nat} {fs : List Value} {v : Value} (hd : dc3 (mB m) pc (.putfield idx) pc') (hL : FL (mY m).cls idx ci k) (hnf : ∀ r : vw_C, clsL[ci]? = some r → (r.2.1 k).2.2.2 = false) (hc : h[a]? = some (.inr (.inr (ci, fs)))) (hv : VOk (clT ci k) v) (kk : RR xs m pc' lv st (h.set a (.inr (.inr (ci, fs.set k v)))) bc bs Q) : RR xs m pc lv (v :: .ref a :: st) h bc bs Q := by
  obtain ⟨hd, rfl⟩ := hd
  intro l p e R s mi args below meth c Z z D ar ac H locs cells slots ls C E hW hF hB hl
  obtain ⟨r, hr, hk, he, hL⟩ := hL
  obtain ⟨r', h1, hlen, cell, q1, q2, q3, q4⟩ := (hW.2.1 a _ hc).1
  cases hr.symm.trans h1
  have hok := cl_ok h1
  have hap := va_apart (own := (mY m).cls) C.2.2.2.2.2.1 hok.1 (clT ci) hok.2.1 hok.2.2 hW.2.2.1.1 h1
  obtain ⟨hS, hfc, kC, hkC, hkind⟩ := hW.2.2.1.1.1 ci _ h1
  obtain ⟨cf, kf, fi, f, hi, hsl⟩ := hS k hk
  have hlay := C.2.2.2.2.2.1 _ (hok.1 _ (u_in_lay hk))
  unfold u_lay at hlay
  rw [if_neg (by rw [hnf r hr]; decide)] at hlay
  have hst := (u_facts hfc hkC (u_lays C.2.2.2.2.2.1 hok.1 hk) hi).1
  have h6 := u_store hfc hkC hkind hlay hi (hok.2.1 k hk) (hv z ar).1 (hv z ar).2
  rw [he] at hi
  have hlt : f.slot < cell.slots.size := by rw [hsl]; exact k2_hasslot (q4 k hk)
  rcases hL with hL | ⟨host, hL⟩
  · refine W.putK C.1 C.2.1 (f := f) ⟨C.2.2.2.2.1, C.2.2.2.2.2.1 _ hL, ⟨_, _, _, hi⟩, hst⟩ (by rw [q2]; exact h6) q1 q3 hlt rfl rfl hd fun H' e1 e2 e3 => ?_
    rw [hsl] at e1 ⊢
    exact kk l p e R s mi args below meth c Z z D ar ac H' _ cells slots ls C E (hW.upd e2 e3 (atC_put h1 hlen hk q2 q3 q4 hap e1) trivial) (hF.put e3) hB hl
  · refine va_WputK C.1 C.2.1 (f := f) C.2.2.2.2.1 (va_Nw.use rfl (hW.2.2.1.2.1 _ hL)) hi hst (by rw [q2]; exact h6) q1 q3 hlt rfl rfl hd fun H' e1 e2 e3 => ?_
    rw [hsl] at e1 ⊢
    exact kk l p e R s mi args below meth c Z z D ar ac H' _ cells slots ls C E (hW.upd e2 e3 (atC_put h1 hlen hk q2 q3 q4 hap e1) trivial) (hF.put e3) hB hl
/-- a final field, in a constructor of its class -/
theorem r_putF {idx ci k a : Nat} {fs : List Value} {v : Value} (hd : dc3 (mB m) pc (.putfield idx) pc') (hL : ∃ r : vw_C, clsL[ci]? = some r ∧ k < r.2.2 ∧ (r.2.1 k).1 = r.1 ∧ r.1 = (mY m).cls ∧ (r.2.1 k).2.2.2 = true ∧ Cond.fieldLink (mY m).cls idx r.1 (r.2.1 k).2.1 (r.2.1 k).2.2.1 ∈ wsG) (hin : (mY m).name = "<init>") (hc : h[a]? = some (.inr (.inr (ci, fs)))) (hv : VOk (clT ci k) v) (kk : RR xs m pc' lv st (h.set a (.inr (.inr (ci, fs.set k v)))) bc bs Q) : RR xs m pc lv (v :: .ref a :: st) h bc bs Q := by
  obtain ⟨hd, rfl⟩ := hd
  intro l p e R s mi args below meth c Z z D ar ac H locs cells slots ls C E hW hF hB hl
  obtain ⟨r, hr, hk, he, hown, hfin, hL⟩ := hL
  obtain ⟨r', h1, hlen, cell, q1, q2, q3, q4⟩ := (hW.2.1 a _ hc).1
  cases hr.symm.trans h1
  have hok := cl_ok h1
  have hap := va_apart (own := (mY m).cls) C.2.2.2.2.2.1 hok.1 (clT ci) hok.2.1 hok.2.2 hW.2.2.1.1 h1
  obtain ⟨hS, hfc, kC, hkC, hkind⟩ := hW.2.2.1.1.1 ci _ h1
  obtain ⟨cf, kf, fi, f, hi, hsl⟩ := hS k hk
  have hlay := C.2.2.2.2.2.1 _ (hok.1 _ (u_in_lay hk))
  unfold u_lay at hlay
  rw [if_pos hfin] at hlay
  have hst := (u_facts hfc hkC (u_lays C.2.2.2.2.2.1 hok.1 hk) hi).1
  have hcf : mi.cls = cf := by
    obtain ⟨_, _, c', _, _, _, -, -, hf', -, -, -, hown2, -⟩ := Cond.laysFinal_spec hlay
    have e1 : c' = cf := by have := hi.symm.trans hf'; simp at this; exact this.1.symm
    rw [he, hown] at hown2
    rw [← e1]; exact Option.some.inj (C.2.2.2.2.1.symm.trans hown2)
  have h6 := u_fits hfc hkC hkind (Or.inr hlay) hi (hok.2.1 k hk) (hv z ar).1 (hv z ar).2
  rw [he] at hi
  have hlt : f.slot < cell.slots.size := by rw [hsl]; exact k2_hasslot (q4 k hk)
  refine W.putFinK C.1 C.2.1 C.2.2.2.2.1 (C.2.2.2.2.2.1 _ hL) hi hst hcf (C.2.2.2.2.2.2.2.1.trans hin) (by rw [q2]; exact h6) q1 q3 hlt rfl rfl hd fun H' e1 e2 e3 => ?_
  rw [hsl] at e1 ⊢
  exact kk l p e R s mi args below meth c Z z D ar ac H' _ cells slots ls C E (hW.upd e2 e3 (atC_put h1 hlen hk q2 q3 q4 hap e1) trivial) (hF.put e3) hB hl
theorem arrNo {cA : ClassId} {n : Nat} {f : Nat → Value} : (arrV cA n f).vm ≠ .unknown := fun q => by cases q
theorem r_iald {a n : Nat} {f : Nat → Int32} {i : Int32} (hd : dc1 (mB m) pc .iaload pc') (hc : h[a]? = some (.inl (0, n, f))) (hin : vp_in i n) (kk : RR xs m pc' lv (.int (f i.toNatClampNeg) :: st) h bc bs Q) : RR xs m pc lv (.int i :: .ref a :: st) h bc bs Q := by
  obtain ⟨hd, rfl⟩ := hd
  intro l p e R s mi args below meth c Z z D ar ac H locs cells slots ls C E hW hF hB hl
  have hlt : i.toNatClampNeg < n := Nat.not_le.mp fun q => hin (Or.inr q)
  exact W.iald (v := .int (f i.toNatClampNeg)) C.1 C.2.1 (hW.2.1 a _ hc).1 ((hW.2.1 a _ hc).2 n (fun j => .int (f j))) arrNo (by rw [arrV_size]; exact hin) (arrV_read _ _ hlt) rfl rfl hd (kk l p e R s mi args below meth c Z z D ar ac H locs cells slots ls C E hW hF hB hl)
theorem r_zald {a n : Nat} {f : Nat → Int32} {i : Int32} (hd : dc1 (mB m) pc .baload pc') (hc : h[a]? = some (.inl (1, n, f))) (hin : vp_in i n) (kk : RR xs m pc' lv (.int (f i.toNatClampNeg) :: st) h bc bs Q) : RR xs m pc lv (.int i :: .ref a :: st) h bc bs Q := by
  obtain ⟨hd, rfl⟩ := hd
  intro l p e R s mi args below meth c Z z D ar ac H locs cells slots ls C E hW hF hB hl
  have hlt : i.toNatClampNeg < n := Nat.not_le.mp fun q => hin (Or.inr q)
  exact W.zald (v := .int (f i.toNatClampNeg)) C.1 C.2.1 (hW.2.1 a _ hc).1 ((hW.2.1 a _ hc).2 n (fun j => .int (f j))) arrNo (by rw [arrV_size]; exact hin) (arrV_read _ _ hlt) rfl rfl hd (kk l p e R s mi args below meth c Z z D ar ac H locs cells slots ls C E hW hF hB hl)
theorem updV_int (f : Nat → Int32) (k : Nat) (x : Int32) : updV (fun j => Value.int (f j)) k (.int x) = fun j => Value.int (upd f k x j) := by
  funext q
  by_cases hq : q = k
  · subst hq; simp [updV, upd]
  · simp [updV, upd, hq]
theorem r_iast {a n : Nat} {f : Nat → Int32} {i x : Int32} (hd : dc1 (mB m) pc .iastore pc') (hc : h[a]? = some (.inl (0, n, f))) (hin : vp_in i n) (kk : RR xs m pc' lv st (h.set a (.inl (0, n, upd f i.toNatClampNeg x))) bc bs Q) : RR xs m pc lv (.int x :: .int i :: .ref a :: st) h bc bs Q := by
  obtain ⟨hd, rfl⟩ := hd
  intro l p e R s mi args below meth c Z z D ar ac H locs cells slots ls C E hW hF hB hl
  refine W.iast C.1 C.2.1 (hW.2.1 a _ hc).1 ((hW.2.1 a _ hc).2 n (fun j => .int (f j))) arrNo (by rw [arrV_size]; exact hin) rfl rfl hd fun H' e1 e2 e3 => ?_
  rw [arrV_store, updV_int] at e1
  exact kk l p e R s mi args below meth c Z z D ar ac H' _ cells slots ls C E (hW.upd e2 e3 e1 (hW.2.1 a _ hc).2) (hF.put e3) hB hl
theorem r_zast {a n : Nat} {f : Nat → Int32} {i x : Int32} (hd : dc1 (mB m) pc .bastore pc') (hc : h[a]? = some (.inl (1, n, f))) (hin : vp_in i n) (kk : RR xs m pc' lv st (h.set a (.inl (1, n, upd f i.toNatClampNeg (x &&& 1)))) bc bs Q) : RR xs m pc lv (.int x :: .int i :: .ref a :: st) h bc bs Q := by
  obtain ⟨hd, rfl⟩ := hd
  intro l p e R s mi args below meth c Z z D ar ac H locs cells slots ls C E hW hF hB hl
  refine W.zast C.1 C.2.1 (hW.2.1 a _ hc).1 ((hW.2.1 a _ hc).2 n (fun j => .int (f j))) arrNo (by rw [arrV_size]; exact hin) rfl rfl hd fun H' e1 e2 e3 => ?_
  rw [show narrow FieldType.boolean (Value.int x) = Value.int (x &&& 1) from rfl, arrV_store, updV_int] at e1
  exact kk l p e R s mi args below meth c Z z D ar ac H' _ cells slots ls C E (hW.upd e2 e3 e1 (hW.2.1 a _ hc).2) (hF.put e3) hB hl
theorem r_alen {a t n : Nat} {f : Nat → Int32} (hd : dc1 (mB m) pc .arraylength pc') (hc : h[a]? = some (.inl (t, n, f))) (kk : RR xs m pc' lv (.int (Int32.ofNat n) :: st) h bc bs Q) : RR xs m pc lv (.ref a :: st) h bc bs Q := by
  obtain ⟨hd, rfl⟩ := hd
  intro l p e R s mi args below meth c Z z D ar ac H locs cells slots ls C E hW hF hB hl
  exact W.alen (n := Int32.ofNat n) C.1 C.2.1 (hW.2.1 a _ hc).1 ((hW.2.1 a _ hc).2 n (fun j => .int (f j))) (by rw [arrV_size]) rfl rfl hd (kk l p e R s mi args below meth c Z z D ar ac H locs cells slots ls C E hW hF hB hl)
/-- the arrays that nobody writes -/
theorem r_rald {k : Nat} {i : Int32} (hd : dc1 (mB m) pc .iaload pc') (hk : k < 3) (hin : vp_in i (roT xs k).length) (kk : RR xs m pc' lv (.int ((roT xs k).getD i.toNatClampNeg 0) :: st) h bc bs Q) : RR xs m pc lv (.int i :: .retAddr k :: st) h bc bs Q := by
  obtain ⟨hd, rfl⟩ := hd
  intro l p e R s mi args below meth c Z z D ar ac H locs cells slots ls C E hW hF hB hl
  obtain ⟨cell, t1, t2, t3, t4, t5, t6, t7⟩ := hW.2.2.2.1 k hk
  have hlt : i.toNatClampNeg < (roT xs k).length := Nat.not_le.mp fun q => hin (Or.inr q)
  exact W.iald (v := .int ((roT xs k).getD i.toNatClampNeg 0)) C.1 C.2.1 t1 t2 t3 (fun q => hin (q.imp_right fun q => by omega)) (t6 _ hlt) rfl rfl hd (kk l p e R s mi args below meth c Z z D ar ac H locs cells slots ls C E hW hF hB hl)
theorem r_rlen {k : Nat} (hd : dc1 (mB m) pc .arraylength pc') (hk : k < 3) (kk : RR xs m pc' lv (.int (Int32.ofNat (roT xs k).length) :: st) h bc bs Q) : RR xs m pc lv (.retAddr k :: st) h bc bs Q := by
  obtain ⟨hd, rfl⟩ := hd
  intro l p e R s mi args below meth c Z z D ar ac H locs cells slots ls C E hW hF hB hl
  obtain ⟨cell, t1, t2, t3, t4, t5, t6, t7⟩ := hW.2.2.2.1 k hk
  exact W.alen (n := Int32.ofNat (roT xs k).length) C.1 C.2.1 t1 t2 t5 rfl rfl hd (kk l p e R s mi args below meth c Z z D ar ac H locs cells slots ls C E hW hF hB hl)
def SL (own : String) (idx : Nat) (n : String) : Prop := Cond.fieldLink own idx "PegWatch$Compass" n "[I" ∈ wsG ∨ ∃ host, Cond.fieldLinkNest own idx "PegWatch$Compass" n "[I" host ∈ nestW
theorem r_gets {idx k : Nat} {n : String} (hd : dc3 (mB m) pc (.getstatic idx) pc') (hL : SL (mY m).cls idx n) (hk : (k = 1 ∧ n = "NAMES") ∨ (k = 2 ∧ n = "LENGTHS")) (kk : RR xs m pc' lv (.retAddr k :: st) h bc bs Q) : RR xs m pc lv st h bc bs Q := by
  obtain ⟨hd, rfl⟩ := hd
  intro l p e R s mi args below meth c Z z D ar ac H locs cells slots ls C E hW hF hB hl
  have hZ : va_Z "PegWatch$Compass" n "[I" (.ref (ar k)) (fun q => z ≤ q) s H := by
    rcases hk with ⟨rfl, rfl⟩ | ⟨rfl, rfl⟩
    · exact hW.2.2.2.2.1
    · exact hW.2.2.2.2.2
  obtain ⟨cf, kf, fi, f, a, cell, h1, h2, h3, h4, h5, h6, h7, h8⟩ := hZ
  rcases hL with hL | ⟨host, hL⟩
  · exact W.gets C.1 C.2.1 C.2.2.2.2.1 (C.2.2.2.2.2.1 _ hL) h1 h2 h3 h4 h5 (fun e => by rw [e] at h6; cases h6) h7 rfl hd (kk l p e R s mi args below meth c Z z D ar ac H locs cells slots ls C E hW hF hB hl)
  · exact va_WgetsN C.1 C.2.1 C.2.2.2.2.1 (va_Nw.use rfl (hW.2.2.1.2.1 _ hL)) h1 h2 h3 h4 h5 (fun e => by rw [e] at h6; cases h6) h7 rfl hd (kk l p e R s mi args below meth c Z z D ar ac H locs cells slots ls C E hW hF hB hl)
/-- an array of references -/
theorem r_aald {a ci n b : Nat} {f : Nat → Option Nat} {i : Int32} (hd : dc1 (mB m) pc .aaload pc') (hc : h[a]? = some (.inr (.inl (ci, n, f)))) (hin : vp_in i n) (hb : f i.toNatClampNeg = some b) (kk : RR xs m pc' lv (.ref b :: st) h bc bs Q) : RR xs m pc lv (.int i :: .ref a :: st) h bc bs Q := by
  obtain ⟨hd, rfl⟩ := hd
  intro l p e R s mi args below meth c Z z D ar ac H locs cells slots ls C E hW hF hB hl
  have hlt : i.toNatClampNeg < n := Nat.not_le.mp fun q => hin (Or.inr q)
  obtain ⟨r, hr, g1, g2⟩ := (hW.2.1 a _ hc).2
  exact W.aald (v := .ref (z + b)) (ty := .object r.1) C.1 C.2.1 (hW.2.1 a _ hc).1 (g1 n (fun j => va_rf ((f j).map (fun x => z + x)))) rfl arrNo (by rw [arrV_size]; exact hin) (by rw [arrV_read _ _ hlt, hb]; rfl) rfl rfl hd (kk l p e R s mi args below meth c Z z D ar ac H locs cells slots ls C E hW hF hB hl)
theorem r_aast {a ci n b : Nat} {f : Nat → Option Nat} {fs : List Value} {i : Int32} (hd : dc1 (mB m) pc .aastore pc') (hc : h[a]? = some (.inr (.inl (ci, n, f)))) (hin : vp_in i n) (hb : h[b]? = some (.inr (.inr (ci, fs)))) (kk : RR xs m pc' lv st (h.set a (.inr (.inl (ci, n, va_up f i.toNatClampNeg (some b))))) bc bs Q) : RR xs m pc lv (.ref b :: .int i :: .ref a :: st) h bc bs Q := by
  obtain ⟨hd, rfl⟩ := hd
  intro l p e R s mi args below meth c Z z D ar ac H locs cells slots ls C E hW hF hB hl
  have hlt : i.toNatClampNeg < n := Nat.not_le.mp fun q => hin (Or.inr q)
  have h0 : ¬ i < 0 := fun q => hin (Or.inl q)
  obtain ⟨r', hr', -, cellV, g1, g2, g3, -⟩ := (hW.2.1 b _ hb).1
  obtain ⟨r, hr, t1, t2⟩ := (hW.2.1 a _ hc).2
  cases hr.symm.trans hr'
  have hcls := (hW.2.2.1.1.1 ci _ hr).2
  obtain ⟨kA, comp, k1, k2, k3, k4⟩ := t2
  have hcomp : comp = D.1 ci := Option.some.inj (k3.symm.trans hcls.1)
  subst hcomp
  obtain ⟨kC, hkC, -⟩ := hcls.2
  refine W.aast C.1 C.2.1 (hW.2.1 a _ hc).1 (fun q h => by cases h) (fun h => by cases h) k1 k2 rfl hkC ⟨h0, by rw [arrV_size]; exact hlt⟩ g1 (fun q h => by rw [g3] at h; cases h) (by rw [g2]; exact hkC) (by rw [g2]; exact va_assign hcls) rfl rfl hd fun H' e1 e2 e3 => ?_
  have e1' : H'[z + a]? = some (arrV (ac a) n (fun j => va_rf ((va_up f i.toNatClampNeg (some b) j).map (fun x => z + x)))) := by
    rw [e1, arrV_store]
    congr 2
    funext q
    by_cases hq : q = i.toNatClampNeg
    · subst hq
      simp [updV, va_up, va_rf]
    · simp [updV, va_up, hq]
  exact kk l p e R s mi args below meth c Z z D ar ac H' _ cells slots ls C E (hW.upd e2 e3 e1' ⟨_, hr, t1, kA, D.1 ci, k1, k2, k3, k4⟩) (hF.put e3) hB hl
end HEAP
end
section
/-! making cells; calls; a contract out of RR -/
section MAKE
variable {xs : List Int32} {m : Md} {pc pc' tgt : Nat} {lv : List Value} {st : List Value} {h : List Ce} {bc bs : Nat} {Q : Option Value → List Ce → Prop}
def acU (ac : Nat → ClassId) (k : Nat) (cA : ClassId) : Nat → ClassId := fun j => if j = k then cA else ac j
def dvs (ci : Nat) (n : Nat) : List Value := (List.range n).map fun k => defaultValue (clT ci k)
theorem tv_dv (z : Nat) (ar : Nat → Nat) (t : FieldType) : tv z ar (defaultValue t) = defaultValue t := by cases t <;> rfl
theorem r_new {idx ci n : Nat} (hd : dc3 (mB m) pc (.new idx) pc') (hL : ∃ r : vw_C, clsL[ci]? = some r ∧ r.2.2 = n ∧ Cond.classLink (mY m).cls idx r.1 ∈ wsG ∧ Cond.instantiable r.1 n ∈ wsG ∧ Cond.initialized r.1 ∈ wsG) (kk : RR xs m pc' lv (.ref h.length :: st) (h ++ [.inr (.inr (ci, dvs ci n))]) bc bs Q) : RR xs m pc lv st h (bc + 1) (bs + n) Q := by
  obtain ⟨hd, rfl⟩ := hd
  intro l p e R s mi args below meth c Z z D ar ac H locs cells slots ls C E hW hF hB hl
  obtain ⟨r, hr, rfl, hL1, hL2, hL3⟩ := hL
  have hKn := hW.2.2.1.1.1 ci _ hr
  have hok := cl_ok hr
  refine W.newcK C.1 C.2.1 C.2.2.2.2.1 (C.2.2.2.2.2.1 _ hL1) (C.2.2.2.2.2.1 _ hL2) (C.2.2.2.2.2.1 _ hL3) rfl hd (by omega) (by omega) hKn.2.1 hW.1 fun H1 kC hkC e1 z1 o1 => ?_
  refine kk l p e R s mi args below meth c Z z D ar ac H1 locs (cells + 1) (slots + r.2.2) ls C E (hW.push (by rw [z1, hW.1]) (fun q hq => o1 q (by rw [← hW.1]; exact hq)) (fun _ _ => rfl) ⟨r, hr, by simp [dvs], (u_born (clT ci) C.2.2.2.2.2.1 hok.1 hKn hkC e1 hok.2.1).to fun k hk => ?_⟩ trivial) ⟨fun q hq => (o1 q (by omega)).trans (hF.1 q hq), hF.2⟩ (by omega) hl
  simp [dvs, vp_V, hk, tv_dv]
theorem r_newi {n : Int32} {N : Nat} (hd : dc2 (mB m) pc (.newarray .int) pc') (hw : Cond.arrayClass .int ∈ wsG) (hn : ¬ n < 0) (hN : n.toNatClampNeg = N) (hb : N ≤ 100000) (kk : RR xs m pc' lv (.ref h.length :: st) (h ++ [.inl (0, N, fun _ => 0)]) bc bs Q) : RR xs m pc lv (.int n :: st) h (bc + 1) (bs + N) Q := by
  obtain ⟨hd, rfl⟩ := hd
  intro l p e R s mi args below meth c Z z D ar ac H locs cells slots ls C E hW hF hB hl
  refine va_newaK (atype := .int) C.1 C.2.1 (C.2.2.2.2.2.1 _ hw) rfl hd rfl hn hN (by show N * 4 ≤ _; omega) (by omega) (by omega) hW.1 fun H1 cA e1 z1 o1 hAr hNm => ?_
  refine kk l p e R s mi args below meth c Z z D ar (acU ac h.length cA) H1 locs (cells + 1) (slots + N) ls C E (hW.push (by rw [z1, hW.1]) (fun q hq => o1 q (by rw [← hW.1]; exact hq)) (fun a ha => by simp [acU, Nat.ne_of_lt ha]) ?_ ?_) ⟨fun q hq => (o1 q (by omega)).trans (hF.1 q hq), hF.2⟩ (by omega) hl
  · show H1[z + h.length]? = some (arrV (acU ac h.length cA h.length) N _)
    rw [show acU ac h.length cA h.length = cA from if_pos rfl, e1]; rfl
  · show ArrOfT s (acU ac h.length cA h.length) _
    rw [show acU ac h.length cA h.length = cA from if_pos rfl]; exact hAr
theorem r_newz {n : Int32} {N : Nat} (hd : dc2 (mB m) pc (.newarray .boolean) pc') (hw : Cond.arrayClass .boolean ∈ wsG) (hn : ¬ n < 0) (hN : n.toNatClampNeg = N) (hb : N ≤ 100000) (kk : RR xs m pc' lv (.ref h.length :: st) (h ++ [.inl (1, N, fun _ => 0)]) bc bs Q) : RR xs m pc lv (.int n :: st) h (bc + 1) (bs + N) Q := by
  obtain ⟨hd, rfl⟩ := hd
  intro l p e R s mi args below meth c Z z D ar ac H locs cells slots ls C E hW hF hB hl
  refine va_newaK (atype := .boolean) C.1 C.2.1 (C.2.2.2.2.2.1 _ hw) rfl hd rfl hn hN (by show N * 1 ≤ _; omega) (by omega) (by omega) hW.1 fun H1 cA e1 z1 o1 hAr hNm => ?_
  refine kk l p e R s mi args below meth c Z z D ar (acU ac h.length cA) H1 locs (cells + 1) (slots + N) ls C E (hW.push (by rw [z1, hW.1]) (fun q hq => o1 q (by rw [← hW.1]; exact hq)) (fun a ha => by simp [acU, Nat.ne_of_lt ha]) ?_ ?_) ⟨fun q hq => (o1 q (by omega)).trans (hF.1 q hq), hF.2⟩ (by omega) hl
  · show H1[z + h.length]? = some (arrV (acU ac h.length cA h.length) N _)
    rw [show acU ac h.length cA h.length = cA from if_pos rfl, e1]; rfl
  · show ArrOfT s (acU ac h.length cA h.length) _
    rw [show acU ac h.length cA h.length = cA from if_pos rfl]; exact hAr
theorem r_newq {idx ci : Nat} {n : Int32} {N : Nat} (hd : dc3 (mB m) pc (.anewarray idx) pc') (hL : ∃ r : vw_C, clsL[ci]? = some r ∧ r.1 ∈ aoL ∧ Cond.classLink (mY m).cls idx r.1 ∈ wsG) (hn : ¬ n < 0) (hN : n.toNatClampNeg = N) (hb : N ≤ 100000) (kk : RR xs m pc' lv (.ref h.length :: st) (h ++ [.inr (.inl (ci, N, fun _ => none))]) bc bs Q) : RR xs m pc lv (.int n :: st) h (bc + 1) (bs + N) Q := by
  obtain ⟨hd, rfl⟩ := hd
  intro l p e R s mi args below meth c Z z D ar ac H locs cells slots ls C E hW hF hB hl
  obtain ⟨r, hr, hL1, hL2⟩ := hL
  subst hN
  refine W.anew C.1 C.2.1 C.2.2.2.2.1 (C.2.2.2.2.2.1 _ hL2) (va_AO.use (hW.2.2.1.2.2 _ hL1)) rfl hd rfl hn (by omega) (by omega) (by omega) fun cA kA comp f1 f2 f3 f4 => ?_
  generalize hH1 : H.push ({ cls := cA, slots := Array.replicate n.toNatClampNeg .null, vm := .none } : Cell) = H1
  have z1 : H1.size = H.size + 1 := by rw [← hH1, Array.size_push]
  have e1 : H1[H.size]? = some (arrV cA n.toNatClampNeg (fun _ => .null)) := by rw [← hH1, Array.getElem?_push_size, ← arrV_new]
  have o1 : ∀ q : Nat, q < H.size → H1[q]? = H[q]? := fun q hq => by rw [← hH1, Array.getElem?_push, if_neg (Nat.ne_of_lt hq)]
  have hAr : ArrOfT s cA (.object r.1) := fun N z => ⟨(fun k h => by cases h), kA, f2, comp, f3⟩
  have hk := kk l p e R s mi args below meth c Z z D ar (acU ac h.length cA) H1 locs (cells + 1) (slots + n.toNatClampNeg) ls C E (hW.push z1 o1 (fun a ha => by simp [acU, Nat.ne_of_lt ha]) (by
    show H1[z + h.length]? = some (arrV (acU ac h.length cA h.length) n.toNatClampNeg _)
    rw [show acU ac h.length cA h.length = cA from if_pos rfl, ← hW.1, e1]; rfl) (by
    refine ⟨r, hr, ?_, ?_⟩
    · rw [show acU ac h.length cA h.length = cA from if_pos rfl]; exact hAr
    · rw [show acU ac h.length cA h.length = cA from if_pos rfl]; exact ⟨kA, comp, f2, f3, f4, f1⟩)) ⟨fun q hq => (o1 q (by have := hW.1; omega)).trans (hF.1 q hq), hF.2⟩ (by omega) hl
  rw [show H.size = z + h.length from hW.1]
  exact hk
end MAKE
/-- the locals at a method's entry: a long takes two places -/
def ent (vs : List Value) : List Value := vs.flatMap fun v => if v.category = 2 then [v, .null] else [v]
theorem ent_get (vs : List Value) (z : Nat) (ar : Nat → Nat) : ∀ (k i : Nat) (v : Value), (ent vs)[i]? = some v → v ≠ .null → (k + i, tv z ar v) ∈ lv_args k (vs.map (tv z ar)) := by
  induction vs with
  | nil => intro k i v h; simp [ent] at h
  | cons u us ih =>
    intro k i v h hn
    simp only [ent, List.flatMap_cons, List.map_cons, lv_args, tv_cat] at h ⊢
    by_cases hc : u.category = 2
    · rw [if_pos hc] at h ⊢
      match i, h with
      | 0, h => simp at h; subst h; exact List.mem_cons_self
      | 1, h => simp at h; exact absurd h.symm hn
      | i + 2, h =>
        have h' : (ent us)[i]? = some v := by simpa [ent] using h
        have := ih (k + 2) i v h' hn
        rw [show k + (i + 2) = k + 2 + i by omega]
        exact List.mem_cons_of_mem _ this
    · rw [if_neg hc] at h ⊢
      match i, h with
      | 0, h => simp at h; subst h; exact List.mem_cons_self
      | i + 1, h =>
        have h' : (ent us)[i]? = some v := by simpa [ent] using h
        have := ih (k + 1) i v h' hn
        rw [show k + (i + 1) = k + 1 + i by omega]
        exact List.mem_cons_of_mem _ this
theorem ent_len (vs : List Value) (z : Nat) (ar : Nat → Nat) : (lg_sl (vs.map (tv z ar))).length = (ent vs).length := by
  induction vs with
  | nil => rfl
  | cons u us ih =>
    simp only [lg_sl, ent, List.flatMap_cons, List.map_cons, List.length_append, tv_cat] at ih ⊢
    rw [ih]
    by_cases hc : u.category = 2
    · simp [hc]
    · simp [hc]
def PreC (xs : List Int32) (z : Nat) (D : va_G) (ar : Nat → Nat) (ac : Nat → ClassId) (h : List Ce) (as : List Value) : Array Value → State → Prop := fun v U => v = (as.map (tv z ar)).toArray ∧ Wd xs z D ar ac h U U.heap
def PostC (xs : List Int32) (z : Nat) (D : va_G) (ar : Nat → Nat) (Q : Option Value → List Ce → Prop) : Array Value → State → Outcome → State → Prop := fun _ st oc t =>
  ∃ (r : Option Value) (h' : List Ce) (ac' : Nat → ClassId), oc = .returned (r.map (tv z ar)) ∧ Q r h' ∧ Wd xs z D ar ac' h' t t.heap ∧ ∀ q : Nat, q < z → t.heap[q]? = st.heap[q]?
def rmC (m : Md) (bc bs : Nat) : Room := { frames := mF m, cells := bc, slots := bs, locals := mO m }
def wsC (m : Md) : List Cond := Cond.code (mY m) (mB m) (mL m) (mR m) :: wsG
theorem MetOf {xs : List Int32} {m : Md} {as : List Value} {h : List Ce} {bc bs : Nat} {Q : Option Value → List Ce → Prop} (hy : plainFor (mY m) = true) (hlen : (ent as).length ≤ mL m) (kk : RR xs m 0 (ent as) [] h bc bs Q) (l : Launch) (z : Nat) (D : va_G) (ar : Nat → Nat) (ac : Nat → ClassId) :
    Met l (mY m) (wsC m) (rmC m bc bs) (PreC xs z D ar ac h as) (PostC xs z D ar Q) bc bs (fun q => z ≤ q) := by
  refine va_MetF (cc := mB m) (maxL := mL m) (ret := mR m) hy rfl ?_
  intro p e s mi args below meth c s₁ B hml hv
  obtain ⟨rfl, hW⟩ := hv
  have hts := atoms_spec (ws := wsC m) B.pre
  rw [lg_entry_eq]
  have hl := lv_entry (as.map (tv z ar)) (n := mL m) (by rw [ent_len]; exact hlen)
  refine kk l p e _ s mi _ below meth c _ z D ar ac s.heap [] 0 0 _ ⟨B.exec, B.bytes, hml, B.returns, findClass_of_methodNamed B.named, fun w hw => hts w (List.mem_cons_of_mem _ hw), B.notSynchronized, (name_of_methodNamed B.named B.method).1, Nat.le_refl _, Nat.le_refl _⟩ ?_ hW ⟨fun _ _ => rfl, fun _ h => by cases h⟩ ⟨by show 0 + bc ≤ bc; omega, by show 0 + bs ≤ bs; omega⟩ ⟨hl.1, hl.2.1, fun i v hi hn => by have := hl.2.2 _ (ent_get as z ar 0 i v hi hn); simpa using this⟩
  intro r h' ac' H' locs' cells' slots' pc' ls' hq hW' hF' hc hs hd
  have hlocks := B.notSynchronized
  refine W.widen (k := bc) (n := bs) hc hs ?_
  have hpost : ∀ (r0 : Option Value), r0 = r.map (tv z ar) → ∀ t : State, t.heap = H' → s.WarmedH t.vm → PostC xs z D ar Q (as.map (tv z ar)).toArray s (.returned r0) t := by
    intro r0 hr0 t ht hWt
    exact ⟨r, h', ac', by rw [hr0], hq, by rw [ht]; exact hW'.moved hWt, fun q hqz => by rw [ht]; exact hF'.1 q hqz⟩
  match r, hd with
  | none, hd => exact W.vret B.exec B.bytes (B.returns.trans hd.2) (hpost _ rfl) hF'.2 hd.1
  | some (.int v), hd =>
    obtain ⟨hd1, ty, hty, hn⟩ := hd
    exact W.zret B.exec B.bytes (B.returns.trans hty) hn (hpost _ rfl) hF'.2 hd1
  | some (.long v), hd => exact W.lret B.exec B.bytes (B.returns.trans hd.2) (hpost _ rfl) hF'.2 hd.1
  | some (.ref v), hd =>
    obtain ⟨hd1, n, hn⟩ := hd
    exact W.aret B.exec B.bytes (B.returns.trans hn) (Or.inl ⟨n, rfl⟩) (Or.inr ⟨_, rfl⟩) (hpost _ rfl) hF'.2 hd1
theorem Wd.back {xs : List Int32} {z : Nat} {D : va_G} {ar : Nat → Nat} {ac : Nat → ClassId} {h : List Ce} {s t : State} {H : Heap} (hvm : t.vm.Alike s.vm) (hK : KS D s) (w : Wd xs z D ar ac h t H) : Wd xs z D ar ac h s H :=
  ⟨w.1, fun a c hc => ⟨(w.2.1 a c hc).1, (w.2.1 a c hc).2.moved hvm⟩, hK, w.2.2.2.moved hvm⟩
theorem PreC.blind {xs : List Int32} {z : Nat} {D : va_G} {ar : Nat → Nat} {ac : Nat → ClassId} {h : List Ce} {as : List Value} : FrameBlind (PreC xs z D ar ac h as) := by
  intro a U g mk q
  exact ⟨q.1, q.2.moved (U := U.calling g mk a) (State.WarmedH.refl U)⟩
def ML (own : String) (idx : Nat) (y : MethodName) : Prop := Cond.methodLink own idx y ∈ wsG ∨ ∃ host, Cond.methodLinkNest own idx y host ∈ nestW
def MC (mj : Md) (n : Nat) : Prop := Cond.code (mY mj) (mB mj) (mL mj) (mR mj) ∈ wsG ∧ Cond.initialized (mY mj).cls ∈ wsG ∧ plainFor (mY mj) = true ∧ (mY mj).cls ≠ "java/lang/invoke/MethodHandle" ∧ (mY mj).cls ≠ "java/lang/invoke/VarHandle" ∧ (parseMethodDescriptor (mY mj).desc).map (fun d => d.parameters.length) = some n
def RmOk (m mj : Md) : Prop := mF mj + 1 ≤ mF m ∧ 8 + (mL mj + 11) + mO mj ≤ mO m
theorem good_wsC {mj : Md} (h : Cond.code (mY mj) (mB mj) (mL mj) (mR mj) ∈ wsG) : GoodIn wsG (wsC mj) := by
  have hg : ∀ w ∈ wsG, w ∈ wsG ∧ ((w.onTables && w.keeps) = true ∨ ∃ ty, w = .arrayClass ty) := fun w hw => ⟨hw, good_of_word (List.mem_filter.mp hw).2⟩
  intro w hw
  rcases List.mem_cons.mp hw with rfl | hw
  · exact hg _ h
  · exact hg w hw
theorem tv_rest (z : Nat) (ar : Nat → Nat) (r : Option Value) (st : List Value) : (r.map (tv z ar)).toList ++ st.map (tv z ar) = (r.toList ++ st).map (tv z ar) := by cases r <;> simp
theorem tv_sum (z : Nat) (ar : Nat → Nat) (st : List Value) : ((st.map (tv z ar)).map fun v => v.category) = st.map fun v => v.category := by
  rw [List.map_map]
  exact List.map_congr_left fun v _ => tv_cat z ar v
section CALL
variable {xs : List Int32} {m mj : Md} {pc pc' : Nat} {lv : List Value} {st as : List Value} {h : List Ce} {bc bs b1 b2 n idx : Nat} {Q Q1 : Option Value → List Ce → Prop}
/-- behind a call -/
theorem r_back {l : Launch} {p : Program} {e : Env} {R : Room} {s : State} {mi : MethodId} {args : Array Value} {below : List Frame} {meth : Method} {c : Code} {Z : State → Prop} {z : Nat} {D : va_G} {ar : Nat → Nat} {ac : Nat → ClassId} {H : Heap} {locs : List Loc} {cells slots : Nat} {ls : Array Slot} {st0 : List Value} {a9 : Array Value}
    (C : Cx m p s mi args meth c R) (E : ExR xs m Q l p e R s mi args below meth c Z z D ar) (hW : Wd xs z D ar ac h s H) (hF : Fr z s H locs) (hB : cells + (bc + b1) ≤ R.cells ∧ slots + (bs + b2) ≤ R.slots) (hl : LH z ar ls (mL m) lv)
    (run : va_Run p l e R s mi args below meth c H locs cells slots b1 b2 (F0 mi pc ls st0) (st.map (tv z ar)) (PostC xs z D ar Q1 a9) (fun q => z ≤ q))
    (kk : ∀ r h', Q1 r h' → RR xs m (pc + 3) lv (r.toList ++ st) h' bc bs Q) : W p l e R s mi args below meth c H locs cells slots Z (F0 mi pc ls st0) := by
  intro T hT X
  obtain ⟨v, st₀, t, T', L, h0, X', hL, e1, e2, ⟨r, h', ac', hv, hq, hWd, hq2⟩, step⟩ := run T hT X
  have hv' : v = r.map (tv z ar) := by cases hv; rfl
  subst hv'
  have hal : s.vm.Alike t.vm := by rw [← e2]; exact X'.warmed.alike
  have hWs : Wd xs z D ar ac' h' s T'.heap := by rw [e1]; exact hWd.back hal.symm hW.2.2.1
  have hFs : Fr z s T'.heap (locs ++ L) := by
    refine ⟨fun q hqz => ?_, fun q hqm => ?_⟩
    · rw [e1, hq2 q hqz, h0]; exact hF.1 q hqz
    · rcases List.mem_append.mp hqm with g | g
      · exact hF.2 q g
      · exact hL q g
  obtain ⟨t2, a1, b1'⟩ := kk r h' hq l p e R s mi args below meth c Z z D ar ac' T'.heap (locs ++ L) (cells + b1) (slots + b2) ls C E hWs hFs (by omega) hl T' rfl X'
  rw [← tv_rest] at a1
  exact ⟨t2, step t2 a1, b1'⟩
theorem r_callS (hd : dc3 (mB m) pc (.invokestatic idx) pc') (hL : ML (mY m).cls idx (mY mj)) (hC : MC mj n) (hS : Cond.static (mY mj) ∈ wsG) (hR : RmOk m mj) (hn : as.length = n) (hs : (st.map fun v => v.category).sum ≤ 8) (hlen : (ent as).length ≤ mL mj)
    (k1 : RR xs mj 0 (ent as) [] h b1 b2 Q1) (kk : ∀ r h', Q1 r h' → RR xs m pc' lv (r.toList ++ st) h' bc bs Q) : RR xs m pc lv (as.reverse ++ st) h (bc + b1) (bs + b2) Q := by
  obtain ⟨hd, rfl⟩ := hd
  intro l p e R s mi args below meth c Z z D ar ac H locs cells slots ls C E hW hF hB hl
  have hM := MetOf hC.2.2.1 hlen k1 l z D ar ac
  have hRm : (rmC mj b1 b2).frames + 1 ≤ R.frames ∧ 8 + (mL mj + 11) + (rmC mj b1 b2).locals ≤ R.locals := ⟨Nat.le_trans hR.1 C.2.2.2.2.2.2.2.2.1, Nat.le_trans hR.2 C.2.2.2.2.2.2.2.2.2⟩
  have hfix : CallFix p mi c (mB m) (mL m) s args wsG (mY m).cls := ⟨C.1, C.2.1, C.2.2.1, C.2.2.2.2.1, C.2.2.2.2.2.1⟩
  have hpre : PreS s H (PreC xs z D ar ac h as) (as.map (tv z ar)) := ⟨PreC.blind, fun U hU hWU => ⟨rfl, by rw [hU]; exact hW.moved hWU⟩⟩
  have hst : (F0 mi pc ls ((as.reverse ++ st).map (tv z ar))).stack = (as.map (tv z ar)).reverse ++ st.map (tv z ar) := by simp
  have hsum : 2 * (F0 mi pc ls ((as.reverse ++ st).map (tv z ar))).monitorRoom + ((st.map (tv z ar)).map fun v => v.category).sum ≤ 8 := lv_room (by rw [tv_sum]; exact hs)
  refine r_back (a9 := (as.map (tv z ar)).toArray) C E hW hF hB hl ?_ kk
  rcases hL with hL | ⟨host, hL⟩
  · exact va_runS hfix hM ⟨callB_of n C.2.2.2.2.2.1 (good_wsC hC.1) rfl rfl rfl (C.2.2.2.2.2.1 _ hC.2.1) (C.2.2.2.2.2.1 _ hL) ⟨hC.2.2.2.1, hC.2.2.2.2.1, hC.2.2.2.2.2⟩ hRm, C.2.2.2.2.2.1 _ hS⟩ hpre rfl (by rw [List.length_map]; exact hn) hl.1 hst hsum hd ⟨by omega, by omega⟩
  · exact va_runSN hfix hM ⟨va_cnB n C.2.2.2.2.2.1 (good_wsC hC.1) rfl rfl rfl (hW.2.2.1.2.1 _ hL) (C.2.2.2.2.2.1 _ hC.2.1) ⟨hC.2.2.2.1, hC.2.2.2.2.1, hC.2.2.2.2.2⟩ hRm, C.2.2.2.2.2.1 _ hS, trivial⟩ hpre rfl (by rw [List.length_map]; exact hn) hl.1 hst hsum hd ⟨by omega, by omega⟩
theorem r_callV {b ci : Nat} {fs : List Value} (hd : dc3 (mB m) pc (.invokevirtual idx) pc') (hL : Cond.methodLink (mY m).cls idx (mY mj) ∈ wsG) (hC : MC mj n) (hS : Cond.instanceMethod (mY mj) ∈ wsG ∧ Cond.selects (mY mj).cls (mY mj) (mY mj) ∈ wsG) (hR : RmOk m mj) (hb : h[b]? = some (.inr (.inr (ci, fs)))) (hci : ∃ r : vw_C, clsL[ci]? = some r ∧ r.1 = (mY mj).cls) (hn : as.length = n) (hs : (st.map fun v => v.category).sum ≤ 8) (hlen : (ent (.ref b :: as)).length ≤ mL mj)
    (k1 : RR xs mj 0 (ent (.ref b :: as)) [] h b1 b2 Q1) (kk : ∀ r h', Q1 r h' → RR xs m pc' lv (r.toList ++ st) h' bc bs Q) : RR xs m pc lv (as.reverse ++ .ref b :: st) h (bc + b1) (bs + b2) Q := by
  obtain ⟨hd, rfl⟩ := hd
  intro l p e R s mi args below meth c Z z D ar ac H locs cells slots ls C E hW hF hB hl
  have hM := MetOf hC.2.2.1 hlen k1 l z D ar ac
  have hRm : (rmC mj b1 b2).frames + 1 ≤ R.frames ∧ 8 + (mL mj + 11) + (rmC mj b1 b2).locals ≤ R.locals := ⟨Nat.le_trans hR.1 C.2.2.2.2.2.2.2.2.1, Nat.le_trans hR.2 C.2.2.2.2.2.2.2.2.2⟩
  have hfix : CallFix p mi c (mB m) (mL m) s args wsG (mY m).cls := ⟨C.1, C.2.1, C.2.2.1, C.2.2.2.2.1, C.2.2.2.2.2.1⟩
  obtain ⟨r, hr, hrc⟩ := hci
  have hrecv : ∃ cellB : Cell, H[z + b]? = some cellB ∧ cellB.vm.isStatics = false ∧ s.vm.findClass (mY mj).cls = some cellB.cls := by
    obtain ⟨r', h1, -, cell, q1, q2, q3, -⟩ := (hW.2.1 b _ hb).1
    cases hr.symm.trans h1
    exact ⟨cell, q1, by rw [q3]; rfl, by rw [q2, ← hrc]; exact (hW.2.2.1.1.1 ci _ h1).2.1⟩
  have hpre : PreV s H (mY mj).cls (z + b) (PreC xs z D ar ac h (.ref b :: as)) (as.map (tv z ar)) := ⟨PreC.blind, hrecv, fun U hU hWU => ⟨rfl, by rw [hU]; exact hW.moved hWU⟩⟩
  refine r_back (a9 := (Value.ref (z + b) :: as.map (tv z ar)).toArray) C E hW hF hB hl ?_ kk
  exact va_runV hfix hM ⟨callB_of n C.2.2.2.2.2.1 (good_wsC hC.1) rfl rfl rfl (C.2.2.2.2.2.1 _ hC.2.1) (C.2.2.2.2.2.1 _ hL) ⟨hC.2.2.2.1, hC.2.2.2.2.1, hC.2.2.2.2.2⟩ hRm, C.2.2.2.2.2.1 _ hS.1, C.2.2.2.2.2.1 _ hS.2⟩ hpre rfl (by rw [List.length_map]; exact hn) hl.1 (by simp [tv]) (lv_room (by rw [tv_sum]; exact hs)) hd ⟨by omega, by omega⟩
theorem r_callI {b : Nat} (hd : dc3 (mB m) pc (.invokespecial idx) pc') (hL : Cond.methodLink (mY m).cls idx (mY mj) ∈ wsG) (hC : MC mj n) (hS : Cond.instanceMethod (mY mj) ∈ wsG) (hi : (mY mj).name = "<init>") (hv : mR mj = none) (hR : RmOk m mj) (hn : as.length = n) (hs : (st.map fun v => v.category).sum ≤ 8) (hlen : (ent (.ref b :: as)).length ≤ mL mj)
    (k1 : RR xs mj 0 (ent (.ref b :: as)) [] h b1 b2 Q1) (kk : ∀ r h', Q1 r h' → RR xs m pc' lv (r.toList ++ st) h' bc bs Q) : RR xs m pc lv (as.reverse ++ .ref b :: st) h (bc + b1) (bs + b2) Q := by
  obtain ⟨hd, rfl⟩ := hd
  intro l p e R s mi args below meth c Z z D ar ac H locs cells slots ls C E hW hF hB hl
  have hM := MetOf hC.2.2.1 hlen k1 l z D ar ac
  have hRm : (rmC mj b1 b2).frames + 1 ≤ R.frames ∧ 8 + (mL mj + 11) + (rmC mj b1 b2).locals ≤ R.locals := ⟨Nat.le_trans hR.1 C.2.2.2.2.2.2.2.2.1, Nat.le_trans hR.2 C.2.2.2.2.2.2.2.2.2⟩
  have hfix : CallFix p mi c (mB m) (mL m) s args wsG (mY m).cls := ⟨C.1, C.2.1, C.2.2.1, C.2.2.2.2.1, C.2.2.2.2.2.1⟩
  have hpre : PreS s H (PreC xs z D ar ac h (.ref b :: as)) (.ref (z + b) :: as.map (tv z ar)) := ⟨PreC.blind, fun U hU hWU => ⟨rfl, by rw [hU]; exact hW.moved hWU⟩⟩
  have hcb := callB_of (R := R) n C.2.2.2.2.2.1 (good_wsC hC.1) rfl rfl rfl (C.2.2.2.2.2.1 _ hC.2.1) (C.2.2.2.2.2.1 _ hL) ⟨hC.2.2.2.1, hC.2.2.2.2.1, hC.2.2.2.2.2⟩ hRm
  rw [hv] at hcb
  refine r_back (a9 := (Value.ref (z + b) :: as.map (tv z ar)).toArray) C E hW hF hB hl ?_ kk
  exact va_runI hfix hM ⟨hcb, hi, C.2.2.2.2.2.1 _ hS⟩ hpre rfl (by rw [List.length_map]; exact hn) hl.1 (by simp [tv]) (lv_room (by rw [tv_sum]; exact hs)) hd ⟨by omega, by omega⟩
theorem r_objInit {b : Nat} (hd : dc3 (mB m) pc (.invokespecial idx) pc') (hL : Cond.methodLink (mY m).cls idx Lib.objectInit ∈ wsG) (hi : Cond.instanceMethod Lib.objectInit ∈ wsG) (hc : Cond.code Lib.objectInit ⟨#[0xb1]⟩ 1 none ∈ wsG) (hf : 1 ≤ mF m) (hs : (st.map fun v => v.category).sum + 12 ≤ mO m) (kk : RR xs m pc' lv st h bc bs Q) : RR xs m pc lv (.ref b :: st) h bc bs Q := by
  obtain ⟨hd, rfl⟩ := hd
  intro l p e R s mi args below meth c Z z D ar ac H locs cells slots ls C E hW hF hB hl
  exact W.objInit C.1 C.2.1 C.2.2.2.2.1 (C.2.2.2.2.2.1 _ hL) (C.2.2.2.2.2.1 _ hi) (C.2.2.2.2.2.1 _ hc) rfl (hl.1.trans C.2.2.1.symm) rfl hd (Nat.le_trans hf C.2.2.2.2.2.2.2.2.1) (by show 2 * 0 + _ + 12 ≤ _; rw [tv_sum]; have := C.2.2.2.2.2.2.2.2.2; omega) (kk l p e R s mi args below meth c Z z D ar ac H locs cells slots ls C E hW hF hB hl)
/-- System.arraycopy between int arrays -/
theorem r_copy {a0 a n0 n1 : Nat} {f g : Nat → Int32} {sp dp cn : Int32} (hd : dc3 (mB m) pc (.invokestatic idx) pc') (hL : Cond.methodLink (mY m).cls idx arraycopyName ∈ wsG) (hw : Cond.native arraycopyName ∈ wsG ∧ Cond.static arraycopyName ∈ wsG ∧ Cond.initialized "java/lang/System" ∈ wsG) (hc0 : h[a0]? = some (.inl (0, n0, f))) (hc1 : h[a]? = some (.inl (0, n1, g)))
    (h1 : ¬ sp < 0) (h2 : ¬ dp < 0) (h3 : ¬ cn < 0) (h4 : sp.toNatClampNeg + cn.toNatClampNeg ≤ n0) (h5 : dp.toNatClampNeg + cn.toNatClampNeg ≤ n1) (hf : 1 ≤ mF m) (hs : (st.map fun v => v.category).sum + (nativeFrameWords "java/lang/System" "arraycopy" 5 + 11) ≤ mO m)
    (kk : RR xs m pc' lv st (h.set a (.inl (0, n1, va_cpy f g sp.toNatClampNeg dp.toNatClampNeg cn.toNatClampNeg))) bc bs Q) : RR xs m pc lv (.int cn :: .int dp :: .ref a :: .int sp :: .ref a0 :: st) h bc bs Q := by
  obtain ⟨hd, rfl⟩ := hd
  intro l p e R s mi args below meth c Z z D ar ac H locs cells slots ls C E hW hF hB hl
  have nn : ∀ z : Int32, ¬ z < 0 → z.toInt = (z.toNatClampNeg : Int) := by
    intro z hz
    have hz0 : (0 : Int) ≤ z.toInt := by
      have := Int32.not_lt.mp hz
      simpa using Int32.le_iff_toInt_le.mp this
    show z.toInt = ((z.toInt.toNat : Nat) : Int)
    omega
  intro T hT X
  have hk0 : H[z + a0]? = some (arrV (ac a0) n0 (fun j => .int (f j))) := (hW.2.1 a0 _ hc0).1
  have hk1 : H[z + a]? = some (arrV (ac a) n1 (fun j => .int (g j))) := (hW.2.1 a _ hc1).1
  obtain ⟨-, q0, hq0, cm0, hkk0⟩ := (hW.2.1 a0 _ hc0).2 n0 (fun j => .int (f j))
  obtain ⟨-, q1, hq1, cm1, hkk1⟩ := (hW.2.1 a _ hc1).2 n1 (fun j => .int (g j))
  obtain ⟨vm', X', step⟩ := X.arraycopy C.1 C.2.2.2.2.1 (C.2.2.2.2.2.1 _ hL) (C.2.2.2.2.2.1 _ hw.1) (C.2.2.2.2.2.1 _ hw.2.1) (C.2.2.2.2.2.1 _ hw.2.2) (src := z + a0) (dst := z + a) (cs := vp_cell (ac a0) (n0, .inl f)) (cd := vp_cell (ac a) (n1, .inl g)) (srcPos := sp) (destPos := dp) (n := cn) (by rw [hT]; exact hk0) (by rw [hT]; exact hk1)
    (fun _ h => by cases h) (fun _ h => by cases h) (fun h => by cases h) (fun h => by cases h) hq0 hq1 hkk0 hkk1 (by simp [tf, refKind]) h1 h2 h3
    (by rw [nn sp h1, nn cn h3]; show ¬ _ > ((arrV (ac a0) n0 (fun j => .int (f j))).slots.size : Int); rw [arrV_size]; omega)
    (by rw [nn dp h2, nn cn h3]; show ¬ _ > ((arrV (ac a) n1 (fun j => .int (g j))).slots.size : Int); rw [arrV_size]; omega)
    (fun vm₁ _ i hi => by
      have e : (vp_cell (ac a0) (n0, .inl f)).slots.getD (sp.toNatClampNeg + i) .null = .int (f (sp.toNatClampNeg + i)) := by
        show (arrV (ac a0) n0 (fun j => .int (f j))).slots.getD _ _ = _
        rw [Array.getD_eq_getD_getElem?, arrV_read _ _ (by omega)]
        rfl
      refine ⟨?_, ?_⟩
      · rw [e]; rfl
      · rw [e]
        exact trivial)
    (g := F0 mi pc ls (.int cn :: .int dp :: .ref (z + a) :: .int sp :: .ref (z + a0) :: st.map (tv z ar))) rfl (hl.1.trans C.2.2.1.symm) (rest := st.map (tv z ar)) rfl (by rw [C.2.1]; exact hd) (Nat.le_trans hf C.2.2.2.2.2.2.2.2.1) (by show 2 * 0 + _ + _ ≤ _; rw [tv_sum]; have := C.2.2.2.2.2.2.2.2.2; omega)
  have e1 : copied (vp_cell (ac a0) (n0, .inl f)) (vp_cell (ac a) (n1, .inl g)) sp dp cn = vp_cell (ac a) (n1, .inl (va_cpy f g sp.toNatClampNeg dp.toNatClampNeg cn.toNatClampNeg)) := va_copied (fun z => .int z) (ac a0) (ac a) f g h4
  rw [e1] at X' step
  have hlt : z + a < H.size := (Array.getElem?_eq_some_iff.mp hk1).1
  have hheap : ((T.setVm vm').setCell (z + a) (vp_cell (ac a) (n1, .inl (va_cpy f g sp.toNatClampNeg dp.toNatClampNeg cn.toNatClampNeg)))).heap = H.setIfInBounds (z + a) (vp_cell (ac a) (n1, .inl (va_cpy f g sp.toNatClampNeg dp.toNatClampNeg cn.toNatClampNeg))) := by rw [← hT]; rfl
  have oq : ∀ q : Nat, q ≠ z + a → (H.setIfInBounds (z + a) (vp_cell (ac a) (n1, .inl (va_cpy f g sp.toNatClampNeg dp.toNatClampNeg cn.toNatClampNeg))))[q]? = H[q]? := fun q hq => by simp [Array.getElem?_setIfInBounds, Ne.symm hq]
  obtain ⟨t, a1, b1⟩ := kk l p e R s mi args below meth c Z z D ar ac _ _ cells slots ls C E (hW.upd (a := a) (by simp) oq (show (H.setIfInBounds (z + a) _)[z + a]? = some _ by simp [Array.getElem?_setIfInBounds, hlt]; rfl) (hW.2.1 a _ hc1).2) ⟨fun q hq => (oq q (by omega)).trans (hF.1 q hq), fun q hq => by
      rcases List.mem_append.mp hq with h | h
      · exact hF.2 q h
      · obtain ⟨w, -, hz⟩ := List.mem_map.mp h
        rw [← hz]
        exact Nat.le_add_right _ _⟩ hB hl _ hheap X'
  exact ⟨t, step t a1, b1⟩
end CALL
end
section
/-! rows: links of fields and methods among the tables' words -/
theorem fl_Peg_10 : FL "PegWatch" 10 11 0 := ⟨_, rfl, by decide, rfl, Or.inl (mem_t 1 133 (by decide +kernel) (by decide +kernel))⟩
theorem fl_Peg_19 : FL "PegWatch" 19 11 1 := ⟨_, rfl, by decide, rfl, Or.inl (mem_t 1 134 (by decide +kernel) (by decide +kernel))⟩
theorem fl_Peg_26 : FL "PegWatch" 26 11 2 := ⟨_, rfl, by decide, rfl, Or.inl (mem_t 1 135 (by decide +kernel) (by decide +kernel))⟩
theorem fl_Peg_33 : FL "PegWatch" 33 11 3 := ⟨_, rfl, by decide, rfl, Or.inl (mem_t 1 136 (by decide +kernel) (by decide +kernel))⟩
theorem fl_Peg_42 : FL "PegWatch" 42 11 4 := ⟨_, rfl, by decide, rfl, Or.inl (mem_t 1 137 (by decide +kernel) (by decide +kernel))⟩
theorem fl_Peg_51 : FL "PegWatch" 51 11 5 := ⟨_, rfl, by decide, rfl, Or.inl (mem_t 1 138 (by decide +kernel) (by decide +kernel))⟩
theorem fl_Peg_55 : FL "PegWatch" 55 11 6 := ⟨_, rfl, by decide, rfl, Or.inl (mem_t 1 139 (by decide +kernel) (by decide +kernel))⟩
theorem fl_Peg_59 : FL "PegWatch" 59 11 7 := ⟨_, rfl, by decide, rfl, Or.inl (mem_t 1 140 (by decide +kernel) (by decide +kernel))⟩
theorem fl_Peg_62 : FL "PegWatch" 62 11 8 := ⟨_, rfl, by decide, rfl, Or.inl (mem_t 1 141 (by decide +kernel) (by decide +kernel))⟩
theorem fl_Peg_104 : FL "PegWatch" 104 10 2 := ⟨_, rfl, by decide, rfl, Or.inr ⟨"PegWatch", mem_n 0 35 (by decide +kernel) (by decide +kernel)⟩⟩
theorem fl_Peg_114 : FL "PegWatch" 114 0 1 := ⟨_, rfl, by decide, rfl, Or.inr ⟨"PegWatch", mem_n 0 96 (by decide +kernel) (by decide +kernel)⟩⟩
theorem fl_Peg_122 : FL "PegWatch" 122 0 0 := ⟨_, rfl, by decide, rfl, Or.inr ⟨"PegWatch", mem_n 0 94 (by decide +kernel) (by decide +kernel)⟩⟩
theorem fl_Peg_144 : FL "PegWatch" 144 9 4 := ⟨_, rfl, by decide, rfl, Or.inr ⟨"PegWatch", mem_n 0 66 (by decide +kernel) (by decide +kernel)⟩⟩
theorem fl_Peg_147 : FL "PegWatch" 147 0 2 := ⟨_, rfl, by decide, rfl, Or.inr ⟨"PegWatch", mem_n 0 99 (by decide +kernel) (by decide +kernel)⟩⟩
theorem fl_Peg_156 : FL "PegWatch" 156 3 1 := ⟨_, rfl, by decide, rfl, Or.inr ⟨"PegWatch", mem_n 1 44 (by decide +kernel) (by decide +kernel)⟩⟩
theorem fl_Peg_173 : FL "PegWatch" 173 1 3 := ⟨_, rfl, by decide, rfl, Or.inr ⟨"PegWatch", mem_n 0 160 (by decide +kernel) (by decide +kernel)⟩⟩
theorem fl_Peg_226 : FL "PegWatch" 226 3 0 := ⟨_, rfl, by decide, rfl, Or.inr ⟨"PegWatch", mem_n 1 41 (by decide +kernel) (by decide +kernel)⟩⟩
theorem fl_Peg_230 : FL "PegWatch" 230 7 7 := ⟨_, rfl, by decide, rfl, Or.inr ⟨"PegWatch", mem_n 1 17 (by decide +kernel) (by decide +kernel)⟩⟩
theorem fl_Peg_244 : FL "PegWatch" 244 6 3 := ⟨_, rfl, by decide, rfl, Or.inr ⟨"PegWatch", mem_n 1 75 (by decide +kernel) (by decide +kernel)⟩⟩
theorem fl_Peg_261 : FL "PegWatch" 261 6 9 := ⟨_, rfl, by decide, rfl, Or.inr ⟨"PegWatch", mem_n 1 82 (by decide +kernel) (by decide +kernel)⟩⟩
theorem fl_Peg_291 : FL "PegWatch" 291 1 2 := ⟨_, rfl, by decide, rfl, Or.inr ⟨"PegWatch", mem_n 0 157 (by decide +kernel) (by decide +kernel)⟩⟩
theorem fl_Peg_294 : FL "PegWatch" 294 1 4 := ⟨_, rfl, by decide, rfl, Or.inr ⟨"PegWatch", mem_n 0 164 (by decide +kernel) (by decide +kernel)⟩⟩
theorem fl_Peg_297 : FL "PegWatch" 297 1 5 := ⟨_, rfl, by decide, rfl, Or.inr ⟨"PegWatch", mem_n 0 168 (by decide +kernel) (by decide +kernel)⟩⟩
theorem fl_Board_11 : FL "PegWatch$Board" 11 0 0 := ⟨_, rfl, by decide, rfl, Or.inl (mem_t 0 92 (by decide +kernel) (by decide +kernel))⟩
theorem fl_Board_16 : FL "PegWatch$Board" 16 0 1 := ⟨_, rfl, by decide, rfl, Or.inl (mem_t 0 95 (by decide +kernel) (by decide +kernel))⟩
theorem fl_Board_20 : FL "PegWatch$Board" 20 0 2 := ⟨_, rfl, by decide, rfl, Or.inl (mem_t 0 97 (by decide +kernel) (by decide +kernel))⟩
theorem fl_Chart_11 : FL "PegWatch$Chart" 11 1 0 := ⟨_, rfl, by decide, rfl, Or.inl (mem_t 0 151 (by decide +kernel) (by decide +kernel))⟩
theorem fl_Chart_18 : FL "PegWatch$Chart" 18 1 1 := ⟨_, rfl, by decide, rfl, Or.inl (mem_t 0 152 (by decide +kernel) (by decide +kernel))⟩
theorem fl_Chart_22 : FL "PegWatch$Chart" 22 1 2 := ⟨_, rfl, by decide, rfl, Or.inl (mem_t 0 155 (by decide +kernel) (by decide +kernel))⟩
theorem fl_Chart_25 : FL "PegWatch$Chart" 25 1 3 := ⟨_, rfl, by decide, rfl, Or.inl (mem_t 0 158 (by decide +kernel) (by decide +kernel))⟩
theorem fl_Chart_36 : FL "PegWatch$Chart" 36 1 4 := ⟨_, rfl, by decide, rfl, Or.inl (mem_t 0 161 (by decide +kernel) (by decide +kernel))⟩
theorem fl_Chart_40 : FL "PegWatch$Chart" 40 1 5 := ⟨_, rfl, by decide, rfl, Or.inl (mem_t 0 165 (by decide +kernel) (by decide +kernel))⟩
theorem fl_Chart_56 : FL "PegWatch$Chart" 56 1 6 := ⟨_, rfl, by decide, rfl, Or.inl (mem_t 0 169 (by decide +kernel) (by decide +kernel))⟩
theorem fl_Chart_59 : FL "PegWatch$Chart" 59 1 7 := ⟨_, rfl, by decide, rfl, Or.inl (mem_t 0 171 (by decide +kernel) (by decide +kernel))⟩
theorem fl_Chart_62 : FL "PegWatch$Chart" 62 1 8 := ⟨_, rfl, by decide, rfl, Or.inl (mem_t 0 173 (by decide +kernel) (by decide +kernel))⟩
theorem fl_Chart_65 : FL "PegWatch$Chart" 65 1 9 := ⟨_, rfl, by decide, rfl, Or.inl (mem_t 0 175 (by decide +kernel) (by decide +kernel))⟩
theorem fl_Log_13 : FL "PegWatch$Log" 13 3 0 := ⟨_, rfl, by decide, rfl, Or.inl (mem_t 1 39 (by decide +kernel) (by decide +kernel))⟩
theorem fl_Log_18 : FL "PegWatch$Log" 18 3 1 := ⟨_, rfl, by decide, rfl, Or.inl (mem_t 1 42 (by decide +kernel) (by decide +kernel))⟩
theorem fl_Log_26 : FL "PegWatch$Log" 26 3 2 := ⟨_, rfl, by decide, rfl, Or.inl (mem_t 1 45 (by decide +kernel) (by decide +kernel))⟩
theorem fl_Log_29 : FL "PegWatch$Log" 29 3 3 := ⟨_, rfl, by decide, rfl, Or.inl (mem_t 1 47 (by decide +kernel) (by decide +kernel))⟩
theorem fl_Log_32 : FL "PegWatch$Log" 32 3 4 := ⟨_, rfl, by decide, rfl, Or.inl (mem_t 1 49 (by decide +kernel) (by decide +kernel))⟩
theorem fl_Log_35 : FL "PegWatch$Log" 35 7 3 := ⟨_, rfl, by decide, rfl, Or.inr ⟨"PegWatch", mem_n 1 10 (by decide +kernel) (by decide +kernel)⟩⟩
theorem fl_Patch_9 : FL "PegWatch$Patch" 9 4 0 := ⟨_, rfl, by decide, rfl, Or.inl (mem_t 0 119 (by decide +kernel) (by decide +kernel))⟩
theorem fl_Patch_51 : FL "PegWatch$Patch" 51 1 4 := ⟨_, rfl, by decide, rfl, Or.inr ⟨"PegWatch", mem_n 0 163 (by decide +kernel) (by decide +kernel)⟩⟩
theorem fl_Patch_55 : FL "PegWatch$Patch" 55 1 5 := ⟨_, rfl, by decide, rfl, Or.inr ⟨"PegWatch", mem_n 0 167 (by decide +kernel) (by decide +kernel)⟩⟩
theorem fl_Reach_7 : FL "PegWatch$Reach" 7 5 0 := ⟨_, rfl, by decide, rfl, Or.inl (mem_t 0 217 (by decide +kernel) (by decide +kernel))⟩
theorem fl_Reach_13 : FL "PegWatch$Reach" 13 5 1 := ⟨_, rfl, by decide, rfl, Or.inl (mem_t 0 220 (by decide +kernel) (by decide +kernel))⟩
theorem fl_Reach_16 : FL "PegWatch$Reach" 16 5 2 := ⟨_, rfl, by decide, rfl, Or.inl (mem_t 0 223 (by decide +kernel) (by decide +kernel))⟩
theorem fl_Reach_19 : FL "PegWatch$Reach" 19 5 3 := ⟨_, rfl, by decide, rfl, Or.inl (mem_t 0 226 (by decide +kernel) (by decide +kernel))⟩
theorem fl_Reckoning_11 : FL "PegWatch$Reckoning" 11 6 0 := ⟨_, rfl, by decide, rfl, Or.inl (mem_t 1 71 (by decide +kernel) (by decide +kernel))⟩
theorem fl_Reckoning_17 : FL "PegWatch$Reckoning" 17 6 1 := ⟨_, rfl, by decide, rfl, Or.inl (mem_t 1 72 (by decide +kernel) (by decide +kernel))⟩
theorem fl_Reckoning_21 : FL "PegWatch$Reckoning" 21 6 2 := ⟨_, rfl, by decide, rfl, Or.inl (mem_t 1 73 (by decide +kernel) (by decide +kernel))⟩
theorem fl_Reckoning_27 : FL "PegWatch$Reckoning" 27 6 3 := ⟨_, rfl, by decide, rfl, Or.inl (mem_t 1 74 (by decide +kernel) (by decide +kernel))⟩
theorem fl_Reckoning_31 : FL "PegWatch$Reckoning" 31 6 4 := ⟨_, rfl, by decide, rfl, Or.inl (mem_t 1 76 (by decide +kernel) (by decide +kernel))⟩
theorem fl_Reckoning_35 : FL "PegWatch$Reckoning" 35 6 5 := ⟨_, rfl, by decide, rfl, Or.inl (mem_t 1 77 (by decide +kernel) (by decide +kernel))⟩
theorem fl_Reckoning_39 : FL "PegWatch$Reckoning" 39 6 6 := ⟨_, rfl, by decide, rfl, Or.inl (mem_t 1 78 (by decide +kernel) (by decide +kernel))⟩
theorem fl_Reckoning_42 : FL "PegWatch$Reckoning" 42 6 7 := ⟨_, rfl, by decide, rfl, Or.inl (mem_t 1 79 (by decide +kernel) (by decide +kernel))⟩
theorem fl_Reckoning_45 : FL "PegWatch$Reckoning" 45 6 8 := ⟨_, rfl, by decide, rfl, Or.inl (mem_t 1 80 (by decide +kernel) (by decide +kernel))⟩
theorem fl_Reckoning_49 : FL "PegWatch$Reckoning" 49 6 9 := ⟨_, rfl, by decide, rfl, Or.inl (mem_t 1 81 (by decide +kernel) (by decide +kernel))⟩
theorem fl_Reckoning_60 : FL "PegWatch$Reckoning" 60 3 1 := ⟨_, rfl, by decide, rfl, Or.inr ⟨"PegWatch", mem_n 1 43 (by decide +kernel) (by decide +kernel)⟩⟩
theorem fl_Reckoning_62 : FL "PegWatch$Reckoning" 62 3 0 := ⟨_, rfl, by decide, rfl, Or.inr ⟨"PegWatch", mem_n 1 40 (by decide +kernel) (by decide +kernel)⟩⟩
theorem fl_Reckoning_88 : FL "PegWatch$Reckoning" 88 7 7 := ⟨_, rfl, by decide, rfl, Or.inr ⟨"PegWatch", mem_n 1 16 (by decide +kernel) (by decide +kernel)⟩⟩
theorem fl_Reckoning_117 : FL "PegWatch$Reckoning" 117 3 2 := ⟨_, rfl, by decide, rfl, Or.inr ⟨"PegWatch", mem_n 1 46 (by decide +kernel) (by decide +kernel)⟩⟩
theorem fl_Reckoning_120 : FL "PegWatch$Reckoning" 120 3 4 := ⟨_, rfl, by decide, rfl, Or.inr ⟨"PegWatch", mem_n 1 50 (by decide +kernel) (by decide +kernel)⟩⟩
theorem fl_Reckoning_123 : FL "PegWatch$Reckoning" 123 3 3 := ⟨_, rfl, by decide, rfl, Or.inr ⟨"PegWatch", mem_n 1 48 (by decide +kernel) (by decide +kernel)⟩⟩
theorem fl_Reckoning_130 : FL "PegWatch$Reckoning" 130 1 1 := ⟨_, rfl, by decide, rfl, Or.inr ⟨"PegWatch", mem_n 0 153 (by decide +kernel) (by decide +kernel)⟩⟩
theorem fl_Reckoning_143 : FL "PegWatch$Reckoning" 143 7 1 := ⟨_, rfl, by decide, rfl, Or.inr ⟨"PegWatch", mem_n 1 7 (by decide +kernel) (by decide +kernel)⟩⟩
theorem fl_Reckoning_147 : FL "PegWatch$Reckoning" 147 0 0 := ⟨_, rfl, by decide, rfl, Or.inr ⟨"PegWatch", mem_n 0 93 (by decide +kernel) (by decide +kernel)⟩⟩
theorem fl_Reckoning_153 : FL "PegWatch$Reckoning" 153 7 3 := ⟨_, rfl, by decide, rfl, Or.inr ⟨"PegWatch", mem_n 1 11 (by decide +kernel) (by decide +kernel)⟩⟩
theorem fl_Reckoning_156 : FL "PegWatch$Reckoning" 156 9 5 := ⟨_, rfl, by decide, rfl, Or.inr ⟨"PegWatch", mem_n 0 68 (by decide +kernel) (by decide +kernel)⟩⟩
theorem fl_Reckoning_167 : FL "PegWatch$Reckoning" 167 7 0 := ⟨_, rfl, by decide, rfl, Or.inr ⟨"PegWatch", mem_n 1 5 (by decide +kernel) (by decide +kernel)⟩⟩
theorem fl_Reckoning_177 : FL "PegWatch$Reckoning" 177 9 4 := ⟨_, rfl, by decide, rfl, Or.inr ⟨"PegWatch", mem_n 0 65 (by decide +kernel) (by decide +kernel)⟩⟩
theorem fl_Reckoning_180 : FL "PegWatch$Reckoning" 180 0 2 := ⟨_, rfl, by decide, rfl, Or.inr ⟨"PegWatch", mem_n 0 98 (by decide +kernel) (by decide +kernel)⟩⟩
theorem fl_Reckoning_183 : FL "PegWatch$Reckoning" 183 1 6 := ⟨_, rfl, by decide, rfl, Or.inr ⟨"PegWatch", mem_n 0 170 (by decide +kernel) (by decide +kernel)⟩⟩
theorem fl_Reckoning_192 : FL "PegWatch$Reckoning" 192 1 7 := ⟨_, rfl, by decide, rfl, Or.inr ⟨"PegWatch", mem_n 0 172 (by decide +kernel) (by decide +kernel)⟩⟩
theorem fl_Reckoning_198 : FL "PegWatch$Reckoning" 198 1 8 := ⟨_, rfl, by decide, rfl, Or.inr ⟨"PegWatch", mem_n 0 174 (by decide +kernel) (by decide +kernel)⟩⟩
theorem fl_Reckoning_201 : FL "PegWatch$Reckoning" 201 1 9 := ⟨_, rfl, by decide, rfl, Or.inr ⟨"PegWatch", mem_n 0 176 (by decide +kernel) (by decide +kernel)⟩⟩
theorem fl_Reckoning_208 : FL "PegWatch$Reckoning" 208 9 6 := ⟨_, rfl, by decide, rfl, Or.inr ⟨"PegWatch", mem_n 0 70 (by decide +kernel) (by decide +kernel)⟩⟩
theorem fl_Row_12 : FL "PegWatch$Row" 12 7 0 := ⟨_, rfl, by decide, rfl, Or.inl (mem_t 1 4 (by decide +kernel) (by decide +kernel))⟩
theorem fl_Row_18 : FL "PegWatch$Row" 18 7 1 := ⟨_, rfl, by decide, rfl, Or.inl (mem_t 1 6 (by decide +kernel) (by decide +kernel))⟩
theorem fl_Row_24 : FL "PegWatch$Row" 24 7 2 := ⟨_, rfl, by decide, rfl, Or.inl (mem_t 1 8 (by decide +kernel) (by decide +kernel))⟩
theorem fl_Row_45 : FL "PegWatch$Row" 45 7 3 := ⟨_, rfl, by decide, rfl, Or.inl (mem_t 1 9 (by decide +kernel) (by decide +kernel))⟩
theorem fl_Row_49 : FL "PegWatch$Row" 49 7 4 := ⟨_, rfl, by decide, rfl, Or.inl (mem_t 1 12 (by decide +kernel) (by decide +kernel))⟩
theorem fl_Row_52 : FL "PegWatch$Row" 52 7 5 := ⟨_, rfl, by decide, rfl, Or.inl (mem_t 1 13 (by decide +kernel) (by decide +kernel))⟩
theorem fl_Row_55 : FL "PegWatch$Row" 55 7 6 := ⟨_, rfl, by decide, rfl, Or.inl (mem_t 1 14 (by decide +kernel) (by decide +kernel))⟩
theorem fl_Row_58 : FL "PegWatch$Row" 58 7 7 := ⟨_, rfl, by decide, rfl, Or.inl (mem_t 1 15 (by decide +kernel) (by decide +kernel))⟩
theorem fl_Row_74 : FL "PegWatch$Row" 74 1 3 := ⟨_, rfl, by decide, rfl, Or.inr ⟨"PegWatch", mem_n 0 159 (by decide +kernel) (by decide +kernel)⟩⟩
theorem fl_Row_84 : FL "PegWatch$Row" 84 1 4 := ⟨_, rfl, by decide, rfl, Or.inr ⟨"PegWatch", mem_n 0 162 (by decide +kernel) (by decide +kernel)⟩⟩
theorem fl_Row_91 : FL "PegWatch$Row" 91 1 1 := ⟨_, rfl, by decide, rfl, Or.inr ⟨"PegWatch", mem_n 0 154 (by decide +kernel) (by decide +kernel)⟩⟩
theorem fl_Row_101 : FL "PegWatch$Row" 101 5 0 := ⟨_, rfl, by decide, rfl, Or.inr ⟨"PegWatch", mem_n 0 219 (by decide +kernel) (by decide +kernel)⟩⟩
theorem fl_Row_104 : FL "PegWatch$Row" 104 5 1 := ⟨_, rfl, by decide, rfl, Or.inr ⟨"PegWatch", mem_n 0 222 (by decide +kernel) (by decide +kernel)⟩⟩
theorem fl_Row_107 : FL "PegWatch$Row" 107 5 2 := ⟨_, rfl, by decide, rfl, Or.inr ⟨"PegWatch", mem_n 0 225 (by decide +kernel) (by decide +kernel)⟩⟩
theorem fl_Row_110 : FL "PegWatch$Row" 110 5 3 := ⟨_, rfl, by decide, rfl, Or.inr ⟨"PegWatch", mem_n 0 228 (by decide +kernel) (by decide +kernel)⟩⟩
theorem fl_Voyage_9 : FL "PegWatch$Voyage" 9 8 0 := ⟨_, rfl, by decide, rfl, Or.inl (mem_t 1 114 (by decide +kernel) (by decide +kernel))⟩
theorem fl_Voyage_18 : FL "PegWatch$Voyage" 18 8 1 := ⟨_, rfl, by decide, rfl, Or.inl (mem_t 1 115 (by decide +kernel) (by decide +kernel))⟩
theorem fl_Voyage_22 : FL "PegWatch$Voyage" 22 8 2 := ⟨_, rfl, by decide, rfl, Or.inl (mem_t 1 116 (by decide +kernel) (by decide +kernel))⟩
theorem fl_Voyage_28 : FL "PegWatch$Voyage" 28 8 3 := ⟨_, rfl, by decide, rfl, Or.inl (mem_t 1 117 (by decide +kernel) (by decide +kernel))⟩
theorem fl_Voyage_32 : FL "PegWatch$Voyage" 32 8 4 := ⟨_, rfl, by decide, rfl, Or.inl (mem_t 1 118 (by decide +kernel) (by decide +kernel))⟩
theorem fl_Voyage_36 : FL "PegWatch$Voyage" 36 8 5 := ⟨_, rfl, by decide, rfl, Or.inl (mem_t 1 119 (by decide +kernel) (by decide +kernel))⟩
theorem fl_Voyage_99 : FL "PegWatch$Voyage" 99 1 5 := ⟨_, rfl, by decide, rfl, Or.inr ⟨"PegWatch", mem_n 0 166 (by decide +kernel) (by decide +kernel)⟩⟩
theorem fl_Voyage_102 : FL "PegWatch$Voyage" 102 5 2 := ⟨_, rfl, by decide, rfl, Or.inr ⟨"PegWatch", mem_n 0 224 (by decide +kernel) (by decide +kernel)⟩⟩
theorem fl_Voyage_105 : FL "PegWatch$Voyage" 105 4 0 := ⟨_, rfl, by decide, rfl, Or.inr ⟨"PegWatch", mem_n 0 120 (by decide +kernel) (by decide +kernel)⟩⟩
theorem fl_Voyage_109 : FL "PegWatch$Voyage" 109 5 3 := ⟨_, rfl, by decide, rfl, Or.inr ⟨"PegWatch", mem_n 0 227 (by decide +kernel) (by decide +kernel)⟩⟩
theorem fl_Voyage_112 : FL "PegWatch$Voyage" 112 5 0 := ⟨_, rfl, by decide, rfl, Or.inr ⟨"PegWatch", mem_n 0 218 (by decide +kernel) (by decide +kernel)⟩⟩
theorem fl_Voyage_115 : FL "PegWatch$Voyage" 115 5 1 := ⟨_, rfl, by decide, rfl, Or.inr ⟨"PegWatch", mem_n 0 221 (by decide +kernel) (by decide +kernel)⟩⟩
theorem fl_Voyage_118 : FL "PegWatch$Voyage" 118 1 2 := ⟨_, rfl, by decide, rfl, Or.inr ⟨"PegWatch", mem_n 0 156 (by decide +kernel) (by decide +kernel)⟩⟩
theorem fl_Watch_11 : FL "PegWatch$Watch" 11 9 0 := ⟨_, rfl, by decide, rfl, Or.inl (mem_t 0 60 (by decide +kernel) (by decide +kernel))⟩
theorem fl_Watch_21 : FL "PegWatch$Watch" 21 9 1 := ⟨_, rfl, by decide, rfl, Or.inl (mem_t 0 61 (by decide +kernel) (by decide +kernel))⟩
theorem fl_Watch_24 : FL "PegWatch$Watch" 24 9 2 := ⟨_, rfl, by decide, rfl, Or.inl (mem_t 0 62 (by decide +kernel) (by decide +kernel))⟩
theorem fl_Watch_27 : FL "PegWatch$Watch" 27 9 3 := ⟨_, rfl, by decide, rfl, Or.inl (mem_t 0 63 (by decide +kernel) (by decide +kernel))⟩
theorem fl_Watch_30 : FL "PegWatch$Watch" 30 9 4 := ⟨_, rfl, by decide, rfl, Or.inl (mem_t 0 64 (by decide +kernel) (by decide +kernel))⟩
theorem fl_Watch_34 : FL "PegWatch$Watch" 34 9 5 := ⟨_, rfl, by decide, rfl, Or.inl (mem_t 0 67 (by decide +kernel) (by decide +kernel))⟩
theorem fl_Watch_37 : FL "PegWatch$Watch" 37 9 6 := ⟨_, rfl, by decide, rfl, Or.inl (mem_t 0 69 (by decide +kernel) (by decide +kernel))⟩
theorem fl_Watch_40 : FL "PegWatch$Watch" 40 9 7 := ⟨_, rfl, by decide, rfl, Or.inl (mem_t 0 71 (by decide +kernel) (by decide +kernel))⟩
theorem fl_Watch_43 : FL "PegWatch$Watch" 43 9 8 := ⟨_, rfl, by decide, rfl, Or.inl (mem_t 0 72 (by decide +kernel) (by decide +kernel))⟩
theorem fl_Words_11 : FL "PegWatch$Words" 11 10 0 := ⟨_, rfl, by decide, rfl, Or.inl (mem_t 0 32 (by decide +kernel) (by decide +kernel))⟩
theorem fl_Words_15 : FL "PegWatch$Words" 15 10 1 := ⟨_, rfl, by decide, rfl, Or.inl (mem_t 0 33 (by decide +kernel) (by decide +kernel))⟩
theorem fl_Words_18 : FL "PegWatch$Words" 18 10 2 := ⟨_, rfl, by decide, rfl, Or.inl (mem_t 0 34 (by decide +kernel) (by decide +kernel))⟩
theorem fl_Mod_7 : FL "PegWatchModel" 7 12 0 := ⟨_, rfl, by decide, rfl, Or.inl (mem_t 4 44 (by decide +kernel) (by decide +kernel))⟩
theorem fl_Mod_13 : FL "PegWatchModel" 13 12 1 := ⟨_, rfl, by decide, rfl, Or.inl (mem_t 4 45 (by decide +kernel) (by decide +kernel))⟩
theorem fl_Mod_16 : FL "PegWatchModel" 16 12 3 := ⟨_, rfl, by decide, rfl, Or.inl (mem_t 4 47 (by decide +kernel) (by decide +kernel))⟩
theorem fl_Mod_19 : FL "PegWatchModel" 19 12 5 := ⟨_, rfl, by decide, rfl, Or.inl (mem_t 4 49 (by decide +kernel) (by decide +kernel))⟩
theorem fl_Mod_22 : FL "PegWatchModel" 22 12 6 := ⟨_, rfl, by decide, rfl, Or.inl (mem_t 4 50 (by decide +kernel) (by decide +kernel))⟩
theorem fl_Mod_25 : FL "PegWatchModel" 25 12 7 := ⟨_, rfl, by decide, rfl, Or.inl (mem_t 4 51 (by decide +kernel) (by decide +kernel))⟩
theorem fl_Mod_28 : FL "PegWatchModel" 28 12 8 := ⟨_, rfl, by decide, rfl, Or.inl (mem_t 4 52 (by decide +kernel) (by decide +kernel))⟩
theorem fl_Mod_32 : FL "PegWatchModel" 32 12 9 := ⟨_, rfl, by decide, rfl, Or.inl (mem_t 4 53 (by decide +kernel) (by decide +kernel))⟩
theorem fl_Mod_35 : FL "PegWatchModel" 35 12 10 := ⟨_, rfl, by decide, rfl, Or.inl (mem_t 4 54 (by decide +kernel) (by decide +kernel))⟩
theorem fl_Mod_38 : FL "PegWatchModel" 38 12 11 := ⟨_, rfl, by decide, rfl, Or.inl (mem_t 4 55 (by decide +kernel) (by decide +kernel))⟩
theorem fl_Mod_41 : FL "PegWatchModel" 41 12 12 := ⟨_, rfl, by decide, rfl, Or.inl (mem_t 4 56 (by decide +kernel) (by decide +kernel))⟩
theorem fl_Mod_45 : FL "PegWatchModel" 45 12 21 := ⟨_, rfl, by decide, rfl, Or.inl (mem_t 4 65 (by decide +kernel) (by decide +kernel))⟩
theorem fl_Mod_48 : FL "PegWatchModel" 48 12 25 := ⟨_, rfl, by decide, rfl, Or.inl (mem_t 4 69 (by decide +kernel) (by decide +kernel))⟩
theorem fl_Mod_51 : FL "PegWatchModel" 51 12 29 := ⟨_, rfl, by decide, rfl, Or.inl (mem_t 4 73 (by decide +kernel) (by decide +kernel))⟩
theorem fl_Mod_54 : FL "PegWatchModel" 54 12 30 := ⟨_, rfl, by decide, rfl, Or.inl (mem_t 4 74 (by decide +kernel) (by decide +kernel))⟩
theorem fl_Mod_57 : FL "PegWatchModel" 57 12 31 := ⟨_, rfl, by decide, rfl, Or.inl (mem_t 4 75 (by decide +kernel) (by decide +kernel))⟩
theorem fl_Mod_60 : FL "PegWatchModel" 60 12 32 := ⟨_, rfl, by decide, rfl, Or.inl (mem_t 4 76 (by decide +kernel) (by decide +kernel))⟩
theorem fl_Mod_66 : FL "PegWatchModel" 66 12 17 := ⟨_, rfl, by decide, rfl, Or.inl (mem_t 4 61 (by decide +kernel) (by decide +kernel))⟩
theorem fl_Mod_69 : FL "PegWatchModel" 69 12 18 := ⟨_, rfl, by decide, rfl, Or.inl (mem_t 4 62 (by decide +kernel) (by decide +kernel))⟩
theorem fl_Mod_72 : FL "PegWatchModel" 72 12 19 := ⟨_, rfl, by decide, rfl, Or.inl (mem_t 4 63 (by decide +kernel) (by decide +kernel))⟩
theorem fl_Mod_105 : FL "PegWatchModel" 105 12 2 := ⟨_, rfl, by decide, rfl, Or.inl (mem_t 4 46 (by decide +kernel) (by decide +kernel))⟩
theorem fl_Mod_112 : FL "PegWatchModel" 112 12 4 := ⟨_, rfl, by decide, rfl, Or.inl (mem_t 4 48 (by decide +kernel) (by decide +kernel))⟩
theorem fl_Mod_122 : FL "PegWatchModel" 122 12 26 := ⟨_, rfl, by decide, rfl, Or.inl (mem_t 4 70 (by decide +kernel) (by decide +kernel))⟩
theorem fl_Mod_125 : FL "PegWatchModel" 125 12 27 := ⟨_, rfl, by decide, rfl, Or.inl (mem_t 4 71 (by decide +kernel) (by decide +kernel))⟩
theorem fl_Mod_128 : FL "PegWatchModel" 128 12 28 := ⟨_, rfl, by decide, rfl, Or.inl (mem_t 4 72 (by decide +kernel) (by decide +kernel))⟩
theorem fl_Mod_140 : FL "PegWatchModel" 140 12 20 := ⟨_, rfl, by decide, rfl, Or.inl (mem_t 4 64 (by decide +kernel) (by decide +kernel))⟩
theorem fl_Mod_156 : FL "PegWatchModel" 156 12 13 := ⟨_, rfl, by decide, rfl, Or.inl (mem_t 4 57 (by decide +kernel) (by decide +kernel))⟩
theorem fl_Mod_159 : FL "PegWatchModel" 159 12 14 := ⟨_, rfl, by decide, rfl, Or.inl (mem_t 4 58 (by decide +kernel) (by decide +kernel))⟩
theorem fl_Mod_162 : FL "PegWatchModel" 162 12 15 := ⟨_, rfl, by decide, rfl, Or.inl (mem_t 4 59 (by decide +kernel) (by decide +kernel))⟩
theorem fl_Mod_165 : FL "PegWatchModel" 165 12 16 := ⟨_, rfl, by decide, rfl, Or.inl (mem_t 4 60 (by decide +kernel) (by decide +kernel))⟩
theorem fl_Mod_236 : FL "PegWatchModel" 236 12 33 := ⟨_, rfl, by decide, rfl, Or.inl (mem_t 4 77 (by decide +kernel) (by decide +kernel))⟩
theorem fl_Mod_245 : FL "PegWatchModel" 245 12 24 := ⟨_, rfl, by decide, rfl, Or.inl (mem_t 4 68 (by decide +kernel) (by decide +kernel))⟩
theorem fl_Mod_254 : FL "PegWatchModel" 254 12 22 := ⟨_, rfl, by decide, rfl, Or.inl (mem_t 4 66 (by decide +kernel) (by decide +kernel))⟩
theorem fl_Mod_275 : FL "PegWatchModel" 275 12 23 := ⟨_, rfl, by decide, rfl, Or.inl (mem_t 4 67 (by decide +kernel) (by decide +kernel))⟩
theorem fl_Mod_283 : FL "PegWatchModel" 283 12 34 := ⟨_, rfl, by decide, rfl, Or.inl (mem_t 4 78 (by decide +kernel) (by decide +kernel))⟩
theorem sl_Peg_71 : SL "PegWatch" 71 "NAMES" := Or.inl (mem_t 1 168 (by decide +kernel) (by decide +kernel))
theorem sl_Compass_23 : SL "PegWatch$Compass" 23 "LENGTHS" := Or.inl (mem_t 1 217 (by decide +kernel) (by decide +kernel))
theorem sl_Compass_34 : SL "PegWatch$Compass" 34 "NAMES" := Or.inl (mem_t 1 180 (by decide +kernel) (by decide +kernel))
theorem ml_Peg_1 : Cond.methodLink "PegWatch" 1 Lib.objectInit ∈ wsG := mem_t 0 23 (by decide +kernel) (by decide +kernel)
theorem ml_Peg_9 : Cond.methodLink "PegWatch" 9 (mY md_Words_init) ∈ wsG := mem_t 0 28 (by decide +kernel) (by decide +kernel)
theorem ml_Peg_18 : Cond.methodLink "PegWatch" 18 (mY md_Board_init) ∈ wsG := mem_t 0 46 (by decide +kernel) (by decide +kernel)
theorem ml_Peg_25 : Cond.methodLink "PegWatch" 25 (mY md_Chart_init) ∈ wsG := mem_t 0 109 (by decide +kernel) (by decide +kernel)
theorem ml_Peg_32 : Cond.methodLink "PegWatch" 32 (mY md_Log_init) ∈ wsG := mem_t 0 200 (by decide +kernel) (by decide +kernel)
theorem ml_Peg_39 : Cond.methodLink "PegWatch" 39 (mY md_Reckoning_init) ∈ wsG := mem_t 1 64 (by decide +kernel) (by decide +kernel)
theorem ml_Peg_48 : Cond.methodLink "PegWatch" 48 (mY md_Voyage_init) ∈ wsG := mem_t 1 106 (by decide +kernel) (by decide +kernel)
theorem ml_Peg_65 : ML "PegWatch" 65 (mY md_Compass_isPoint) := Or.inl (mem_t 1 165 (by decide +kernel) (by decide +kernel))
theorem ml_Peg_75 : ML "PegWatch" 75 (mY md_Compass_hasFigureZero) := Or.inl (mem_t 1 174 (by decide +kernel) (by decide +kernel))
theorem ml_Peg_78 : ML "PegWatch" 78 (mY md_Compass_pointNamed) := Or.inl (mem_t 1 177 (by decide +kernel) (by decide +kernel))
theorem ml_Peg_82 : ML "PegWatch" 82 (mY md_Compass_lettersThatBegin) := Or.inl (mem_t 1 181 (by decide +kernel) (by decide +kernel))
theorem ml_Peg_85 : ML "PegWatch" 85 (mY md_Compass_turnsBetween) := Or.inl (mem_t 1 191 (by decide +kernel) (by decide +kernel))
theorem ml_Peg_90 : ML "PegWatch" 90 (mY md_Peg_isWithin) := Or.inl (mem_t 1 199 (by decide +kernel) (by decide +kernel))
theorem ml_Peg_95 : ML "PegWatch" 95 (mY md_Compass_eastOf) := Or.inl (mem_t 1 203 (by decide +kernel) (by decide +kernel))
theorem ml_Peg_98 : ML "PegWatch" 98 (mY md_Compass_northOf) := Or.inl (mem_t 1 219 (by decide +kernel) (by decide +kernel))
theorem ml_Peg_101 : Cond.methodLink "PegWatch" 101 (mY md_Words_append) ∈ wsG := mem_t 1 224 (by decide +kernel) (by decide +kernel)
theorem ml_Peg_107 : Cond.methodLink "PegWatch" 107 (mY md_Words_firstFault) ∈ wsG := mem_t 1 236 (by decide +kernel) (by decide +kernel)
theorem ml_Peg_111 : Cond.methodLink "PegWatch" 111 (mY md_Words_meaning) ∈ wsG := mem_t 2 12 (by decide +kernel) (by decide +kernel)
theorem ml_Peg_117 : Cond.methodLink "PegWatch" 117 (mY md_Board_isWatch) ∈ wsG := mem_t 2 29 (by decide +kernel) (by decide +kernel)
theorem ml_Peg_126 : Cond.methodLink "PegWatch" 126 (mY md_Watch_putPeg) ∈ wsG := mem_t 2 33 (by decide +kernel) (by decide +kernel)
theorem ml_Peg_129 : Cond.methodLink "PegWatch" 129 (mY md_Watch_putKnots) ∈ wsG := mem_t 2 68 (by decide +kernel) (by decide +kernel)
theorem ml_Peg_132 : ML "PegWatch" 132 (mY md_Watch_mostOf) := Or.inl (mem_t 2 76 (by decide +kernel) (by decide +kernel))
theorem ml_Peg_135 : Cond.methodLink "PegWatch" 135 (mY md_Watch_putTrait) ∈ wsG := mem_t 2 79 (by decide +kernel) (by decide +kernel)
theorem ml_Peg_138 : ML "PegWatch" 138 (mY md_Compass_pointsFarther) := Or.inl (mem_t 2 87 (by decide +kernel) (by decide +kernel))
theorem ml_Peg_150 : Cond.methodLink "PegWatch" 150 (mY md_Watch_wayEast) ∈ wsG := mem_t 2 94 (by decide +kernel) (by decide +kernel)
theorem ml_Peg_153 : Cond.methodLink "PegWatch" 153 (mY md_Watch_wayNorth) ∈ wsG := mem_t 2 104 (by decide +kernel) (by decide +kernel)
theorem ml_Peg_157 : Cond.methodLink "PegWatch" 157 (mY md_Chart_drawAnew) ∈ wsG := mem_t 2 116 (by decide +kernel) (by decide +kernel)
theorem ml_Peg_161 : Cond.methodLink "PegWatch" 161 (mY md_Log_startFrom) ∈ wsG := mem_t 2 117 (by decide +kernel) (by decide +kernel)
theorem ml_Peg_165 : Cond.methodLink "PegWatch" 165 (mY md_Chart_isCell) ∈ wsG := mem_t 2 122 (by decide +kernel) (by decide +kernel)
theorem ml_Peg_169 : Cond.methodLink "PegWatch" 169 (mY md_Chart_putDepth) ∈ wsG := mem_t 2 126 (by decide +kernel) (by decide +kernel)
theorem ml_Peg_177 : Cond.methodLink "PegWatch" 177 (mY md_Patch_put) ∈ wsG := mem_t 2 134 (by decide +kernel) (by decide +kernel)
theorem ml_Peg_183 : Cond.methodLink "PegWatch" 183 (mY md_Chart_depthAt) ∈ wsG := mem_t 2 139 (by decide +kernel) (by decide +kernel)
theorem ml_Peg_186 : Cond.methodLink "PegWatch" 186 (mY md_Patch_holds) ∈ wsG := mem_t 2 144 (by decide +kernel) (by decide +kernel)
theorem ml_Peg_189 : ML "PegWatch" 189 (mY md_Peg_asNumber) := Or.inl (mem_t 2 149 (by decide +kernel) (by decide +kernel))
theorem ml_Peg_193 : Cond.methodLink "PegWatch" 193 (mY md_Chart_leastNear) ∈ wsG := mem_t 2 152 (by decide +kernel) (by decide +kernel)
theorem ml_Peg_196 : ML "PegWatch" 196 (mY md_Peg_isStream) := Or.inl (mem_t 2 161 (by decide +kernel) (by decide +kernel))
theorem ml_Peg_199 : Cond.methodLink "PegWatch" 199 (mY md_Chart_streamBecomes) ∈ wsG := mem_t 2 164 (by decide +kernel) (by decide +kernel)
theorem ml_Peg_203 : Cond.methodLink "PegWatch" 203 (mY md_Reckoning_startCells) ∈ wsG := mem_t 2 169 (by decide +kernel) (by decide +kernel)
theorem ml_Peg_206 : Cond.methodLink "PegWatch" 206 (mY md_Log_holdsWatch) ∈ wsG := mem_t 2 197 (by decide +kernel) (by decide +kernel)
theorem ml_Peg_209 : Cond.methodLink "PegWatch" 209 (mY md_Log_append) ∈ wsG := mem_t 2 201 (by decide +kernel) (by decide +kernel)
theorem ml_Peg_212 : ML "PegWatch" 212 (mY md_Row_isSign) := Or.inl (mem_t 2 210 (by decide +kernel) (by decide +kernel))
theorem ml_Peg_217 : ML "PegWatch" 217 (mY md_Row_needsFirst) := Or.inl (mem_t 2 220 (by decide +kernel) (by decide +kernel))
theorem ml_Peg_220 : ML "PegWatch" 220 (mY md_Row_needsSecond) := Or.inl (mem_t 2 221 (by decide +kernel) (by decide +kernel))
theorem ml_Peg_223 : Cond.methodLink "PegWatch" 223 (mY md_Log_isRow) ∈ wsG := mem_t 2 226 (by decide +kernel) (by decide +kernel)
theorem ml_Peg_234 : Cond.methodLink "PegWatch" 234 (mY md_Row_fact) ∈ wsG := mem_t 2 238 (by decide +kernel) (by decide +kernel)
theorem ml_Peg_237 : Cond.methodLink "PegWatch" 237 (mY md_Log_isBehind) ∈ wsG := mem_t 3 7 (by decide +kernel) (by decide +kernel)
theorem ml_Peg_240 : Cond.methodLink "PegWatch" 240 (mY md_Reckoning_lookAhead) ∈ wsG := mem_t 3 11 (by decide +kernel) (by decide +kernel)
theorem ml_Peg_248 : Cond.methodLink "PegWatch" 248 (mY md_Patch_size) ∈ wsG := mem_t 3 92 (by decide +kernel) (by decide +kernel)
theorem ml_Peg_250 : Cond.methodLink "PegWatch" 250 (mY md_Reckoning_seenFromEnd) ∈ wsG := mem_t 3 101 (by decide +kernel) (by decide +kernel)
theorem ml_Peg_254 : Cond.methodLink "PegWatch" 254 (mY md_Peg_mayBlame) ∈ wsG := mem_t 3 123 (by decide +kernel) (by decide +kernel)
theorem ml_Peg_258 : Cond.methodLink "PegWatch" 258 (mY md_Reckoning_findBlamed) ∈ wsG := mem_t 3 131 (by decide +kernel) (by decide +kernel)
theorem ml_Peg_264 : Cond.methodLink "PegWatch" 264 (mY md_Reckoning_foundAt) ∈ wsG := mem_t 3 155 (by decide +kernel) (by decide +kernel)
theorem ml_Peg_267 : Cond.methodLink "PegWatch" 267 (mY md_Reckoning_findFits) ∈ wsG := mem_t 3 163 (by decide +kernel) (by decide +kernel)
theorem ml_Peg_270 : ML "PegWatch" 270 (mY md_Voyage_isVoyage) := Or.inl (mem_t 3 180 (by decide +kernel) (by decide +kernel))
theorem ml_Peg_273 : Cond.methodLink "PegWatch" 273 (mY md_Voyage_fitOut) ∈ wsG := mem_t 3 184 (by decide +kernel) (by decide +kernel)
theorem ml_Peg_276 : Cond.methodLink "PegWatch" 276 (mY md_Voyage_sightedFromCell) ∈ wsG := mem_t 3 189 (by decide +kernel) (by decide +kernel)
theorem ml_Peg_280 : Cond.methodLink "PegWatch" 280 (mY md_Patch_isEmpty) ∈ wsG := mem_t 3 127 (by decide +kernel) (by decide +kernel)
theorem ml_Peg_283 : Cond.methodLink "PegWatch" 283 (mY md_Voyage_sightedFromAll) ∈ wsG := mem_t 3 221 (by decide +kernel) (by decide +kernel)
theorem ml_Peg_287 : Cond.methodLink "PegWatch" 287 (mY md_Voyage_soonestPoint) ∈ wsG := mem_t 3 230 (by decide +kernel) (by decide +kernel)
theorem ml_Peg_302 : Cond.methodLink "PegWatch" 302 (mY md_Words_foldInto) ∈ wsG := mem_t 4 4 (by decide +kernel) (by decide +kernel)
theorem ml_Peg_306 : Cond.methodLink "PegWatch" 306 (mY md_Board_foldWatchesInto) ∈ wsG := mem_t 4 12 (by decide +kernel) (by decide +kernel)
theorem ml_Peg_309 : Cond.methodLink "PegWatch" 309 (mY md_Chart_foldInto) ∈ wsG := mem_t 4 21 (by decide +kernel) (by decide +kernel)
theorem ml_Peg_310 : ML "PegWatch" 310 (mY md_Peg_fold) := Or.inl (mem_t 4 27 (by decide +kernel) (by decide +kernel))
theorem ml_Peg_314 : Cond.methodLink "PegWatch" 314 (mY md_Log_foldInto) ∈ wsG := mem_t 4 28 (by decide +kernel) (by decide +kernel)
theorem ml_Board_1 : Cond.methodLink "PegWatch$Board" 1 Lib.objectInit ∈ wsG := mem_t 0 49 (by decide +kernel) (by decide +kernel)
theorem ml_Board_15 : Cond.methodLink "PegWatch$Board" 15 (mY md_Watch_init) ∈ wsG := mem_t 0 53 (by decide +kernel) (by decide +kernel)
theorem ml_Board_23 : Cond.methodLink "PegWatch$Board" 23 (mY md_Watch_foldInto) ∈ wsG := mem_t 4 16 (by decide +kernel) (by decide +kernel)
theorem ml_Chart_3 : Cond.methodLink "PegWatch$Chart" 3 Lib.objectInit ∈ wsG := mem_t 0 112 (by decide +kernel) (by decide +kernel)
theorem ml_Chart_17 : Cond.methodLink "PegWatch$Chart" 17 (mY md_Patch_init) ∈ wsG := mem_t 0 115 (by decide +kernel) (by decide +kernel)
theorem ml_Chart_28 : Cond.methodLink "PegWatch$Chart" 28 (mY md_Chart_streamBecomes) ∈ wsG := mem_t 0 124 (by decide +kernel) (by decide +kernel)
theorem ml_Chart_32 : Cond.methodLink "PegWatch$Chart" 32 (mY md_Chart_drawAnew) ∈ wsG := mem_t 0 128 (by decide +kernel) (by decide +kernel)
theorem ml_Chart_43 : ML "PegWatch$Chart" 43 (mY md_JArrays_fill) := Or.inl (mem_t 0 132 (by decide +kernel) (by decide +kernel))
theorem ml_Chart_49 : Cond.methodLink "PegWatch$Chart" 49 (mY md_Patch_clear) ∈ wsG := mem_t 0 133 (by decide +kernel) (by decide +kernel)
theorem ml_Chart_52 : Cond.methodLink "PegWatch$Chart" 52 (mY md_Patch_put) ∈ wsG := mem_t 0 138 (by decide +kernel) (by decide +kernel)
theorem ml_Chart_68 : Cond.methodLink "PegWatch$Chart" 68 (mY md_Chart_isCell) ∈ wsG := mem_t 2 143 (by decide +kernel) (by decide +kernel)
theorem ml_Chart_72 : Cond.methodLink "PegWatch$Chart" 72 (mY md_Patch_holds) ∈ wsG := mem_t 2 156 (by decide +kernel) (by decide +kernel)
theorem ml_Chart_75 : Cond.methodLink "PegWatch$Chart" 75 (mY md_Patch_becomeReached) ∈ wsG := mem_t 3 57 (by decide +kernel) (by decide +kernel)
theorem ml_Chart_79 : ML "PegWatch$Chart" 79 (mY md_Peg_isWithin) := Or.inr ⟨"PegWatch", mem_n 3 52 (by decide +kernel) (by decide +kernel)⟩
theorem ml_Chart_83 : ML "PegWatch$Chart" 83 (mY md_Peg_fold) := Or.inr ⟨"PegWatch", mem_n 4 25 (by decide +kernel) (by decide +kernel)⟩
theorem ml_Chart_87 : ML "PegWatch$Chart" 87 (mY md_Peg_asNumber) := Or.inr ⟨"PegWatch", mem_n 4 26 (by decide +kernel) (by decide +kernel)⟩
theorem ml_Compass_11 : ML "PegWatch$Compass" 11 (mY md_Compass_turnsBetween) := Or.inl (mem_t 1 215 (by decide +kernel) (by decide +kernel))
theorem ml_Compass_15 : ML "PegWatch$Compass" 15 (mY md_JMath_min) := Or.inl (mem_t 1 216 (by decide +kernel) (by decide +kernel))
theorem ml_Compass_20 : ML "PegWatch$Compass" 20 (mY md_Compass_angle) := Or.inl (mem_t 1 212 (by decide +kernel) (by decide +kernel))
theorem ml_Compass_27 : ML "PegWatch$Compass" 27 (mY md_Compass_turned) := Or.inl (mem_t 1 206 (by decide +kernel) (by decide +kernel))
theorem ml_Compass_30 : ML "PegWatch$Compass" 30 (mY md_Compass_northOf) := Or.inl (mem_t 1 209 (by decide +kernel) (by decide +kernel))
theorem ml_Compass_37 : ML "PegWatch$Compass" 37 (mY md_Compass_isBeginning) := Or.inl (mem_t 1 184 (by decide +kernel) (by decide +kernel))
theorem ml_Log_3 : Cond.methodLink "PegWatch$Log" 3 Lib.objectInit ∈ wsG := mem_t 0 203 (by decide +kernel) (by decide +kernel)
theorem ml_Log_17 : Cond.methodLink "PegWatch$Log" 17 (mY md_Row_init) ∈ wsG := mem_t 0 207 (by decide +kernel) (by decide +kernel)
theorem ml_Log_22 : Cond.methodLink "PegWatch$Log" 22 (mY md_Log_startFrom) ∈ wsG := mem_t 1 35 (by decide +kernel) (by decide +kernel)
theorem ml_Log_38 : Cond.methodLink "PegWatch$Log" 38 (mY md_Row_become) ∈ wsG := mem_t 2 205 (by decide +kernel) (by decide +kernel)
theorem ml_Log_42 : ML "PegWatch$Log" 42 (mY md_Peg_fold) := Or.inr ⟨"PegWatch", mem_n 4 32 (by decide +kernel) (by decide +kernel)⟩
theorem ml_Log_46 : Cond.methodLink "PegWatch$Log" 46 (mY md_Row_fact) ∈ wsG := mem_t 4 33 (by decide +kernel) (by decide +kernel)
theorem ml_Patch_1 : Cond.methodLink "PegWatch$Patch" 1 Lib.objectInit ∈ wsG := mem_t 0 118 (by decide +kernel) (by decide +kernel)
theorem ml_Patch_15 : ML "PegWatch$Patch" 15 (mY md_JArrays_fill) := Or.inl (mem_t 0 137 (by decide +kernel) (by decide +kernel))
theorem ml_Patch_21 : Cond.methodLink "PegWatch$Patch" 21 arraycopyName ∈ wsG := mem_t 3 68 (by decide +kernel) (by decide +kernel)
theorem ml_Patch_27 : ML "PegWatch$Patch" 27 (mY md_JInteger_bitCount) := Or.inl (mem_t 2 187 (by decide +kernel) (by decide +kernel))
theorem ml_Patch_33 : ML "PegWatch$Patch" 33 (mY md_Peg_isWithin) := Or.inr ⟨"PegWatch", mem_n 2 148 (by decide +kernel) (by decide +kernel)⟩
theorem ml_Patch_39 : ML "PegWatch$Patch" 39 (mY md_JMath_max) := Or.inl (mem_t 0 142 (by decide +kernel) (by decide +kernel))
theorem ml_Patch_45 : ML "PegWatch$Patch" 45 (mY md_JMath_min) := Or.inl (mem_t 0 145 (by decide +kernel) (by decide +kernel))
theorem ml_Patch_48 : ML "PegWatch$Patch" 48 (mY md_Patch_firstBits) := Or.inl (mem_t 0 148 (by decide +kernel) (by decide +kernel))
theorem ml_Patch_58 : ML "PegWatch$Patch" 58 (mY md_Patch_smear) := Or.inl (mem_t 3 61 (by decide +kernel) (by decide +kernel))
theorem ml_Reach_1 : Cond.methodLink "PegWatch$Reach" 1 Lib.objectInit ∈ wsG := mem_t 0 216 (by decide +kernel) (by decide +kernel)
theorem ml_Reach_24 : ML "PegWatch$Reach" 24 (mY md_JMath_floorDiv) := Or.inl (mem_t 3 36 (by decide +kernel) (by decide +kernel))
theorem ml_Reckoning_5 : Cond.methodLink "PegWatch$Reckoning" 5 Lib.objectInit ∈ wsG := mem_t 1 67 (by decide +kernel) (by decide +kernel)
theorem ml_Reckoning_34 : Cond.methodLink "PegWatch$Reckoning" 34 (mY md_Patch_init) ∈ wsG := mem_t 1 70 (by decide +kernel) (by decide +kernel)
theorem ml_Reckoning_53 : Cond.methodLink "PegWatch$Reckoning" 53 (mY md_Reckoning_findStart) ∈ wsG := mem_t 2 173 (by decide +kernel) (by decide +kernel)
theorem ml_Reckoning_56 : Cond.methodLink "PegWatch$Reckoning" 56 (mY md_Patch_size) ∈ wsG := mem_t 2 183 (by decide +kernel) (by decide +kernel)
theorem ml_Reckoning_66 : Cond.methodLink "PegWatch$Reckoning" 66 (mY md_Reckoning_makeReady) ∈ wsG := mem_t 3 15 (by decide +kernel) (by decide +kernel)
theorem ml_Reckoning_70 : Cond.methodLink "PegWatch$Reckoning" 70 (mY md_Reckoning_takeOnFrom) ∈ wsG := mem_t 3 77 (by decide +kernel) (by decide +kernel)
theorem ml_Reckoning_74 : Cond.methodLink "PegWatch$Reckoning" 74 (mY md_Reckoning_lookAhead) ∈ wsG := mem_t 3 105 (by decide +kernel) (by decide +kernel)
theorem ml_Reckoning_78 : Cond.methodLink "PegWatch$Reckoning" 78 (mY md_Reckoning_lookBack) ∈ wsG := mem_t 3 106 (by decide +kernel) (by decide +kernel)
theorem ml_Reckoning_81 : Cond.methodLink "PegWatch$Reckoning" 81 (mY md_Patch_copy) ∈ wsG := mem_t 3 110 (by decide +kernel) (by decide +kernel)
theorem ml_Reckoning_85 : Cond.methodLink "PegWatch$Reckoning" 85 (mY md_Patch_cutTo) ∈ wsG := mem_t 2 179 (by decide +kernel) (by decide +kernel)
theorem ml_Reckoning_94 : Cond.methodLink "PegWatch$Reckoning" 94 (mY md_Reckoning_leadsOnWithout) ∈ wsG := mem_t 3 135 (by decide +kernel) (by decide +kernel)
theorem ml_Reckoning_98 : Cond.methodLink "PegWatch$Reckoning" 98 (mY md_Reckoning_add) ∈ wsG := mem_t 3 143 (by decide +kernel) (by decide +kernel)
theorem ml_Reckoning_101 : Cond.methodLink "PegWatch$Reckoning" 101 (mY md_Reckoning_findPairsOf) ∈ wsG := mem_t 3 147 (by decide +kernel) (by decide +kernel)
theorem ml_Reckoning_106 : Cond.methodLink "PegWatch$Reckoning" 106 (mY md_Reckoning_lookAheadBy) ∈ wsG := mem_t 3 167 (by decide +kernel) (by decide +kernel)
theorem ml_Reckoning_110 : Cond.methodLink "PegWatch$Reckoning" 110 (mY md_Patch_holds) ∈ wsG := mem_t 3 171 (by decide +kernel) (by decide +kernel)
theorem ml_Reckoning_114 : Cond.methodLink "PegWatch$Reckoning" 114 (mY md_Patch_clear) ∈ wsG := mem_t 2 177 (by decide +kernel) (by decide +kernel)
theorem ml_Reckoning_126 : Cond.methodLink "PegWatch$Reckoning" 126 (mY md_Patch_put) ∈ wsG := mem_t 2 178 (by decide +kernel) (by decide +kernel)
theorem ml_Reckoning_135 : Cond.methodLink "PegWatch$Reckoning" 135 (mY md_Row_isWatch) ∈ wsG := mem_t 3 19 (by decide +kernel) (by decide +kernel)
theorem ml_Reckoning_139 : Cond.methodLink "PegWatch$Reckoning" 139 (mY md_Reckoning_stretchCounted) ∈ wsG := mem_t 3 23 (by decide +kernel) (by decide +kernel)
theorem ml_Reckoning_159 : Cond.methodLink "PegWatch$Reckoning" 159 (mY md_Reckoning_stretch) ∈ wsG := mem_t 3 29 (by decide +kernel) (by decide +kernel)
theorem ml_Reckoning_163 : Cond.methodLink "PegWatch$Reckoning" 163 (mY md_Row_findStaying) ∈ wsG := mem_t 3 44 (by decide +kernel) (by decide +kernel)
theorem ml_Reckoning_170 : Cond.methodLink "PegWatch$Reckoning" 170 (mY md_Watch_wayEast) ∈ wsG := mem_t 3 27 (by decide +kernel) (by decide +kernel)
theorem ml_Reckoning_174 : Cond.methodLink "PegWatch$Reckoning" 174 (mY md_Watch_wayNorth) ∈ wsG := mem_t 3 28 (by decide +kernel) (by decide +kernel)
theorem ml_Reckoning_186 : ML "PegWatch$Reckoning" 186 (mY md_Reach_cellsDown) := Or.inl (mem_t 3 33 (by decide +kernel) (by decide +kernel))
theorem ml_Reckoning_195 : ML "PegWatch$Reckoning" 195 (mY md_Reach_cellsUp) := Or.inl (mem_t 3 37 (by decide +kernel) (by decide +kernel))
theorem ml_Reckoning_204 : Cond.methodLink "PegWatch$Reckoning" 204 (mY md_Reach_become) ∈ wsG := mem_t 3 40 (by decide +kernel) (by decide +kernel)
theorem ml_Reckoning_211 : Cond.methodLink "PegWatch$Reckoning" 211 (mY md_Row_takeOn) ∈ wsG := mem_t 3 81 (by decide +kernel) (by decide +kernel)
theorem ml_Reckoning_215 : Cond.methodLink "PegWatch$Reckoning" 215 (mY md_Row_takeBack) ∈ wsG := mem_t 3 111 (by decide +kernel) (by decide +kernel)
theorem ml_Reckoning_219 : Cond.methodLink "PegWatch$Reckoning" 219 (mY md_Patch_meets) ∈ wsG := mem_t 3 139 (by decide +kernel) (by decide +kernel)
theorem ml_Row_3 : Cond.methodLink "PegWatch$Row" 3 Lib.objectInit ∈ wsG := mem_t 0 210 (by decide +kernel) (by decide +kernel)
theorem ml_Row_11 : Cond.methodLink "PegWatch$Row" 11 (mY md_Reach_init) ∈ wsG := mem_t 0 213 (by decide +kernel) (by decide +kernel)
theorem ml_Row_23 : Cond.methodLink "PegWatch$Row" 23 (mY md_Patch_init) ∈ wsG := mem_t 0 239 (by decide +kernel) (by decide +kernel)
theorem ml_Row_28 : Cond.methodLink "PegWatch$Row" 28 (mY md_Row_become) ∈ wsG := mem_t 1 0 (by decide +kernel) (by decide +kernel)
theorem ml_Row_32 : ML "PegWatch$Row" 32 (mY md_Peg_isWithin) := Or.inr ⟨"PegWatch", mem_n 2 213 (by decide +kernel) (by decide +kernel)⟩
theorem ml_Row_38 : ML "PegWatch$Row" 38 (mY md_Row_needsFirst) := Or.inl (mem_t 2 214 (by decide +kernel) (by decide +kernel))
theorem ml_Row_42 : ML "PegWatch$Row" 42 (mY md_Row_needsSecond) := Or.inl (mem_t 2 217 (by decide +kernel) (by decide +kernel))
theorem ml_Row_62 : ML "PegWatch$Row" 62 (mY md_Peg_asNumber) := Or.inr ⟨"PegWatch", mem_n 3 2 (by decide +kernel) (by decide +kernel)⟩
theorem ml_Row_66 : Cond.methodLink "PegWatch$Row" 66 (mY md_Chart_findDepths) ∈ wsG := mem_t 3 48 (by decide +kernel) (by decide +kernel)
theorem ml_Row_70 : Cond.methodLink "PegWatch$Row" 70 (mY md_Chart_findNear) ∈ wsG := mem_t 3 53 (by decide +kernel) (by decide +kernel)
theorem ml_Row_77 : Cond.methodLink "PegWatch$Row" 77 (mY md_Patch_copy) ∈ wsG := mem_t 3 64 (by decide +kernel) (by decide +kernel)
theorem ml_Row_81 : Cond.methodLink "PegWatch$Row" 81 (mY md_Patch_clear) ∈ wsG := mem_t 3 71 (by decide +kernel) (by decide +kernel)
theorem ml_Row_87 : Cond.methodLink "PegWatch$Row" 87 (mY md_Patch_put) ∈ wsG := mem_t 3 72 (by decide +kernel) (by decide +kernel)
theorem ml_Row_94 : Cond.methodLink "PegWatch$Row" 94 (mY md_Patch_turnOver) ∈ wsG := mem_t 3 73 (by decide +kernel) (by decide +kernel)
theorem ml_Row_97 : Cond.methodLink "PegWatch$Row" 97 (mY md_Row_isWatch) ∈ wsG := mem_t 3 85 (by decide +kernel) (by decide +kernel)
theorem ml_Row_113 : Cond.methodLink "PegWatch$Row" 113 (mY md_Patch_becomeReached) ∈ wsG := mem_t 3 86 (by decide +kernel) (by decide +kernel)
theorem ml_Row_117 : Cond.methodLink "PegWatch$Row" 117 (mY md_Patch_cutTo) ∈ wsG := mem_t 3 87 (by decide +kernel) (by decide +kernel)
theorem ml_Row_120 : Cond.methodLink "PegWatch$Row" 120 (mY md_Row_cut) ∈ wsG := mem_t 3 88 (by decide +kernel) (by decide +kernel)
theorem ml_Voyage_3 : Cond.methodLink "PegWatch$Voyage" 3 Lib.objectInit ∈ wsG := mem_t 1 109 (by decide +kernel) (by decide +kernel)
theorem ml_Voyage_17 : Cond.methodLink "PegWatch$Voyage" 17 (mY md_Patch_init) ∈ wsG := mem_t 1 111 (by decide +kernel) (by decide +kernel)
theorem ml_Voyage_27 : Cond.methodLink "PegWatch$Voyage" 27 (mY md_Reach_init) ∈ wsG := mem_t 1 113 (by decide +kernel) (by decide +kernel)
theorem ml_Voyage_41 : ML "PegWatch$Voyage" 41 (mY md_Peg_isWithin) := Or.inr ⟨"PegWatch", mem_n 3 183 (by decide +kernel) (by decide +kernel)⟩
theorem ml_Voyage_47 : Cond.methodLink "PegWatch$Voyage" 47 (mY md_Chart_findNear) ∈ wsG := mem_t 3 188 (by decide +kernel) (by decide +kernel)
theorem ml_Voyage_51 : Cond.methodLink "PegWatch$Voyage" 51 (mY md_Patch_clear) ∈ wsG := mem_t 3 193 (by decide +kernel) (by decide +kernel)
theorem ml_Voyage_54 : Cond.methodLink "PegWatch$Voyage" 54 (mY md_Patch_put) ∈ wsG := mem_t 3 194 (by decide +kernel) (by decide +kernel)
theorem ml_Voyage_58 : Cond.methodLink "PegWatch$Voyage" 58 (mY md_Voyage_sightedFromLeft) ∈ wsG := mem_t 3 195 (by decide +kernel) (by decide +kernel)
theorem ml_Voyage_62 : Cond.methodLink "PegWatch$Voyage" 62 (mY md_Patch_copy) ∈ wsG := mem_t 3 225 (by decide +kernel) (by decide +kernel)
theorem ml_Voyage_68 : Cond.methodLink "PegWatch$Voyage" 68 (mY md_Voyage_sightedFromAll) ∈ wsG := mem_t 3 234 (by decide +kernel) (by decide +kernel)
theorem ml_Voyage_72 : ML "PegWatch$Voyage" 72 (mY md_Compass_eastOf) := Or.inl (mem_t 3 199 (by decide +kernel) (by decide +kernel))
theorem ml_Voyage_76 : ML "PegWatch$Voyage" 76 (mY md_Compass_northOf) := Or.inl (mem_t 3 200 (by decide +kernel) (by decide +kernel))
theorem ml_Voyage_79 : ML "PegWatch$Voyage" 79 (mY md_Reach_cellsDown) := Or.inl (mem_t 3 201 (by decide +kernel) (by decide +kernel))
theorem ml_Voyage_82 : ML "PegWatch$Voyage" 82 (mY md_Reach_cellsUp) := Or.inl (mem_t 3 202 (by decide +kernel) (by decide +kernel))
theorem ml_Voyage_85 : Cond.methodLink "PegWatch$Voyage" 85 (mY md_Reach_become) ∈ wsG := mem_t 3 203 (by decide +kernel) (by decide +kernel)
theorem ml_Voyage_89 : Cond.methodLink "PegWatch$Voyage" 89 (mY md_Voyage_isOneAground) ∈ wsG := mem_t 3 204 (by decide +kernel) (by decide +kernel)
theorem ml_Voyage_93 : Cond.methodLink "PegWatch$Voyage" 93 (mY md_Voyage_dropSighted) ∈ wsG := mem_t 3 212 (by decide +kernel) (by decide +kernel)
theorem ml_Voyage_96 : Cond.methodLink "PegWatch$Voyage" 96 (mY md_Patch_isEmpty) ∈ wsG := mem_t 3 216 (by decide +kernel) (by decide +kernel)
theorem ml_Voyage_121 : Cond.methodLink "PegWatch$Voyage" 121 (mY md_Patch_seenFrom) ∈ wsG := mem_t 3 208 (by decide +kernel) (by decide +kernel)
theorem ml_Watch_5 : Cond.methodLink "PegWatch$Watch" 5 Lib.objectInit ∈ wsG := mem_t 0 56 (by decide +kernel) (by decide +kernel)
theorem ml_Watch_15 : ML "PegWatch$Watch" 15 (mY md_JArrays_fill) := Or.inl (mem_t 0 57 (by decide +kernel) (by decide +kernel))
theorem ml_Watch_48 : Cond.methodLink "PegWatch$Watch" 48 (mY md_Watch_sumUp) ∈ wsG := mem_t 2 37 (by decide +kernel) (by decide +kernel)
theorem ml_Watch_51 : ML "PegWatch$Watch" 51 (mY md_Watch_byGlass) := Or.inl (mem_t 2 98 (by decide +kernel) (by decide +kernel))
theorem ml_Watch_55 : ML "PegWatch$Watch" 55 (mY md_Peg_fold) := Or.inr ⟨"PegWatch", mem_n 4 20 (by decide +kernel) (by decide +kernel)⟩
theorem ml_Watch_59 : ML "PegWatch$Watch" 59 (mY md_JMath_floorDiv) := Or.inl (mem_t 2 101 (by decide +kernel) (by decide +kernel))
theorem ml_Watch_64 : Cond.methodLink "PegWatch$Watch" 64 (mY md_Watch_sumSpreads) ∈ wsG := mem_t 2 41 (by decide +kernel) (by decide +kernel)
theorem ml_Watch_67 : Cond.methodLink "PegWatch$Watch" 67 (mY md_Watch_sumParts) ∈ wsG := mem_t 2 49 (by decide +kernel) (by decide +kernel)
theorem ml_Watch_71 : Cond.methodLink "PegWatch$Watch" 71 (mY md_Watch_knotsOfPeg) ∈ wsG := mem_t 2 45 (by decide +kernel) (by decide +kernel)
theorem ml_Watch_75 : Cond.methodLink "PegWatch$Watch" 75 (mY md_Watch_madeGood) ∈ wsG := mem_t 2 53 (by decide +kernel) (by decide +kernel)
theorem ml_Watch_78 : ML "PegWatch$Watch" 78 (mY md_Compass_eastOf) := Or.inl (mem_t 2 62 (by decide +kernel) (by decide +kernel))
theorem ml_Watch_81 : ML "PegWatch$Watch" 81 (mY md_Compass_northOf) := Or.inl (mem_t 2 63 (by decide +kernel) (by decide +kernel))
theorem ml_Watch_84 : ML "PegWatch$Watch" 84 (mY md_Compass_turned) := Or.inl (mem_t 2 57 (by decide +kernel) (by decide +kernel))
theorem ml_Watch_87 : ML "PegWatch$Watch" 87 (mY md_Compass_pointsFarther) := Or.inl (mem_t 2 58 (by decide +kernel) (by decide +kernel))
theorem ml_Watch_91 : ML "PegWatch$Watch" 91 (mY md_Compass_turnsBetween) := Or.inl (mem_t 2 61 (by decide +kernel) (by decide +kernel))
theorem ml_Words_3 : Cond.methodLink "PegWatch$Words" 3 Lib.objectInit ∈ wsG := mem_t 0 31 (by decide +kernel) (by decide +kernel)
theorem ml_Words_22 : ML "PegWatch$Words" 22 (mY md_Words_isWord) := Or.inl (mem_t 2 0 (by decide +kernel) (by decide +kernel))
theorem ml_Words_26 : ML "PegWatch$Words" 26 (mY md_Compass_isPoint) := Or.inl (mem_t 2 3 (by decide +kernel) (by decide +kernel))
theorem ml_Words_31 : ML "PegWatch$Words" 31 (mY md_Words_halfway) := Or.inl (mem_t 2 16 (by decide +kernel) (by decide +kernel))
theorem ml_Words_35 : ML "PegWatch$Words" 35 (mY md_Words_turnOf) := Or.inl (mem_t 2 4 (by decide +kernel) (by decide +kernel))
theorem ml_Words_39 : ML "PegWatch$Words" 39 (mY md_Compass_turned) := Or.inl (mem_t 2 20 (by decide +kernel) (by decide +kernel))
theorem ml_Words_42 : ML "PegWatch$Words" 42 (mY md_Peg_fold) := Or.inr ⟨"PegWatch", mem_n 4 8 (by decide +kernel) (by decide +kernel)⟩
theorem ml_Words_46 : ML "PegWatch$Words" 46 (mY md_Peg_isWithin) := Or.inr ⟨"PegWatch", mem_n 2 7 (by decide +kernel) (by decide +kernel)⟩
theorem ml_Words_50 : ML "PegWatch$Words" 50 (mY md_Compass_turnsBetween) := Or.inl (mem_t 2 19 (by decide +kernel) (by decide +kernel))
theorem ml_Law_9 : Cond.methodLink "PegWatchLaw" 9 (mY md_Peg_init) ∈ wsG := mem_t 0 20 (by decide +kernel) (by decide +kernel)
theorem ml_Law_12 : Cond.methodLink "PegWatchLaw" 12 (mY md_Mod_init) ∈ wsG := mem_t 4 36 (by decide +kernel) (by decide +kernel)
theorem ml_Law_13 : Cond.methodLink "PegWatchLaw" 13 (mY md_Peg_name) ∈ wsG := mem_t 1 161 (by decide +kernel) (by decide +kernel)
theorem ml_Law_17 : Cond.methodLink "PegWatchLaw" 17 (mY md_Mod_name) ∈ wsG := mem_t 4 151 (by decide +kernel) (by decide +kernel)
theorem ml_Law_18 : Cond.methodLink "PegWatchLaw" 18 (mY md_Peg_read) ∈ wsG := mem_t 1 170 (by decide +kernel) (by decide +kernel)
theorem ml_Law_21 : Cond.methodLink "PegWatchLaw" 21 (mY md_Mod_read) ∈ wsG := mem_t 4 161 (by decide +kernel) (by decide +kernel)
theorem ml_Law_22 : Cond.methodLink "PegWatchLaw" 22 (mY md_Peg_turns) ∈ wsG := mem_t 1 187 (by decide +kernel) (by decide +kernel)
theorem ml_Law_26 : Cond.methodLink "PegWatchLaw" 26 (mY md_Mod_turns) ∈ wsG := mem_t 4 175 (by decide +kernel) (by decide +kernel)
theorem ml_Law_27 : Cond.methodLink "PegWatchLaw" 27 (mY md_Peg_go) ∈ wsG := mem_t 1 194 (by decide +kernel) (by decide +kernel)
theorem ml_Law_30 : Cond.methodLink "PegWatchLaw" 30 (mY md_Mod_go) ∈ wsG := mem_t 4 182 (by decide +kernel) (by decide +kernel)
theorem ml_Law_31 : Cond.methodLink "PegWatchLaw" 31 (mY md_Peg_word) ∈ wsG := mem_t 1 220 (by decide +kernel) (by decide +kernel)
theorem ml_Law_34 : Cond.methodLink "PegWatchLaw" 34 (mY md_Mod_word) ∈ wsG := mem_t 4 196 (by decide +kernel) (by decide +kernel)
theorem ml_Law_35 : Cond.methodLink "PegWatchLaw" 35 (mY md_Peg_hush) ∈ wsG := mem_t 1 228 (by decide +kernel) (by decide +kernel)
theorem ml_Law_39 : Cond.methodLink "PegWatchLaw" 39 (mY md_Mod_hush) ∈ wsG := mem_t 4 200 (by decide +kernel) (by decide +kernel)
theorem ml_Law_40 : Cond.methodLink "PegWatchLaw" 40 (mY md_Peg_fault) ∈ wsG := mem_t 1 232 (by decide +kernel) (by decide +kernel)
theorem ml_Law_43 : Cond.methodLink "PegWatchLaw" 43 (mY md_Mod_fault) ∈ wsG := mem_t 4 204 (by decide +kernel) (by decide +kernel)
theorem ml_Law_44 : Cond.methodLink "PegWatchLaw" 44 (mY md_Peg_told) ∈ wsG := mem_t 2 8 (by decide +kernel) (by decide +kernel)
theorem ml_Law_47 : Cond.methodLink "PegWatchLaw" 47 (mY md_Mod_told) ∈ wsG := mem_t 4 212 (by decide +kernel) (by decide +kernel)
theorem ml_Law_48 : Cond.methodLink "PegWatchLaw" 48 (mY md_Peg_watch) ∈ wsG := mem_t 2 21 (by decide +kernel) (by decide +kernel)
theorem ml_Law_51 : Cond.methodLink "PegWatchLaw" 51 (mY md_Mod_watch) ∈ wsG := mem_t 4 216 (by decide +kernel) (by decide +kernel)
theorem ml_Law_52 : Cond.methodLink "PegWatchLaw" 52 (mY md_Peg_peg) ∈ wsG := mem_t 2 25 (by decide +kernel) (by decide +kernel)
theorem ml_Law_56 : Cond.methodLink "PegWatchLaw" 56 (mY md_Mod_peg) ∈ wsG := mem_t 4 220 (by decide +kernel) (by decide +kernel)
theorem ml_Law_57 : Cond.methodLink "PegWatchLaw" 57 (mY md_Peg_knots) ∈ wsG := mem_t 2 64 (by decide +kernel) (by decide +kernel)
theorem ml_Law_60 : Cond.methodLink "PegWatchLaw" 60 (mY md_Mod_knots) ∈ wsG := mem_t 4 228 (by decide +kernel) (by decide +kernel)
theorem ml_Law_61 : Cond.methodLink "PegWatchLaw" 61 (mY md_Peg_set) ∈ wsG := mem_t 2 72 (by decide +kernel) (by decide +kernel)
theorem ml_Law_64 : Cond.methodLink "PegWatchLaw" 64 (mY md_Mod_set) ∈ wsG := mem_t 4 232 (by decide +kernel) (by decide +kernel)
theorem ml_Law_65 : Cond.methodLink "PegWatchLaw" 65 (mY md_Peg_leeway) ∈ wsG := mem_t 2 83 (by decide +kernel) (by decide +kernel)
theorem ml_Law_68 : Cond.methodLink "PegWatchLaw" 68 (mY md_Mod_leeway) ∈ wsG := mem_t 4 236 (by decide +kernel) (by decide +kernel)
theorem ml_Law_69 : Cond.methodLink "PegWatchLaw" 69 (mY md_Peg_way) ∈ wsG := mem_t 2 88 (by decide +kernel) (by decide +kernel)
theorem ml_Law_73 : Cond.methodLink "PegWatchLaw" 73 (mY md_Mod_way) ∈ wsG := mem_t 5 3 (by decide +kernel) (by decide +kernel)
theorem ml_Law_74 : Cond.methodLink "PegWatchLaw" 74 (mY md_Peg_miss) ∈ wsG := mem_t 2 108 (by decide +kernel) (by decide +kernel)
theorem ml_Law_77 : Cond.methodLink "PegWatchLaw" 77 (mY md_Mod_miss) ∈ wsG := mem_t 5 16 (by decide +kernel) (by decide +kernel)
theorem ml_Law_78 : Cond.methodLink "PegWatchLaw" 78 (mY md_Peg_chart) ∈ wsG := mem_t 2 112 (by decide +kernel) (by decide +kernel)
theorem ml_Law_81 : Cond.methodLink "PegWatchLaw" 81 (mY md_Mod_chart) ∈ wsG := mem_t 5 20 (by decide +kernel) (by decide +kernel)
theorem ml_Law_82 : Cond.methodLink "PegWatchLaw" 82 (mY md_Peg_sea) ∈ wsG := mem_t 2 118 (by decide +kernel) (by decide +kernel)
theorem ml_Law_86 : Cond.methodLink "PegWatchLaw" 86 (mY md_Mod_sea) ∈ wsG := mem_t 5 24 (by decide +kernel) (by decide +kernel)
theorem ml_Law_87 : Cond.methodLink "PegWatchLaw" 87 (mY md_Peg_weed) ∈ wsG := mem_t 2 130 (by decide +kernel) (by decide +kernel)
theorem ml_Law_91 : Cond.methodLink "PegWatchLaw" 91 (mY md_Mod_weed) ∈ wsG := mem_t 5 35 (by decide +kernel) (by decide +kernel)
theorem ml_Law_92 : Cond.methodLink "PegWatchLaw" 92 (mY md_Peg_about) ∈ wsG := mem_t 2 135 (by decide +kernel) (by decide +kernel)
theorem ml_Law_95 : Cond.methodLink "PegWatchLaw" 95 (mY md_Mod_about) ∈ wsG := mem_t 5 39 (by decide +kernel) (by decide +kernel)
theorem ml_Law_96 : Cond.methodLink "PegWatchLaw" 96 (mY md_Peg_stream) ∈ wsG := mem_t 2 157 (by decide +kernel) (by decide +kernel)
theorem ml_Law_99 : Cond.methodLink "PegWatchLaw" 99 (mY md_Mod_stream) ∈ wsG := mem_t 5 51 (by decide +kernel) (by decide +kernel)
theorem ml_Law_100 : Cond.methodLink "PegWatchLaw" 100 (mY md_Peg_start) ∈ wsG := mem_t 2 165 (by decide +kernel) (by decide +kernel)
theorem ml_Law_103 : Cond.methodLink "PegWatchLaw" 103 (mY md_Mod_start) ∈ wsG := mem_t 5 83 (by decide +kernel) (by decide +kernel)
theorem ml_Law_104 : Cond.methodLink "PegWatchLaw" 104 (mY md_Peg_run) ∈ wsG := mem_t 2 193 (by decide +kernel) (by decide +kernel)
theorem ml_Law_107 : Cond.methodLink "PegWatchLaw" 107 (mY md_Mod_run) ∈ wsG := mem_t 5 55 (by decide +kernel) (by decide +kernel)
theorem ml_Law_108 : Cond.methodLink "PegWatchLaw" 108 (mY md_Peg_sign) ∈ wsG := mem_t 2 206 (by decide +kernel) (by decide +kernel)
theorem ml_Law_111 : Cond.methodLink "PegWatchLaw" 111 (mY md_Mod_sign) ∈ wsG := mem_t 5 63 (by decide +kernel) (by decide +kernel)
theorem ml_Law_112 : Cond.methodLink "PegWatchLaw" 112 (mY md_Peg_count) ∈ wsG := mem_t 2 222 (by decide +kernel) (by decide +kernel)
theorem ml_Law_116 : Cond.methodLink "PegWatchLaw" 116 (mY md_Mod_count) ∈ wsG := mem_t 5 67 (by decide +kernel) (by decide +kernel)
theorem ml_Law_117 : Cond.methodLink "PegWatchLaw" 117 (mY md_Peg_strike) ∈ wsG := mem_t 2 230 (by decide +kernel) (by decide +kernel)
theorem ml_Law_120 : Cond.methodLink "PegWatchLaw" 120 (mY md_Mod_strike) ∈ wsG := mem_t 5 75 (by decide +kernel) (by decide +kernel)
theorem ml_Law_121 : Cond.methodLink "PegWatchLaw" 121 (mY md_Peg_row) ∈ wsG := mem_t 2 234 (by decide +kernel) (by decide +kernel)
theorem ml_Law_124 : Cond.methodLink "PegWatchLaw" 124 (mY md_Mod_row) ∈ wsG := mem_t 5 79 (by decide +kernel) (by decide +kernel)
theorem ml_Law_125 : Cond.methodLink "PegWatchLaw" 125 (mY md_Peg_patch) ∈ wsG := mem_t 3 3 (by decide +kernel) (by decide +kernel)
theorem ml_Law_128 : Cond.methodLink "PegWatchLaw" 128 (mY md_Mod_patch) ∈ wsG := mem_t 5 95 (by decide +kernel) (by decide +kernel)
theorem ml_Law_129 : Cond.methodLink "PegWatchLaw" 129 (mY md_Peg_has) ∈ wsG := mem_t 3 93 (by decide +kernel) (by decide +kernel)
theorem ml_Law_132 : Cond.methodLink "PegWatchLaw" 132 (mY md_Mod_has) ∈ wsG := mem_t 5 159 (by decide +kernel) (by decide +kernel)
theorem ml_Law_133 : Cond.methodLink "PegWatchLaw" 133 (mY md_Peg_here) ∈ wsG := mem_t 3 97 (by decide +kernel) (by decide +kernel)
theorem ml_Law_136 : Cond.methodLink "PegWatchLaw" 136 (mY md_Mod_here) ∈ wsG := mem_t 5 163 (by decide +kernel) (by decide +kernel)
theorem ml_Law_137 : Cond.methodLink "PegWatchLaw" 137 (mY md_Peg_was) ∈ wsG := mem_t 3 115 (by decide +kernel) (by decide +kernel)
theorem ml_Law_140 : Cond.methodLink "PegWatchLaw" 140 (mY md_Mod_was) ∈ wsG := mem_t 5 171 (by decide +kernel) (by decide +kernel)
theorem ml_Law_141 : Cond.methodLink "PegWatchLaw" 141 (mY md_Peg_blamed) ∈ wsG := mem_t 3 119 (by decide +kernel) (by decide +kernel)
theorem ml_Law_144 : Cond.methodLink "PegWatchLaw" 144 (mY md_Mod_blamed) ∈ wsG := mem_t 5 175 (by decide +kernel) (by decide +kernel)
theorem ml_Law_145 : Cond.methodLink "PegWatchLaw" 145 (mY md_Peg_blame) ∈ wsG := mem_t 3 151 (by decide +kernel) (by decide +kernel)
theorem ml_Law_148 : Cond.methodLink "PegWatchLaw" 148 (mY md_Mod_blame) ∈ wsG := mem_t 5 199 (by decide +kernel) (by decide +kernel)
theorem ml_Law_149 : Cond.methodLink "PegWatchLaw" 149 (mY md_Peg_fits) ∈ wsG := mem_t 3 159 (by decide +kernel) (by decide +kernel)
theorem ml_Law_152 : Cond.methodLink "PegWatchLaw" 152 (mY md_Mod_fits) ∈ wsG := mem_t 5 203 (by decide +kernel) (by decide +kernel)
theorem ml_Law_153 : Cond.methodLink "PegWatchLaw" 153 (mY md_Peg_fit) ∈ wsG := mem_t 3 172 (by decide +kernel) (by decide +kernel)
theorem ml_Law_156 : Cond.methodLink "PegWatchLaw" 156 (mY md_Mod_fit) ∈ wsG := mem_t 5 211 (by decide +kernel) (by decide +kernel)
theorem ml_Law_157 : Cond.methodLink "PegWatchLaw" 157 (mY md_Peg_sights) ∈ wsG := mem_t 3 176 (by decide +kernel) (by decide +kernel)
theorem ml_Law_161 : Cond.methodLink "PegWatchLaw" 161 (mY md_Mod_sights) ∈ wsG := mem_t 5 215 (by decide +kernel) (by decide +kernel)
theorem ml_Law_162 : Cond.methodLink "PegWatchLaw" 162 (mY md_Peg_sure) ∈ wsG := mem_t 3 217 (by decide +kernel) (by decide +kernel)
theorem ml_Law_165 : Cond.methodLink "PegWatchLaw" 165 (mY md_Mod_sure) ∈ wsG := mem_t 5 229 (by decide +kernel) (by decide +kernel)
theorem ml_Law_166 : Cond.methodLink "PegWatchLaw" 166 (mY md_Peg_course) ∈ wsG := mem_t 3 226 (by decide +kernel) (by decide +kernel)
theorem ml_Law_169 : Cond.methodLink "PegWatchLaw" 169 (mY md_Mod_course) ∈ wsG := mem_t 5 237 (by decide +kernel) (by decide +kernel)
theorem ml_Law_170 : Cond.methodLink "PegWatchLaw" 170 (mY md_Peg_many) ∈ wsG := mem_t 3 235 (by decide +kernel) (by decide +kernel)
theorem ml_Law_173 : Cond.methodLink "PegWatchLaw" 173 (mY md_Mod_many) ∈ wsG := mem_t 6 1 (by decide +kernel) (by decide +kernel)
theorem ml_Law_174 : Cond.methodLink "PegWatchLaw" 174 (mY md_Peg_digest) ∈ wsG := mem_t 3 239 (by decide +kernel) (by decide +kernel)
theorem ml_Law_178 : Cond.methodLink "PegWatchLaw" 178 (mY md_Mod_digest) ∈ wsG := mem_t 6 9 (by decide +kernel) (by decide +kernel)
theorem ml_Mod_1 : Cond.methodLink "PegWatchModel" 1 Lib.objectInit ∈ wsG := mem_t 4 39 (by decide +kernel) (by decide +kernel)
theorem ml_Mod_63 : Cond.methodLink "PegWatchModel" 63 (mY md_Mod_flood) ∈ wsG := mem_t 4 40 (by decide +kernel) (by decide +kernel)
theorem ml_Mod_75 : ML "PegWatchModel" 75 (mY md_Mod_in) := Or.inl (mem_t 4 158 (by decide +kernel) (by decide +kernel))
theorem ml_Mod_79 : ML "PegWatchModel" 79 (mY md_Mod_isPoint) := Or.inl (mem_t 4 155 (by decide +kernel) (by decide +kernel))
theorem ml_Mod_83 : ML "PegWatchModel" 83 (mY md_Mod_lettersOf) := Or.inl (mem_t 4 165 (by decide +kernel) (by decide +kernel))
theorem ml_Mod_87 : ML "PegWatchModel" 87 (mY md_Mod_cutOff) := Or.inl (mem_t 4 168 (by decide +kernel) (by decide +kernel))
theorem ml_Mod_91 : Cond.methodLink "PegWatchModel" 91 (mY md_Mod_begins) ∈ wsG := mem_t 4 171 (by decide +kernel) (by decide +kernel)
theorem ml_Mod_94 : ML "PegWatchModel" 94 (mY md_Mod_turnsOf) := Or.inl (mem_t 4 179 (by decide +kernel) (by decide +kernel))
theorem ml_Mod_97 : Cond.methodLink "PegWatchModel" 97 (mY md_Mod_northOf) ∈ wsG := mem_t 4 191 (by decide +kernel) (by decide +kernel)
theorem ml_Mod_101 : Cond.methodLink "PegWatchModel" 101 (mY md_Mod_eastOf) ∈ wsG := mem_t 4 187 (by decide +kernel) (by decide +kernel)
theorem ml_Mod_108 : Cond.methodLink "PegWatchModel" 108 (mY md_Mod_faultOf) ∈ wsG := mem_t 4 208 (by decide +kernel) (by decide +kernel)
theorem ml_Mod_115 : Cond.methodLink "PegWatchModel" 115 (mY md_Mod_isWatch) ∈ wsG := mem_t 4 224 (by decide +kernel) (by decide +kernel)
theorem ml_Mod_118 : ML "PegWatchModel" 118 (mY md_Mod_leewayOf) := Or.inl (mem_t 5 0 (by decide +kernel) (by decide +kernel))
theorem ml_Mod_131 : ML "PegWatchModel" 131 (mY md_Mod_down) := Or.inl (mem_t 5 13 (by decide +kernel) (by decide +kernel))
theorem ml_Mod_136 : Cond.methodLink "PegWatchModel" 136 (mY md_Mod_goWatch) ∈ wsG := mem_t 5 9 (by decide +kernel) (by decide +kernel)
theorem ml_Mod_143 : Cond.methodLink "PegWatchModel" 143 (mY md_Mod_isCell) ∈ wsG := mem_t 5 28 (by decide +kernel) (by decide +kernel)
theorem ml_Mod_147 : ML "PegWatchModel" 147 (mY md_Mod_at) := Or.inl (mem_t 5 32 (by decide +kernel) (by decide +kernel))
theorem ml_Mod_150 : Cond.methodLink "PegWatchModel" 150 (mY md_Mod_isLand) ∈ wsG := mem_t 5 47 (by decide +kernel) (by decide +kernel)
theorem ml_Mod_153 : Cond.methodLink "PegWatchModel" 153 (mY md_Mod_nearest) ∈ wsG := mem_t 5 43 (by decide +kernel) (by decide +kernel)
theorem ml_Mod_168 : Cond.methodLink "PegWatchModel" 168 (mY md_Mod_add) ∈ wsG := mem_t 5 59 (by decide +kernel) (by decide +kernel)
theorem ml_Mod_172 : Cond.methodLink "PegWatchModel" 172 (mY md_Mod_isRow) ∈ wsG := mem_t 5 71 (by decide +kernel) (by decide +kernel)
theorem ml_Mod_175 : Cond.methodLink "PegWatchModel" 175 (mY md_Mod_begin) ∈ wsG := mem_t 5 87 (by decide +kernel) (by decide +kernel)
theorem ml_Mod_178 : Cond.methodLink "PegWatchModel" 178 (mY md_Mod_cells) ∈ wsG := mem_t 5 91 (by decide +kernel) (by decide +kernel)
theorem ml_Mod_181 : Cond.methodLink "PegWatchModel" 181 (mY md_Mod_isNear) ∈ wsG := mem_t 5 151 (by decide +kernel) (by decide +kernel)
theorem ml_Mod_184 : Cond.methodLink "PegWatchModel" 184 (mY md_Mod_isSign) ∈ wsG := mem_t 5 147 (by decide +kernel) (by decide +kernel)
theorem ml_Mod_187 : Cond.methodLink "PegWatchModel" 187 (mY md_Mod_wayOf) ∈ wsG := mem_t 5 119 (by decide +kernel) (by decide +kernel)
theorem ml_Mod_191 : Cond.methodLink "PegWatchModel" 191 (mY md_Mod_eastLow) ∈ wsG := mem_t 5 123 (by decide +kernel) (by decide +kernel)
theorem ml_Mod_194 : Cond.methodLink "PegWatchModel" 194 (mY md_Mod_eastHigh) ∈ wsG := mem_t 5 127 (by decide +kernel) (by decide +kernel)
theorem ml_Mod_197 : Cond.methodLink "PegWatchModel" 197 (mY md_Mod_northLow) ∈ wsG := mem_t 5 131 (by decide +kernel) (by decide +kernel)
theorem ml_Mod_200 : Cond.methodLink "PegWatchModel" 200 (mY md_Mod_northHigh) ∈ wsG := mem_t 5 135 (by decide +kernel) (by decide +kernel)
theorem ml_Mod_203 : Cond.methodLink "PegWatchModel" 203 (mY md_Mod_dilate) ∈ wsG := mem_t 5 139 (by decide +kernel) (by decide +kernel)
theorem ml_Mod_206 : Cond.methodLink "PegWatchModel" 206 (mY md_Mod_cutBy) ∈ wsG := mem_t 5 143 (by decide +kernel) (by decide +kernel)
theorem ml_Mod_210 : Cond.methodLink "PegWatchModel" 210 (mY md_Mod_keep) ∈ wsG := mem_t 5 111 (by decide +kernel) (by decide +kernel)
theorem ml_Mod_213 : Cond.methodLink "PegWatchModel" 213 (mY md_Mod_step) ∈ wsG := mem_t 5 115 (by decide +kernel) (by decide +kernel)
theorem ml_Mod_216 : Cond.methodLink "PegWatchModel" 216 (mY md_Mod_measure) ∈ wsG := mem_t 5 103 (by decide +kernel) (by decide +kernel)
theorem ml_Mod_219 : Cond.methodLink "PegWatchModel" 219 (mY md_Mod_goAll) ∈ wsG := mem_t 5 107 (by decide +kernel) (by decide +kernel)
theorem ml_Mod_223 : Cond.methodLink "PegWatchModel" 223 (mY md_Mod_goPlain) ∈ wsG := mem_t 5 99 (by decide +kernel) (by decide +kernel)
theorem ml_Mod_226 : Cond.methodLink "PegWatchModel" 226 (mY md_Mod_lay) ∈ wsG := mem_t 5 155 (by decide +kernel) (by decide +kernel)
theorem ml_Mod_229 : Cond.methodLink "PegWatchModel" 229 (mY md_Mod_goBack) ∈ wsG := mem_t 5 167 (by decide +kernel) (by decide +kernel)
theorem ml_Mod_232 : Cond.methodLink "PegWatchModel" 232 (mY md_Mod_isEmptyNow) ∈ wsG := mem_t 5 183 (by decide +kernel) (by decide +kernel)
theorem ml_Mod_239 : Cond.methodLink "PegWatchModel" 239 (mY md_Mod_helps) ∈ wsG := mem_t 5 191 (by decide +kernel) (by decide +kernel)
theorem ml_Mod_242 : Cond.methodLink "PegWatchModel" 242 (mY md_Mod_seekPairs) ∈ wsG := mem_t 5 195 (by decide +kernel) (by decide +kernel)
theorem ml_Mod_248 : Cond.methodLink "PegWatchModel" 248 (mY md_Mod_isBlaming) ∈ wsG := mem_t 5 179 (by decide +kernel) (by decide +kernel)
theorem ml_Mod_251 : Cond.methodLink "PegWatchModel" 251 (mY md_Mod_seek) ∈ wsG := mem_t 5 187 (by decide +kernel) (by decide +kernel)
theorem ml_Mod_257 : Cond.methodLink "PegWatchModel" 257 (mY md_Mod_seekFits) ∈ wsG := mem_t 5 207 (by decide +kernel) (by decide +kernel)
theorem ml_Mod_260 : ML "PegWatchModel" 260 (mY md_Mod_up) := Or.inl (mem_t 5 226 (by decide +kernel) (by decide +kernel))
theorem ml_Mod_263 : ML "PegWatchModel" 263 (mY md_Mod_isCourse) := Or.inl (mem_t 5 219 (by decide +kernel) (by decide +kernel))
theorem ml_Mod_267 : Cond.methodLink "PegWatchModel" 267 (mY md_Mod_seesAt) ∈ wsG := mem_t 5 222 (by decide +kernel) (by decide +kernel)
theorem ml_Mod_271 : Cond.methodLink "PegWatchModel" 271 (mY md_Mod_sureBy) ∈ wsG := mem_t 5 233 (by decide +kernel) (by decide +kernel)
theorem ml_Mod_278 : Cond.methodLink "PegWatchModel" 278 (mY md_Mod_landMany) ∈ wsG := mem_t 6 5 (by decide +kernel) (by decide +kernel)
theorem ml_Mod_287 : Cond.methodLink "PegWatchModel" 287 (mY md_Mod_mix) ∈ wsG := mem_t 6 14 (by decide +kernel) (by decide +kernel)
theorem ml_Mod_293 : Cond.methodLink "PegWatchModel" 293 (mY md_Mod_mixWatch) ∈ wsG := mem_t 6 19 (by decide +kernel) (by decide +kernel)
theorem ml_Mod_296 : Cond.methodLink "PegWatchModel" 296 (mY md_Mod_mixChart) ∈ wsG := mem_t 6 23 (by decide +kernel) (by decide +kernel)
theorem ml_Mod_299 : Cond.methodLink "PegWatchModel" 299 (mY md_Mod_patch) ∈ wsG := mem_t 6 27 (by decide +kernel) (by decide +kernel)
theorem mc_Peg_init : MC md_Peg_init 0 := ⟨mem_t 0 22 (by decide +kernel) (by decide +kernel), mem_t 0 1 (by decide +kernel) (by decide +kernel), by decide +kernel, by decide +kernel, by decide +kernel, by decide +kernel⟩
theorem mi_Peg_init : Cond.instanceMethod (mY md_Peg_init) ∈ wsG := mem_t 0 21 (by decide +kernel) (by decide +kernel)
theorem mc_Words_init : MC md_Words_init 0 := ⟨mem_t 0 30 (by decide +kernel) (by decide +kernel), mem_t 0 2 (by decide +kernel) (by decide +kernel), by decide +kernel, by decide +kernel, by decide +kernel, by decide +kernel⟩
theorem mi_Words_init : Cond.instanceMethod (mY md_Words_init) ∈ wsG := mem_t 0 29 (by decide +kernel) (by decide +kernel)
theorem mc_Board_init : MC md_Board_init 0 := ⟨mem_t 0 48 (by decide +kernel) (by decide +kernel), mem_t 0 3 (by decide +kernel) (by decide +kernel), by decide +kernel, by decide +kernel, by decide +kernel, by decide +kernel⟩
theorem mi_Board_init : Cond.instanceMethod (mY md_Board_init) ∈ wsG := mem_t 0 47 (by decide +kernel) (by decide +kernel)
theorem mc_Watch_init : MC md_Watch_init 0 := ⟨mem_t 0 55 (by decide +kernel) (by decide +kernel), mem_t 0 4 (by decide +kernel) (by decide +kernel), by decide +kernel, by decide +kernel, by decide +kernel, by decide +kernel⟩
theorem mi_Watch_init : Cond.instanceMethod (mY md_Watch_init) ∈ wsG := mem_t 0 54 (by decide +kernel) (by decide +kernel)
theorem mc_JArrays_fill : MC md_JArrays_fill 2 := ⟨mem_t 0 59 (by decide +kernel) (by decide +kernel), mem_t 0 5 (by decide +kernel) (by decide +kernel), by decide +kernel, by decide +kernel, by decide +kernel, by decide +kernel⟩
theorem ms_JArrays_fill : Cond.static (mY md_JArrays_fill) ∈ wsG := mem_t 0 58 (by decide +kernel) (by decide +kernel)
theorem mc_Chart_init : MC md_Chart_init 0 := ⟨mem_t 0 111 (by decide +kernel) (by decide +kernel), mem_t 0 6 (by decide +kernel) (by decide +kernel), by decide +kernel, by decide +kernel, by decide +kernel, by decide +kernel⟩
theorem mi_Chart_init : Cond.instanceMethod (mY md_Chart_init) ∈ wsG := mem_t 0 110 (by decide +kernel) (by decide +kernel)
theorem mc_Patch_init : MC md_Patch_init 0 := ⟨mem_t 0 117 (by decide +kernel) (by decide +kernel), mem_t 0 7 (by decide +kernel) (by decide +kernel), by decide +kernel, by decide +kernel, by decide +kernel, by decide +kernel⟩
theorem mi_Patch_init : Cond.instanceMethod (mY md_Patch_init) ∈ wsG := mem_t 0 116 (by decide +kernel) (by decide +kernel)
theorem mc_Chart_streamBecomes : MC md_Chart_streamBecomes 4 := ⟨mem_t 0 127 (by decide +kernel) (by decide +kernel), mem_t 0 6 (by decide +kernel) (by decide +kernel), by decide +kernel, by decide +kernel, by decide +kernel, by decide +kernel⟩
theorem mv_Chart_streamBecomes : Cond.instanceMethod (mY md_Chart_streamBecomes) ∈ wsG ∧ Cond.selects (mY md_Chart_streamBecomes).cls (mY md_Chart_streamBecomes) (mY md_Chart_streamBecomes) ∈ wsG := ⟨mem_t 0 125 (by decide +kernel) (by decide +kernel), mem_t 0 126 (by decide +kernel) (by decide +kernel)⟩
theorem mc_Chart_drawAnew : MC md_Chart_drawAnew 2 := ⟨mem_t 0 131 (by decide +kernel) (by decide +kernel), mem_t 0 6 (by decide +kernel) (by decide +kernel), by decide +kernel, by decide +kernel, by decide +kernel, by decide +kernel⟩
theorem mv_Chart_drawAnew : Cond.instanceMethod (mY md_Chart_drawAnew) ∈ wsG ∧ Cond.selects (mY md_Chart_drawAnew).cls (mY md_Chart_drawAnew) (mY md_Chart_drawAnew) ∈ wsG := ⟨mem_t 0 129 (by decide +kernel) (by decide +kernel), mem_t 0 130 (by decide +kernel) (by decide +kernel)⟩
theorem mc_Patch_clear : MC md_Patch_clear 0 := ⟨mem_t 0 136 (by decide +kernel) (by decide +kernel), mem_t 0 7 (by decide +kernel) (by decide +kernel), by decide +kernel, by decide +kernel, by decide +kernel, by decide +kernel⟩
theorem mv_Patch_clear : Cond.instanceMethod (mY md_Patch_clear) ∈ wsG ∧ Cond.selects (mY md_Patch_clear).cls (mY md_Patch_clear) (mY md_Patch_clear) ∈ wsG := ⟨mem_t 0 134 (by decide +kernel) (by decide +kernel), mem_t 0 135 (by decide +kernel) (by decide +kernel)⟩
theorem mc_Patch_put : MC md_Patch_put 5 := ⟨mem_t 0 141 (by decide +kernel) (by decide +kernel), mem_t 0 7 (by decide +kernel) (by decide +kernel), by decide +kernel, by decide +kernel, by decide +kernel, by decide +kernel⟩
theorem mv_Patch_put : Cond.instanceMethod (mY md_Patch_put) ∈ wsG ∧ Cond.selects (mY md_Patch_put).cls (mY md_Patch_put) (mY md_Patch_put) ∈ wsG := ⟨mem_t 0 139 (by decide +kernel) (by decide +kernel), mem_t 0 140 (by decide +kernel) (by decide +kernel)⟩
theorem mc_JMath_max : MC md_JMath_max 2 := ⟨mem_t 0 144 (by decide +kernel) (by decide +kernel), mem_t 0 8 (by decide +kernel) (by decide +kernel), by decide +kernel, by decide +kernel, by decide +kernel, by decide +kernel⟩
theorem ms_JMath_max : Cond.static (mY md_JMath_max) ∈ wsG := mem_t 0 143 (by decide +kernel) (by decide +kernel)
theorem mc_JMath_min : MC md_JMath_min 2 := ⟨mem_t 0 147 (by decide +kernel) (by decide +kernel), mem_t 0 8 (by decide +kernel) (by decide +kernel), by decide +kernel, by decide +kernel, by decide +kernel, by decide +kernel⟩
theorem ms_JMath_min : Cond.static (mY md_JMath_min) ∈ wsG := mem_t 0 146 (by decide +kernel) (by decide +kernel)
theorem mc_Patch_firstBits : MC md_Patch_firstBits 1 := ⟨mem_t 0 150 (by decide +kernel) (by decide +kernel), mem_t 0 7 (by decide +kernel) (by decide +kernel), by decide +kernel, by decide +kernel, by decide +kernel, by decide +kernel⟩
theorem ms_Patch_firstBits : Cond.static (mY md_Patch_firstBits) ∈ wsG := mem_t 0 149 (by decide +kernel) (by decide +kernel)
theorem mc_Log_init : MC md_Log_init 0 := ⟨mem_t 0 202 (by decide +kernel) (by decide +kernel), mem_t 0 9 (by decide +kernel) (by decide +kernel), by decide +kernel, by decide +kernel, by decide +kernel, by decide +kernel⟩
theorem mi_Log_init : Cond.instanceMethod (mY md_Log_init) ∈ wsG := mem_t 0 201 (by decide +kernel) (by decide +kernel)
theorem mc_Row_init : MC md_Row_init 0 := ⟨mem_t 0 209 (by decide +kernel) (by decide +kernel), mem_t 0 10 (by decide +kernel) (by decide +kernel), by decide +kernel, by decide +kernel, by decide +kernel, by decide +kernel⟩
theorem mi_Row_init : Cond.instanceMethod (mY md_Row_init) ∈ wsG := mem_t 0 208 (by decide +kernel) (by decide +kernel)
theorem mc_Reach_init : MC md_Reach_init 0 := ⟨mem_t 0 215 (by decide +kernel) (by decide +kernel), mem_t 0 11 (by decide +kernel) (by decide +kernel), by decide +kernel, by decide +kernel, by decide +kernel, by decide +kernel⟩
theorem mi_Reach_init : Cond.instanceMethod (mY md_Reach_init) ∈ wsG := mem_t 0 214 (by decide +kernel) (by decide +kernel)
theorem mc_Row_become : MC md_Row_become 4 := ⟨mem_t 1 3 (by decide +kernel) (by decide +kernel), mem_t 0 10 (by decide +kernel) (by decide +kernel), by decide +kernel, by decide +kernel, by decide +kernel, by decide +kernel⟩
theorem mv_Row_become : Cond.instanceMethod (mY md_Row_become) ∈ wsG ∧ Cond.selects (mY md_Row_become).cls (mY md_Row_become) (mY md_Row_become) ∈ wsG := ⟨mem_t 1 1 (by decide +kernel) (by decide +kernel), mem_t 1 2 (by decide +kernel) (by decide +kernel)⟩
theorem mc_Log_startFrom : MC md_Log_startFrom 3 := ⟨mem_t 1 38 (by decide +kernel) (by decide +kernel), mem_t 0 9 (by decide +kernel) (by decide +kernel), by decide +kernel, by decide +kernel, by decide +kernel, by decide +kernel⟩
theorem mv_Log_startFrom : Cond.instanceMethod (mY md_Log_startFrom) ∈ wsG ∧ Cond.selects (mY md_Log_startFrom).cls (mY md_Log_startFrom) (mY md_Log_startFrom) ∈ wsG := ⟨mem_t 1 36 (by decide +kernel) (by decide +kernel), mem_t 1 37 (by decide +kernel) (by decide +kernel)⟩
theorem mc_Reckoning_init : MC md_Reckoning_init 3 := ⟨mem_t 1 66 (by decide +kernel) (by decide +kernel), mem_t 0 12 (by decide +kernel) (by decide +kernel), by decide +kernel, by decide +kernel, by decide +kernel, by decide +kernel⟩
theorem mi_Reckoning_init : Cond.instanceMethod (mY md_Reckoning_init) ∈ wsG := mem_t 1 65 (by decide +kernel) (by decide +kernel)
theorem mc_Voyage_init : MC md_Voyage_init 1 := ⟨mem_t 1 108 (by decide +kernel) (by decide +kernel), mem_t 0 13 (by decide +kernel) (by decide +kernel), by decide +kernel, by decide +kernel, by decide +kernel, by decide +kernel⟩
theorem mi_Voyage_init : Cond.instanceMethod (mY md_Voyage_init) ∈ wsG := mem_t 1 107 (by decide +kernel) (by decide +kernel)
theorem mc_Peg_name : MC md_Peg_name 1 := ⟨mem_t 1 164 (by decide +kernel) (by decide +kernel), mem_t 0 1 (by decide +kernel) (by decide +kernel), by decide +kernel, by decide +kernel, by decide +kernel, by decide +kernel⟩
theorem mv_Peg_name : Cond.instanceMethod (mY md_Peg_name) ∈ wsG ∧ Cond.selects (mY md_Peg_name).cls (mY md_Peg_name) (mY md_Peg_name) ∈ wsG := ⟨mem_t 1 162 (by decide +kernel) (by decide +kernel), mem_t 1 163 (by decide +kernel) (by decide +kernel)⟩
theorem mc_Compass_isPoint : MC md_Compass_isPoint 1 := ⟨mem_t 1 167 (by decide +kernel) (by decide +kernel), mem_t 0 15 (by decide +kernel) (by decide +kernel), by decide +kernel, by decide +kernel, by decide +kernel, by decide +kernel⟩
theorem ms_Compass_isPoint : Cond.static (mY md_Compass_isPoint) ∈ wsG := mem_t 1 166 (by decide +kernel) (by decide +kernel)
theorem mc_Peg_read : MC md_Peg_read 1 := ⟨mem_t 1 173 (by decide +kernel) (by decide +kernel), mem_t 0 1 (by decide +kernel) (by decide +kernel), by decide +kernel, by decide +kernel, by decide +kernel, by decide +kernel⟩
theorem mv_Peg_read : Cond.instanceMethod (mY md_Peg_read) ∈ wsG ∧ Cond.selects (mY md_Peg_read).cls (mY md_Peg_read) (mY md_Peg_read) ∈ wsG := ⟨mem_t 1 171 (by decide +kernel) (by decide +kernel), mem_t 1 172 (by decide +kernel) (by decide +kernel)⟩
theorem mc_Compass_hasFigureZero : MC md_Compass_hasFigureZero 1 := ⟨mem_t 1 176 (by decide +kernel) (by decide +kernel), mem_t 0 15 (by decide +kernel) (by decide +kernel), by decide +kernel, by decide +kernel, by decide +kernel, by decide +kernel⟩
theorem ms_Compass_hasFigureZero : Cond.static (mY md_Compass_hasFigureZero) ∈ wsG := mem_t 1 175 (by decide +kernel) (by decide +kernel)
theorem mc_Compass_pointNamed : MC md_Compass_pointNamed 1 := ⟨mem_t 1 179 (by decide +kernel) (by decide +kernel), mem_t 0 15 (by decide +kernel) (by decide +kernel), by decide +kernel, by decide +kernel, by decide +kernel, by decide +kernel⟩
theorem ms_Compass_pointNamed : Cond.static (mY md_Compass_pointNamed) ∈ wsG := mem_t 1 178 (by decide +kernel) (by decide +kernel)
theorem mc_Compass_lettersThatBegin : MC md_Compass_lettersThatBegin 1 := ⟨mem_t 1 183 (by decide +kernel) (by decide +kernel), mem_t 0 15 (by decide +kernel) (by decide +kernel), by decide +kernel, by decide +kernel, by decide +kernel, by decide +kernel⟩
theorem ms_Compass_lettersThatBegin : Cond.static (mY md_Compass_lettersThatBegin) ∈ wsG := mem_t 1 182 (by decide +kernel) (by decide +kernel)
theorem mc_Compass_isBeginning : MC md_Compass_isBeginning 1 := ⟨mem_t 1 186 (by decide +kernel) (by decide +kernel), mem_t 0 15 (by decide +kernel) (by decide +kernel), by decide +kernel, by decide +kernel, by decide +kernel, by decide +kernel⟩
theorem ms_Compass_isBeginning : Cond.static (mY md_Compass_isBeginning) ∈ wsG := mem_t 1 185 (by decide +kernel) (by decide +kernel)
theorem mc_Peg_turns : MC md_Peg_turns 2 := ⟨mem_t 1 190 (by decide +kernel) (by decide +kernel), mem_t 0 1 (by decide +kernel) (by decide +kernel), by decide +kernel, by decide +kernel, by decide +kernel, by decide +kernel⟩
theorem mv_Peg_turns : Cond.instanceMethod (mY md_Peg_turns) ∈ wsG ∧ Cond.selects (mY md_Peg_turns).cls (mY md_Peg_turns) (mY md_Peg_turns) ∈ wsG := ⟨mem_t 1 188 (by decide +kernel) (by decide +kernel), mem_t 1 189 (by decide +kernel) (by decide +kernel)⟩
theorem mc_Compass_turnsBetween : MC md_Compass_turnsBetween 2 := ⟨mem_t 1 193 (by decide +kernel) (by decide +kernel), mem_t 0 15 (by decide +kernel) (by decide +kernel), by decide +kernel, by decide +kernel, by decide +kernel, by decide +kernel⟩
theorem ms_Compass_turnsBetween : Cond.static (mY md_Compass_turnsBetween) ∈ wsG := mem_t 1 192 (by decide +kernel) (by decide +kernel)
theorem mc_Peg_go : MC md_Peg_go 2 := ⟨mem_t 1 197 (by decide +kernel) (by decide +kernel), mem_t 0 1 (by decide +kernel) (by decide +kernel), by decide +kernel, by decide +kernel, by decide +kernel, by decide +kernel⟩
theorem mv_Peg_go : Cond.instanceMethod (mY md_Peg_go) ∈ wsG ∧ Cond.selects (mY md_Peg_go).cls (mY md_Peg_go) (mY md_Peg_go) ∈ wsG := ⟨mem_t 1 195 (by decide +kernel) (by decide +kernel), mem_t 1 196 (by decide +kernel) (by decide +kernel)⟩
theorem mc_Peg_isWithin : MC md_Peg_isWithin 3 := ⟨mem_t 1 201 (by decide +kernel) (by decide +kernel), mem_t 0 1 (by decide +kernel) (by decide +kernel), by decide +kernel, by decide +kernel, by decide +kernel, by decide +kernel⟩
theorem ms_Peg_isWithin : Cond.static (mY md_Peg_isWithin) ∈ wsG := mem_t 1 200 (by decide +kernel) (by decide +kernel)
theorem mc_Compass_eastOf : MC md_Compass_eastOf 1 := ⟨mem_t 1 205 (by decide +kernel) (by decide +kernel), mem_t 0 15 (by decide +kernel) (by decide +kernel), by decide +kernel, by decide +kernel, by decide +kernel, by decide +kernel⟩
theorem ms_Compass_eastOf : Cond.static (mY md_Compass_eastOf) ∈ wsG := mem_t 1 204 (by decide +kernel) (by decide +kernel)
theorem mc_Compass_turned : MC md_Compass_turned 2 := ⟨mem_t 1 208 (by decide +kernel) (by decide +kernel), mem_t 0 15 (by decide +kernel) (by decide +kernel), by decide +kernel, by decide +kernel, by decide +kernel, by decide +kernel⟩
theorem ms_Compass_turned : Cond.static (mY md_Compass_turned) ∈ wsG := mem_t 1 207 (by decide +kernel) (by decide +kernel)
theorem mc_Compass_northOf : MC md_Compass_northOf 1 := ⟨mem_t 1 211 (by decide +kernel) (by decide +kernel), mem_t 0 15 (by decide +kernel) (by decide +kernel), by decide +kernel, by decide +kernel, by decide +kernel, by decide +kernel⟩
theorem ms_Compass_northOf : Cond.static (mY md_Compass_northOf) ∈ wsG := mem_t 1 210 (by decide +kernel) (by decide +kernel)
theorem mc_Compass_angle : MC md_Compass_angle 2 := ⟨mem_t 1 214 (by decide +kernel) (by decide +kernel), mem_t 0 15 (by decide +kernel) (by decide +kernel), by decide +kernel, by decide +kernel, by decide +kernel, by decide +kernel⟩
theorem ms_Compass_angle : Cond.static (mY md_Compass_angle) ∈ wsG := mem_t 1 213 (by decide +kernel) (by decide +kernel)
theorem mc_Peg_word : MC md_Peg_word 1 := ⟨mem_t 1 223 (by decide +kernel) (by decide +kernel), mem_t 0 1 (by decide +kernel) (by decide +kernel), by decide +kernel, by decide +kernel, by decide +kernel, by decide +kernel⟩
theorem mv_Peg_word : Cond.instanceMethod (mY md_Peg_word) ∈ wsG ∧ Cond.selects (mY md_Peg_word).cls (mY md_Peg_word) (mY md_Peg_word) ∈ wsG := ⟨mem_t 1 221 (by decide +kernel) (by decide +kernel), mem_t 1 222 (by decide +kernel) (by decide +kernel)⟩
theorem mc_Words_append : MC md_Words_append 1 := ⟨mem_t 1 227 (by decide +kernel) (by decide +kernel), mem_t 0 2 (by decide +kernel) (by decide +kernel), by decide +kernel, by decide +kernel, by decide +kernel, by decide +kernel⟩
theorem mv_Words_append : Cond.instanceMethod (mY md_Words_append) ∈ wsG ∧ Cond.selects (mY md_Words_append).cls (mY md_Words_append) (mY md_Words_append) ∈ wsG := ⟨mem_t 1 225 (by decide +kernel) (by decide +kernel), mem_t 1 226 (by decide +kernel) (by decide +kernel)⟩
theorem mc_Peg_hush : MC md_Peg_hush 0 := ⟨mem_t 1 231 (by decide +kernel) (by decide +kernel), mem_t 0 1 (by decide +kernel) (by decide +kernel), by decide +kernel, by decide +kernel, by decide +kernel, by decide +kernel⟩
theorem mv_Peg_hush : Cond.instanceMethod (mY md_Peg_hush) ∈ wsG ∧ Cond.selects (mY md_Peg_hush).cls (mY md_Peg_hush) (mY md_Peg_hush) ∈ wsG := ⟨mem_t 1 229 (by decide +kernel) (by decide +kernel), mem_t 1 230 (by decide +kernel) (by decide +kernel)⟩
theorem mc_Peg_fault : MC md_Peg_fault 0 := ⟨mem_t 1 235 (by decide +kernel) (by decide +kernel), mem_t 0 1 (by decide +kernel) (by decide +kernel), by decide +kernel, by decide +kernel, by decide +kernel, by decide +kernel⟩
theorem mv_Peg_fault : Cond.instanceMethod (mY md_Peg_fault) ∈ wsG ∧ Cond.selects (mY md_Peg_fault).cls (mY md_Peg_fault) (mY md_Peg_fault) ∈ wsG := ⟨mem_t 1 233 (by decide +kernel) (by decide +kernel), mem_t 1 234 (by decide +kernel) (by decide +kernel)⟩
theorem mc_Words_firstFault : MC md_Words_firstFault 0 := ⟨mem_t 1 239 (by decide +kernel) (by decide +kernel), mem_t 0 2 (by decide +kernel) (by decide +kernel), by decide +kernel, by decide +kernel, by decide +kernel, by decide +kernel⟩
theorem mv_Words_firstFault : Cond.instanceMethod (mY md_Words_firstFault) ∈ wsG ∧ Cond.selects (mY md_Words_firstFault).cls (mY md_Words_firstFault) (mY md_Words_firstFault) ∈ wsG := ⟨mem_t 1 237 (by decide +kernel) (by decide +kernel), mem_t 1 238 (by decide +kernel) (by decide +kernel)⟩
theorem mc_Words_isWord : MC md_Words_isWord 1 := ⟨mem_t 2 2 (by decide +kernel) (by decide +kernel), mem_t 0 2 (by decide +kernel) (by decide +kernel), by decide +kernel, by decide +kernel, by decide +kernel, by decide +kernel⟩
theorem ms_Words_isWord : Cond.static (mY md_Words_isWord) ∈ wsG := mem_t 2 1 (by decide +kernel) (by decide +kernel)
theorem mc_Words_turnOf : MC md_Words_turnOf 1 := ⟨mem_t 2 6 (by decide +kernel) (by decide +kernel), mem_t 0 2 (by decide +kernel) (by decide +kernel), by decide +kernel, by decide +kernel, by decide +kernel, by decide +kernel⟩
theorem ms_Words_turnOf : Cond.static (mY md_Words_turnOf) ∈ wsG := mem_t 2 5 (by decide +kernel) (by decide +kernel)
theorem mc_Peg_told : MC md_Peg_told 0 := ⟨mem_t 2 11 (by decide +kernel) (by decide +kernel), mem_t 0 1 (by decide +kernel) (by decide +kernel), by decide +kernel, by decide +kernel, by decide +kernel, by decide +kernel⟩
theorem mv_Peg_told : Cond.instanceMethod (mY md_Peg_told) ∈ wsG ∧ Cond.selects (mY md_Peg_told).cls (mY md_Peg_told) (mY md_Peg_told) ∈ wsG := ⟨mem_t 2 9 (by decide +kernel) (by decide +kernel), mem_t 2 10 (by decide +kernel) (by decide +kernel)⟩
theorem mc_Words_meaning : MC md_Words_meaning 0 := ⟨mem_t 2 15 (by decide +kernel) (by decide +kernel), mem_t 0 2 (by decide +kernel) (by decide +kernel), by decide +kernel, by decide +kernel, by decide +kernel, by decide +kernel⟩
theorem mv_Words_meaning : Cond.instanceMethod (mY md_Words_meaning) ∈ wsG ∧ Cond.selects (mY md_Words_meaning).cls (mY md_Words_meaning) (mY md_Words_meaning) ∈ wsG := ⟨mem_t 2 13 (by decide +kernel) (by decide +kernel), mem_t 2 14 (by decide +kernel) (by decide +kernel)⟩
theorem mc_Words_halfway : MC md_Words_halfway 2 := ⟨mem_t 2 18 (by decide +kernel) (by decide +kernel), mem_t 0 2 (by decide +kernel) (by decide +kernel), by decide +kernel, by decide +kernel, by decide +kernel, by decide +kernel⟩
theorem ms_Words_halfway : Cond.static (mY md_Words_halfway) ∈ wsG := mem_t 2 17 (by decide +kernel) (by decide +kernel)
theorem mc_Peg_watch : MC md_Peg_watch 0 := ⟨mem_t 2 24 (by decide +kernel) (by decide +kernel), mem_t 0 1 (by decide +kernel) (by decide +kernel), by decide +kernel, by decide +kernel, by decide +kernel, by decide +kernel⟩
theorem mv_Peg_watch : Cond.instanceMethod (mY md_Peg_watch) ∈ wsG ∧ Cond.selects (mY md_Peg_watch).cls (mY md_Peg_watch) (mY md_Peg_watch) ∈ wsG := ⟨mem_t 2 22 (by decide +kernel) (by decide +kernel), mem_t 2 23 (by decide +kernel) (by decide +kernel)⟩
theorem mc_Peg_peg : MC md_Peg_peg 3 := ⟨mem_t 2 28 (by decide +kernel) (by decide +kernel), mem_t 0 1 (by decide +kernel) (by decide +kernel), by decide +kernel, by decide +kernel, by decide +kernel, by decide +kernel⟩
theorem mv_Peg_peg : Cond.instanceMethod (mY md_Peg_peg) ∈ wsG ∧ Cond.selects (mY md_Peg_peg).cls (mY md_Peg_peg) (mY md_Peg_peg) ∈ wsG := ⟨mem_t 2 26 (by decide +kernel) (by decide +kernel), mem_t 2 27 (by decide +kernel) (by decide +kernel)⟩
theorem mc_Board_isWatch : MC md_Board_isWatch 1 := ⟨mem_t 2 32 (by decide +kernel) (by decide +kernel), mem_t 0 3 (by decide +kernel) (by decide +kernel), by decide +kernel, by decide +kernel, by decide +kernel, by decide +kernel⟩
theorem mv_Board_isWatch : Cond.instanceMethod (mY md_Board_isWatch) ∈ wsG ∧ Cond.selects (mY md_Board_isWatch).cls (mY md_Board_isWatch) (mY md_Board_isWatch) ∈ wsG := ⟨mem_t 2 30 (by decide +kernel) (by decide +kernel), mem_t 2 31 (by decide +kernel) (by decide +kernel)⟩
theorem mc_Watch_putPeg : MC md_Watch_putPeg 2 := ⟨mem_t 2 36 (by decide +kernel) (by decide +kernel), mem_t 0 4 (by decide +kernel) (by decide +kernel), by decide +kernel, by decide +kernel, by decide +kernel, by decide +kernel⟩
theorem mv_Watch_putPeg : Cond.instanceMethod (mY md_Watch_putPeg) ∈ wsG ∧ Cond.selects (mY md_Watch_putPeg).cls (mY md_Watch_putPeg) (mY md_Watch_putPeg) ∈ wsG := ⟨mem_t 2 34 (by decide +kernel) (by decide +kernel), mem_t 2 35 (by decide +kernel) (by decide +kernel)⟩
theorem mc_Watch_sumUp : MC md_Watch_sumUp 0 := ⟨mem_t 2 40 (by decide +kernel) (by decide +kernel), mem_t 0 4 (by decide +kernel) (by decide +kernel), by decide +kernel, by decide +kernel, by decide +kernel, by decide +kernel⟩
theorem mv_Watch_sumUp : Cond.instanceMethod (mY md_Watch_sumUp) ∈ wsG ∧ Cond.selects (mY md_Watch_sumUp).cls (mY md_Watch_sumUp) (mY md_Watch_sumUp) ∈ wsG := ⟨mem_t 2 39 (by decide +kernel) (by decide +kernel), mem_g 0 (by decide +kernel) (by decide +kernel)⟩
theorem mc_Watch_sumSpreads : MC md_Watch_sumSpreads 0 := ⟨mem_t 2 44 (by decide +kernel) (by decide +kernel), mem_t 0 4 (by decide +kernel) (by decide +kernel), by decide +kernel, by decide +kernel, by decide +kernel, by decide +kernel⟩
theorem mv_Watch_sumSpreads : Cond.instanceMethod (mY md_Watch_sumSpreads) ∈ wsG ∧ Cond.selects (mY md_Watch_sumSpreads).cls (mY md_Watch_sumSpreads) (mY md_Watch_sumSpreads) ∈ wsG := ⟨mem_t 2 43 (by decide +kernel) (by decide +kernel), mem_g 1 (by decide +kernel) (by decide +kernel)⟩
theorem mc_Watch_knotsOfPeg : MC md_Watch_knotsOfPeg 1 := ⟨mem_t 2 48 (by decide +kernel) (by decide +kernel), mem_t 0 4 (by decide +kernel) (by decide +kernel), by decide +kernel, by decide +kernel, by decide +kernel, by decide +kernel⟩
theorem mv_Watch_knotsOfPeg : Cond.instanceMethod (mY md_Watch_knotsOfPeg) ∈ wsG ∧ Cond.selects (mY md_Watch_knotsOfPeg).cls (mY md_Watch_knotsOfPeg) (mY md_Watch_knotsOfPeg) ∈ wsG := ⟨mem_t 2 47 (by decide +kernel) (by decide +kernel), mem_g 2 (by decide +kernel) (by decide +kernel)⟩
theorem mc_Watch_sumParts : MC md_Watch_sumParts 1 := ⟨mem_t 2 52 (by decide +kernel) (by decide +kernel), mem_t 0 4 (by decide +kernel) (by decide +kernel), by decide +kernel, by decide +kernel, by decide +kernel, by decide +kernel⟩
theorem mv_Watch_sumParts : Cond.instanceMethod (mY md_Watch_sumParts) ∈ wsG ∧ Cond.selects (mY md_Watch_sumParts).cls (mY md_Watch_sumParts) (mY md_Watch_sumParts) ∈ wsG := ⟨mem_t 2 51 (by decide +kernel) (by decide +kernel), mem_g 3 (by decide +kernel) (by decide +kernel)⟩
theorem mc_Watch_madeGood : MC md_Watch_madeGood 2 := ⟨mem_t 2 56 (by decide +kernel) (by decide +kernel), mem_t 0 4 (by decide +kernel) (by decide +kernel), by decide +kernel, by decide +kernel, by decide +kernel, by decide +kernel⟩
theorem mv_Watch_madeGood : Cond.instanceMethod (mY md_Watch_madeGood) ∈ wsG ∧ Cond.selects (mY md_Watch_madeGood).cls (mY md_Watch_madeGood) (mY md_Watch_madeGood) ∈ wsG := ⟨mem_t 2 55 (by decide +kernel) (by decide +kernel), mem_g 4 (by decide +kernel) (by decide +kernel)⟩
theorem mc_Compass_pointsFarther : MC md_Compass_pointsFarther 3 := ⟨mem_t 2 60 (by decide +kernel) (by decide +kernel), mem_t 0 15 (by decide +kernel) (by decide +kernel), by decide +kernel, by decide +kernel, by decide +kernel, by decide +kernel⟩
theorem ms_Compass_pointsFarther : Cond.static (mY md_Compass_pointsFarther) ∈ wsG := mem_t 2 59 (by decide +kernel) (by decide +kernel)
theorem mc_Peg_knots : MC md_Peg_knots 3 := ⟨mem_t 2 67 (by decide +kernel) (by decide +kernel), mem_t 0 1 (by decide +kernel) (by decide +kernel), by decide +kernel, by decide +kernel, by decide +kernel, by decide +kernel⟩
theorem mv_Peg_knots : Cond.instanceMethod (mY md_Peg_knots) ∈ wsG ∧ Cond.selects (mY md_Peg_knots).cls (mY md_Peg_knots) (mY md_Peg_knots) ∈ wsG := ⟨mem_t 2 65 (by decide +kernel) (by decide +kernel), mem_t 2 66 (by decide +kernel) (by decide +kernel)⟩
theorem mc_Watch_putKnots : MC md_Watch_putKnots 2 := ⟨mem_t 2 71 (by decide +kernel) (by decide +kernel), mem_t 0 4 (by decide +kernel) (by decide +kernel), by decide +kernel, by decide +kernel, by decide +kernel, by decide +kernel⟩
theorem mv_Watch_putKnots : Cond.instanceMethod (mY md_Watch_putKnots) ∈ wsG ∧ Cond.selects (mY md_Watch_putKnots).cls (mY md_Watch_putKnots) (mY md_Watch_putKnots) ∈ wsG := ⟨mem_t 2 69 (by decide +kernel) (by decide +kernel), mem_t 2 70 (by decide +kernel) (by decide +kernel)⟩
theorem mc_Peg_set : MC md_Peg_set 3 := ⟨mem_t 2 75 (by decide +kernel) (by decide +kernel), mem_t 0 1 (by decide +kernel) (by decide +kernel), by decide +kernel, by decide +kernel, by decide +kernel, by decide +kernel⟩
theorem mv_Peg_set : Cond.instanceMethod (mY md_Peg_set) ∈ wsG ∧ Cond.selects (mY md_Peg_set).cls (mY md_Peg_set) (mY md_Peg_set) ∈ wsG := ⟨mem_t 2 73 (by decide +kernel) (by decide +kernel), mem_t 2 74 (by decide +kernel) (by decide +kernel)⟩
theorem mc_Watch_mostOf : MC md_Watch_mostOf 1 := ⟨mem_t 2 78 (by decide +kernel) (by decide +kernel), mem_t 0 4 (by decide +kernel) (by decide +kernel), by decide +kernel, by decide +kernel, by decide +kernel, by decide +kernel⟩
theorem ms_Watch_mostOf : Cond.static (mY md_Watch_mostOf) ∈ wsG := mem_t 2 77 (by decide +kernel) (by decide +kernel)
theorem mc_Watch_putTrait : MC md_Watch_putTrait 2 := ⟨mem_t 2 82 (by decide +kernel) (by decide +kernel), mem_t 0 4 (by decide +kernel) (by decide +kernel), by decide +kernel, by decide +kernel, by decide +kernel, by decide +kernel⟩
theorem mv_Watch_putTrait : Cond.instanceMethod (mY md_Watch_putTrait) ∈ wsG ∧ Cond.selects (mY md_Watch_putTrait).cls (mY md_Watch_putTrait) (mY md_Watch_putTrait) ∈ wsG := ⟨mem_t 2 80 (by decide +kernel) (by decide +kernel), mem_t 2 81 (by decide +kernel) (by decide +kernel)⟩
theorem mc_Peg_leeway : MC md_Peg_leeway 3 := ⟨mem_t 2 86 (by decide +kernel) (by decide +kernel), mem_t 0 1 (by decide +kernel) (by decide +kernel), by decide +kernel, by decide +kernel, by decide +kernel, by decide +kernel⟩
theorem mv_Peg_leeway : Cond.instanceMethod (mY md_Peg_leeway) ∈ wsG ∧ Cond.selects (mY md_Peg_leeway).cls (mY md_Peg_leeway) (mY md_Peg_leeway) ∈ wsG := ⟨mem_t 2 84 (by decide +kernel) (by decide +kernel), mem_t 2 85 (by decide +kernel) (by decide +kernel)⟩
theorem mc_Peg_way : MC md_Peg_way 4 := ⟨mem_t 2 91 (by decide +kernel) (by decide +kernel), mem_t 0 1 (by decide +kernel) (by decide +kernel), by decide +kernel, by decide +kernel, by decide +kernel, by decide +kernel⟩
theorem mv_Peg_way : Cond.instanceMethod (mY md_Peg_way) ∈ wsG ∧ Cond.selects (mY md_Peg_way).cls (mY md_Peg_way) (mY md_Peg_way) ∈ wsG := ⟨mem_t 2 89 (by decide +kernel) (by decide +kernel), mem_t 2 90 (by decide +kernel) (by decide +kernel)⟩
theorem mc_Watch_wayEast : MC md_Watch_wayEast 2 := ⟨mem_t 2 97 (by decide +kernel) (by decide +kernel), mem_t 0 4 (by decide +kernel) (by decide +kernel), by decide +kernel, by decide +kernel, by decide +kernel, by decide +kernel⟩
theorem mv_Watch_wayEast : Cond.instanceMethod (mY md_Watch_wayEast) ∈ wsG ∧ Cond.selects (mY md_Watch_wayEast).cls (mY md_Watch_wayEast) (mY md_Watch_wayEast) ∈ wsG := ⟨mem_t 2 95 (by decide +kernel) (by decide +kernel), mem_t 2 96 (by decide +kernel) (by decide +kernel)⟩
theorem mc_Watch_byGlass : MC md_Watch_byGlass 2 := ⟨mem_t 2 100 (by decide +kernel) (by decide +kernel), mem_t 0 4 (by decide +kernel) (by decide +kernel), by decide +kernel, by decide +kernel, by decide +kernel, by decide +kernel⟩
theorem ms_Watch_byGlass : Cond.static (mY md_Watch_byGlass) ∈ wsG := mem_t 2 99 (by decide +kernel) (by decide +kernel)
theorem mc_JMath_floorDiv : MC md_JMath_floorDiv 2 := ⟨mem_t 2 103 (by decide +kernel) (by decide +kernel), mem_t 0 8 (by decide +kernel) (by decide +kernel), by decide +kernel, by decide +kernel, by decide +kernel, by decide +kernel⟩
theorem ms_JMath_floorDiv : Cond.static (mY md_JMath_floorDiv) ∈ wsG := mem_t 2 102 (by decide +kernel) (by decide +kernel)
theorem mc_Watch_wayNorth : MC md_Watch_wayNorth 2 := ⟨mem_t 2 107 (by decide +kernel) (by decide +kernel), mem_t 0 4 (by decide +kernel) (by decide +kernel), by decide +kernel, by decide +kernel, by decide +kernel, by decide +kernel⟩
theorem mv_Watch_wayNorth : Cond.instanceMethod (mY md_Watch_wayNorth) ∈ wsG ∧ Cond.selects (mY md_Watch_wayNorth).cls (mY md_Watch_wayNorth) (mY md_Watch_wayNorth) ∈ wsG := ⟨mem_t 2 105 (by decide +kernel) (by decide +kernel), mem_t 2 106 (by decide +kernel) (by decide +kernel)⟩
theorem mc_Peg_miss : MC md_Peg_miss 1 := ⟨mem_t 2 111 (by decide +kernel) (by decide +kernel), mem_t 0 1 (by decide +kernel) (by decide +kernel), by decide +kernel, by decide +kernel, by decide +kernel, by decide +kernel⟩
theorem mv_Peg_miss : Cond.instanceMethod (mY md_Peg_miss) ∈ wsG ∧ Cond.selects (mY md_Peg_miss).cls (mY md_Peg_miss) (mY md_Peg_miss) ∈ wsG := ⟨mem_t 2 109 (by decide +kernel) (by decide +kernel), mem_t 2 110 (by decide +kernel) (by decide +kernel)⟩
theorem mc_Peg_chart : MC md_Peg_chart 2 := ⟨mem_t 2 115 (by decide +kernel) (by decide +kernel), mem_t 0 1 (by decide +kernel) (by decide +kernel), by decide +kernel, by decide +kernel, by decide +kernel, by decide +kernel⟩
theorem mv_Peg_chart : Cond.instanceMethod (mY md_Peg_chart) ∈ wsG ∧ Cond.selects (mY md_Peg_chart).cls (mY md_Peg_chart) (mY md_Peg_chart) ∈ wsG := ⟨mem_t 2 113 (by decide +kernel) (by decide +kernel), mem_t 2 114 (by decide +kernel) (by decide +kernel)⟩
theorem mc_Peg_sea : MC md_Peg_sea 5 := ⟨mem_t 2 121 (by decide +kernel) (by decide +kernel), mem_t 0 1 (by decide +kernel) (by decide +kernel), by decide +kernel, by decide +kernel, by decide +kernel, by decide +kernel⟩
theorem mv_Peg_sea : Cond.instanceMethod (mY md_Peg_sea) ∈ wsG ∧ Cond.selects (mY md_Peg_sea).cls (mY md_Peg_sea) (mY md_Peg_sea) ∈ wsG := ⟨mem_t 2 119 (by decide +kernel) (by decide +kernel), mem_t 2 120 (by decide +kernel) (by decide +kernel)⟩
theorem mc_Chart_isCell : MC md_Chart_isCell 2 := ⟨mem_t 2 125 (by decide +kernel) (by decide +kernel), mem_t 0 6 (by decide +kernel) (by decide +kernel), by decide +kernel, by decide +kernel, by decide +kernel, by decide +kernel⟩
theorem mv_Chart_isCell : Cond.instanceMethod (mY md_Chart_isCell) ∈ wsG ∧ Cond.selects (mY md_Chart_isCell).cls (mY md_Chart_isCell) (mY md_Chart_isCell) ∈ wsG := ⟨mem_t 2 123 (by decide +kernel) (by decide +kernel), mem_t 2 124 (by decide +kernel) (by decide +kernel)⟩
theorem mc_Chart_putDepth : MC md_Chart_putDepth 5 := ⟨mem_t 2 129 (by decide +kernel) (by decide +kernel), mem_t 0 6 (by decide +kernel) (by decide +kernel), by decide +kernel, by decide +kernel, by decide +kernel, by decide +kernel⟩
theorem mv_Chart_putDepth : Cond.instanceMethod (mY md_Chart_putDepth) ∈ wsG ∧ Cond.selects (mY md_Chart_putDepth).cls (mY md_Chart_putDepth) (mY md_Chart_putDepth) ∈ wsG := ⟨mem_t 2 127 (by decide +kernel) (by decide +kernel), mem_t 2 128 (by decide +kernel) (by decide +kernel)⟩
theorem mc_Peg_weed : MC md_Peg_weed 5 := ⟨mem_t 2 133 (by decide +kernel) (by decide +kernel), mem_t 0 1 (by decide +kernel) (by decide +kernel), by decide +kernel, by decide +kernel, by decide +kernel, by decide +kernel⟩
theorem mv_Peg_weed : Cond.instanceMethod (mY md_Peg_weed) ∈ wsG ∧ Cond.selects (mY md_Peg_weed).cls (mY md_Peg_weed) (mY md_Peg_weed) ∈ wsG := ⟨mem_t 2 131 (by decide +kernel) (by decide +kernel), mem_t 2 132 (by decide +kernel) (by decide +kernel)⟩
theorem mc_Peg_about : MC md_Peg_about 3 := ⟨mem_t 2 138 (by decide +kernel) (by decide +kernel), mem_t 0 1 (by decide +kernel) (by decide +kernel), by decide +kernel, by decide +kernel, by decide +kernel, by decide +kernel⟩
theorem mv_Peg_about : Cond.instanceMethod (mY md_Peg_about) ∈ wsG ∧ Cond.selects (mY md_Peg_about).cls (mY md_Peg_about) (mY md_Peg_about) ∈ wsG := ⟨mem_t 2 136 (by decide +kernel) (by decide +kernel), mem_t 2 137 (by decide +kernel) (by decide +kernel)⟩
theorem mc_Chart_depthAt : MC md_Chart_depthAt 2 := ⟨mem_t 2 142 (by decide +kernel) (by decide +kernel), mem_t 0 6 (by decide +kernel) (by decide +kernel), by decide +kernel, by decide +kernel, by decide +kernel, by decide +kernel⟩
theorem mv_Chart_depthAt : Cond.instanceMethod (mY md_Chart_depthAt) ∈ wsG ∧ Cond.selects (mY md_Chart_depthAt).cls (mY md_Chart_depthAt) (mY md_Chart_depthAt) ∈ wsG := ⟨mem_t 2 140 (by decide +kernel) (by decide +kernel), mem_t 2 141 (by decide +kernel) (by decide +kernel)⟩
theorem mc_Patch_holds : MC md_Patch_holds 2 := ⟨mem_t 2 147 (by decide +kernel) (by decide +kernel), mem_t 0 7 (by decide +kernel) (by decide +kernel), by decide +kernel, by decide +kernel, by decide +kernel, by decide +kernel⟩
theorem mv_Patch_holds : Cond.instanceMethod (mY md_Patch_holds) ∈ wsG ∧ Cond.selects (mY md_Patch_holds).cls (mY md_Patch_holds) (mY md_Patch_holds) ∈ wsG := ⟨mem_t 2 145 (by decide +kernel) (by decide +kernel), mem_t 2 146 (by decide +kernel) (by decide +kernel)⟩
theorem mc_Peg_asNumber : MC md_Peg_asNumber 1 := ⟨mem_t 2 151 (by decide +kernel) (by decide +kernel), mem_t 0 1 (by decide +kernel) (by decide +kernel), by decide +kernel, by decide +kernel, by decide +kernel, by decide +kernel⟩
theorem ms_Peg_asNumber : Cond.static (mY md_Peg_asNumber) ∈ wsG := mem_t 2 150 (by decide +kernel) (by decide +kernel)
theorem mc_Chart_leastNear : MC md_Chart_leastNear 2 := ⟨mem_t 2 155 (by decide +kernel) (by decide +kernel), mem_t 0 6 (by decide +kernel) (by decide +kernel), by decide +kernel, by decide +kernel, by decide +kernel, by decide +kernel⟩
theorem mv_Chart_leastNear : Cond.instanceMethod (mY md_Chart_leastNear) ∈ wsG ∧ Cond.selects (mY md_Chart_leastNear).cls (mY md_Chart_leastNear) (mY md_Chart_leastNear) ∈ wsG := ⟨mem_t 2 153 (by decide +kernel) (by decide +kernel), mem_t 2 154 (by decide +kernel) (by decide +kernel)⟩
theorem mc_Peg_stream : MC md_Peg_stream 4 := ⟨mem_t 2 160 (by decide +kernel) (by decide +kernel), mem_t 0 1 (by decide +kernel) (by decide +kernel), by decide +kernel, by decide +kernel, by decide +kernel, by decide +kernel⟩
theorem mv_Peg_stream : Cond.instanceMethod (mY md_Peg_stream) ∈ wsG ∧ Cond.selects (mY md_Peg_stream).cls (mY md_Peg_stream) (mY md_Peg_stream) ∈ wsG := ⟨mem_t 2 158 (by decide +kernel) (by decide +kernel), mem_t 2 159 (by decide +kernel) (by decide +kernel)⟩
theorem mc_Peg_isStream : MC md_Peg_isStream 2 := ⟨mem_t 2 163 (by decide +kernel) (by decide +kernel), mem_t 0 1 (by decide +kernel) (by decide +kernel), by decide +kernel, by decide +kernel, by decide +kernel, by decide +kernel⟩
theorem ms_Peg_isStream : Cond.static (mY md_Peg_isStream) ∈ wsG := mem_t 2 162 (by decide +kernel) (by decide +kernel)
theorem mc_Peg_start : MC md_Peg_start 3 := ⟨mem_t 2 168 (by decide +kernel) (by decide +kernel), mem_t 0 1 (by decide +kernel) (by decide +kernel), by decide +kernel, by decide +kernel, by decide +kernel, by decide +kernel⟩
theorem mv_Peg_start : Cond.instanceMethod (mY md_Peg_start) ∈ wsG ∧ Cond.selects (mY md_Peg_start).cls (mY md_Peg_start) (mY md_Peg_start) ∈ wsG := ⟨mem_t 2 166 (by decide +kernel) (by decide +kernel), mem_t 2 167 (by decide +kernel) (by decide +kernel)⟩
theorem mc_Reckoning_startCells : MC md_Reckoning_startCells 0 := ⟨mem_t 2 172 (by decide +kernel) (by decide +kernel), mem_t 0 12 (by decide +kernel) (by decide +kernel), by decide +kernel, by decide +kernel, by decide +kernel, by decide +kernel⟩
theorem mv_Reckoning_startCells : Cond.instanceMethod (mY md_Reckoning_startCells) ∈ wsG ∧ Cond.selects (mY md_Reckoning_startCells).cls (mY md_Reckoning_startCells) (mY md_Reckoning_startCells) ∈ wsG := ⟨mem_t 2 170 (by decide +kernel) (by decide +kernel), mem_t 2 171 (by decide +kernel) (by decide +kernel)⟩
theorem mc_Reckoning_findStart : MC md_Reckoning_findStart 0 := ⟨mem_t 2 176 (by decide +kernel) (by decide +kernel), mem_t 0 12 (by decide +kernel) (by decide +kernel), by decide +kernel, by decide +kernel, by decide +kernel, by decide +kernel⟩
theorem mv_Reckoning_findStart : Cond.instanceMethod (mY md_Reckoning_findStart) ∈ wsG ∧ Cond.selects (mY md_Reckoning_findStart).cls (mY md_Reckoning_findStart) (mY md_Reckoning_findStart) ∈ wsG := ⟨mem_t 2 175 (by decide +kernel) (by decide +kernel), mem_g 5 (by decide +kernel) (by decide +kernel)⟩
theorem mc_Patch_cutTo : MC md_Patch_cutTo 1 := ⟨mem_t 2 182 (by decide +kernel) (by decide +kernel), mem_t 0 7 (by decide +kernel) (by decide +kernel), by decide +kernel, by decide +kernel, by decide +kernel, by decide +kernel⟩
theorem mv_Patch_cutTo : Cond.instanceMethod (mY md_Patch_cutTo) ∈ wsG ∧ Cond.selects (mY md_Patch_cutTo).cls (mY md_Patch_cutTo) (mY md_Patch_cutTo) ∈ wsG := ⟨mem_t 2 180 (by decide +kernel) (by decide +kernel), mem_t 2 181 (by decide +kernel) (by decide +kernel)⟩
theorem mc_Patch_size : MC md_Patch_size 0 := ⟨mem_t 2 186 (by decide +kernel) (by decide +kernel), mem_t 0 7 (by decide +kernel) (by decide +kernel), by decide +kernel, by decide +kernel, by decide +kernel, by decide +kernel⟩
theorem mv_Patch_size : Cond.instanceMethod (mY md_Patch_size) ∈ wsG ∧ Cond.selects (mY md_Patch_size).cls (mY md_Patch_size) (mY md_Patch_size) ∈ wsG := ⟨mem_t 2 184 (by decide +kernel) (by decide +kernel), mem_t 2 185 (by decide +kernel) (by decide +kernel)⟩
theorem mc_JInteger_bitCount : MC md_JInteger_bitCount 1 := ⟨mem_t 2 189 (by decide +kernel) (by decide +kernel), mem_t 0 16 (by decide +kernel) (by decide +kernel), by decide +kernel, by decide +kernel, by decide +kernel, by decide +kernel⟩
theorem ms_JInteger_bitCount : Cond.static (mY md_JInteger_bitCount) ∈ wsG := mem_t 2 188 (by decide +kernel) (by decide +kernel)
theorem mc_Peg_run : MC md_Peg_run 1 := ⟨mem_t 2 196 (by decide +kernel) (by decide +kernel), mem_t 0 1 (by decide +kernel) (by decide +kernel), by decide +kernel, by decide +kernel, by decide +kernel, by decide +kernel⟩
theorem mv_Peg_run : Cond.instanceMethod (mY md_Peg_run) ∈ wsG ∧ Cond.selects (mY md_Peg_run).cls (mY md_Peg_run) (mY md_Peg_run) ∈ wsG := ⟨mem_t 2 194 (by decide +kernel) (by decide +kernel), mem_t 2 195 (by decide +kernel) (by decide +kernel)⟩
theorem mc_Log_holdsWatch : MC md_Log_holdsWatch 1 := ⟨mem_t 2 200 (by decide +kernel) (by decide +kernel), mem_t 0 9 (by decide +kernel) (by decide +kernel), by decide +kernel, by decide +kernel, by decide +kernel, by decide +kernel⟩
theorem mv_Log_holdsWatch : Cond.instanceMethod (mY md_Log_holdsWatch) ∈ wsG ∧ Cond.selects (mY md_Log_holdsWatch).cls (mY md_Log_holdsWatch) (mY md_Log_holdsWatch) ∈ wsG := ⟨mem_t 2 198 (by decide +kernel) (by decide +kernel), mem_t 2 199 (by decide +kernel) (by decide +kernel)⟩
theorem mc_Log_append : MC md_Log_append 4 := ⟨mem_t 2 204 (by decide +kernel) (by decide +kernel), mem_t 0 9 (by decide +kernel) (by decide +kernel), by decide +kernel, by decide +kernel, by decide +kernel, by decide +kernel⟩
theorem mv_Log_append : Cond.instanceMethod (mY md_Log_append) ∈ wsG ∧ Cond.selects (mY md_Log_append).cls (mY md_Log_append) (mY md_Log_append) ∈ wsG := ⟨mem_t 2 202 (by decide +kernel) (by decide +kernel), mem_t 2 203 (by decide +kernel) (by decide +kernel)⟩
theorem mc_Peg_sign : MC md_Peg_sign 3 := ⟨mem_t 2 209 (by decide +kernel) (by decide +kernel), mem_t 0 1 (by decide +kernel) (by decide +kernel), by decide +kernel, by decide +kernel, by decide +kernel, by decide +kernel⟩
theorem mv_Peg_sign : Cond.instanceMethod (mY md_Peg_sign) ∈ wsG ∧ Cond.selects (mY md_Peg_sign).cls (mY md_Peg_sign) (mY md_Peg_sign) ∈ wsG := ⟨mem_t 2 207 (by decide +kernel) (by decide +kernel), mem_t 2 208 (by decide +kernel) (by decide +kernel)⟩
theorem mc_Row_isSign : MC md_Row_isSign 3 := ⟨mem_t 2 212 (by decide +kernel) (by decide +kernel), mem_t 0 10 (by decide +kernel) (by decide +kernel), by decide +kernel, by decide +kernel, by decide +kernel, by decide +kernel⟩
theorem ms_Row_isSign : Cond.static (mY md_Row_isSign) ∈ wsG := mem_t 2 211 (by decide +kernel) (by decide +kernel)
theorem mc_Row_needsFirst : MC md_Row_needsFirst 1 := ⟨mem_t 2 216 (by decide +kernel) (by decide +kernel), mem_t 0 10 (by decide +kernel) (by decide +kernel), by decide +kernel, by decide +kernel, by decide +kernel, by decide +kernel⟩
theorem ms_Row_needsFirst : Cond.static (mY md_Row_needsFirst) ∈ wsG := mem_t 2 215 (by decide +kernel) (by decide +kernel)
theorem mc_Row_needsSecond : MC md_Row_needsSecond 1 := ⟨mem_t 2 219 (by decide +kernel) (by decide +kernel), mem_t 0 10 (by decide +kernel) (by decide +kernel), by decide +kernel, by decide +kernel, by decide +kernel, by decide +kernel⟩
theorem ms_Row_needsSecond : Cond.static (mY md_Row_needsSecond) ∈ wsG := mem_t 2 218 (by decide +kernel) (by decide +kernel)
theorem mc_Peg_count : MC md_Peg_count 2 := ⟨mem_t 2 225 (by decide +kernel) (by decide +kernel), mem_t 0 1 (by decide +kernel) (by decide +kernel), by decide +kernel, by decide +kernel, by decide +kernel, by decide +kernel⟩
theorem mv_Peg_count : Cond.instanceMethod (mY md_Peg_count) ∈ wsG ∧ Cond.selects (mY md_Peg_count).cls (mY md_Peg_count) (mY md_Peg_count) ∈ wsG := ⟨mem_t 2 223 (by decide +kernel) (by decide +kernel), mem_t 2 224 (by decide +kernel) (by decide +kernel)⟩
theorem mc_Log_isRow : MC md_Log_isRow 1 := ⟨mem_t 2 229 (by decide +kernel) (by decide +kernel), mem_t 0 9 (by decide +kernel) (by decide +kernel), by decide +kernel, by decide +kernel, by decide +kernel, by decide +kernel⟩
theorem mv_Log_isRow : Cond.instanceMethod (mY md_Log_isRow) ∈ wsG ∧ Cond.selects (mY md_Log_isRow).cls (mY md_Log_isRow) (mY md_Log_isRow) ∈ wsG := ⟨mem_t 2 227 (by decide +kernel) (by decide +kernel), mem_t 2 228 (by decide +kernel) (by decide +kernel)⟩
theorem mc_Peg_strike : MC md_Peg_strike 0 := ⟨mem_t 2 233 (by decide +kernel) (by decide +kernel), mem_t 0 1 (by decide +kernel) (by decide +kernel), by decide +kernel, by decide +kernel, by decide +kernel, by decide +kernel⟩
theorem mv_Peg_strike : Cond.instanceMethod (mY md_Peg_strike) ∈ wsG ∧ Cond.selects (mY md_Peg_strike).cls (mY md_Peg_strike) (mY md_Peg_strike) ∈ wsG := ⟨mem_t 2 231 (by decide +kernel) (by decide +kernel), mem_t 2 232 (by decide +kernel) (by decide +kernel)⟩
theorem mc_Peg_row : MC md_Peg_row 2 := ⟨mem_t 2 237 (by decide +kernel) (by decide +kernel), mem_t 0 1 (by decide +kernel) (by decide +kernel), by decide +kernel, by decide +kernel, by decide +kernel, by decide +kernel⟩
theorem mv_Peg_row : Cond.instanceMethod (mY md_Peg_row) ∈ wsG ∧ Cond.selects (mY md_Peg_row).cls (mY md_Peg_row) (mY md_Peg_row) ∈ wsG := ⟨mem_t 2 235 (by decide +kernel) (by decide +kernel), mem_t 2 236 (by decide +kernel) (by decide +kernel)⟩
theorem mc_Row_fact : MC md_Row_fact 1 := ⟨mem_t 3 1 (by decide +kernel) (by decide +kernel), mem_t 0 10 (by decide +kernel) (by decide +kernel), by decide +kernel, by decide +kernel, by decide +kernel, by decide +kernel⟩
theorem mv_Row_fact : Cond.instanceMethod (mY md_Row_fact) ∈ wsG ∧ Cond.selects (mY md_Row_fact).cls (mY md_Row_fact) (mY md_Row_fact) ∈ wsG := ⟨mem_t 2 239 (by decide +kernel) (by decide +kernel), mem_t 3 0 (by decide +kernel) (by decide +kernel)⟩
theorem mc_Peg_patch : MC md_Peg_patch 1 := ⟨mem_t 3 6 (by decide +kernel) (by decide +kernel), mem_t 0 1 (by decide +kernel) (by decide +kernel), by decide +kernel, by decide +kernel, by decide +kernel, by decide +kernel⟩
theorem mv_Peg_patch : Cond.instanceMethod (mY md_Peg_patch) ∈ wsG ∧ Cond.selects (mY md_Peg_patch).cls (mY md_Peg_patch) (mY md_Peg_patch) ∈ wsG := ⟨mem_t 3 4 (by decide +kernel) (by decide +kernel), mem_t 3 5 (by decide +kernel) (by decide +kernel)⟩
theorem mc_Log_isBehind : MC md_Log_isBehind 1 := ⟨mem_t 3 10 (by decide +kernel) (by decide +kernel), mem_t 0 9 (by decide +kernel) (by decide +kernel), by decide +kernel, by decide +kernel, by decide +kernel, by decide +kernel⟩
theorem mv_Log_isBehind : Cond.instanceMethod (mY md_Log_isBehind) ∈ wsG ∧ Cond.selects (mY md_Log_isBehind).cls (mY md_Log_isBehind) (mY md_Log_isBehind) ∈ wsG := ⟨mem_t 3 8 (by decide +kernel) (by decide +kernel), mem_t 3 9 (by decide +kernel) (by decide +kernel)⟩
theorem mc_Reckoning_lookAhead : MC md_Reckoning_lookAhead 0 := ⟨mem_t 3 14 (by decide +kernel) (by decide +kernel), mem_t 0 12 (by decide +kernel) (by decide +kernel), by decide +kernel, by decide +kernel, by decide +kernel, by decide +kernel⟩
theorem mv_Reckoning_lookAhead : Cond.instanceMethod (mY md_Reckoning_lookAhead) ∈ wsG ∧ Cond.selects (mY md_Reckoning_lookAhead).cls (mY md_Reckoning_lookAhead) (mY md_Reckoning_lookAhead) ∈ wsG := ⟨mem_t 3 12 (by decide +kernel) (by decide +kernel), mem_t 3 13 (by decide +kernel) (by decide +kernel)⟩
theorem mc_Reckoning_makeReady : MC md_Reckoning_makeReady 1 := ⟨mem_t 3 18 (by decide +kernel) (by decide +kernel), mem_t 0 12 (by decide +kernel) (by decide +kernel), by decide +kernel, by decide +kernel, by decide +kernel, by decide +kernel⟩
theorem mv_Reckoning_makeReady : Cond.instanceMethod (mY md_Reckoning_makeReady) ∈ wsG ∧ Cond.selects (mY md_Reckoning_makeReady).cls (mY md_Reckoning_makeReady) (mY md_Reckoning_makeReady) ∈ wsG := ⟨mem_t 3 17 (by decide +kernel) (by decide +kernel), mem_g 6 (by decide +kernel) (by decide +kernel)⟩
theorem mc_Row_isWatch : MC md_Row_isWatch 0 := ⟨mem_t 3 22 (by decide +kernel) (by decide +kernel), mem_t 0 10 (by decide +kernel) (by decide +kernel), by decide +kernel, by decide +kernel, by decide +kernel, by decide +kernel⟩
theorem mv_Row_isWatch : Cond.instanceMethod (mY md_Row_isWatch) ∈ wsG ∧ Cond.selects (mY md_Row_isWatch).cls (mY md_Row_isWatch) (mY md_Row_isWatch) ∈ wsG := ⟨mem_t 3 20 (by decide +kernel) (by decide +kernel), mem_t 3 21 (by decide +kernel) (by decide +kernel)⟩
theorem mc_Reckoning_stretchCounted : MC md_Reckoning_stretchCounted 3 := ⟨mem_t 3 26 (by decide +kernel) (by decide +kernel), mem_t 0 12 (by decide +kernel) (by decide +kernel), by decide +kernel, by decide +kernel, by decide +kernel, by decide +kernel⟩
theorem mv_Reckoning_stretchCounted : Cond.instanceMethod (mY md_Reckoning_stretchCounted) ∈ wsG ∧ Cond.selects (mY md_Reckoning_stretchCounted).cls (mY md_Reckoning_stretchCounted) (mY md_Reckoning_stretchCounted) ∈ wsG := ⟨mem_t 3 25 (by decide +kernel) (by decide +kernel), mem_g 7 (by decide +kernel) (by decide +kernel)⟩
theorem mc_Reckoning_stretch : MC md_Reckoning_stretch 4 := ⟨mem_t 3 32 (by decide +kernel) (by decide +kernel), mem_t 0 12 (by decide +kernel) (by decide +kernel), by decide +kernel, by decide +kernel, by decide +kernel, by decide +kernel⟩
theorem mv_Reckoning_stretch : Cond.instanceMethod (mY md_Reckoning_stretch) ∈ wsG ∧ Cond.selects (mY md_Reckoning_stretch).cls (mY md_Reckoning_stretch) (mY md_Reckoning_stretch) ∈ wsG := ⟨mem_t 3 31 (by decide +kernel) (by decide +kernel), mem_g 8 (by decide +kernel) (by decide +kernel)⟩
theorem mc_Reach_cellsDown : MC md_Reach_cellsDown 1 := ⟨mem_t 3 35 (by decide +kernel) (by decide +kernel), mem_t 0 11 (by decide +kernel) (by decide +kernel), by decide +kernel, by decide +kernel, by decide +kernel, by decide +kernel⟩
theorem ms_Reach_cellsDown : Cond.static (mY md_Reach_cellsDown) ∈ wsG := mem_t 3 34 (by decide +kernel) (by decide +kernel)
theorem mc_Reach_cellsUp : MC md_Reach_cellsUp 1 := ⟨mem_t 3 39 (by decide +kernel) (by decide +kernel), mem_t 0 11 (by decide +kernel) (by decide +kernel), by decide +kernel, by decide +kernel, by decide +kernel, by decide +kernel⟩
theorem ms_Reach_cellsUp : Cond.static (mY md_Reach_cellsUp) ∈ wsG := mem_t 3 38 (by decide +kernel) (by decide +kernel)
theorem mc_Reach_become : MC md_Reach_become 4 := ⟨mem_t 3 43 (by decide +kernel) (by decide +kernel), mem_t 0 11 (by decide +kernel) (by decide +kernel), by decide +kernel, by decide +kernel, by decide +kernel, by decide +kernel⟩
theorem mv_Reach_become : Cond.instanceMethod (mY md_Reach_become) ∈ wsG ∧ Cond.selects (mY md_Reach_become).cls (mY md_Reach_become) (mY md_Reach_become) ∈ wsG := ⟨mem_t 3 41 (by decide +kernel) (by decide +kernel), mem_t 3 42 (by decide +kernel) (by decide +kernel)⟩
theorem mc_Row_findStaying : MC md_Row_findStaying 1 := ⟨mem_t 3 47 (by decide +kernel) (by decide +kernel), mem_t 0 10 (by decide +kernel) (by decide +kernel), by decide +kernel, by decide +kernel, by decide +kernel, by decide +kernel⟩
theorem mv_Row_findStaying : Cond.instanceMethod (mY md_Row_findStaying) ∈ wsG ∧ Cond.selects (mY md_Row_findStaying).cls (mY md_Row_findStaying) (mY md_Row_findStaying) ∈ wsG := ⟨mem_t 3 45 (by decide +kernel) (by decide +kernel), mem_t 3 46 (by decide +kernel) (by decide +kernel)⟩
theorem mc_Chart_findDepths : MC md_Chart_findDepths 3 := ⟨mem_t 3 51 (by decide +kernel) (by decide +kernel), mem_t 0 6 (by decide +kernel) (by decide +kernel), by decide +kernel, by decide +kernel, by decide +kernel, by decide +kernel⟩
theorem mv_Chart_findDepths : Cond.instanceMethod (mY md_Chart_findDepths) ∈ wsG ∧ Cond.selects (mY md_Chart_findDepths).cls (mY md_Chart_findDepths) (mY md_Chart_findDepths) ∈ wsG := ⟨mem_t 3 49 (by decide +kernel) (by decide +kernel), mem_t 3 50 (by decide +kernel) (by decide +kernel)⟩
theorem mc_Chart_findNear : MC md_Chart_findNear 2 := ⟨mem_t 3 56 (by decide +kernel) (by decide +kernel), mem_t 0 6 (by decide +kernel) (by decide +kernel), by decide +kernel, by decide +kernel, by decide +kernel, by decide +kernel⟩
theorem mv_Chart_findNear : Cond.instanceMethod (mY md_Chart_findNear) ∈ wsG ∧ Cond.selects (mY md_Chart_findNear).cls (mY md_Chart_findNear) (mY md_Chart_findNear) ∈ wsG := ⟨mem_t 3 54 (by decide +kernel) (by decide +kernel), mem_t 3 55 (by decide +kernel) (by decide +kernel)⟩
theorem mc_Patch_becomeReached : MC md_Patch_becomeReached 6 := ⟨mem_t 3 60 (by decide +kernel) (by decide +kernel), mem_t 0 7 (by decide +kernel) (by decide +kernel), by decide +kernel, by decide +kernel, by decide +kernel, by decide +kernel⟩
theorem mv_Patch_becomeReached : Cond.instanceMethod (mY md_Patch_becomeReached) ∈ wsG ∧ Cond.selects (mY md_Patch_becomeReached).cls (mY md_Patch_becomeReached) (mY md_Patch_becomeReached) ∈ wsG := ⟨mem_t 3 58 (by decide +kernel) (by decide +kernel), mem_t 3 59 (by decide +kernel) (by decide +kernel)⟩
theorem mc_Patch_smear : MC md_Patch_smear 3 := ⟨mem_t 3 63 (by decide +kernel) (by decide +kernel), mem_t 0 7 (by decide +kernel) (by decide +kernel), by decide +kernel, by decide +kernel, by decide +kernel, by decide +kernel⟩
theorem ms_Patch_smear : Cond.static (mY md_Patch_smear) ∈ wsG := mem_t 3 62 (by decide +kernel) (by decide +kernel)
theorem mc_Patch_copy : MC md_Patch_copy 1 := ⟨mem_t 3 67 (by decide +kernel) (by decide +kernel), mem_t 0 7 (by decide +kernel) (by decide +kernel), by decide +kernel, by decide +kernel, by decide +kernel, by decide +kernel⟩
theorem mv_Patch_copy : Cond.instanceMethod (mY md_Patch_copy) ∈ wsG ∧ Cond.selects (mY md_Patch_copy).cls (mY md_Patch_copy) (mY md_Patch_copy) ∈ wsG := ⟨mem_t 3 65 (by decide +kernel) (by decide +kernel), mem_t 3 66 (by decide +kernel) (by decide +kernel)⟩
theorem mc_Patch_turnOver : MC md_Patch_turnOver 1 := ⟨mem_t 3 76 (by decide +kernel) (by decide +kernel), mem_t 0 7 (by decide +kernel) (by decide +kernel), by decide +kernel, by decide +kernel, by decide +kernel, by decide +kernel⟩
theorem mv_Patch_turnOver : Cond.instanceMethod (mY md_Patch_turnOver) ∈ wsG ∧ Cond.selects (mY md_Patch_turnOver).cls (mY md_Patch_turnOver) (mY md_Patch_turnOver) ∈ wsG := ⟨mem_t 3 74 (by decide +kernel) (by decide +kernel), mem_t 3 75 (by decide +kernel) (by decide +kernel)⟩
theorem mc_Reckoning_takeOnFrom : MC md_Reckoning_takeOnFrom 1 := ⟨mem_t 3 80 (by decide +kernel) (by decide +kernel), mem_t 0 12 (by decide +kernel) (by decide +kernel), by decide +kernel, by decide +kernel, by decide +kernel, by decide +kernel⟩
theorem mv_Reckoning_takeOnFrom : Cond.instanceMethod (mY md_Reckoning_takeOnFrom) ∈ wsG ∧ Cond.selects (mY md_Reckoning_takeOnFrom).cls (mY md_Reckoning_takeOnFrom) (mY md_Reckoning_takeOnFrom) ∈ wsG := ⟨mem_t 3 79 (by decide +kernel) (by decide +kernel), mem_g 9 (by decide +kernel) (by decide +kernel)⟩
theorem mc_Row_takeOn : MC md_Row_takeOn 4 := ⟨mem_t 3 84 (by decide +kernel) (by decide +kernel), mem_t 0 10 (by decide +kernel) (by decide +kernel), by decide +kernel, by decide +kernel, by decide +kernel, by decide +kernel⟩
theorem mv_Row_takeOn : Cond.instanceMethod (mY md_Row_takeOn) ∈ wsG ∧ Cond.selects (mY md_Row_takeOn).cls (mY md_Row_takeOn) (mY md_Row_takeOn) ∈ wsG := ⟨mem_t 3 82 (by decide +kernel) (by decide +kernel), mem_t 3 83 (by decide +kernel) (by decide +kernel)⟩
theorem mc_Row_cut : MC md_Row_cut 3 := ⟨mem_t 3 91 (by decide +kernel) (by decide +kernel), mem_t 0 10 (by decide +kernel) (by decide +kernel), by decide +kernel, by decide +kernel, by decide +kernel, by decide +kernel⟩
theorem mv_Row_cut : Cond.instanceMethod (mY md_Row_cut) ∈ wsG ∧ Cond.selects (mY md_Row_cut).cls (mY md_Row_cut) (mY md_Row_cut) ∈ wsG := ⟨mem_t 3 90 (by decide +kernel) (by decide +kernel), mem_g 10 (by decide +kernel) (by decide +kernel)⟩
theorem mc_Peg_has : MC md_Peg_has 3 := ⟨mem_t 3 96 (by decide +kernel) (by decide +kernel), mem_t 0 1 (by decide +kernel) (by decide +kernel), by decide +kernel, by decide +kernel, by decide +kernel, by decide +kernel⟩
theorem mv_Peg_has : Cond.instanceMethod (mY md_Peg_has) ∈ wsG ∧ Cond.selects (mY md_Peg_has).cls (mY md_Peg_has) (mY md_Peg_has) ∈ wsG := ⟨mem_t 3 94 (by decide +kernel) (by decide +kernel), mem_t 3 95 (by decide +kernel) (by decide +kernel)⟩
theorem mc_Peg_here : MC md_Peg_here 1 := ⟨mem_t 3 100 (by decide +kernel) (by decide +kernel), mem_t 0 1 (by decide +kernel) (by decide +kernel), by decide +kernel, by decide +kernel, by decide +kernel, by decide +kernel⟩
theorem mv_Peg_here : Cond.instanceMethod (mY md_Peg_here) ∈ wsG ∧ Cond.selects (mY md_Peg_here).cls (mY md_Peg_here) (mY md_Peg_here) ∈ wsG := ⟨mem_t 3 98 (by decide +kernel) (by decide +kernel), mem_t 3 99 (by decide +kernel) (by decide +kernel)⟩
theorem mc_Reckoning_seenFromEnd : MC md_Reckoning_seenFromEnd 1 := ⟨mem_t 3 104 (by decide +kernel) (by decide +kernel), mem_t 0 12 (by decide +kernel) (by decide +kernel), by decide +kernel, by decide +kernel, by decide +kernel, by decide +kernel⟩
theorem mv_Reckoning_seenFromEnd : Cond.instanceMethod (mY md_Reckoning_seenFromEnd) ∈ wsG ∧ Cond.selects (mY md_Reckoning_seenFromEnd).cls (mY md_Reckoning_seenFromEnd) (mY md_Reckoning_seenFromEnd) ∈ wsG := ⟨mem_t 3 102 (by decide +kernel) (by decide +kernel), mem_t 3 103 (by decide +kernel) (by decide +kernel)⟩
theorem mc_Reckoning_lookBack : MC md_Reckoning_lookBack 0 := ⟨mem_t 3 109 (by decide +kernel) (by decide +kernel), mem_t 0 12 (by decide +kernel) (by decide +kernel), by decide +kernel, by decide +kernel, by decide +kernel, by decide +kernel⟩
theorem mv_Reckoning_lookBack : Cond.instanceMethod (mY md_Reckoning_lookBack) ∈ wsG ∧ Cond.selects (mY md_Reckoning_lookBack).cls (mY md_Reckoning_lookBack) (mY md_Reckoning_lookBack) ∈ wsG := ⟨mem_t 3 108 (by decide +kernel) (by decide +kernel), mem_g 11 (by decide +kernel) (by decide +kernel)⟩
theorem mc_Row_takeBack : MC md_Row_takeBack 3 := ⟨mem_t 3 114 (by decide +kernel) (by decide +kernel), mem_t 0 10 (by decide +kernel) (by decide +kernel), by decide +kernel, by decide +kernel, by decide +kernel, by decide +kernel⟩
theorem mv_Row_takeBack : Cond.instanceMethod (mY md_Row_takeBack) ∈ wsG ∧ Cond.selects (mY md_Row_takeBack).cls (mY md_Row_takeBack) (mY md_Row_takeBack) ∈ wsG := ⟨mem_t 3 112 (by decide +kernel) (by decide +kernel), mem_t 3 113 (by decide +kernel) (by decide +kernel)⟩
theorem mc_Peg_was : MC md_Peg_was 3 := ⟨mem_t 3 118 (by decide +kernel) (by decide +kernel), mem_t 0 1 (by decide +kernel) (by decide +kernel), by decide +kernel, by decide +kernel, by decide +kernel, by decide +kernel⟩
theorem mv_Peg_was : Cond.instanceMethod (mY md_Peg_was) ∈ wsG ∧ Cond.selects (mY md_Peg_was).cls (mY md_Peg_was) (mY md_Peg_was) ∈ wsG := ⟨mem_t 3 116 (by decide +kernel) (by decide +kernel), mem_t 3 117 (by decide +kernel) (by decide +kernel)⟩
theorem mc_Peg_blamed : MC md_Peg_blamed 0 := ⟨mem_t 3 122 (by decide +kernel) (by decide +kernel), mem_t 0 1 (by decide +kernel) (by decide +kernel), by decide +kernel, by decide +kernel, by decide +kernel, by decide +kernel⟩
theorem mv_Peg_blamed : Cond.instanceMethod (mY md_Peg_blamed) ∈ wsG ∧ Cond.selects (mY md_Peg_blamed).cls (mY md_Peg_blamed) (mY md_Peg_blamed) ∈ wsG := ⟨mem_t 3 120 (by decide +kernel) (by decide +kernel), mem_t 3 121 (by decide +kernel) (by decide +kernel)⟩
theorem mc_Peg_mayBlame : MC md_Peg_mayBlame 0 := ⟨mem_t 3 126 (by decide +kernel) (by decide +kernel), mem_t 0 1 (by decide +kernel) (by decide +kernel), by decide +kernel, by decide +kernel, by decide +kernel, by decide +kernel⟩
theorem mv_Peg_mayBlame : Cond.instanceMethod (mY md_Peg_mayBlame) ∈ wsG ∧ Cond.selects (mY md_Peg_mayBlame).cls (mY md_Peg_mayBlame) (mY md_Peg_mayBlame) ∈ wsG := ⟨mem_t 3 125 (by decide +kernel) (by decide +kernel), mem_g 12 (by decide +kernel) (by decide +kernel)⟩
theorem mc_Patch_isEmpty : MC md_Patch_isEmpty 0 := ⟨mem_t 3 130 (by decide +kernel) (by decide +kernel), mem_t 0 7 (by decide +kernel) (by decide +kernel), by decide +kernel, by decide +kernel, by decide +kernel, by decide +kernel⟩
theorem mv_Patch_isEmpty : Cond.instanceMethod (mY md_Patch_isEmpty) ∈ wsG ∧ Cond.selects (mY md_Patch_isEmpty).cls (mY md_Patch_isEmpty) (mY md_Patch_isEmpty) ∈ wsG := ⟨mem_t 3 128 (by decide +kernel) (by decide +kernel), mem_t 3 129 (by decide +kernel) (by decide +kernel)⟩
theorem mc_Reckoning_findBlamed : MC md_Reckoning_findBlamed 0 := ⟨mem_t 3 134 (by decide +kernel) (by decide +kernel), mem_t 0 12 (by decide +kernel) (by decide +kernel), by decide +kernel, by decide +kernel, by decide +kernel, by decide +kernel⟩
theorem mv_Reckoning_findBlamed : Cond.instanceMethod (mY md_Reckoning_findBlamed) ∈ wsG ∧ Cond.selects (mY md_Reckoning_findBlamed).cls (mY md_Reckoning_findBlamed) (mY md_Reckoning_findBlamed) ∈ wsG := ⟨mem_t 3 132 (by decide +kernel) (by decide +kernel), mem_t 3 133 (by decide +kernel) (by decide +kernel)⟩
theorem mc_Reckoning_leadsOnWithout : MC md_Reckoning_leadsOnWithout 3 := ⟨mem_t 3 138 (by decide +kernel) (by decide +kernel), mem_t 0 12 (by decide +kernel) (by decide +kernel), by decide +kernel, by decide +kernel, by decide +kernel, by decide +kernel⟩
theorem mv_Reckoning_leadsOnWithout : Cond.instanceMethod (mY md_Reckoning_leadsOnWithout) ∈ wsG ∧ Cond.selects (mY md_Reckoning_leadsOnWithout).cls (mY md_Reckoning_leadsOnWithout) (mY md_Reckoning_leadsOnWithout) ∈ wsG := ⟨mem_t 3 137 (by decide +kernel) (by decide +kernel), mem_g 13 (by decide +kernel) (by decide +kernel)⟩
theorem mc_Patch_meets : MC md_Patch_meets 1 := ⟨mem_t 3 142 (by decide +kernel) (by decide +kernel), mem_t 0 7 (by decide +kernel) (by decide +kernel), by decide +kernel, by decide +kernel, by decide +kernel, by decide +kernel⟩
theorem mv_Patch_meets : Cond.instanceMethod (mY md_Patch_meets) ∈ wsG ∧ Cond.selects (mY md_Patch_meets).cls (mY md_Patch_meets) (mY md_Patch_meets) ∈ wsG := ⟨mem_t 3 140 (by decide +kernel) (by decide +kernel), mem_t 3 141 (by decide +kernel) (by decide +kernel)⟩
theorem mc_Reckoning_add : MC md_Reckoning_add 1 := ⟨mem_t 3 146 (by decide +kernel) (by decide +kernel), mem_t 0 12 (by decide +kernel) (by decide +kernel), by decide +kernel, by decide +kernel, by decide +kernel, by decide +kernel⟩
theorem mv_Reckoning_add : Cond.instanceMethod (mY md_Reckoning_add) ∈ wsG ∧ Cond.selects (mY md_Reckoning_add).cls (mY md_Reckoning_add) (mY md_Reckoning_add) ∈ wsG := ⟨mem_t 3 145 (by decide +kernel) (by decide +kernel), mem_g 14 (by decide +kernel) (by decide +kernel)⟩
theorem mc_Reckoning_findPairsOf : MC md_Reckoning_findPairsOf 1 := ⟨mem_t 3 150 (by decide +kernel) (by decide +kernel), mem_t 0 12 (by decide +kernel) (by decide +kernel), by decide +kernel, by decide +kernel, by decide +kernel, by decide +kernel⟩
theorem mv_Reckoning_findPairsOf : Cond.instanceMethod (mY md_Reckoning_findPairsOf) ∈ wsG ∧ Cond.selects (mY md_Reckoning_findPairsOf).cls (mY md_Reckoning_findPairsOf) (mY md_Reckoning_findPairsOf) ∈ wsG := ⟨mem_t 3 149 (by decide +kernel) (by decide +kernel), mem_g 15 (by decide +kernel) (by decide +kernel)⟩
theorem mc_Peg_blame : MC md_Peg_blame 1 := ⟨mem_t 3 154 (by decide +kernel) (by decide +kernel), mem_t 0 1 (by decide +kernel) (by decide +kernel), by decide +kernel, by decide +kernel, by decide +kernel, by decide +kernel⟩
theorem mv_Peg_blame : Cond.instanceMethod (mY md_Peg_blame) ∈ wsG ∧ Cond.selects (mY md_Peg_blame).cls (mY md_Peg_blame) (mY md_Peg_blame) ∈ wsG := ⟨mem_t 3 152 (by decide +kernel) (by decide +kernel), mem_t 3 153 (by decide +kernel) (by decide +kernel)⟩
theorem mc_Reckoning_foundAt : MC md_Reckoning_foundAt 1 := ⟨mem_t 3 158 (by decide +kernel) (by decide +kernel), mem_t 0 12 (by decide +kernel) (by decide +kernel), by decide +kernel, by decide +kernel, by decide +kernel, by decide +kernel⟩
theorem mv_Reckoning_foundAt : Cond.instanceMethod (mY md_Reckoning_foundAt) ∈ wsG ∧ Cond.selects (mY md_Reckoning_foundAt).cls (mY md_Reckoning_foundAt) (mY md_Reckoning_foundAt) ∈ wsG := ⟨mem_t 3 156 (by decide +kernel) (by decide +kernel), mem_t 3 157 (by decide +kernel) (by decide +kernel)⟩
theorem mc_Peg_fits : MC md_Peg_fits 2 := ⟨mem_t 3 162 (by decide +kernel) (by decide +kernel), mem_t 0 1 (by decide +kernel) (by decide +kernel), by decide +kernel, by decide +kernel, by decide +kernel, by decide +kernel⟩
theorem mv_Peg_fits : Cond.instanceMethod (mY md_Peg_fits) ∈ wsG ∧ Cond.selects (mY md_Peg_fits).cls (mY md_Peg_fits) (mY md_Peg_fits) ∈ wsG := ⟨mem_t 3 160 (by decide +kernel) (by decide +kernel), mem_t 3 161 (by decide +kernel) (by decide +kernel)⟩
theorem mc_Reckoning_findFits : MC md_Reckoning_findFits 2 := ⟨mem_t 3 166 (by decide +kernel) (by decide +kernel), mem_t 0 12 (by decide +kernel) (by decide +kernel), by decide +kernel, by decide +kernel, by decide +kernel, by decide +kernel⟩
theorem mv_Reckoning_findFits : Cond.instanceMethod (mY md_Reckoning_findFits) ∈ wsG ∧ Cond.selects (mY md_Reckoning_findFits).cls (mY md_Reckoning_findFits) (mY md_Reckoning_findFits) ∈ wsG := ⟨mem_t 3 164 (by decide +kernel) (by decide +kernel), mem_t 3 165 (by decide +kernel) (by decide +kernel)⟩
theorem mc_Reckoning_lookAheadBy : MC md_Reckoning_lookAheadBy 3 := ⟨mem_t 3 170 (by decide +kernel) (by decide +kernel), mem_t 0 12 (by decide +kernel) (by decide +kernel), by decide +kernel, by decide +kernel, by decide +kernel, by decide +kernel⟩
theorem mv_Reckoning_lookAheadBy : Cond.instanceMethod (mY md_Reckoning_lookAheadBy) ∈ wsG ∧ Cond.selects (mY md_Reckoning_lookAheadBy).cls (mY md_Reckoning_lookAheadBy) (mY md_Reckoning_lookAheadBy) ∈ wsG := ⟨mem_t 3 169 (by decide +kernel) (by decide +kernel), mem_g 16 (by decide +kernel) (by decide +kernel)⟩
theorem mc_Peg_fit : MC md_Peg_fit 3 := ⟨mem_t 3 175 (by decide +kernel) (by decide +kernel), mem_t 0 1 (by decide +kernel) (by decide +kernel), by decide +kernel, by decide +kernel, by decide +kernel, by decide +kernel⟩
theorem mv_Peg_fit : Cond.instanceMethod (mY md_Peg_fit) ∈ wsG ∧ Cond.selects (mY md_Peg_fit).cls (mY md_Peg_fit) (mY md_Peg_fit) ∈ wsG := ⟨mem_t 3 173 (by decide +kernel) (by decide +kernel), mem_t 3 174 (by decide +kernel) (by decide +kernel)⟩
theorem mc_Peg_sights : MC md_Peg_sights 7 := ⟨mem_t 3 179 (by decide +kernel) (by decide +kernel), mem_t 0 1 (by decide +kernel) (by decide +kernel), by decide +kernel, by decide +kernel, by decide +kernel, by decide +kernel⟩
theorem mv_Peg_sights : Cond.instanceMethod (mY md_Peg_sights) ∈ wsG ∧ Cond.selects (mY md_Peg_sights).cls (mY md_Peg_sights) (mY md_Peg_sights) ∈ wsG := ⟨mem_t 3 177 (by decide +kernel) (by decide +kernel), mem_t 3 178 (by decide +kernel) (by decide +kernel)⟩
theorem mc_Voyage_isVoyage : MC md_Voyage_isVoyage 4 := ⟨mem_t 3 182 (by decide +kernel) (by decide +kernel), mem_t 0 13 (by decide +kernel) (by decide +kernel), by decide +kernel, by decide +kernel, by decide +kernel, by decide +kernel⟩
theorem ms_Voyage_isVoyage : Cond.static (mY md_Voyage_isVoyage) ∈ wsG := mem_t 3 181 (by decide +kernel) (by decide +kernel)
theorem mc_Voyage_fitOut : MC md_Voyage_fitOut 3 := ⟨mem_t 3 187 (by decide +kernel) (by decide +kernel), mem_t 0 13 (by decide +kernel) (by decide +kernel), by decide +kernel, by decide +kernel, by decide +kernel, by decide +kernel⟩
theorem mv_Voyage_fitOut : Cond.instanceMethod (mY md_Voyage_fitOut) ∈ wsG ∧ Cond.selects (mY md_Voyage_fitOut).cls (mY md_Voyage_fitOut) (mY md_Voyage_fitOut) ∈ wsG := ⟨mem_t 3 185 (by decide +kernel) (by decide +kernel), mem_t 3 186 (by decide +kernel) (by decide +kernel)⟩
theorem mc_Voyage_sightedFromCell : MC md_Voyage_sightedFromCell 4 := ⟨mem_t 3 192 (by decide +kernel) (by decide +kernel), mem_t 0 13 (by decide +kernel) (by decide +kernel), by decide +kernel, by decide +kernel, by decide +kernel, by decide +kernel⟩
theorem mv_Voyage_sightedFromCell : Cond.instanceMethod (mY md_Voyage_sightedFromCell) ∈ wsG ∧ Cond.selects (mY md_Voyage_sightedFromCell).cls (mY md_Voyage_sightedFromCell) (mY md_Voyage_sightedFromCell) ∈ wsG := ⟨mem_t 3 190 (by decide +kernel) (by decide +kernel), mem_t 3 191 (by decide +kernel) (by decide +kernel)⟩
theorem mc_Voyage_sightedFromLeft : MC md_Voyage_sightedFromLeft 2 := ⟨mem_t 3 198 (by decide +kernel) (by decide +kernel), mem_t 0 13 (by decide +kernel) (by decide +kernel), by decide +kernel, by decide +kernel, by decide +kernel, by decide +kernel⟩
theorem mv_Voyage_sightedFromLeft : Cond.instanceMethod (mY md_Voyage_sightedFromLeft) ∈ wsG ∧ Cond.selects (mY md_Voyage_sightedFromLeft).cls (mY md_Voyage_sightedFromLeft) (mY md_Voyage_sightedFromLeft) ∈ wsG := ⟨mem_t 3 197 (by decide +kernel) (by decide +kernel), mem_g 17 (by decide +kernel) (by decide +kernel)⟩
theorem mc_Voyage_isOneAground : MC md_Voyage_isOneAground 0 := ⟨mem_t 3 207 (by decide +kernel) (by decide +kernel), mem_t 0 13 (by decide +kernel) (by decide +kernel), by decide +kernel, by decide +kernel, by decide +kernel, by decide +kernel⟩
theorem mv_Voyage_isOneAground : Cond.instanceMethod (mY md_Voyage_isOneAground) ∈ wsG ∧ Cond.selects (mY md_Voyage_isOneAground).cls (mY md_Voyage_isOneAground) (mY md_Voyage_isOneAground) ∈ wsG := ⟨mem_t 3 206 (by decide +kernel) (by decide +kernel), mem_g 18 (by decide +kernel) (by decide +kernel)⟩
theorem mc_Patch_seenFrom : MC md_Patch_seenFrom 2 := ⟨mem_t 3 211 (by decide +kernel) (by decide +kernel), mem_t 0 7 (by decide +kernel) (by decide +kernel), by decide +kernel, by decide +kernel, by decide +kernel, by decide +kernel⟩
theorem mv_Patch_seenFrom : Cond.instanceMethod (mY md_Patch_seenFrom) ∈ wsG ∧ Cond.selects (mY md_Patch_seenFrom).cls (mY md_Patch_seenFrom) (mY md_Patch_seenFrom) ∈ wsG := ⟨mem_t 3 209 (by decide +kernel) (by decide +kernel), mem_t 3 210 (by decide +kernel) (by decide +kernel)⟩
theorem mc_Voyage_dropSighted : MC md_Voyage_dropSighted 0 := ⟨mem_t 3 215 (by decide +kernel) (by decide +kernel), mem_t 0 13 (by decide +kernel) (by decide +kernel), by decide +kernel, by decide +kernel, by decide +kernel, by decide +kernel⟩
theorem mv_Voyage_dropSighted : Cond.instanceMethod (mY md_Voyage_dropSighted) ∈ wsG ∧ Cond.selects (mY md_Voyage_dropSighted).cls (mY md_Voyage_dropSighted) (mY md_Voyage_dropSighted) ∈ wsG := ⟨mem_t 3 214 (by decide +kernel) (by decide +kernel), mem_g 19 (by decide +kernel) (by decide +kernel)⟩
theorem mc_Peg_sure : MC md_Peg_sure 5 := ⟨mem_t 3 220 (by decide +kernel) (by decide +kernel), mem_t 0 1 (by decide +kernel) (by decide +kernel), by decide +kernel, by decide +kernel, by decide +kernel, by decide +kernel⟩
theorem mv_Peg_sure : Cond.instanceMethod (mY md_Peg_sure) ∈ wsG ∧ Cond.selects (mY md_Peg_sure).cls (mY md_Peg_sure) (mY md_Peg_sure) ∈ wsG := ⟨mem_t 3 218 (by decide +kernel) (by decide +kernel), mem_t 3 219 (by decide +kernel) (by decide +kernel)⟩
theorem mc_Voyage_sightedFromAll : MC md_Voyage_sightedFromAll 3 := ⟨mem_t 3 224 (by decide +kernel) (by decide +kernel), mem_t 0 13 (by decide +kernel) (by decide +kernel), by decide +kernel, by decide +kernel, by decide +kernel, by decide +kernel⟩
theorem mv_Voyage_sightedFromAll : Cond.instanceMethod (mY md_Voyage_sightedFromAll) ∈ wsG ∧ Cond.selects (mY md_Voyage_sightedFromAll).cls (mY md_Voyage_sightedFromAll) (mY md_Voyage_sightedFromAll) ∈ wsG := ⟨mem_t 3 222 (by decide +kernel) (by decide +kernel), mem_t 3 223 (by decide +kernel) (by decide +kernel)⟩
theorem mc_Peg_course : MC md_Peg_course 4 := ⟨mem_t 3 229 (by decide +kernel) (by decide +kernel), mem_t 0 1 (by decide +kernel) (by decide +kernel), by decide +kernel, by decide +kernel, by decide +kernel, by decide +kernel⟩
theorem mv_Peg_course : Cond.instanceMethod (mY md_Peg_course) ∈ wsG ∧ Cond.selects (mY md_Peg_course).cls (mY md_Peg_course) (mY md_Peg_course) ∈ wsG := ⟨mem_t 3 227 (by decide +kernel) (by decide +kernel), mem_t 3 228 (by decide +kernel) (by decide +kernel)⟩
theorem mc_Voyage_soonestPoint : MC md_Voyage_soonestPoint 2 := ⟨mem_t 3 233 (by decide +kernel) (by decide +kernel), mem_t 0 13 (by decide +kernel) (by decide +kernel), by decide +kernel, by decide +kernel, by decide +kernel, by decide +kernel⟩
theorem mv_Voyage_soonestPoint : Cond.instanceMethod (mY md_Voyage_soonestPoint) ∈ wsG ∧ Cond.selects (mY md_Voyage_soonestPoint).cls (mY md_Voyage_soonestPoint) (mY md_Voyage_soonestPoint) ∈ wsG := ⟨mem_t 3 231 (by decide +kernel) (by decide +kernel), mem_t 3 232 (by decide +kernel) (by decide +kernel)⟩
theorem mc_Peg_many : MC md_Peg_many 1 := ⟨mem_t 3 238 (by decide +kernel) (by decide +kernel), mem_t 0 1 (by decide +kernel) (by decide +kernel), by decide +kernel, by decide +kernel, by decide +kernel, by decide +kernel⟩
theorem mv_Peg_many : Cond.instanceMethod (mY md_Peg_many) ∈ wsG ∧ Cond.selects (mY md_Peg_many).cls (mY md_Peg_many) (mY md_Peg_many) ∈ wsG := ⟨mem_t 3 236 (by decide +kernel) (by decide +kernel), mem_t 3 237 (by decide +kernel) (by decide +kernel)⟩
theorem mc_Peg_digest : MC md_Peg_digest 0 := ⟨mem_t 4 2 (by decide +kernel) (by decide +kernel), mem_t 0 1 (by decide +kernel) (by decide +kernel), by decide +kernel, by decide +kernel, by decide +kernel, by decide +kernel⟩
theorem mv_Peg_digest : Cond.instanceMethod (mY md_Peg_digest) ∈ wsG ∧ Cond.selects (mY md_Peg_digest).cls (mY md_Peg_digest) (mY md_Peg_digest) ∈ wsG := ⟨mem_t 4 0 (by decide +kernel) (by decide +kernel), mem_t 4 1 (by decide +kernel) (by decide +kernel)⟩
theorem mc_Words_foldInto : MC md_Words_foldInto 1 := ⟨mem_t 4 7 (by decide +kernel) (by decide +kernel), mem_t 0 2 (by decide +kernel) (by decide +kernel), by decide +kernel, by decide +kernel, by decide +kernel, by decide +kernel⟩
theorem mv_Words_foldInto : Cond.instanceMethod (mY md_Words_foldInto) ∈ wsG ∧ Cond.selects (mY md_Words_foldInto).cls (mY md_Words_foldInto) (mY md_Words_foldInto) ∈ wsG := ⟨mem_t 4 5 (by decide +kernel) (by decide +kernel), mem_t 4 6 (by decide +kernel) (by decide +kernel)⟩
theorem mc_Peg_fold : MC md_Peg_fold 2 := ⟨mem_t 4 10 (by decide +kernel) (by decide +kernel), mem_t 0 1 (by decide +kernel) (by decide +kernel), by decide +kernel, by decide +kernel, by decide +kernel, by decide +kernel⟩
theorem ms_Peg_fold : Cond.static (mY md_Peg_fold) ∈ wsG := mem_t 4 9 (by decide +kernel) (by decide +kernel)
theorem mc_Board_foldWatchesInto : MC md_Board_foldWatchesInto 1 := ⟨mem_t 4 15 (by decide +kernel) (by decide +kernel), mem_t 0 3 (by decide +kernel) (by decide +kernel), by decide +kernel, by decide +kernel, by decide +kernel, by decide +kernel⟩
theorem mv_Board_foldWatchesInto : Cond.instanceMethod (mY md_Board_foldWatchesInto) ∈ wsG ∧ Cond.selects (mY md_Board_foldWatchesInto).cls (mY md_Board_foldWatchesInto) (mY md_Board_foldWatchesInto) ∈ wsG := ⟨mem_t 4 13 (by decide +kernel) (by decide +kernel), mem_t 4 14 (by decide +kernel) (by decide +kernel)⟩
theorem mc_Watch_foldInto : MC md_Watch_foldInto 1 := ⟨mem_t 4 19 (by decide +kernel) (by decide +kernel), mem_t 0 4 (by decide +kernel) (by decide +kernel), by decide +kernel, by decide +kernel, by decide +kernel, by decide +kernel⟩
theorem mv_Watch_foldInto : Cond.instanceMethod (mY md_Watch_foldInto) ∈ wsG ∧ Cond.selects (mY md_Watch_foldInto).cls (mY md_Watch_foldInto) (mY md_Watch_foldInto) ∈ wsG := ⟨mem_t 4 17 (by decide +kernel) (by decide +kernel), mem_t 4 18 (by decide +kernel) (by decide +kernel)⟩
theorem mc_Chart_foldInto : MC md_Chart_foldInto 1 := ⟨mem_t 4 24 (by decide +kernel) (by decide +kernel), mem_t 0 6 (by decide +kernel) (by decide +kernel), by decide +kernel, by decide +kernel, by decide +kernel, by decide +kernel⟩
theorem mv_Chart_foldInto : Cond.instanceMethod (mY md_Chart_foldInto) ∈ wsG ∧ Cond.selects (mY md_Chart_foldInto).cls (mY md_Chart_foldInto) (mY md_Chart_foldInto) ∈ wsG := ⟨mem_t 4 22 (by decide +kernel) (by decide +kernel), mem_t 4 23 (by decide +kernel) (by decide +kernel)⟩
theorem mc_Log_foldInto : MC md_Log_foldInto 1 := ⟨mem_t 4 31 (by decide +kernel) (by decide +kernel), mem_t 0 9 (by decide +kernel) (by decide +kernel), by decide +kernel, by decide +kernel, by decide +kernel, by decide +kernel⟩
theorem mv_Log_foldInto : Cond.instanceMethod (mY md_Log_foldInto) ∈ wsG ∧ Cond.selects (mY md_Log_foldInto).cls (mY md_Log_foldInto) (mY md_Log_foldInto) ∈ wsG := ⟨mem_t 4 29 (by decide +kernel) (by decide +kernel), mem_t 4 30 (by decide +kernel) (by decide +kernel)⟩
theorem mc_Mod_init : MC md_Mod_init 0 := ⟨mem_t 4 38 (by decide +kernel) (by decide +kernel), mem_t 0 14 (by decide +kernel) (by decide +kernel), by decide +kernel, by decide +kernel, by decide +kernel, by decide +kernel⟩
theorem mi_Mod_init : Cond.instanceMethod (mY md_Mod_init) ∈ wsG := mem_t 4 37 (by decide +kernel) (by decide +kernel)
theorem mc_Mod_flood : MC md_Mod_flood 0 := ⟨mem_t 4 43 (by decide +kernel) (by decide +kernel), mem_t 0 14 (by decide +kernel) (by decide +kernel), by decide +kernel, by decide +kernel, by decide +kernel, by decide +kernel⟩
theorem mv_Mod_flood : Cond.instanceMethod (mY md_Mod_flood) ∈ wsG ∧ Cond.selects (mY md_Mod_flood).cls (mY md_Mod_flood) (mY md_Mod_flood) ∈ wsG := ⟨mem_t 4 42 (by decide +kernel) (by decide +kernel), mem_g 20 (by decide +kernel) (by decide +kernel)⟩
theorem mc_Mod_name : MC md_Mod_name 1 := ⟨mem_t 4 154 (by decide +kernel) (by decide +kernel), mem_t 0 14 (by decide +kernel) (by decide +kernel), by decide +kernel, by decide +kernel, by decide +kernel, by decide +kernel⟩
theorem mv_Mod_name : Cond.instanceMethod (mY md_Mod_name) ∈ wsG ∧ Cond.selects (mY md_Mod_name).cls (mY md_Mod_name) (mY md_Mod_name) ∈ wsG := ⟨mem_t 4 152 (by decide +kernel) (by decide +kernel), mem_t 4 153 (by decide +kernel) (by decide +kernel)⟩
theorem mc_Mod_isPoint : MC md_Mod_isPoint 1 := ⟨mem_t 4 157 (by decide +kernel) (by decide +kernel), mem_t 0 14 (by decide +kernel) (by decide +kernel), by decide +kernel, by decide +kernel, by decide +kernel, by decide +kernel⟩
theorem ms_Mod_isPoint : Cond.static (mY md_Mod_isPoint) ∈ wsG := mem_t 4 156 (by decide +kernel) (by decide +kernel)
theorem mc_Mod_in : MC md_Mod_in 3 := ⟨mem_t 4 160 (by decide +kernel) (by decide +kernel), mem_t 0 14 (by decide +kernel) (by decide +kernel), by decide +kernel, by decide +kernel, by decide +kernel, by decide +kernel⟩
theorem ms_Mod_in : Cond.static (mY md_Mod_in) ∈ wsG := mem_t 4 159 (by decide +kernel) (by decide +kernel)
theorem mc_Mod_read : MC md_Mod_read 1 := ⟨mem_t 4 164 (by decide +kernel) (by decide +kernel), mem_t 0 14 (by decide +kernel) (by decide +kernel), by decide +kernel, by decide +kernel, by decide +kernel, by decide +kernel⟩
theorem mv_Mod_read : Cond.instanceMethod (mY md_Mod_read) ∈ wsG ∧ Cond.selects (mY md_Mod_read).cls (mY md_Mod_read) (mY md_Mod_read) ∈ wsG := ⟨mem_t 4 162 (by decide +kernel) (by decide +kernel), mem_t 4 163 (by decide +kernel) (by decide +kernel)⟩
theorem mc_Mod_lettersOf : MC md_Mod_lettersOf 1 := ⟨mem_t 4 167 (by decide +kernel) (by decide +kernel), mem_t 0 14 (by decide +kernel) (by decide +kernel), by decide +kernel, by decide +kernel, by decide +kernel, by decide +kernel⟩
theorem ms_Mod_lettersOf : Cond.static (mY md_Mod_lettersOf) ∈ wsG := mem_t 4 166 (by decide +kernel) (by decide +kernel)
theorem mc_Mod_cutOff : MC md_Mod_cutOff 2 := ⟨mem_t 4 170 (by decide +kernel) (by decide +kernel), mem_t 0 14 (by decide +kernel) (by decide +kernel), by decide +kernel, by decide +kernel, by decide +kernel, by decide +kernel⟩
theorem ms_Mod_cutOff : Cond.static (mY md_Mod_cutOff) ∈ wsG := mem_t 4 169 (by decide +kernel) (by decide +kernel)
theorem mc_Mod_begins : MC md_Mod_begins 1 := ⟨mem_t 4 174 (by decide +kernel) (by decide +kernel), mem_t 0 14 (by decide +kernel) (by decide +kernel), by decide +kernel, by decide +kernel, by decide +kernel, by decide +kernel⟩
theorem mv_Mod_begins : Cond.instanceMethod (mY md_Mod_begins) ∈ wsG ∧ Cond.selects (mY md_Mod_begins).cls (mY md_Mod_begins) (mY md_Mod_begins) ∈ wsG := ⟨mem_t 4 173 (by decide +kernel) (by decide +kernel), mem_g 21 (by decide +kernel) (by decide +kernel)⟩
theorem mc_Mod_turns : MC md_Mod_turns 2 := ⟨mem_t 4 178 (by decide +kernel) (by decide +kernel), mem_t 0 14 (by decide +kernel) (by decide +kernel), by decide +kernel, by decide +kernel, by decide +kernel, by decide +kernel⟩
theorem mv_Mod_turns : Cond.instanceMethod (mY md_Mod_turns) ∈ wsG ∧ Cond.selects (mY md_Mod_turns).cls (mY md_Mod_turns) (mY md_Mod_turns) ∈ wsG := ⟨mem_t 4 176 (by decide +kernel) (by decide +kernel), mem_t 4 177 (by decide +kernel) (by decide +kernel)⟩
theorem mc_Mod_turnsOf : MC md_Mod_turnsOf 2 := ⟨mem_t 4 181 (by decide +kernel) (by decide +kernel), mem_t 0 14 (by decide +kernel) (by decide +kernel), by decide +kernel, by decide +kernel, by decide +kernel, by decide +kernel⟩
theorem ms_Mod_turnsOf : Cond.static (mY md_Mod_turnsOf) ∈ wsG := mem_t 4 180 (by decide +kernel) (by decide +kernel)
theorem mc_Mod_go : MC md_Mod_go 2 := ⟨mem_t 4 185 (by decide +kernel) (by decide +kernel), mem_t 0 14 (by decide +kernel) (by decide +kernel), by decide +kernel, by decide +kernel, by decide +kernel, by decide +kernel⟩
theorem mv_Mod_go : Cond.instanceMethod (mY md_Mod_go) ∈ wsG ∧ Cond.selects (mY md_Mod_go).cls (mY md_Mod_go) (mY md_Mod_go) ∈ wsG := ⟨mem_t 4 183 (by decide +kernel) (by decide +kernel), mem_t 4 184 (by decide +kernel) (by decide +kernel)⟩
theorem mc_Mod_eastOf : MC md_Mod_eastOf 1 := ⟨mem_t 4 190 (by decide +kernel) (by decide +kernel), mem_t 0 14 (by decide +kernel) (by decide +kernel), by decide +kernel, by decide +kernel, by decide +kernel, by decide +kernel⟩
theorem mv_Mod_eastOf : Cond.instanceMethod (mY md_Mod_eastOf) ∈ wsG ∧ Cond.selects (mY md_Mod_eastOf).cls (mY md_Mod_eastOf) (mY md_Mod_eastOf) ∈ wsG := ⟨mem_t 4 189 (by decide +kernel) (by decide +kernel), mem_g 22 (by decide +kernel) (by decide +kernel)⟩
theorem mc_Mod_northOf : MC md_Mod_northOf 1 := ⟨mem_t 4 194 (by decide +kernel) (by decide +kernel), mem_t 0 14 (by decide +kernel) (by decide +kernel), by decide +kernel, by decide +kernel, by decide +kernel, by decide +kernel⟩
theorem mv_Mod_northOf : Cond.instanceMethod (mY md_Mod_northOf) ∈ wsG ∧ Cond.selects (mY md_Mod_northOf).cls (mY md_Mod_northOf) (mY md_Mod_northOf) ∈ wsG := ⟨mem_t 4 193 (by decide +kernel) (by decide +kernel), mem_g 23 (by decide +kernel) (by decide +kernel)⟩
theorem mc_Mod_word : MC md_Mod_word 1 := ⟨mem_t 4 199 (by decide +kernel) (by decide +kernel), mem_t 0 14 (by decide +kernel) (by decide +kernel), by decide +kernel, by decide +kernel, by decide +kernel, by decide +kernel⟩
theorem mv_Mod_word : Cond.instanceMethod (mY md_Mod_word) ∈ wsG ∧ Cond.selects (mY md_Mod_word).cls (mY md_Mod_word) (mY md_Mod_word) ∈ wsG := ⟨mem_t 4 197 (by decide +kernel) (by decide +kernel), mem_t 4 198 (by decide +kernel) (by decide +kernel)⟩
theorem mc_Mod_hush : MC md_Mod_hush 0 := ⟨mem_t 4 203 (by decide +kernel) (by decide +kernel), mem_t 0 14 (by decide +kernel) (by decide +kernel), by decide +kernel, by decide +kernel, by decide +kernel, by decide +kernel⟩
theorem mv_Mod_hush : Cond.instanceMethod (mY md_Mod_hush) ∈ wsG ∧ Cond.selects (mY md_Mod_hush).cls (mY md_Mod_hush) (mY md_Mod_hush) ∈ wsG := ⟨mem_t 4 201 (by decide +kernel) (by decide +kernel), mem_t 4 202 (by decide +kernel) (by decide +kernel)⟩
theorem mc_Mod_fault : MC md_Mod_fault 0 := ⟨mem_t 4 207 (by decide +kernel) (by decide +kernel), mem_t 0 14 (by decide +kernel) (by decide +kernel), by decide +kernel, by decide +kernel, by decide +kernel, by decide +kernel⟩
theorem mv_Mod_fault : Cond.instanceMethod (mY md_Mod_fault) ∈ wsG ∧ Cond.selects (mY md_Mod_fault).cls (mY md_Mod_fault) (mY md_Mod_fault) ∈ wsG := ⟨mem_t 4 205 (by decide +kernel) (by decide +kernel), mem_t 4 206 (by decide +kernel) (by decide +kernel)⟩
theorem mc_Mod_faultOf : MC md_Mod_faultOf 0 := ⟨mem_t 4 211 (by decide +kernel) (by decide +kernel), mem_t 0 14 (by decide +kernel) (by decide +kernel), by decide +kernel, by decide +kernel, by decide +kernel, by decide +kernel⟩
theorem mv_Mod_faultOf : Cond.instanceMethod (mY md_Mod_faultOf) ∈ wsG ∧ Cond.selects (mY md_Mod_faultOf).cls (mY md_Mod_faultOf) (mY md_Mod_faultOf) ∈ wsG := ⟨mem_t 4 210 (by decide +kernel) (by decide +kernel), mem_g 24 (by decide +kernel) (by decide +kernel)⟩
theorem mc_Mod_told : MC md_Mod_told 0 := ⟨mem_t 4 215 (by decide +kernel) (by decide +kernel), mem_t 0 14 (by decide +kernel) (by decide +kernel), by decide +kernel, by decide +kernel, by decide +kernel, by decide +kernel⟩
theorem mv_Mod_told : Cond.instanceMethod (mY md_Mod_told) ∈ wsG ∧ Cond.selects (mY md_Mod_told).cls (mY md_Mod_told) (mY md_Mod_told) ∈ wsG := ⟨mem_t 4 213 (by decide +kernel) (by decide +kernel), mem_t 4 214 (by decide +kernel) (by decide +kernel)⟩
theorem mc_Mod_watch : MC md_Mod_watch 0 := ⟨mem_t 4 219 (by decide +kernel) (by decide +kernel), mem_t 0 14 (by decide +kernel) (by decide +kernel), by decide +kernel, by decide +kernel, by decide +kernel, by decide +kernel⟩
theorem mv_Mod_watch : Cond.instanceMethod (mY md_Mod_watch) ∈ wsG ∧ Cond.selects (mY md_Mod_watch).cls (mY md_Mod_watch) (mY md_Mod_watch) ∈ wsG := ⟨mem_t 4 217 (by decide +kernel) (by decide +kernel), mem_t 4 218 (by decide +kernel) (by decide +kernel)⟩
theorem mc_Mod_peg : MC md_Mod_peg 3 := ⟨mem_t 4 223 (by decide +kernel) (by decide +kernel), mem_t 0 14 (by decide +kernel) (by decide +kernel), by decide +kernel, by decide +kernel, by decide +kernel, by decide +kernel⟩
theorem mv_Mod_peg : Cond.instanceMethod (mY md_Mod_peg) ∈ wsG ∧ Cond.selects (mY md_Mod_peg).cls (mY md_Mod_peg) (mY md_Mod_peg) ∈ wsG := ⟨mem_t 4 221 (by decide +kernel) (by decide +kernel), mem_t 4 222 (by decide +kernel) (by decide +kernel)⟩
theorem mc_Mod_isWatch : MC md_Mod_isWatch 1 := ⟨mem_t 4 227 (by decide +kernel) (by decide +kernel), mem_t 0 14 (by decide +kernel) (by decide +kernel), by decide +kernel, by decide +kernel, by decide +kernel, by decide +kernel⟩
theorem mv_Mod_isWatch : Cond.instanceMethod (mY md_Mod_isWatch) ∈ wsG ∧ Cond.selects (mY md_Mod_isWatch).cls (mY md_Mod_isWatch) (mY md_Mod_isWatch) ∈ wsG := ⟨mem_t 4 226 (by decide +kernel) (by decide +kernel), mem_g 25 (by decide +kernel) (by decide +kernel)⟩
theorem mc_Mod_knots : MC md_Mod_knots 3 := ⟨mem_t 4 231 (by decide +kernel) (by decide +kernel), mem_t 0 14 (by decide +kernel) (by decide +kernel), by decide +kernel, by decide +kernel, by decide +kernel, by decide +kernel⟩
theorem mv_Mod_knots : Cond.instanceMethod (mY md_Mod_knots) ∈ wsG ∧ Cond.selects (mY md_Mod_knots).cls (mY md_Mod_knots) (mY md_Mod_knots) ∈ wsG := ⟨mem_t 4 229 (by decide +kernel) (by decide +kernel), mem_t 4 230 (by decide +kernel) (by decide +kernel)⟩
theorem mc_Mod_set : MC md_Mod_set 3 := ⟨mem_t 4 235 (by decide +kernel) (by decide +kernel), mem_t 0 14 (by decide +kernel) (by decide +kernel), by decide +kernel, by decide +kernel, by decide +kernel, by decide +kernel⟩
theorem mv_Mod_set : Cond.instanceMethod (mY md_Mod_set) ∈ wsG ∧ Cond.selects (mY md_Mod_set).cls (mY md_Mod_set) (mY md_Mod_set) ∈ wsG := ⟨mem_t 4 233 (by decide +kernel) (by decide +kernel), mem_t 4 234 (by decide +kernel) (by decide +kernel)⟩
theorem mc_Mod_leeway : MC md_Mod_leeway 3 := ⟨mem_t 4 239 (by decide +kernel) (by decide +kernel), mem_t 0 14 (by decide +kernel) (by decide +kernel), by decide +kernel, by decide +kernel, by decide +kernel, by decide +kernel⟩
theorem mv_Mod_leeway : Cond.instanceMethod (mY md_Mod_leeway) ∈ wsG ∧ Cond.selects (mY md_Mod_leeway).cls (mY md_Mod_leeway) (mY md_Mod_leeway) ∈ wsG := ⟨mem_t 4 237 (by decide +kernel) (by decide +kernel), mem_t 4 238 (by decide +kernel) (by decide +kernel)⟩
theorem mc_Mod_leewayOf : MC md_Mod_leewayOf 3 := ⟨mem_t 5 2 (by decide +kernel) (by decide +kernel), mem_t 0 14 (by decide +kernel) (by decide +kernel), by decide +kernel, by decide +kernel, by decide +kernel, by decide +kernel⟩
theorem ms_Mod_leewayOf : Cond.static (mY md_Mod_leewayOf) ∈ wsG := mem_t 5 1 (by decide +kernel) (by decide +kernel)
theorem mc_Mod_way : MC md_Mod_way 4 := ⟨mem_t 5 6 (by decide +kernel) (by decide +kernel), mem_t 0 14 (by decide +kernel) (by decide +kernel), by decide +kernel, by decide +kernel, by decide +kernel, by decide +kernel⟩
theorem mv_Mod_way : Cond.instanceMethod (mY md_Mod_way) ∈ wsG ∧ Cond.selects (mY md_Mod_way).cls (mY md_Mod_way) (mY md_Mod_way) ∈ wsG := ⟨mem_t 5 4 (by decide +kernel) (by decide +kernel), mem_t 5 5 (by decide +kernel) (by decide +kernel)⟩
theorem mc_Mod_goWatch : MC md_Mod_goWatch 4 := ⟨mem_t 5 12 (by decide +kernel) (by decide +kernel), mem_t 0 14 (by decide +kernel) (by decide +kernel), by decide +kernel, by decide +kernel, by decide +kernel, by decide +kernel⟩
theorem mv_Mod_goWatch : Cond.instanceMethod (mY md_Mod_goWatch) ∈ wsG ∧ Cond.selects (mY md_Mod_goWatch).cls (mY md_Mod_goWatch) (mY md_Mod_goWatch) ∈ wsG := ⟨mem_t 5 11 (by decide +kernel) (by decide +kernel), mem_g 26 (by decide +kernel) (by decide +kernel)⟩
theorem mc_Mod_down : MC md_Mod_down 2 := ⟨mem_t 5 15 (by decide +kernel) (by decide +kernel), mem_t 0 14 (by decide +kernel) (by decide +kernel), by decide +kernel, by decide +kernel, by decide +kernel, by decide +kernel⟩
theorem ms_Mod_down : Cond.static (mY md_Mod_down) ∈ wsG := mem_t 5 14 (by decide +kernel) (by decide +kernel)
theorem mc_Mod_miss : MC md_Mod_miss 1 := ⟨mem_t 5 19 (by decide +kernel) (by decide +kernel), mem_t 0 14 (by decide +kernel) (by decide +kernel), by decide +kernel, by decide +kernel, by decide +kernel, by decide +kernel⟩
theorem mv_Mod_miss : Cond.instanceMethod (mY md_Mod_miss) ∈ wsG ∧ Cond.selects (mY md_Mod_miss).cls (mY md_Mod_miss) (mY md_Mod_miss) ∈ wsG := ⟨mem_t 5 17 (by decide +kernel) (by decide +kernel), mem_t 5 18 (by decide +kernel) (by decide +kernel)⟩
theorem mc_Mod_chart : MC md_Mod_chart 2 := ⟨mem_t 5 23 (by decide +kernel) (by decide +kernel), mem_t 0 14 (by decide +kernel) (by decide +kernel), by decide +kernel, by decide +kernel, by decide +kernel, by decide +kernel⟩
theorem mv_Mod_chart : Cond.instanceMethod (mY md_Mod_chart) ∈ wsG ∧ Cond.selects (mY md_Mod_chart).cls (mY md_Mod_chart) (mY md_Mod_chart) ∈ wsG := ⟨mem_t 5 21 (by decide +kernel) (by decide +kernel), mem_t 5 22 (by decide +kernel) (by decide +kernel)⟩
theorem mc_Mod_sea : MC md_Mod_sea 5 := ⟨mem_t 5 27 (by decide +kernel) (by decide +kernel), mem_t 0 14 (by decide +kernel) (by decide +kernel), by decide +kernel, by decide +kernel, by decide +kernel, by decide +kernel⟩
theorem mv_Mod_sea : Cond.instanceMethod (mY md_Mod_sea) ∈ wsG ∧ Cond.selects (mY md_Mod_sea).cls (mY md_Mod_sea) (mY md_Mod_sea) ∈ wsG := ⟨mem_t 5 25 (by decide +kernel) (by decide +kernel), mem_t 5 26 (by decide +kernel) (by decide +kernel)⟩
theorem mc_Mod_isCell : MC md_Mod_isCell 2 := ⟨mem_t 5 31 (by decide +kernel) (by decide +kernel), mem_t 0 14 (by decide +kernel) (by decide +kernel), by decide +kernel, by decide +kernel, by decide +kernel, by decide +kernel⟩
theorem mv_Mod_isCell : Cond.instanceMethod (mY md_Mod_isCell) ∈ wsG ∧ Cond.selects (mY md_Mod_isCell).cls (mY md_Mod_isCell) (mY md_Mod_isCell) ∈ wsG := ⟨mem_t 5 30 (by decide +kernel) (by decide +kernel), mem_g 27 (by decide +kernel) (by decide +kernel)⟩
theorem mc_Mod_at : MC md_Mod_at 2 := ⟨mem_t 5 34 (by decide +kernel) (by decide +kernel), mem_t 0 14 (by decide +kernel) (by decide +kernel), by decide +kernel, by decide +kernel, by decide +kernel, by decide +kernel⟩
theorem ms_Mod_at : Cond.static (mY md_Mod_at) ∈ wsG := mem_t 5 33 (by decide +kernel) (by decide +kernel)
theorem mc_Mod_weed : MC md_Mod_weed 5 := ⟨mem_t 5 38 (by decide +kernel) (by decide +kernel), mem_t 0 14 (by decide +kernel) (by decide +kernel), by decide +kernel, by decide +kernel, by decide +kernel, by decide +kernel⟩
theorem mv_Mod_weed : Cond.instanceMethod (mY md_Mod_weed) ∈ wsG ∧ Cond.selects (mY md_Mod_weed).cls (mY md_Mod_weed) (mY md_Mod_weed) ∈ wsG := ⟨mem_t 5 36 (by decide +kernel) (by decide +kernel), mem_t 5 37 (by decide +kernel) (by decide +kernel)⟩
theorem mc_Mod_about : MC md_Mod_about 3 := ⟨mem_t 5 42 (by decide +kernel) (by decide +kernel), mem_t 0 14 (by decide +kernel) (by decide +kernel), by decide +kernel, by decide +kernel, by decide +kernel, by decide +kernel⟩
theorem mv_Mod_about : Cond.instanceMethod (mY md_Mod_about) ∈ wsG ∧ Cond.selects (mY md_Mod_about).cls (mY md_Mod_about) (mY md_Mod_about) ∈ wsG := ⟨mem_t 5 40 (by decide +kernel) (by decide +kernel), mem_t 5 41 (by decide +kernel) (by decide +kernel)⟩
theorem mc_Mod_nearest : MC md_Mod_nearest 2 := ⟨mem_t 5 46 (by decide +kernel) (by decide +kernel), mem_t 0 14 (by decide +kernel) (by decide +kernel), by decide +kernel, by decide +kernel, by decide +kernel, by decide +kernel⟩
theorem mv_Mod_nearest : Cond.instanceMethod (mY md_Mod_nearest) ∈ wsG ∧ Cond.selects (mY md_Mod_nearest).cls (mY md_Mod_nearest) (mY md_Mod_nearest) ∈ wsG := ⟨mem_t 5 45 (by decide +kernel) (by decide +kernel), mem_g 28 (by decide +kernel) (by decide +kernel)⟩
theorem mc_Mod_isLand : MC md_Mod_isLand 2 := ⟨mem_t 5 50 (by decide +kernel) (by decide +kernel), mem_t 0 14 (by decide +kernel) (by decide +kernel), by decide +kernel, by decide +kernel, by decide +kernel, by decide +kernel⟩
theorem mv_Mod_isLand : Cond.instanceMethod (mY md_Mod_isLand) ∈ wsG ∧ Cond.selects (mY md_Mod_isLand).cls (mY md_Mod_isLand) (mY md_Mod_isLand) ∈ wsG := ⟨mem_t 5 49 (by decide +kernel) (by decide +kernel), mem_g 29 (by decide +kernel) (by decide +kernel)⟩
theorem mc_Mod_stream : MC md_Mod_stream 4 := ⟨mem_t 5 54 (by decide +kernel) (by decide +kernel), mem_t 0 14 (by decide +kernel) (by decide +kernel), by decide +kernel, by decide +kernel, by decide +kernel, by decide +kernel⟩
theorem mv_Mod_stream : Cond.instanceMethod (mY md_Mod_stream) ∈ wsG ∧ Cond.selects (mY md_Mod_stream).cls (mY md_Mod_stream) (mY md_Mod_stream) ∈ wsG := ⟨mem_t 5 52 (by decide +kernel) (by decide +kernel), mem_t 5 53 (by decide +kernel) (by decide +kernel)⟩
theorem mc_Mod_run : MC md_Mod_run 1 := ⟨mem_t 5 58 (by decide +kernel) (by decide +kernel), mem_t 0 14 (by decide +kernel) (by decide +kernel), by decide +kernel, by decide +kernel, by decide +kernel, by decide +kernel⟩
theorem mv_Mod_run : Cond.instanceMethod (mY md_Mod_run) ∈ wsG ∧ Cond.selects (mY md_Mod_run).cls (mY md_Mod_run) (mY md_Mod_run) ∈ wsG := ⟨mem_t 5 56 (by decide +kernel) (by decide +kernel), mem_t 5 57 (by decide +kernel) (by decide +kernel)⟩
theorem mc_Mod_add : MC md_Mod_add 4 := ⟨mem_t 5 62 (by decide +kernel) (by decide +kernel), mem_t 0 14 (by decide +kernel) (by decide +kernel), by decide +kernel, by decide +kernel, by decide +kernel, by decide +kernel⟩
theorem mv_Mod_add : Cond.instanceMethod (mY md_Mod_add) ∈ wsG ∧ Cond.selects (mY md_Mod_add).cls (mY md_Mod_add) (mY md_Mod_add) ∈ wsG := ⟨mem_t 5 61 (by decide +kernel) (by decide +kernel), mem_g 30 (by decide +kernel) (by decide +kernel)⟩
theorem mc_Mod_sign : MC md_Mod_sign 3 := ⟨mem_t 5 66 (by decide +kernel) (by decide +kernel), mem_t 0 14 (by decide +kernel) (by decide +kernel), by decide +kernel, by decide +kernel, by decide +kernel, by decide +kernel⟩
theorem mv_Mod_sign : Cond.instanceMethod (mY md_Mod_sign) ∈ wsG ∧ Cond.selects (mY md_Mod_sign).cls (mY md_Mod_sign) (mY md_Mod_sign) ∈ wsG := ⟨mem_t 5 64 (by decide +kernel) (by decide +kernel), mem_t 5 65 (by decide +kernel) (by decide +kernel)⟩
theorem mc_Mod_count : MC md_Mod_count 2 := ⟨mem_t 5 70 (by decide +kernel) (by decide +kernel), mem_t 0 14 (by decide +kernel) (by decide +kernel), by decide +kernel, by decide +kernel, by decide +kernel, by decide +kernel⟩
theorem mv_Mod_count : Cond.instanceMethod (mY md_Mod_count) ∈ wsG ∧ Cond.selects (mY md_Mod_count).cls (mY md_Mod_count) (mY md_Mod_count) ∈ wsG := ⟨mem_t 5 68 (by decide +kernel) (by decide +kernel), mem_t 5 69 (by decide +kernel) (by decide +kernel)⟩
theorem mc_Mod_isRow : MC md_Mod_isRow 1 := ⟨mem_t 5 74 (by decide +kernel) (by decide +kernel), mem_t 0 14 (by decide +kernel) (by decide +kernel), by decide +kernel, by decide +kernel, by decide +kernel, by decide +kernel⟩
theorem mv_Mod_isRow : Cond.instanceMethod (mY md_Mod_isRow) ∈ wsG ∧ Cond.selects (mY md_Mod_isRow).cls (mY md_Mod_isRow) (mY md_Mod_isRow) ∈ wsG := ⟨mem_t 5 73 (by decide +kernel) (by decide +kernel), mem_g 31 (by decide +kernel) (by decide +kernel)⟩
theorem mc_Mod_strike : MC md_Mod_strike 0 := ⟨mem_t 5 78 (by decide +kernel) (by decide +kernel), mem_t 0 14 (by decide +kernel) (by decide +kernel), by decide +kernel, by decide +kernel, by decide +kernel, by decide +kernel⟩
theorem mv_Mod_strike : Cond.instanceMethod (mY md_Mod_strike) ∈ wsG ∧ Cond.selects (mY md_Mod_strike).cls (mY md_Mod_strike) (mY md_Mod_strike) ∈ wsG := ⟨mem_t 5 76 (by decide +kernel) (by decide +kernel), mem_t 5 77 (by decide +kernel) (by decide +kernel)⟩
theorem mc_Mod_row : MC md_Mod_row 2 := ⟨mem_t 5 82 (by decide +kernel) (by decide +kernel), mem_t 0 14 (by decide +kernel) (by decide +kernel), by decide +kernel, by decide +kernel, by decide +kernel, by decide +kernel⟩
theorem mv_Mod_row : Cond.instanceMethod (mY md_Mod_row) ∈ wsG ∧ Cond.selects (mY md_Mod_row).cls (mY md_Mod_row) (mY md_Mod_row) ∈ wsG := ⟨mem_t 5 80 (by decide +kernel) (by decide +kernel), mem_t 5 81 (by decide +kernel) (by decide +kernel)⟩
theorem mc_Mod_start : MC md_Mod_start 3 := ⟨mem_t 5 86 (by decide +kernel) (by decide +kernel), mem_t 0 14 (by decide +kernel) (by decide +kernel), by decide +kernel, by decide +kernel, by decide +kernel, by decide +kernel⟩
theorem mv_Mod_start : Cond.instanceMethod (mY md_Mod_start) ∈ wsG ∧ Cond.selects (mY md_Mod_start).cls (mY md_Mod_start) (mY md_Mod_start) ∈ wsG := ⟨mem_t 5 84 (by decide +kernel) (by decide +kernel), mem_t 5 85 (by decide +kernel) (by decide +kernel)⟩
theorem mc_Mod_begin : MC md_Mod_begin 0 := ⟨mem_t 5 90 (by decide +kernel) (by decide +kernel), mem_t 0 14 (by decide +kernel) (by decide +kernel), by decide +kernel, by decide +kernel, by decide +kernel, by decide +kernel⟩
theorem mv_Mod_begin : Cond.instanceMethod (mY md_Mod_begin) ∈ wsG ∧ Cond.selects (mY md_Mod_begin).cls (mY md_Mod_begin) (mY md_Mod_begin) ∈ wsG := ⟨mem_t 5 89 (by decide +kernel) (by decide +kernel), mem_g 32 (by decide +kernel) (by decide +kernel)⟩
theorem mc_Mod_cells : MC md_Mod_cells 0 := ⟨mem_t 5 94 (by decide +kernel) (by decide +kernel), mem_t 0 14 (by decide +kernel) (by decide +kernel), by decide +kernel, by decide +kernel, by decide +kernel, by decide +kernel⟩
theorem mv_Mod_cells : Cond.instanceMethod (mY md_Mod_cells) ∈ wsG ∧ Cond.selects (mY md_Mod_cells).cls (mY md_Mod_cells) (mY md_Mod_cells) ∈ wsG := ⟨mem_t 5 93 (by decide +kernel) (by decide +kernel), mem_g 33 (by decide +kernel) (by decide +kernel)⟩
theorem mc_Mod_patch : MC md_Mod_patch 1 := ⟨mem_t 5 98 (by decide +kernel) (by decide +kernel), mem_t 0 14 (by decide +kernel) (by decide +kernel), by decide +kernel, by decide +kernel, by decide +kernel, by decide +kernel⟩
theorem mv_Mod_patch : Cond.instanceMethod (mY md_Mod_patch) ∈ wsG ∧ Cond.selects (mY md_Mod_patch).cls (mY md_Mod_patch) (mY md_Mod_patch) ∈ wsG := ⟨mem_t 5 96 (by decide +kernel) (by decide +kernel), mem_t 5 97 (by decide +kernel) (by decide +kernel)⟩
theorem mc_Mod_goPlain : MC md_Mod_goPlain 0 := ⟨mem_t 5 102 (by decide +kernel) (by decide +kernel), mem_t 0 14 (by decide +kernel) (by decide +kernel), by decide +kernel, by decide +kernel, by decide +kernel, by decide +kernel⟩
theorem mv_Mod_goPlain : Cond.instanceMethod (mY md_Mod_goPlain) ∈ wsG ∧ Cond.selects (mY md_Mod_goPlain).cls (mY md_Mod_goPlain) (mY md_Mod_goPlain) ∈ wsG := ⟨mem_t 5 101 (by decide +kernel) (by decide +kernel), mem_g 34 (by decide +kernel) (by decide +kernel)⟩
theorem mc_Mod_measure : MC md_Mod_measure 0 := ⟨mem_t 5 106 (by decide +kernel) (by decide +kernel), mem_t 0 14 (by decide +kernel) (by decide +kernel), by decide +kernel, by decide +kernel, by decide +kernel, by decide +kernel⟩
theorem mv_Mod_measure : Cond.instanceMethod (mY md_Mod_measure) ∈ wsG ∧ Cond.selects (mY md_Mod_measure).cls (mY md_Mod_measure) (mY md_Mod_measure) ∈ wsG := ⟨mem_t 5 105 (by decide +kernel) (by decide +kernel), mem_g 35 (by decide +kernel) (by decide +kernel)⟩
theorem mc_Mod_goAll : MC md_Mod_goAll 3 := ⟨mem_t 5 110 (by decide +kernel) (by decide +kernel), mem_t 0 14 (by decide +kernel) (by decide +kernel), by decide +kernel, by decide +kernel, by decide +kernel, by decide +kernel⟩
theorem mv_Mod_goAll : Cond.instanceMethod (mY md_Mod_goAll) ∈ wsG ∧ Cond.selects (mY md_Mod_goAll).cls (mY md_Mod_goAll) (mY md_Mod_goAll) ∈ wsG := ⟨mem_t 5 109 (by decide +kernel) (by decide +kernel), mem_g 36 (by decide +kernel) (by decide +kernel)⟩
theorem mc_Mod_keep : MC md_Mod_keep 1 := ⟨mem_t 5 114 (by decide +kernel) (by decide +kernel), mem_t 0 14 (by decide +kernel) (by decide +kernel), by decide +kernel, by decide +kernel, by decide +kernel, by decide +kernel⟩
theorem mv_Mod_keep : Cond.instanceMethod (mY md_Mod_keep) ∈ wsG ∧ Cond.selects (mY md_Mod_keep).cls (mY md_Mod_keep) (mY md_Mod_keep) ∈ wsG := ⟨mem_t 5 113 (by decide +kernel) (by decide +kernel), mem_g 37 (by decide +kernel) (by decide +kernel)⟩
theorem mc_Mod_step : MC md_Mod_step 4 := ⟨mem_t 5 118 (by decide +kernel) (by decide +kernel), mem_t 0 14 (by decide +kernel) (by decide +kernel), by decide +kernel, by decide +kernel, by decide +kernel, by decide +kernel⟩
theorem mv_Mod_step : Cond.instanceMethod (mY md_Mod_step) ∈ wsG ∧ Cond.selects (mY md_Mod_step).cls (mY md_Mod_step) (mY md_Mod_step) ∈ wsG := ⟨mem_t 5 117 (by decide +kernel) (by decide +kernel), mem_g 38 (by decide +kernel) (by decide +kernel)⟩
theorem mc_Mod_wayOf : MC md_Mod_wayOf 4 := ⟨mem_t 5 122 (by decide +kernel) (by decide +kernel), mem_t 0 14 (by decide +kernel) (by decide +kernel), by decide +kernel, by decide +kernel, by decide +kernel, by decide +kernel⟩
theorem mv_Mod_wayOf : Cond.instanceMethod (mY md_Mod_wayOf) ∈ wsG ∧ Cond.selects (mY md_Mod_wayOf).cls (mY md_Mod_wayOf) (mY md_Mod_wayOf) ∈ wsG := ⟨mem_t 5 121 (by decide +kernel) (by decide +kernel), mem_g 39 (by decide +kernel) (by decide +kernel)⟩
theorem mc_Mod_eastLow : MC md_Mod_eastLow 0 := ⟨mem_t 5 126 (by decide +kernel) (by decide +kernel), mem_t 0 14 (by decide +kernel) (by decide +kernel), by decide +kernel, by decide +kernel, by decide +kernel, by decide +kernel⟩
theorem mv_Mod_eastLow : Cond.instanceMethod (mY md_Mod_eastLow) ∈ wsG ∧ Cond.selects (mY md_Mod_eastLow).cls (mY md_Mod_eastLow) (mY md_Mod_eastLow) ∈ wsG := ⟨mem_t 5 125 (by decide +kernel) (by decide +kernel), mem_g 40 (by decide +kernel) (by decide +kernel)⟩
theorem mc_Mod_eastHigh : MC md_Mod_eastHigh 0 := ⟨mem_t 5 130 (by decide +kernel) (by decide +kernel), mem_t 0 14 (by decide +kernel) (by decide +kernel), by decide +kernel, by decide +kernel, by decide +kernel, by decide +kernel⟩
theorem mv_Mod_eastHigh : Cond.instanceMethod (mY md_Mod_eastHigh) ∈ wsG ∧ Cond.selects (mY md_Mod_eastHigh).cls (mY md_Mod_eastHigh) (mY md_Mod_eastHigh) ∈ wsG := ⟨mem_t 5 129 (by decide +kernel) (by decide +kernel), mem_g 41 (by decide +kernel) (by decide +kernel)⟩
theorem mc_Mod_northLow : MC md_Mod_northLow 0 := ⟨mem_t 5 134 (by decide +kernel) (by decide +kernel), mem_t 0 14 (by decide +kernel) (by decide +kernel), by decide +kernel, by decide +kernel, by decide +kernel, by decide +kernel⟩
theorem mv_Mod_northLow : Cond.instanceMethod (mY md_Mod_northLow) ∈ wsG ∧ Cond.selects (mY md_Mod_northLow).cls (mY md_Mod_northLow) (mY md_Mod_northLow) ∈ wsG := ⟨mem_t 5 133 (by decide +kernel) (by decide +kernel), mem_g 42 (by decide +kernel) (by decide +kernel)⟩
theorem mc_Mod_northHigh : MC md_Mod_northHigh 0 := ⟨mem_t 5 138 (by decide +kernel) (by decide +kernel), mem_t 0 14 (by decide +kernel) (by decide +kernel), by decide +kernel, by decide +kernel, by decide +kernel, by decide +kernel⟩
theorem mv_Mod_northHigh : Cond.instanceMethod (mY md_Mod_northHigh) ∈ wsG ∧ Cond.selects (mY md_Mod_northHigh).cls (mY md_Mod_northHigh) (mY md_Mod_northHigh) ∈ wsG := ⟨mem_t 5 137 (by decide +kernel) (by decide +kernel), mem_g 43 (by decide +kernel) (by decide +kernel)⟩
theorem mc_Mod_dilate : MC md_Mod_dilate 4 := ⟨mem_t 5 142 (by decide +kernel) (by decide +kernel), mem_t 0 14 (by decide +kernel) (by decide +kernel), by decide +kernel, by decide +kernel, by decide +kernel, by decide +kernel⟩
theorem mv_Mod_dilate : Cond.instanceMethod (mY md_Mod_dilate) ∈ wsG ∧ Cond.selects (mY md_Mod_dilate).cls (mY md_Mod_dilate) (mY md_Mod_dilate) ∈ wsG := ⟨mem_t 5 141 (by decide +kernel) (by decide +kernel), mem_g 44 (by decide +kernel) (by decide +kernel)⟩
theorem mc_Mod_cutBy : MC md_Mod_cutBy 1 := ⟨mem_t 5 146 (by decide +kernel) (by decide +kernel), mem_t 0 14 (by decide +kernel) (by decide +kernel), by decide +kernel, by decide +kernel, by decide +kernel, by decide +kernel⟩
theorem mv_Mod_cutBy : Cond.instanceMethod (mY md_Mod_cutBy) ∈ wsG ∧ Cond.selects (mY md_Mod_cutBy).cls (mY md_Mod_cutBy) (mY md_Mod_cutBy) ∈ wsG := ⟨mem_t 5 145 (by decide +kernel) (by decide +kernel), mem_g 45 (by decide +kernel) (by decide +kernel)⟩
theorem mc_Mod_isSign : MC md_Mod_isSign 3 := ⟨mem_t 5 150 (by decide +kernel) (by decide +kernel), mem_t 0 14 (by decide +kernel) (by decide +kernel), by decide +kernel, by decide +kernel, by decide +kernel, by decide +kernel⟩
theorem mv_Mod_isSign : Cond.instanceMethod (mY md_Mod_isSign) ∈ wsG ∧ Cond.selects (mY md_Mod_isSign).cls (mY md_Mod_isSign) (mY md_Mod_isSign) ∈ wsG := ⟨mem_t 5 149 (by decide +kernel) (by decide +kernel), mem_g 46 (by decide +kernel) (by decide +kernel)⟩
theorem mc_Mod_isNear : MC md_Mod_isNear 3 := ⟨mem_t 5 154 (by decide +kernel) (by decide +kernel), mem_t 0 14 (by decide +kernel) (by decide +kernel), by decide +kernel, by decide +kernel, by decide +kernel, by decide +kernel⟩
theorem mv_Mod_isNear : Cond.instanceMethod (mY md_Mod_isNear) ∈ wsG ∧ Cond.selects (mY md_Mod_isNear).cls (mY md_Mod_isNear) (mY md_Mod_isNear) ∈ wsG := ⟨mem_t 5 153 (by decide +kernel) (by decide +kernel), mem_g 47 (by decide +kernel) (by decide +kernel)⟩
theorem mc_Mod_lay : MC md_Mod_lay 1 := ⟨mem_t 5 158 (by decide +kernel) (by decide +kernel), mem_t 0 14 (by decide +kernel) (by decide +kernel), by decide +kernel, by decide +kernel, by decide +kernel, by decide +kernel⟩
theorem mv_Mod_lay : Cond.instanceMethod (mY md_Mod_lay) ∈ wsG ∧ Cond.selects (mY md_Mod_lay).cls (mY md_Mod_lay) (mY md_Mod_lay) ∈ wsG := ⟨mem_t 5 157 (by decide +kernel) (by decide +kernel), mem_g 48 (by decide +kernel) (by decide +kernel)⟩
theorem mc_Mod_has : MC md_Mod_has 3 := ⟨mem_t 5 162 (by decide +kernel) (by decide +kernel), mem_t 0 14 (by decide +kernel) (by decide +kernel), by decide +kernel, by decide +kernel, by decide +kernel, by decide +kernel⟩
theorem mv_Mod_has : Cond.instanceMethod (mY md_Mod_has) ∈ wsG ∧ Cond.selects (mY md_Mod_has).cls (mY md_Mod_has) (mY md_Mod_has) ∈ wsG := ⟨mem_t 5 160 (by decide +kernel) (by decide +kernel), mem_t 5 161 (by decide +kernel) (by decide +kernel)⟩
theorem mc_Mod_here : MC md_Mod_here 1 := ⟨mem_t 5 166 (by decide +kernel) (by decide +kernel), mem_t 0 14 (by decide +kernel) (by decide +kernel), by decide +kernel, by decide +kernel, by decide +kernel, by decide +kernel⟩
theorem mv_Mod_here : Cond.instanceMethod (mY md_Mod_here) ∈ wsG ∧ Cond.selects (mY md_Mod_here).cls (mY md_Mod_here) (mY md_Mod_here) ∈ wsG := ⟨mem_t 5 164 (by decide +kernel) (by decide +kernel), mem_t 5 165 (by decide +kernel) (by decide +kernel)⟩
theorem mc_Mod_goBack : MC md_Mod_goBack 1 := ⟨mem_t 5 170 (by decide +kernel) (by decide +kernel), mem_t 0 14 (by decide +kernel) (by decide +kernel), by decide +kernel, by decide +kernel, by decide +kernel, by decide +kernel⟩
theorem mv_Mod_goBack : Cond.instanceMethod (mY md_Mod_goBack) ∈ wsG ∧ Cond.selects (mY md_Mod_goBack).cls (mY md_Mod_goBack) (mY md_Mod_goBack) ∈ wsG := ⟨mem_t 5 169 (by decide +kernel) (by decide +kernel), mem_g 49 (by decide +kernel) (by decide +kernel)⟩
theorem mc_Mod_was : MC md_Mod_was 3 := ⟨mem_t 5 174 (by decide +kernel) (by decide +kernel), mem_t 0 14 (by decide +kernel) (by decide +kernel), by decide +kernel, by decide +kernel, by decide +kernel, by decide +kernel⟩
theorem mv_Mod_was : Cond.instanceMethod (mY md_Mod_was) ∈ wsG ∧ Cond.selects (mY md_Mod_was).cls (mY md_Mod_was) (mY md_Mod_was) ∈ wsG := ⟨mem_t 5 172 (by decide +kernel) (by decide +kernel), mem_t 5 173 (by decide +kernel) (by decide +kernel)⟩
theorem mc_Mod_blamed : MC md_Mod_blamed 0 := ⟨mem_t 5 178 (by decide +kernel) (by decide +kernel), mem_t 0 14 (by decide +kernel) (by decide +kernel), by decide +kernel, by decide +kernel, by decide +kernel, by decide +kernel⟩
theorem mv_Mod_blamed : Cond.instanceMethod (mY md_Mod_blamed) ∈ wsG ∧ Cond.selects (mY md_Mod_blamed).cls (mY md_Mod_blamed) (mY md_Mod_blamed) ∈ wsG := ⟨mem_t 5 176 (by decide +kernel) (by decide +kernel), mem_t 5 177 (by decide +kernel) (by decide +kernel)⟩
theorem mc_Mod_isBlaming : MC md_Mod_isBlaming 0 := ⟨mem_t 5 182 (by decide +kernel) (by decide +kernel), mem_t 0 14 (by decide +kernel) (by decide +kernel), by decide +kernel, by decide +kernel, by decide +kernel, by decide +kernel⟩
theorem mv_Mod_isBlaming : Cond.instanceMethod (mY md_Mod_isBlaming) ∈ wsG ∧ Cond.selects (mY md_Mod_isBlaming).cls (mY md_Mod_isBlaming) (mY md_Mod_isBlaming) ∈ wsG := ⟨mem_t 5 181 (by decide +kernel) (by decide +kernel), mem_g 50 (by decide +kernel) (by decide +kernel)⟩
theorem mc_Mod_isEmptyNow : MC md_Mod_isEmptyNow 0 := ⟨mem_t 5 186 (by decide +kernel) (by decide +kernel), mem_t 0 14 (by decide +kernel) (by decide +kernel), by decide +kernel, by decide +kernel, by decide +kernel, by decide +kernel⟩
theorem mv_Mod_isEmptyNow : Cond.instanceMethod (mY md_Mod_isEmptyNow) ∈ wsG ∧ Cond.selects (mY md_Mod_isEmptyNow).cls (mY md_Mod_isEmptyNow) (mY md_Mod_isEmptyNow) ∈ wsG := ⟨mem_t 5 185 (by decide +kernel) (by decide +kernel), mem_g 51 (by decide +kernel) (by decide +kernel)⟩
theorem mc_Mod_seek : MC md_Mod_seek 1 := ⟨mem_t 5 190 (by decide +kernel) (by decide +kernel), mem_t 0 14 (by decide +kernel) (by decide +kernel), by decide +kernel, by decide +kernel, by decide +kernel, by decide +kernel⟩
theorem mv_Mod_seek : Cond.instanceMethod (mY md_Mod_seek) ∈ wsG ∧ Cond.selects (mY md_Mod_seek).cls (mY md_Mod_seek) (mY md_Mod_seek) ∈ wsG := ⟨mem_t 5 189 (by decide +kernel) (by decide +kernel), mem_g 52 (by decide +kernel) (by decide +kernel)⟩
theorem mc_Mod_helps : MC md_Mod_helps 2 := ⟨mem_t 5 194 (by decide +kernel) (by decide +kernel), mem_t 0 14 (by decide +kernel) (by decide +kernel), by decide +kernel, by decide +kernel, by decide +kernel, by decide +kernel⟩
theorem mv_Mod_helps : Cond.instanceMethod (mY md_Mod_helps) ∈ wsG ∧ Cond.selects (mY md_Mod_helps).cls (mY md_Mod_helps) (mY md_Mod_helps) ∈ wsG := ⟨mem_t 5 193 (by decide +kernel) (by decide +kernel), mem_g 53 (by decide +kernel) (by decide +kernel)⟩
theorem mc_Mod_seekPairs : MC md_Mod_seekPairs 1 := ⟨mem_t 5 198 (by decide +kernel) (by decide +kernel), mem_t 0 14 (by decide +kernel) (by decide +kernel), by decide +kernel, by decide +kernel, by decide +kernel, by decide +kernel⟩
theorem mv_Mod_seekPairs : Cond.instanceMethod (mY md_Mod_seekPairs) ∈ wsG ∧ Cond.selects (mY md_Mod_seekPairs).cls (mY md_Mod_seekPairs) (mY md_Mod_seekPairs) ∈ wsG := ⟨mem_t 5 197 (by decide +kernel) (by decide +kernel), mem_g 54 (by decide +kernel) (by decide +kernel)⟩
theorem mc_Mod_blame : MC md_Mod_blame 1 := ⟨mem_t 5 202 (by decide +kernel) (by decide +kernel), mem_t 0 14 (by decide +kernel) (by decide +kernel), by decide +kernel, by decide +kernel, by decide +kernel, by decide +kernel⟩
theorem mv_Mod_blame : Cond.instanceMethod (mY md_Mod_blame) ∈ wsG ∧ Cond.selects (mY md_Mod_blame).cls (mY md_Mod_blame) (mY md_Mod_blame) ∈ wsG := ⟨mem_t 5 200 (by decide +kernel) (by decide +kernel), mem_t 5 201 (by decide +kernel) (by decide +kernel)⟩
theorem mc_Mod_fits : MC md_Mod_fits 2 := ⟨mem_t 5 206 (by decide +kernel) (by decide +kernel), mem_t 0 14 (by decide +kernel) (by decide +kernel), by decide +kernel, by decide +kernel, by decide +kernel, by decide +kernel⟩
theorem mv_Mod_fits : Cond.instanceMethod (mY md_Mod_fits) ∈ wsG ∧ Cond.selects (mY md_Mod_fits).cls (mY md_Mod_fits) (mY md_Mod_fits) ∈ wsG := ⟨mem_t 5 204 (by decide +kernel) (by decide +kernel), mem_t 5 205 (by decide +kernel) (by decide +kernel)⟩
theorem mc_Mod_seekFits : MC md_Mod_seekFits 3 := ⟨mem_t 5 210 (by decide +kernel) (by decide +kernel), mem_t 0 14 (by decide +kernel) (by decide +kernel), by decide +kernel, by decide +kernel, by decide +kernel, by decide +kernel⟩
theorem mv_Mod_seekFits : Cond.instanceMethod (mY md_Mod_seekFits) ∈ wsG ∧ Cond.selects (mY md_Mod_seekFits).cls (mY md_Mod_seekFits) (mY md_Mod_seekFits) ∈ wsG := ⟨mem_t 5 209 (by decide +kernel) (by decide +kernel), mem_g 55 (by decide +kernel) (by decide +kernel)⟩
theorem mc_Mod_fit : MC md_Mod_fit 3 := ⟨mem_t 5 214 (by decide +kernel) (by decide +kernel), mem_t 0 14 (by decide +kernel) (by decide +kernel), by decide +kernel, by decide +kernel, by decide +kernel, by decide +kernel⟩
theorem mv_Mod_fit : Cond.instanceMethod (mY md_Mod_fit) ∈ wsG ∧ Cond.selects (mY md_Mod_fit).cls (mY md_Mod_fit) (mY md_Mod_fit) ∈ wsG := ⟨mem_t 5 212 (by decide +kernel) (by decide +kernel), mem_t 5 213 (by decide +kernel) (by decide +kernel)⟩
theorem mc_Mod_sights : MC md_Mod_sights 7 := ⟨mem_t 5 218 (by decide +kernel) (by decide +kernel), mem_t 0 14 (by decide +kernel) (by decide +kernel), by decide +kernel, by decide +kernel, by decide +kernel, by decide +kernel⟩
theorem mv_Mod_sights : Cond.instanceMethod (mY md_Mod_sights) ∈ wsG ∧ Cond.selects (mY md_Mod_sights).cls (mY md_Mod_sights) (mY md_Mod_sights) ∈ wsG := ⟨mem_t 5 216 (by decide +kernel) (by decide +kernel), mem_t 5 217 (by decide +kernel) (by decide +kernel)⟩
theorem mc_Mod_isCourse : MC md_Mod_isCourse 4 := ⟨mem_t 5 221 (by decide +kernel) (by decide +kernel), mem_t 0 14 (by decide +kernel) (by decide +kernel), by decide +kernel, by decide +kernel, by decide +kernel, by decide +kernel⟩
theorem ms_Mod_isCourse : Cond.static (mY md_Mod_isCourse) ∈ wsG := mem_t 5 220 (by decide +kernel) (by decide +kernel)
theorem mc_Mod_seesAt : MC md_Mod_seesAt 7 := ⟨mem_t 5 225 (by decide +kernel) (by decide +kernel), mem_t 0 14 (by decide +kernel) (by decide +kernel), by decide +kernel, by decide +kernel, by decide +kernel, by decide +kernel⟩
theorem mv_Mod_seesAt : Cond.instanceMethod (mY md_Mod_seesAt) ∈ wsG ∧ Cond.selects (mY md_Mod_seesAt).cls (mY md_Mod_seesAt) (mY md_Mod_seesAt) ∈ wsG := ⟨mem_t 5 224 (by decide +kernel) (by decide +kernel), mem_g 56 (by decide +kernel) (by decide +kernel)⟩
theorem mc_Mod_up : MC md_Mod_up 2 := ⟨mem_t 5 228 (by decide +kernel) (by decide +kernel), mem_t 0 14 (by decide +kernel) (by decide +kernel), by decide +kernel, by decide +kernel, by decide +kernel, by decide +kernel⟩
theorem ms_Mod_up : Cond.static (mY md_Mod_up) ∈ wsG := mem_t 5 227 (by decide +kernel) (by decide +kernel)
theorem mc_Mod_sure : MC md_Mod_sure 5 := ⟨mem_t 5 232 (by decide +kernel) (by decide +kernel), mem_t 0 14 (by decide +kernel) (by decide +kernel), by decide +kernel, by decide +kernel, by decide +kernel, by decide +kernel⟩
theorem mv_Mod_sure : Cond.instanceMethod (mY md_Mod_sure) ∈ wsG ∧ Cond.selects (mY md_Mod_sure).cls (mY md_Mod_sure) (mY md_Mod_sure) ∈ wsG := ⟨mem_t 5 230 (by decide +kernel) (by decide +kernel), mem_t 5 231 (by decide +kernel) (by decide +kernel)⟩
theorem mc_Mod_sureBy : MC md_Mod_sureBy 5 := ⟨mem_t 5 236 (by decide +kernel) (by decide +kernel), mem_t 0 14 (by decide +kernel) (by decide +kernel), by decide +kernel, by decide +kernel, by decide +kernel, by decide +kernel⟩
theorem mv_Mod_sureBy : Cond.instanceMethod (mY md_Mod_sureBy) ∈ wsG ∧ Cond.selects (mY md_Mod_sureBy).cls (mY md_Mod_sureBy) (mY md_Mod_sureBy) ∈ wsG := ⟨mem_t 5 235 (by decide +kernel) (by decide +kernel), mem_g 57 (by decide +kernel) (by decide +kernel)⟩
theorem mc_Mod_course : MC md_Mod_course 4 := ⟨mem_t 6 0 (by decide +kernel) (by decide +kernel), mem_t 0 14 (by decide +kernel) (by decide +kernel), by decide +kernel, by decide +kernel, by decide +kernel, by decide +kernel⟩
theorem mv_Mod_course : Cond.instanceMethod (mY md_Mod_course) ∈ wsG ∧ Cond.selects (mY md_Mod_course).cls (mY md_Mod_course) (mY md_Mod_course) ∈ wsG := ⟨mem_t 5 238 (by decide +kernel) (by decide +kernel), mem_t 5 239 (by decide +kernel) (by decide +kernel)⟩
theorem mc_Mod_many : MC md_Mod_many 1 := ⟨mem_t 6 4 (by decide +kernel) (by decide +kernel), mem_t 0 14 (by decide +kernel) (by decide +kernel), by decide +kernel, by decide +kernel, by decide +kernel, by decide +kernel⟩
theorem mv_Mod_many : Cond.instanceMethod (mY md_Mod_many) ∈ wsG ∧ Cond.selects (mY md_Mod_many).cls (mY md_Mod_many) (mY md_Mod_many) ∈ wsG := ⟨mem_t 6 2 (by decide +kernel) (by decide +kernel), mem_t 6 3 (by decide +kernel) (by decide +kernel)⟩
theorem mc_Mod_landMany : MC md_Mod_landMany 0 := ⟨mem_t 6 8 (by decide +kernel) (by decide +kernel), mem_t 0 14 (by decide +kernel) (by decide +kernel), by decide +kernel, by decide +kernel, by decide +kernel, by decide +kernel⟩
theorem mv_Mod_landMany : Cond.instanceMethod (mY md_Mod_landMany) ∈ wsG ∧ Cond.selects (mY md_Mod_landMany).cls (mY md_Mod_landMany) (mY md_Mod_landMany) ∈ wsG := ⟨mem_t 6 7 (by decide +kernel) (by decide +kernel), mem_g 58 (by decide +kernel) (by decide +kernel)⟩
theorem mc_Mod_digest : MC md_Mod_digest 0 := ⟨mem_t 6 12 (by decide +kernel) (by decide +kernel), mem_t 0 14 (by decide +kernel) (by decide +kernel), by decide +kernel, by decide +kernel, by decide +kernel, by decide +kernel⟩
theorem mv_Mod_digest : Cond.instanceMethod (mY md_Mod_digest) ∈ wsG ∧ Cond.selects (mY md_Mod_digest).cls (mY md_Mod_digest) (mY md_Mod_digest) ∈ wsG := ⟨mem_t 6 10 (by decide +kernel) (by decide +kernel), mem_t 6 11 (by decide +kernel) (by decide +kernel)⟩
theorem mc_Mod_mix : MC md_Mod_mix 1 := ⟨mem_t 6 17 (by decide +kernel) (by decide +kernel), mem_t 0 14 (by decide +kernel) (by decide +kernel), by decide +kernel, by decide +kernel, by decide +kernel, by decide +kernel⟩
theorem mv_Mod_mix : Cond.instanceMethod (mY md_Mod_mix) ∈ wsG ∧ Cond.selects (mY md_Mod_mix).cls (mY md_Mod_mix) (mY md_Mod_mix) ∈ wsG := ⟨mem_t 6 16 (by decide +kernel) (by decide +kernel), mem_g 59 (by decide +kernel) (by decide +kernel)⟩
theorem mc_Mod_mixWatch : MC md_Mod_mixWatch 1 := ⟨mem_t 6 22 (by decide +kernel) (by decide +kernel), mem_t 0 14 (by decide +kernel) (by decide +kernel), by decide +kernel, by decide +kernel, by decide +kernel, by decide +kernel⟩
theorem mv_Mod_mixWatch : Cond.instanceMethod (mY md_Mod_mixWatch) ∈ wsG ∧ Cond.selects (mY md_Mod_mixWatch).cls (mY md_Mod_mixWatch) (mY md_Mod_mixWatch) ∈ wsG := ⟨mem_t 6 21 (by decide +kernel) (by decide +kernel), mem_g 60 (by decide +kernel) (by decide +kernel)⟩
theorem mc_Mod_mixChart : MC md_Mod_mixChart 0 := ⟨mem_t 6 26 (by decide +kernel) (by decide +kernel), mem_t 0 14 (by decide +kernel) (by decide +kernel), by decide +kernel, by decide +kernel, by decide +kernel, by decide +kernel⟩
theorem mv_Mod_mixChart : Cond.instanceMethod (mY md_Mod_mixChart) ∈ wsG ∧ Cond.selects (mY md_Mod_mixChart).cls (mY md_Mod_mixChart) (mY md_Mod_mixChart) ∈ wsG := ⟨mem_t 6 25 (by decide +kernel) (by decide +kernel), mem_g 61 (by decide +kernel) (by decide +kernel)⟩
theorem ob_i : Cond.instanceMethod Lib.objectInit ∈ wsG := mem_t 0 24 (by decide +kernel) (by decide +kernel)
theorem ob_c : Cond.code Lib.objectInit ⟨#[0xb1]⟩ 1 none ∈ wsG := mem_t 0 25 (by decide +kernel) (by decide +kernel)
theorem ac_w : Cond.native arraycopyName ∈ wsG ∧ Cond.static arraycopyName ∈ wsG ∧ Cond.initialized "java/lang/System" ∈ wsG := ⟨mem_t 3 70 (by decide +kernel) (by decide +kernel), mem_t 3 69 (by decide +kernel) (by decide +kernel), mem_t 0 17 (by decide +kernel) (by decide +kernel)⟩
theorem ar_i : Cond.arrayClass .int ∈ wsG := mem_t 0 43 (by decide +kernel) (by decide +kernel)
theorem ar_z : Cond.arrayClass .boolean ∈ wsG := mem_t 4 150 (by decide +kernel) (by decide +kernel)
theorem cl_Peg_7 : ∃ r : vw_C, clsL[10]? = some r ∧ r.2.2 = 3 ∧ Cond.classLink "PegWatch" 7 r.1 ∈ wsG ∧ Cond.instantiable r.1 3 ∈ wsG ∧ Cond.initialized r.1 ∈ wsG := ⟨_, rfl, rfl, mem_t 0 26 (by decide +kernel) (by decide +kernel), mem_t 0 27 (by decide +kernel) (by decide +kernel), mem_t 0 2 (by decide +kernel) (by decide +kernel)⟩
theorem cl_Peg_16 : ∃ r : vw_C, clsL[0]? = some r ∧ r.2.2 = 3 ∧ Cond.classLink "PegWatch" 16 r.1 ∈ wsG ∧ Cond.instantiable r.1 3 ∈ wsG ∧ Cond.initialized r.1 ∈ wsG := ⟨_, rfl, rfl, mem_t 0 44 (by decide +kernel) (by decide +kernel), mem_t 0 45 (by decide +kernel) (by decide +kernel), mem_t 0 3 (by decide +kernel) (by decide +kernel)⟩
theorem cl_Peg_23 : ∃ r : vw_C, clsL[1]? = some r ∧ r.2.2 = 10 ∧ Cond.classLink "PegWatch" 23 r.1 ∈ wsG ∧ Cond.instantiable r.1 10 ∈ wsG ∧ Cond.initialized r.1 ∈ wsG := ⟨_, rfl, rfl, mem_t 0 107 (by decide +kernel) (by decide +kernel), mem_t 0 108 (by decide +kernel) (by decide +kernel), mem_t 0 6 (by decide +kernel) (by decide +kernel)⟩
theorem cl_Peg_30 : ∃ r : vw_C, clsL[3]? = some r ∧ r.2.2 = 5 ∧ Cond.classLink "PegWatch" 30 r.1 ∈ wsG ∧ Cond.instantiable r.1 5 ∈ wsG ∧ Cond.initialized r.1 ∈ wsG := ⟨_, rfl, rfl, mem_t 0 198 (by decide +kernel) (by decide +kernel), mem_t 0 199 (by decide +kernel) (by decide +kernel), mem_t 0 9 (by decide +kernel) (by decide +kernel)⟩
theorem cl_Peg_37 : ∃ r : vw_C, clsL[6]? = some r ∧ r.2.2 = 10 ∧ Cond.classLink "PegWatch" 37 r.1 ∈ wsG ∧ Cond.instantiable r.1 10 ∈ wsG ∧ Cond.initialized r.1 ∈ wsG := ⟨_, rfl, rfl, mem_t 1 62 (by decide +kernel) (by decide +kernel), mem_t 1 63 (by decide +kernel) (by decide +kernel), mem_t 0 12 (by decide +kernel) (by decide +kernel)⟩
theorem cl_Peg_46 : ∃ r : vw_C, clsL[8]? = some r ∧ r.2.2 = 6 ∧ Cond.classLink "PegWatch" 46 r.1 ∈ wsG ∧ Cond.instantiable r.1 6 ∈ wsG ∧ Cond.initialized r.1 ∈ wsG := ⟨_, rfl, rfl, mem_t 1 104 (by decide +kernel) (by decide +kernel), mem_t 1 105 (by decide +kernel) (by decide +kernel), mem_t 0 13 (by decide +kernel) (by decide +kernel)⟩
theorem cq_Board_9 : ∃ r : vw_C, clsL[9]? = some r ∧ r.1 ∈ aoL ∧ Cond.classLink "PegWatch$Board" 9 r.1 ∈ wsG := ⟨_, rfl, by decide +kernel, mem_t 0 50 (by decide +kernel) (by decide +kernel)⟩
theorem cl_Board_9 : ∃ r : vw_C, clsL[9]? = some r ∧ r.2.2 = 9 ∧ Cond.classLink "PegWatch$Board" 9 r.1 ∈ wsG ∧ Cond.instantiable r.1 9 ∈ wsG ∧ Cond.initialized r.1 ∈ wsG := ⟨_, rfl, rfl, mem_t 0 50 (by decide +kernel) (by decide +kernel), mem_t 0 52 (by decide +kernel) (by decide +kernel), mem_t 0 4 (by decide +kernel) (by decide +kernel)⟩
theorem cl_Chart_15 : ∃ r : vw_C, clsL[4]? = some r ∧ r.2.2 = 1 ∧ Cond.classLink "PegWatch$Chart" 15 r.1 ∈ wsG ∧ Cond.instantiable r.1 1 ∈ wsG ∧ Cond.initialized r.1 ∈ wsG := ⟨_, rfl, rfl, mem_t 0 113 (by decide +kernel) (by decide +kernel), mem_t 0 114 (by decide +kernel) (by decide +kernel), mem_t 0 7 (by decide +kernel) (by decide +kernel)⟩
theorem cq_Log_11 : ∃ r : vw_C, clsL[7]? = some r ∧ r.1 ∈ aoL ∧ Cond.classLink "PegWatch$Log" 11 r.1 ∈ wsG := ⟨_, rfl, by decide +kernel, mem_t 0 204 (by decide +kernel) (by decide +kernel)⟩
theorem cl_Log_11 : ∃ r : vw_C, clsL[7]? = some r ∧ r.2.2 = 8 ∧ Cond.classLink "PegWatch$Log" 11 r.1 ∈ wsG ∧ Cond.instantiable r.1 8 ∈ wsG ∧ Cond.initialized r.1 ∈ wsG := ⟨_, rfl, rfl, mem_t 0 204 (by decide +kernel) (by decide +kernel), mem_t 0 206 (by decide +kernel) (by decide +kernel), mem_t 0 10 (by decide +kernel) (by decide +kernel)⟩
theorem cq_Reckoning_25 : ∃ r : vw_C, clsL[4]? = some r ∧ r.1 ∈ aoL ∧ Cond.classLink "PegWatch$Reckoning" 25 r.1 ∈ wsG := ⟨_, rfl, by decide +kernel, mem_t 1 68 (by decide +kernel) (by decide +kernel)⟩
theorem cl_Reckoning_25 : ∃ r : vw_C, clsL[4]? = some r ∧ r.2.2 = 1 ∧ Cond.classLink "PegWatch$Reckoning" 25 r.1 ∈ wsG ∧ Cond.instantiable r.1 1 ∈ wsG ∧ Cond.initialized r.1 ∈ wsG := ⟨_, rfl, rfl, mem_t 1 68 (by decide +kernel) (by decide +kernel), mem_t 0 114 (by decide +kernel) (by decide +kernel), mem_t 0 7 (by decide +kernel) (by decide +kernel)⟩
theorem cl_Row_9 : ∃ r : vw_C, clsL[5]? = some r ∧ r.2.2 = 4 ∧ Cond.classLink "PegWatch$Row" 9 r.1 ∈ wsG ∧ Cond.instantiable r.1 4 ∈ wsG ∧ Cond.initialized r.1 ∈ wsG := ⟨_, rfl, rfl, mem_t 0 211 (by decide +kernel) (by decide +kernel), mem_t 0 212 (by decide +kernel) (by decide +kernel), mem_t 0 11 (by decide +kernel) (by decide +kernel)⟩
theorem cl_Row_21 : ∃ r : vw_C, clsL[4]? = some r ∧ r.2.2 = 1 ∧ Cond.classLink "PegWatch$Row" 21 r.1 ∈ wsG ∧ Cond.instantiable r.1 1 ∈ wsG ∧ Cond.initialized r.1 ∈ wsG := ⟨_, rfl, rfl, mem_t 0 238 (by decide +kernel) (by decide +kernel), mem_t 0 114 (by decide +kernel) (by decide +kernel), mem_t 0 7 (by decide +kernel) (by decide +kernel)⟩
theorem cl_Voyage_15 : ∃ r : vw_C, clsL[4]? = some r ∧ r.2.2 = 1 ∧ Cond.classLink "PegWatch$Voyage" 15 r.1 ∈ wsG ∧ Cond.instantiable r.1 1 ∈ wsG ∧ Cond.initialized r.1 ∈ wsG := ⟨_, rfl, rfl, mem_t 1 110 (by decide +kernel) (by decide +kernel), mem_t 0 114 (by decide +kernel) (by decide +kernel), mem_t 0 7 (by decide +kernel) (by decide +kernel)⟩
theorem cl_Voyage_25 : ∃ r : vw_C, clsL[5]? = some r ∧ r.2.2 = 4 ∧ Cond.classLink "PegWatch$Voyage" 25 r.1 ∈ wsG ∧ Cond.instantiable r.1 4 ∈ wsG ∧ Cond.initialized r.1 ∈ wsG := ⟨_, rfl, rfl, mem_t 1 112 (by decide +kernel) (by decide +kernel), mem_t 0 212 (by decide +kernel) (by decide +kernel), mem_t 0 11 (by decide +kernel) (by decide +kernel)⟩
theorem cl_Law_7 : ∃ r : vw_C, clsL[11]? = some r ∧ r.2.2 = 9 ∧ Cond.classLink "PegWatchLaw" 7 r.1 ∈ wsG ∧ Cond.instantiable r.1 9 ∈ wsG ∧ Cond.initialized r.1 ∈ wsG := ⟨_, rfl, rfl, mem_t 0 18 (by decide +kernel) (by decide +kernel), mem_t 0 19 (by decide +kernel) (by decide +kernel), mem_t 0 1 (by decide +kernel) (by decide +kernel)⟩
theorem cl_Law_10 : ∃ r : vw_C, clsL[12]? = some r ∧ r.2.2 = 35 ∧ Cond.classLink "PegWatchLaw" 10 r.1 ∈ wsG ∧ Cond.instantiable r.1 35 ∈ wsG ∧ Cond.initialized r.1 ∈ wsG := ⟨_, rfl, rfl, mem_t 4 34 (by decide +kernel) (by decide +kernel), mem_t 4 35 (by decide +kernel) (by decide +kernel), mem_t 0 14 (by decide +kernel) (by decide +kernel)⟩
theorem ck_Peg_89 : Cond.constant "PegWatch" 89 (-100000) ∈ wsG := mem_t 1 198 (by decide +kernel) (by decide +kernel)
theorem ck_Peg_94 : Cond.constant "PegWatch" 94 (-100001) ∈ wsG := mem_t 1 202 (by decide +kernel) (by decide +kernel)
theorem ck_Peg_142 : Cond.constant "PegWatch" 142 (-10000001) ∈ wsG := mem_t 2 92 (by decide +kernel) (by decide +kernel)
theorem ck_Peg_143 : Cond.constant "PegWatch" 143 (-10000002) ∈ wsG := mem_t 2 93 (by decide +kernel) (by decide +kernel)
theorem ck_Peg_300 : Cond.constantLong "PegWatch" 300 (199) ∈ wsG := mem_t 4 3 (by decide +kernel) (by decide +kernel)
theorem ck_Peg_315 : Cond.constantLong "PegWatch" 315 (31) ∈ wsG := mem_t 4 11 (by decide +kernel) (by decide +kernel)
theorem ck_Mod_100 : Cond.constant "PegWatchModel" 100 (-100000) ∈ wsG := mem_t 4 186 (by decide +kernel) (by decide +kernel)
theorem ck_Mod_104 : Cond.constant "PegWatchModel" 104 (-100001) ∈ wsG := mem_t 4 195 (by decide +kernel) (by decide +kernel)
theorem ck_Mod_134 : Cond.constant "PegWatchModel" 134 (-10000001) ∈ wsG := mem_t 5 7 (by decide +kernel) (by decide +kernel)
theorem ck_Mod_135 : Cond.constant "PegWatchModel" 135 (-10000002) ∈ wsG := mem_t 5 8 (by decide +kernel) (by decide +kernel)
theorem ck_Mod_281 : Cond.constantLong "PegWatchModel" 281 (31) ∈ wsG := mem_t 6 18 (by decide +kernel) (by decide +kernel)
theorem ck_Mod_291 : Cond.constantLong "PegWatchModel" 291 (199) ∈ wsG := mem_t 6 13 (by decide +kernel) (by decide +kernel)
theorem ck_JInteger_265 : Cond.constant "java/lang/Integer" 265 (1431655765) ∈ wsG := mem_t 2 190 (by decide +kernel) (by decide +kernel)
theorem ck_JInteger_266 : Cond.constant "java/lang/Integer" 266 (858993459) ∈ wsG := mem_t 2 191 (by decide +kernel) (by decide +kernel)
theorem ck_JInteger_267 : Cond.constant "java/lang/Integer" 267 (252645135) ∈ wsG := mem_t 2 192 (by decide +kernel) (by decide +kernel)
end
