section
-- ===== PART A: goes FIRST, ahead of the names: the tables' words, and 'selects' of the private methods out of them =====
/-- a private method of a class that the tables say can be made, by its rows of tables_1 -/
def lw_okq (q : MethodName × Nat) : Prop := (q.1.cls ≠ "java/lang/invoke/MethodHandle" ∧ q.1.cls ≠ "java/lang/invoke/VarHandle") ∧ Cond.instantiable q.1.cls q.2 ∈ tables_1 ∧ Cond.privateMethod q.1 ∈ tables_1 ∧ Cond.instanceMethod q.1 ∈ tables_1
theorem lw_p0 : lw_okq (⟨"PegWatch$Watch", "sumUp", "()V"⟩, 9) := ⟨⟨by decide +kernel, by decide +kernel⟩, List.mem_of_getElem? (i := 52) (by decide +kernel), List.mem_of_getElem? (i := 518) (by decide +kernel), List.mem_of_getElem? (i := 519) (by decide +kernel)⟩
theorem lw_p1 : lw_okq (⟨"PegWatch$Watch", "sumSpreads", "()V"⟩, 9) := ⟨⟨by decide +kernel, by decide +kernel⟩, List.mem_of_getElem? (i := 52) (by decide +kernel), List.mem_of_getElem? (i := 522) (by decide +kernel), List.mem_of_getElem? (i := 523) (by decide +kernel)⟩
theorem lw_p2 : lw_okq (⟨"PegWatch$Watch", "knotsOfPeg", "(I)I"⟩, 9) := ⟨⟨by decide +kernel, by decide +kernel⟩, List.mem_of_getElem? (i := 52) (by decide +kernel), List.mem_of_getElem? (i := 526) (by decide +kernel), List.mem_of_getElem? (i := 527) (by decide +kernel)⟩
theorem lw_p3 : lw_okq (⟨"PegWatch$Watch", "sumParts", "(I)V"⟩, 9) := ⟨⟨by decide +kernel, by decide +kernel⟩, List.mem_of_getElem? (i := 52) (by decide +kernel), List.mem_of_getElem? (i := 530) (by decide +kernel), List.mem_of_getElem? (i := 531) (by decide +kernel)⟩
theorem lw_p4 : lw_okq (⟨"PegWatch$Watch", "madeGood", "(II)I"⟩, 9) := ⟨⟨by decide +kernel, by decide +kernel⟩, List.mem_of_getElem? (i := 52) (by decide +kernel), List.mem_of_getElem? (i := 534) (by decide +kernel), List.mem_of_getElem? (i := 535) (by decide +kernel)⟩
theorem lw_p5 : lw_okq (⟨"PegWatch$Reckoning", "findStart", "()V"⟩, 10) := ⟨⟨by decide +kernel, by decide +kernel⟩, List.mem_of_getElem? (i := 303) (by decide +kernel), List.mem_of_getElem? (i := 654) (by decide +kernel), List.mem_of_getElem? (i := 655) (by decide +kernel)⟩
theorem lw_p6 : lw_okq (⟨"PegWatch$Reckoning", "makeReady", "(LPegWatch$Row;)V"⟩, 10) := ⟨⟨by decide +kernel, by decide +kernel⟩, List.mem_of_getElem? (i := 303) (by decide +kernel), List.mem_of_getElem? (i := 736) (by decide +kernel), List.mem_of_getElem? (i := 737) (by decide +kernel)⟩
theorem lw_p7 : lw_okq (⟨"PegWatch$Reckoning", "stretchCounted", "(LPegWatch$Row;II)Z"⟩, 10) := ⟨⟨by decide +kernel, by decide +kernel⟩, List.mem_of_getElem? (i := 303) (by decide +kernel), List.mem_of_getElem? (i := 744) (by decide +kernel), List.mem_of_getElem? (i := 745) (by decide +kernel)⟩
theorem lw_p8 : lw_okq (⟨"PegWatch$Reckoning", "stretch", "(LPegWatch$Reach;III)Z"⟩, 10) := ⟨⟨by decide +kernel, by decide +kernel⟩, List.mem_of_getElem? (i := 303) (by decide +kernel), List.mem_of_getElem? (i := 750) (by decide +kernel), List.mem_of_getElem? (i := 751) (by decide +kernel)⟩
theorem lw_p9 : lw_okq (⟨"PegWatch$Reckoning", "takeOnFrom", "(I)V"⟩, 10) := ⟨⟨by decide +kernel, by decide +kernel⟩, List.mem_of_getElem? (i := 303) (by decide +kernel), List.mem_of_getElem? (i := 798) (by decide +kernel), List.mem_of_getElem? (i := 799) (by decide +kernel)⟩
theorem lw_p10 : lw_okq (⟨"PegWatch$Row", "cut", "(ZLPegWatch$Patch;LPegWatch$Patch;)V"⟩, 8) := ⟨⟨by decide +kernel, by decide +kernel⟩, List.mem_of_getElem? (i := 206) (by decide +kernel), List.mem_of_getElem? (i := 809) (by decide +kernel), List.mem_of_getElem? (i := 810) (by decide +kernel)⟩
theorem lw_p11 : lw_okq (⟨"PegWatch$Reckoning", "lookBack", "()V"⟩, 10) := ⟨⟨by decide +kernel, by decide +kernel⟩, List.mem_of_getElem? (i := 303) (by decide +kernel), List.mem_of_getElem? (i := 827) (by decide +kernel), List.mem_of_getElem? (i := 828) (by decide +kernel)⟩
theorem lw_p12 : lw_okq (⟨"PegWatch", "mayBlame", "()Z"⟩, 9) := ⟨⟨by decide +kernel, by decide +kernel⟩, List.mem_of_getElem? (i := 19) (by decide +kernel), List.mem_of_getElem? (i := 844) (by decide +kernel), List.mem_of_getElem? (i := 845) (by decide +kernel)⟩
theorem lw_p13 : lw_okq (⟨"PegWatch$Reckoning", "leadsOnWithout", "(ILPegWatch$Patch;LPegWatch$Patch;)Z"⟩, 10) := ⟨⟨by decide +kernel, by decide +kernel⟩, List.mem_of_getElem? (i := 303) (by decide +kernel), List.mem_of_getElem? (i := 856) (by decide +kernel), List.mem_of_getElem? (i := 857) (by decide +kernel)⟩
theorem lw_p14 : lw_okq (⟨"PegWatch$Reckoning", "add", "(I)V"⟩, 10) := ⟨⟨by decide +kernel, by decide +kernel⟩, List.mem_of_getElem? (i := 303) (by decide +kernel), List.mem_of_getElem? (i := 864) (by decide +kernel), List.mem_of_getElem? (i := 865) (by decide +kernel)⟩
theorem lw_p15 : lw_okq (⟨"PegWatch$Reckoning", "findPairsOf", "(I)V"⟩, 10) := ⟨⟨by decide +kernel, by decide +kernel⟩, List.mem_of_getElem? (i := 303) (by decide +kernel), List.mem_of_getElem? (i := 868) (by decide +kernel), List.mem_of_getElem? (i := 869) (by decide +kernel)⟩
def lw_privs_1 : List (MethodName × Nat) := [(⟨"PegWatch$Watch", "sumUp", "()V"⟩, 9), (⟨"PegWatch$Watch", "sumSpreads", "()V"⟩, 9), (⟨"PegWatch$Watch", "knotsOfPeg", "(I)I"⟩, 9), (⟨"PegWatch$Watch", "sumParts", "(I)V"⟩, 9), (⟨"PegWatch$Watch", "madeGood", "(II)I"⟩, 9), (⟨"PegWatch$Reckoning", "findStart", "()V"⟩, 10), (⟨"PegWatch$Reckoning", "makeReady", "(LPegWatch$Row;)V"⟩, 10), (⟨"PegWatch$Reckoning", "stretchCounted", "(LPegWatch$Row;II)Z"⟩, 10), (⟨"PegWatch$Reckoning", "stretch", "(LPegWatch$Reach;III)Z"⟩, 10), (⟨"PegWatch$Reckoning", "takeOnFrom", "(I)V"⟩, 10), (⟨"PegWatch$Row", "cut", "(ZLPegWatch$Patch;LPegWatch$Patch;)V"⟩, 8), (⟨"PegWatch$Reckoning", "lookBack", "()V"⟩, 10), (⟨"PegWatch", "mayBlame", "()Z"⟩, 9), (⟨"PegWatch$Reckoning", "leadsOnWithout", "(ILPegWatch$Patch;LPegWatch$Patch;)Z"⟩, 10), (⟨"PegWatch$Reckoning", "add", "(I)V"⟩, 10), (⟨"PegWatch$Reckoning", "findPairsOf", "(I)V"⟩, 10)]
theorem lw_r1 : ∀ q ∈ lw_privs_1, lw_okq q := List.forall_mem_cons.mpr ⟨lw_p0, List.forall_mem_cons.mpr ⟨lw_p1, List.forall_mem_cons.mpr ⟨lw_p2, List.forall_mem_cons.mpr ⟨lw_p3, List.forall_mem_cons.mpr ⟨lw_p4, List.forall_mem_cons.mpr ⟨lw_p5, List.forall_mem_cons.mpr ⟨lw_p6, List.forall_mem_cons.mpr ⟨lw_p7, List.forall_mem_cons.mpr ⟨lw_p8, List.forall_mem_cons.mpr ⟨lw_p9, List.forall_mem_cons.mpr ⟨lw_p10, List.forall_mem_cons.mpr ⟨lw_p11, List.forall_mem_cons.mpr ⟨lw_p12, List.forall_mem_cons.mpr ⟨lw_p13, List.forall_mem_cons.mpr ⟨lw_p14, List.forall_mem_cons.mpr ⟨lw_p15, fun _ h => absurd h List.not_mem_nil⟩⟩⟩⟩⟩⟩⟩⟩⟩⟩⟩⟩⟩⟩⟩⟩
theorem lw_p16 : lw_okq (⟨"PegWatch$Reckoning", "lookAheadBy", "(III)LPegWatch$Patch;"⟩, 10) := ⟨⟨by decide +kernel, by decide +kernel⟩, List.mem_of_getElem? (i := 303) (by decide +kernel), List.mem_of_getElem? (i := 888) (by decide +kernel), List.mem_of_getElem? (i := 889) (by decide +kernel)⟩
theorem lw_p17 : lw_okq (⟨"PegWatch$Voyage", "sightedFromLeft", "(II)I"⟩, 6) := ⟨⟨by decide +kernel, by decide +kernel⟩, List.mem_of_getElem? (i := 345) (by decide +kernel), List.mem_of_getElem? (i := 916) (by decide +kernel), List.mem_of_getElem? (i := 917) (by decide +kernel)⟩
theorem lw_p18 : lw_okq (⟨"PegWatch$Voyage", "isOneAground", "()Z"⟩, 6) := ⟨⟨by decide +kernel, by decide +kernel⟩, List.mem_of_getElem? (i := 345) (by decide +kernel), List.mem_of_getElem? (i := 925) (by decide +kernel), List.mem_of_getElem? (i := 926) (by decide +kernel)⟩
theorem lw_p19 : lw_okq (⟨"PegWatch$Voyage", "dropSighted", "()V"⟩, 6) := ⟨⟨by decide +kernel, by decide +kernel⟩, List.mem_of_getElem? (i := 345) (by decide +kernel), List.mem_of_getElem? (i := 933) (by decide +kernel), List.mem_of_getElem? (i := 934) (by decide +kernel)⟩
theorem lw_p20 : lw_okq (⟨"PegWatchModel", "flood", "()V"⟩, 35) := ⟨⟨by decide +kernel, by decide +kernel⟩, List.mem_of_getElem? (i := 995) (by decide +kernel), List.mem_of_getElem? (i := 1001) (by decide +kernel), List.mem_of_getElem? (i := 1002) (by decide +kernel)⟩
theorem lw_p21 : lw_okq (⟨"PegWatchModel", "begins", "(I)Z"⟩, 35) := ⟨⟨by decide +kernel, by decide +kernel⟩, List.mem_of_getElem? (i := 995) (by decide +kernel), List.mem_of_getElem? (i := 1132) (by decide +kernel), List.mem_of_getElem? (i := 1133) (by decide +kernel)⟩
theorem lw_p22 : lw_okq (⟨"PegWatchModel", "eastOf", "(I)I"⟩, 35) := ⟨⟨by decide +kernel, by decide +kernel⟩, List.mem_of_getElem? (i := 995) (by decide +kernel), List.mem_of_getElem? (i := 1148) (by decide +kernel), List.mem_of_getElem? (i := 1149) (by decide +kernel)⟩
theorem lw_p23 : lw_okq (⟨"PegWatchModel", "northOf", "(I)I"⟩, 35) := ⟨⟨by decide +kernel, by decide +kernel⟩, List.mem_of_getElem? (i := 995) (by decide +kernel), List.mem_of_getElem? (i := 1152) (by decide +kernel), List.mem_of_getElem? (i := 1153) (by decide +kernel)⟩
theorem lw_p24 : lw_okq (⟨"PegWatchModel", "faultOf", "()I"⟩, 35) := ⟨⟨by decide +kernel, by decide +kernel⟩, List.mem_of_getElem? (i := 995) (by decide +kernel), List.mem_of_getElem? (i := 1169) (by decide +kernel), List.mem_of_getElem? (i := 1170) (by decide +kernel)⟩
theorem lw_p25 : lw_okq (⟨"PegWatchModel", "isWatch", "(I)Z"⟩, 35) := ⟨⟨by decide +kernel, by decide +kernel⟩, List.mem_of_getElem? (i := 995) (by decide +kernel), List.mem_of_getElem? (i := 1185) (by decide +kernel), List.mem_of_getElem? (i := 1186) (by decide +kernel)⟩
theorem lw_p26 : lw_okq (⟨"PegWatchModel", "goWatch", "(IIIZ)V"⟩, 35) := ⟨⟨by decide +kernel, by decide +kernel⟩, List.mem_of_getElem? (i := 995) (by decide +kernel), List.mem_of_getElem? (i := 1210) (by decide +kernel), List.mem_of_getElem? (i := 1211) (by decide +kernel)⟩
theorem lw_p27 : lw_okq (⟨"PegWatchModel", "isCell", "(II)Z"⟩, 35) := ⟨⟨by decide +kernel, by decide +kernel⟩, List.mem_of_getElem? (i := 995) (by decide +kernel), List.mem_of_getElem? (i := 1229) (by decide +kernel), List.mem_of_getElem? (i := 1230) (by decide +kernel)⟩
theorem lw_p28 : lw_okq (⟨"PegWatchModel", "nearest", "(II)I"⟩, 35) := ⟨⟨by decide +kernel, by decide +kernel⟩, List.mem_of_getElem? (i := 995) (by decide +kernel), List.mem_of_getElem? (i := 1244) (by decide +kernel), List.mem_of_getElem? (i := 1245) (by decide +kernel)⟩
theorem lw_p29 : lw_okq (⟨"PegWatchModel", "isLand", "(II)Z"⟩, 35) := ⟨⟨by decide +kernel, by decide +kernel⟩, List.mem_of_getElem? (i := 995) (by decide +kernel), List.mem_of_getElem? (i := 1248) (by decide +kernel), List.mem_of_getElem? (i := 1249) (by decide +kernel)⟩
theorem lw_p30 : lw_okq (⟨"PegWatchModel", "add", "(IIII)I"⟩, 35) := ⟨⟨by decide +kernel, by decide +kernel⟩, List.mem_of_getElem? (i := 995) (by decide +kernel), List.mem_of_getElem? (i := 1260) (by decide +kernel), List.mem_of_getElem? (i := 1261) (by decide +kernel)⟩
theorem lw_p31 : lw_okq (⟨"PegWatchModel", "isRow", "(I)Z"⟩, 35) := ⟨⟨by decide +kernel, by decide +kernel⟩, List.mem_of_getElem? (i := 995) (by decide +kernel), List.mem_of_getElem? (i := 1272) (by decide +kernel), List.mem_of_getElem? (i := 1273) (by decide +kernel)⟩
def lw_privs_2 : List (MethodName × Nat) := [(⟨"PegWatch$Reckoning", "lookAheadBy", "(III)LPegWatch$Patch;"⟩, 10), (⟨"PegWatch$Voyage", "sightedFromLeft", "(II)I"⟩, 6), (⟨"PegWatch$Voyage", "isOneAground", "()Z"⟩, 6), (⟨"PegWatch$Voyage", "dropSighted", "()V"⟩, 6), (⟨"PegWatchModel", "flood", "()V"⟩, 35), (⟨"PegWatchModel", "begins", "(I)Z"⟩, 35), (⟨"PegWatchModel", "eastOf", "(I)I"⟩, 35), (⟨"PegWatchModel", "northOf", "(I)I"⟩, 35), (⟨"PegWatchModel", "faultOf", "()I"⟩, 35), (⟨"PegWatchModel", "isWatch", "(I)Z"⟩, 35), (⟨"PegWatchModel", "goWatch", "(IIIZ)V"⟩, 35), (⟨"PegWatchModel", "isCell", "(II)Z"⟩, 35), (⟨"PegWatchModel", "nearest", "(II)I"⟩, 35), (⟨"PegWatchModel", "isLand", "(II)Z"⟩, 35), (⟨"PegWatchModel", "add", "(IIII)I"⟩, 35), (⟨"PegWatchModel", "isRow", "(I)Z"⟩, 35)]
theorem lw_r2 : ∀ q ∈ lw_privs_2, lw_okq q := List.forall_mem_cons.mpr ⟨lw_p16, List.forall_mem_cons.mpr ⟨lw_p17, List.forall_mem_cons.mpr ⟨lw_p18, List.forall_mem_cons.mpr ⟨lw_p19, List.forall_mem_cons.mpr ⟨lw_p20, List.forall_mem_cons.mpr ⟨lw_p21, List.forall_mem_cons.mpr ⟨lw_p22, List.forall_mem_cons.mpr ⟨lw_p23, List.forall_mem_cons.mpr ⟨lw_p24, List.forall_mem_cons.mpr ⟨lw_p25, List.forall_mem_cons.mpr ⟨lw_p26, List.forall_mem_cons.mpr ⟨lw_p27, List.forall_mem_cons.mpr ⟨lw_p28, List.forall_mem_cons.mpr ⟨lw_p29, List.forall_mem_cons.mpr ⟨lw_p30, List.forall_mem_cons.mpr ⟨lw_p31, fun _ h => absurd h List.not_mem_nil⟩⟩⟩⟩⟩⟩⟩⟩⟩⟩⟩⟩⟩⟩⟩⟩
theorem lw_p32 : lw_okq (⟨"PegWatchModel", "begin", "()V"⟩, 35) := ⟨⟨by decide +kernel, by decide +kernel⟩, List.mem_of_getElem? (i := 995) (by decide +kernel), List.mem_of_getElem? (i := 1288) (by decide +kernel), List.mem_of_getElem? (i := 1289) (by decide +kernel)⟩
theorem lw_p33 : lw_okq (⟨"PegWatchModel", "cells", "()I"⟩, 35) := ⟨⟨by decide +kernel, by decide +kernel⟩, List.mem_of_getElem? (i := 995) (by decide +kernel), List.mem_of_getElem? (i := 1292) (by decide +kernel), List.mem_of_getElem? (i := 1293) (by decide +kernel)⟩
theorem lw_p34 : lw_okq (⟨"PegWatchModel", "goPlain", "()V"⟩, 35) := ⟨⟨by decide +kernel, by decide +kernel⟩, List.mem_of_getElem? (i := 995) (by decide +kernel), List.mem_of_getElem? (i := 1300) (by decide +kernel), List.mem_of_getElem? (i := 1301) (by decide +kernel)⟩
theorem lw_p35 : lw_okq (⟨"PegWatchModel", "measure", "()V"⟩, 35) := ⟨⟨by decide +kernel, by decide +kernel⟩, List.mem_of_getElem? (i := 995) (by decide +kernel), List.mem_of_getElem? (i := 1304) (by decide +kernel), List.mem_of_getElem? (i := 1305) (by decide +kernel)⟩
theorem lw_p36 : lw_okq (⟨"PegWatchModel", "goAll", "(III)V"⟩, 35) := ⟨⟨by decide +kernel, by decide +kernel⟩, List.mem_of_getElem? (i := 995) (by decide +kernel), List.mem_of_getElem? (i := 1308) (by decide +kernel), List.mem_of_getElem? (i := 1309) (by decide +kernel)⟩
theorem lw_p37 : lw_okq (⟨"PegWatchModel", "keep", "(I)V"⟩, 35) := ⟨⟨by decide +kernel, by decide +kernel⟩, List.mem_of_getElem? (i := 995) (by decide +kernel), List.mem_of_getElem? (i := 1312) (by decide +kernel), List.mem_of_getElem? (i := 1313) (by decide +kernel)⟩
theorem lw_p38 : lw_okq (⟨"PegWatchModel", "step", "(IIII)V"⟩, 35) := ⟨⟨by decide +kernel, by decide +kernel⟩, List.mem_of_getElem? (i := 995) (by decide +kernel), List.mem_of_getElem? (i := 1316) (by decide +kernel), List.mem_of_getElem? (i := 1317) (by decide +kernel)⟩
theorem lw_p39 : lw_okq (⟨"PegWatchModel", "wayOf", "(IIII)V"⟩, 35) := ⟨⟨by decide +kernel, by decide +kernel⟩, List.mem_of_getElem? (i := 995) (by decide +kernel), List.mem_of_getElem? (i := 1320) (by decide +kernel), List.mem_of_getElem? (i := 1321) (by decide +kernel)⟩
theorem lw_p40 : lw_okq (⟨"PegWatchModel", "eastLow", "()I"⟩, 35) := ⟨⟨by decide +kernel, by decide +kernel⟩, List.mem_of_getElem? (i := 995) (by decide +kernel), List.mem_of_getElem? (i := 1324) (by decide +kernel), List.mem_of_getElem? (i := 1325) (by decide +kernel)⟩
theorem lw_p41 : lw_okq (⟨"PegWatchModel", "eastHigh", "()I"⟩, 35) := ⟨⟨by decide +kernel, by decide +kernel⟩, List.mem_of_getElem? (i := 995) (by decide +kernel), List.mem_of_getElem? (i := 1328) (by decide +kernel), List.mem_of_getElem? (i := 1329) (by decide +kernel)⟩
theorem lw_p42 : lw_okq (⟨"PegWatchModel", "northLow", "()I"⟩, 35) := ⟨⟨by decide +kernel, by decide +kernel⟩, List.mem_of_getElem? (i := 995) (by decide +kernel), List.mem_of_getElem? (i := 1332) (by decide +kernel), List.mem_of_getElem? (i := 1333) (by decide +kernel)⟩
theorem lw_p43 : lw_okq (⟨"PegWatchModel", "northHigh", "()I"⟩, 35) := ⟨⟨by decide +kernel, by decide +kernel⟩, List.mem_of_getElem? (i := 995) (by decide +kernel), List.mem_of_getElem? (i := 1336) (by decide +kernel), List.mem_of_getElem? (i := 1337) (by decide +kernel)⟩
theorem lw_p44 : lw_okq (⟨"PegWatchModel", "dilate", "(IIII)V"⟩, 35) := ⟨⟨by decide +kernel, by decide +kernel⟩, List.mem_of_getElem? (i := 995) (by decide +kernel), List.mem_of_getElem? (i := 1340) (by decide +kernel), List.mem_of_getElem? (i := 1341) (by decide +kernel)⟩
theorem lw_p45 : lw_okq (⟨"PegWatchModel", "cutBy", "(I)V"⟩, 35) := ⟨⟨by decide +kernel, by decide +kernel⟩, List.mem_of_getElem? (i := 995) (by decide +kernel), List.mem_of_getElem? (i := 1344) (by decide +kernel), List.mem_of_getElem? (i := 1345) (by decide +kernel)⟩
theorem lw_p46 : lw_okq (⟨"PegWatchModel", "isSign", "(III)Z"⟩, 35) := ⟨⟨by decide +kernel, by decide +kernel⟩, List.mem_of_getElem? (i := 995) (by decide +kernel), List.mem_of_getElem? (i := 1348) (by decide +kernel), List.mem_of_getElem? (i := 1349) (by decide +kernel)⟩
theorem lw_p47 : lw_okq (⟨"PegWatchModel", "isNear", "(III)Z"⟩, 35) := ⟨⟨by decide +kernel, by decide +kernel⟩, List.mem_of_getElem? (i := 995) (by decide +kernel), List.mem_of_getElem? (i := 1352) (by decide +kernel), List.mem_of_getElem? (i := 1353) (by decide +kernel)⟩
def lw_privs_3 : List (MethodName × Nat) := [(⟨"PegWatchModel", "begin", "()V"⟩, 35), (⟨"PegWatchModel", "cells", "()I"⟩, 35), (⟨"PegWatchModel", "goPlain", "()V"⟩, 35), (⟨"PegWatchModel", "measure", "()V"⟩, 35), (⟨"PegWatchModel", "goAll", "(III)V"⟩, 35), (⟨"PegWatchModel", "keep", "(I)V"⟩, 35), (⟨"PegWatchModel", "step", "(IIII)V"⟩, 35), (⟨"PegWatchModel", "wayOf", "(IIII)V"⟩, 35), (⟨"PegWatchModel", "eastLow", "()I"⟩, 35), (⟨"PegWatchModel", "eastHigh", "()I"⟩, 35), (⟨"PegWatchModel", "northLow", "()I"⟩, 35), (⟨"PegWatchModel", "northHigh", "()I"⟩, 35), (⟨"PegWatchModel", "dilate", "(IIII)V"⟩, 35), (⟨"PegWatchModel", "cutBy", "(I)V"⟩, 35), (⟨"PegWatchModel", "isSign", "(III)Z"⟩, 35), (⟨"PegWatchModel", "isNear", "(III)Z"⟩, 35)]
theorem lw_r3 : ∀ q ∈ lw_privs_3, lw_okq q := List.forall_mem_cons.mpr ⟨lw_p32, List.forall_mem_cons.mpr ⟨lw_p33, List.forall_mem_cons.mpr ⟨lw_p34, List.forall_mem_cons.mpr ⟨lw_p35, List.forall_mem_cons.mpr ⟨lw_p36, List.forall_mem_cons.mpr ⟨lw_p37, List.forall_mem_cons.mpr ⟨lw_p38, List.forall_mem_cons.mpr ⟨lw_p39, List.forall_mem_cons.mpr ⟨lw_p40, List.forall_mem_cons.mpr ⟨lw_p41, List.forall_mem_cons.mpr ⟨lw_p42, List.forall_mem_cons.mpr ⟨lw_p43, List.forall_mem_cons.mpr ⟨lw_p44, List.forall_mem_cons.mpr ⟨lw_p45, List.forall_mem_cons.mpr ⟨lw_p46, List.forall_mem_cons.mpr ⟨lw_p47, fun _ h => absurd h List.not_mem_nil⟩⟩⟩⟩⟩⟩⟩⟩⟩⟩⟩⟩⟩⟩⟩⟩
theorem lw_p48 : lw_okq (⟨"PegWatchModel", "lay", "(I)V"⟩, 35) := ⟨⟨by decide +kernel, by decide +kernel⟩, List.mem_of_getElem? (i := 995) (by decide +kernel), List.mem_of_getElem? (i := 1356) (by decide +kernel), List.mem_of_getElem? (i := 1357) (by decide +kernel)⟩
theorem lw_p49 : lw_okq (⟨"PegWatchModel", "goBack", "(I)V"⟩, 35) := ⟨⟨by decide +kernel, by decide +kernel⟩, List.mem_of_getElem? (i := 995) (by decide +kernel), List.mem_of_getElem? (i := 1368) (by decide +kernel), List.mem_of_getElem? (i := 1369) (by decide +kernel)⟩
theorem lw_p50 : lw_okq (⟨"PegWatchModel", "isBlaming", "()Z"⟩, 35) := ⟨⟨by decide +kernel, by decide +kernel⟩, List.mem_of_getElem? (i := 995) (by decide +kernel), List.mem_of_getElem? (i := 1380) (by decide +kernel), List.mem_of_getElem? (i := 1381) (by decide +kernel)⟩
theorem lw_p51 : lw_okq (⟨"PegWatchModel", "isEmptyNow", "()Z"⟩, 35) := ⟨⟨by decide +kernel, by decide +kernel⟩, List.mem_of_getElem? (i := 995) (by decide +kernel), List.mem_of_getElem? (i := 1384) (by decide +kernel), List.mem_of_getElem? (i := 1385) (by decide +kernel)⟩
theorem lw_p52 : lw_okq (⟨"PegWatchModel", "seek", "(I)I"⟩, 35) := ⟨⟨by decide +kernel, by decide +kernel⟩, List.mem_of_getElem? (i := 995) (by decide +kernel), List.mem_of_getElem? (i := 1388) (by decide +kernel), List.mem_of_getElem? (i := 1389) (by decide +kernel)⟩
theorem lw_p53 : lw_okq (⟨"PegWatchModel", "helps", "(II)Z"⟩, 35) := ⟨⟨by decide +kernel, by decide +kernel⟩, List.mem_of_getElem? (i := 995) (by decide +kernel), List.mem_of_getElem? (i := 1392) (by decide +kernel), List.mem_of_getElem? (i := 1393) (by decide +kernel)⟩
theorem lw_p54 : lw_okq (⟨"PegWatchModel", "seekPairs", "(I)I"⟩, 35) := ⟨⟨by decide +kernel, by decide +kernel⟩, List.mem_of_getElem? (i := 995) (by decide +kernel), List.mem_of_getElem? (i := 1396) (by decide +kernel), List.mem_of_getElem? (i := 1397) (by decide +kernel)⟩
theorem lw_p55 : lw_okq (⟨"PegWatchModel", "seekFits", "(III)I"⟩, 35) := ⟨⟨by decide +kernel, by decide +kernel⟩, List.mem_of_getElem? (i := 995) (by decide +kernel), List.mem_of_getElem? (i := 1408) (by decide +kernel), List.mem_of_getElem? (i := 1409) (by decide +kernel)⟩
theorem lw_p56 : lw_okq (⟨"PegWatchModel", "seesAt", "(IIIIIII)I"⟩, 35) := ⟨⟨by decide +kernel, by decide +kernel⟩, List.mem_of_getElem? (i := 995) (by decide +kernel), List.mem_of_getElem? (i := 1423) (by decide +kernel), List.mem_of_getElem? (i := 1424) (by decide +kernel)⟩
theorem lw_p57 : lw_okq (⟨"PegWatchModel", "sureBy", "(IIIII)I"⟩, 35) := ⟨⟨by decide +kernel, by decide +kernel⟩, List.mem_of_getElem? (i := 995) (by decide +kernel), List.mem_of_getElem? (i := 1434) (by decide +kernel), List.mem_of_getElem? (i := 1435) (by decide +kernel)⟩
theorem lw_p58 : lw_okq (⟨"PegWatchModel", "landMany", "()I"⟩, 35) := ⟨⟨by decide +kernel, by decide +kernel⟩, List.mem_of_getElem? (i := 995) (by decide +kernel), List.mem_of_getElem? (i := 1446) (by decide +kernel), List.mem_of_getElem? (i := 1447) (by decide +kernel)⟩
theorem lw_p59 : lw_okq (⟨"PegWatchModel", "mix", "(J)V"⟩, 35) := ⟨⟨by decide +kernel, by decide +kernel⟩, List.mem_of_getElem? (i := 995) (by decide +kernel), List.mem_of_getElem? (i := 1455) (by decide +kernel), List.mem_of_getElem? (i := 1456) (by decide +kernel)⟩
theorem lw_p60 : lw_okq (⟨"PegWatchModel", "mixWatch", "(I)V"⟩, 35) := ⟨⟨by decide +kernel, by decide +kernel⟩, List.mem_of_getElem? (i := 995) (by decide +kernel), List.mem_of_getElem? (i := 1460) (by decide +kernel), List.mem_of_getElem? (i := 1461) (by decide +kernel)⟩
theorem lw_p61 : lw_okq (⟨"PegWatchModel", "mixChart", "()V"⟩, 35) := ⟨⟨by decide +kernel, by decide +kernel⟩, List.mem_of_getElem? (i := 995) (by decide +kernel), List.mem_of_getElem? (i := 1464) (by decide +kernel), List.mem_of_getElem? (i := 1465) (by decide +kernel)⟩
def lw_privs_4 : List (MethodName × Nat) := [(⟨"PegWatchModel", "lay", "(I)V"⟩, 35), (⟨"PegWatchModel", "goBack", "(I)V"⟩, 35), (⟨"PegWatchModel", "isBlaming", "()Z"⟩, 35), (⟨"PegWatchModel", "isEmptyNow", "()Z"⟩, 35), (⟨"PegWatchModel", "seek", "(I)I"⟩, 35), (⟨"PegWatchModel", "helps", "(II)Z"⟩, 35), (⟨"PegWatchModel", "seekPairs", "(I)I"⟩, 35), (⟨"PegWatchModel", "seekFits", "(III)I"⟩, 35), (⟨"PegWatchModel", "seesAt", "(IIIIIII)I"⟩, 35), (⟨"PegWatchModel", "sureBy", "(IIIII)I"⟩, 35), (⟨"PegWatchModel", "landMany", "()I"⟩, 35), (⟨"PegWatchModel", "mix", "(J)V"⟩, 35), (⟨"PegWatchModel", "mixWatch", "(I)V"⟩, 35), (⟨"PegWatchModel", "mixChart", "()V"⟩, 35)]
theorem lw_r4 : ∀ q ∈ lw_privs_4, lw_okq q := List.forall_mem_cons.mpr ⟨lw_p48, List.forall_mem_cons.mpr ⟨lw_p49, List.forall_mem_cons.mpr ⟨lw_p50, List.forall_mem_cons.mpr ⟨lw_p51, List.forall_mem_cons.mpr ⟨lw_p52, List.forall_mem_cons.mpr ⟨lw_p53, List.forall_mem_cons.mpr ⟨lw_p54, List.forall_mem_cons.mpr ⟨lw_p55, List.forall_mem_cons.mpr ⟨lw_p56, List.forall_mem_cons.mpr ⟨lw_p57, List.forall_mem_cons.mpr ⟨lw_p58, List.forall_mem_cons.mpr ⟨lw_p59, List.forall_mem_cons.mpr ⟨lw_p60, List.forall_mem_cons.mpr ⟨lw_p61, fun _ h => absurd h List.not_mem_nil⟩⟩⟩⟩⟩⟩⟩⟩⟩⟩⟩⟩⟩⟩
def lw_privs : List (MethodName × Nat) := lw_privs_1 ++ (lw_privs_2 ++ (lw_privs_3 ++ (lw_privs_4)))
def lw_tbl : List Cond := k2_sels lw_privs ++ tables_1
theorem lw_privs_ok : ∀ q ∈ lw_privs, lw_okq q := by
  show ∀ q ∈ lw_privs_1 ++ (lw_privs_2 ++ (lw_privs_3 ++ (lw_privs_4))), lw_okq q
  exact List.forall_mem_append.mpr ⟨lw_r1, List.forall_mem_append.mpr ⟨lw_r2, List.forall_mem_append.mpr ⟨lw_r3, lw_r4⟩⟩⟩
-- ===== end of PART A; then your names; then what follows =====
end
section
/-! names: the tables that may be carried into a call, the classes with their fields, the methods -/
def wsG : List Cond := lw_tbl.filter goodWord
theorem mem_g {w : Cond} (i : Nat) (h : lw_tbl[i]? = some w) (hg : goodWord w = true) : w ∈ wsG := List.mem_filter.mpr ⟨List.mem_of_getElem? h, hg⟩
theorem mem_gs {ws : List Cond} (ps : List Nat) (hp : ws = ps.filterMap (fun i => lw_tbl[i]?)) (h : ws.all goodWord = true) : ∀ w ∈ ws, w ∈ wsG := by
  intro w hw
  have h1 := List.all_eq_true.mp h w hw
  rw [hp] at hw
  obtain ⟨i, -, hi⟩ := List.mem_filterMap.mp hw
  exact mem_g i hi h1
def isNest (w : Cond) : Bool := match w with
  | .fieldLinkNest _ _ _ _ _ _ => true
  | .methodLinkNest _ _ _ _ => true
  | _ => false
def nestW : List Cond := lw_tbl.filter isNest
theorem mem_n {w : Cond} (i : Nat) (h : lw_tbl[i]? = some w) (hg : isNest w = true) : w ∈ nestW := List.mem_filter.mpr ⟨List.mem_of_getElem? h, hg⟩
def cN0 : String := "PegWatch$Board"
def cT0 : u_T := fun k => match k with
  | 0 => ("PegWatch$Board", "watches", "[LPegWatch$Watch;", true)
  | 1 => ("PegWatch$Board", "size", "I", false)
  | _ => ("PegWatch$Board", "miss", "I", false)
def ct0 : Nat → FieldType := fun k => match k with
  | 0 => .array (.object "PegWatch$Watch")
  | 1 => .int
  | _ => .int
theorem cw0 : ∀ w ∈ u_ws cN0 cT0 3, w ∈ wsG := mem_gs [162, 164, 166] (by decide +kernel) (by decide +kernel)
theorem cm0 : ∀ a, a < 3 → ∀ b, b < 3 → a ≠ b → (cT0 a).2.1 ≠ (cT0 b).2.1 := by decide +kernel
theorem cy0 : ∀ k, k < 3 → parseFieldDescriptor (cT0 k).2.2.1 = some (ct0 k) := by decide +kernel
def cN1 : String := "PegWatch$Chart"
def cT1 : u_T := fun k => match k with
  | 0 => ("PegWatch$Chart", "depths", "[I", true)
  | 1 => ("PegWatch$Chart", "open", "LPegWatch$Patch;", true)
  | 2 => ("PegWatch$Chart", "land", "LPegWatch$Patch;", true)
  | 3 => ("PegWatch$Chart", "weedy", "LPegWatch$Patch;", true)
  | 4 => ("PegWatch$Chart", "width", "I", false)
  | 5 => ("PegWatch$Chart", "height", "I", false)
  | 6 => ("PegWatch$Chart", "fromEast", "I", false)
  | 7 => ("PegWatch$Chart", "toEast", "I", false)
  | 8 => ("PegWatch$Chart", "fromNorth", "I", false)
  | _ => ("PegWatch$Chart", "toNorth", "I", false)
def ct1 : Nat → FieldType := fun k => match k with
  | 0 => .array .int
  | 1 => .object "PegWatch$Patch"
  | 2 => .object "PegWatch$Patch"
  | 3 => .object "PegWatch$Patch"
  | 4 => .int
  | 5 => .int
  | 6 => .int
  | 7 => .int
  | 8 => .int
  | _ => .int
theorem cw1 : ∀ w ∈ u_ws cN1 cT1 10, w ∈ wsG := mem_gs [239, 241, 243, 245, 247, 249, 251, 253, 255, 257] (by decide +kernel) (by decide +kernel)
theorem cm1 : ∀ a, a < 10 → ∀ b, b < 10 → a ≠ b → (cT1 a).2.1 ≠ (cT1 b).2.1 := by decide +kernel
theorem cy1 : ∀ k, k < 10 → parseFieldDescriptor (cT1 k).2.2.1 = some (ct1 k) := by decide +kernel
def cN2 : String := "PegWatch$Compass"
def cT2 : u_T := fun k => match k with
  | _ => ("", "", "", false)
def ct2 : Nat → FieldType := fun k => match k with
  | _ => .int
theorem cw2 : ∀ w ∈ u_ws cN2 cT2 0, w ∈ wsG := mem_gs [] (by decide +kernel) (by decide +kernel)
theorem cm2 : ∀ a, a < 0 → ∀ b, b < 0 → a ≠ b → (cT2 a).2.1 ≠ (cT2 b).2.1 := by decide +kernel
theorem cy2 : ∀ k, k < 0 → parseFieldDescriptor (cT2 k).2.2.1 = some (ct2 k) := by decide +kernel
def cN3 : String := "PegWatch$Log"
def cT3 : u_T := fun k => match k with
  | 0 => ("PegWatch$Log", "rows", "[LPegWatch$Row;", true)
  | 1 => ("PegWatch$Log", "size", "I", false)
  | 2 => ("PegWatch$Log", "startX", "I", false)
  | 3 => ("PegWatch$Log", "startY", "I", false)
  | _ => ("PegWatch$Log", "startR", "I", false)
def ct3 : Nat → FieldType := fun k => match k with
  | 0 => .array (.object "PegWatch$Row")
  | 1 => .int
  | 2 => .int
  | 3 => .int
  | _ => .int
theorem cw3 : ∀ w ∈ u_ws cN3 cT3 5, w ∈ wsG := mem_gs [353, 355, 357, 359, 361] (by decide +kernel) (by decide +kernel)
theorem cm3 : ∀ a, a < 5 → ∀ b, b < 5 → a ≠ b → (cT3 a).2.1 ≠ (cT3 b).2.1 := by decide +kernel
theorem cy3 : ∀ k, k < 5 → parseFieldDescriptor (cT3 k).2.2.1 = some (ct3 k) := by decide +kernel
def cN4 : String := "PegWatch$Patch"
def cT4 : u_T := fun k => match k with
  | _ => ("PegWatch$Patch", "bits", "[I", true)
def ct4 : Nat → FieldType := fun k => match k with
  | _ => .array .int
theorem cw4 : ∀ w ∈ u_ws cN4 cT4 1, w ∈ wsG := mem_gs [183] (by decide +kernel) (by decide +kernel)
theorem cm4 : ∀ a, a < 1 → ∀ b, b < 1 → a ≠ b → (cT4 a).2.1 ≠ (cT4 b).2.1 := by decide +kernel
theorem cy4 : ∀ k, k < 1 → parseFieldDescriptor (cT4 k).2.2.1 = some (ct4 k) := by decide +kernel
def cN5 : String := "PegWatch$Reach"
def cT5 : u_T := fun k => match k with
  | 0 => ("PegWatch$Reach", "west", "I", false)
  | 1 => ("PegWatch$Reach", "east", "I", false)
  | 2 => ("PegWatch$Reach", "south", "I", false)
  | _ => ("PegWatch$Reach", "north", "I", false)
def ct5 : Nat → FieldType := fun k => match k with
  | 0 => .int
  | 1 => .int
  | 2 => .int
  | _ => .int
theorem cw5 : ∀ w ∈ u_ws cN5 cT5 4, w ∈ wsG := mem_gs [291, 293, 295, 297] (by decide +kernel) (by decide +kernel)
theorem cm5 : ∀ a, a < 4 → ∀ b, b < 4 → a ≠ b → (cT5 a).2.1 ≠ (cT5 b).2.1 := by decide +kernel
theorem cy5 : ∀ k, k < 4 → parseFieldDescriptor (cT5 k).2.2.1 = some (ct5 k) := by decide +kernel
def cN6 : String := "PegWatch$Reckoning"
def cT6 : u_T := fun k => match k with
  | 0 => ("PegWatch$Reckoning", "chart", "LPegWatch$Chart;", true)
  | 1 => ("PegWatch$Reckoning", "board", "LPegWatch$Board;", true)
  | 2 => ("PegWatch$Reckoning", "log", "LPegWatch$Log;", true)
  | 3 => ("PegWatch$Reckoning", "ahead", "[LPegWatch$Patch;", true)
  | 4 => ("PegWatch$Reckoning", "back", "[LPegWatch$Patch;", true)
  | 5 => ("PegWatch$Reckoning", "here", "LPegWatch$Patch;", true)
  | 6 => ("PegWatch$Reckoning", "without", "LPegWatch$Patch;", true)
  | 7 => ("PegWatch$Reckoning", "withoutTwo", "LPegWatch$Patch;", true)
  | 8 => ("PegWatch$Reckoning", "found", "[I", true)
  | _ => ("PegWatch$Reckoning", "foundSize", "I", false)
def ct6 : Nat → FieldType := fun k => match k with
  | 0 => .object "PegWatch$Chart"
  | 1 => .object "PegWatch$Board"
  | 2 => .object "PegWatch$Log"
  | 3 => .array (.object "PegWatch$Patch")
  | 4 => .array (.object "PegWatch$Patch")
  | 5 => .object "PegWatch$Patch"
  | 6 => .object "PegWatch$Patch"
  | 7 => .object "PegWatch$Patch"
  | 8 => .array .int
  | _ => .int
theorem cw6 : ∀ w ∈ u_ws cN6 cT6 10, w ∈ wsG := mem_gs [385, 387, 389, 391, 393, 395, 397, 399, 401, 403] (by decide +kernel) (by decide +kernel)
theorem cm6 : ∀ a, a < 10 → ∀ b, b < 10 → a ≠ b → (cT6 a).2.1 ≠ (cT6 b).2.1 := by decide +kernel
theorem cy6 : ∀ k, k < 10 → parseFieldDescriptor (cT6 k).2.2.1 = some (ct6 k) := by decide +kernel
def cN7 : String := "PegWatch$Row"
def cT7 : u_T := fun k => match k with
  | 0 => ("PegWatch$Row", "counted", "LPegWatch$Reach;", true)
  | 1 => ("PegWatch$Row", "uncounted", "LPegWatch$Reach;", true)
  | 2 => ("PegWatch$Row", "staying", "LPegWatch$Patch;", true)
  | 3 => ("PegWatch$Row", "watch", "I", false)
  | 4 => ("PegWatch$Row", "sort", "I", false)
  | 5 => ("PegWatch$Row", "a", "I", false)
  | 6 => ("PegWatch$Row", "b", "I", false)
  | _ => ("PegWatch$Row", "counts", "Z", false)
def ct7 : Nat → FieldType := fun k => match k with
  | 0 => .object "PegWatch$Reach"
  | 1 => .object "PegWatch$Reach"
  | 2 => .object "PegWatch$Patch"
  | 3 => .int
  | 4 => .int
  | 5 => .int
  | 6 => .int
  | _ => .boolean
theorem cw7 : ∀ w ∈ u_ws cN7 cT7 8, w ∈ wsG := mem_gs [320, 322, 324, 326, 328, 330, 332, 334] (by decide +kernel) (by decide +kernel)
theorem cm7 : ∀ a, a < 8 → ∀ b, b < 8 → a ≠ b → (cT7 a).2.1 ≠ (cT7 b).2.1 := by decide +kernel
theorem cy7 : ∀ k, k < 8 → parseFieldDescriptor (cT7 k).2.2.1 = some (ct7 k) := by decide +kernel
def cN8 : String := "PegWatch$Voyage"
def cT8 : u_T := fun k => match k with
  | 0 => ("PegWatch$Voyage", "chart", "LPegWatch$Chart;", true)
  | 1 => ("PegWatch$Voyage", "near", "LPegWatch$Patch;", true)
  | 2 => ("PegWatch$Voyage", "left", "LPegWatch$Patch;", true)
  | 3 => ("PegWatch$Voyage", "reach", "LPegWatch$Reach;", true)
  | 4 => ("PegWatch$Voyage", "knots", "I", false)
  | _ => ("PegWatch$Voyage", "hour", "I", false)
def ct8 : Nat → FieldType := fun k => match k with
  | 0 => .object "PegWatch$Chart"
  | 1 => .object "PegWatch$Patch"
  | 2 => .object "PegWatch$Patch"
  | 3 => .object "PegWatch$Reach"
  | 4 => .int
  | _ => .int
theorem cw8 : ∀ w ∈ u_ws cN8 cT8 6, w ∈ wsG := mem_gs [422, 424, 426, 428, 430, 432] (by decide +kernel) (by decide +kernel)
theorem cm8 : ∀ a, a < 6 → ∀ b, b < 6 → a ≠ b → (cT8 a).2.1 ≠ (cT8 b).2.1 := by decide +kernel
theorem cy8 : ∀ k, k < 6 → parseFieldDescriptor (cT8 k).2.2.1 = some (ct8 k) := by decide +kernel
def cN9 : String := "PegWatch$Watch"
def cT9 : u_T := fun k => match k with
  | 0 => ("PegWatch$Watch", "pegs", "[I", true)
  | 1 => ("PegWatch$Watch", "knots", "[I", true)
  | 2 => ("PegWatch$Watch", "eastParts", "[I", true)
  | 3 => ("PegWatch$Watch", "northParts", "[I", true)
  | 4 => ("PegWatch$Watch", "spreadOfLost", "I", false)
  | 5 => ("PegWatch$Watch", "spreadIfAllLost", "I", false)
  | 6 => ("PegWatch$Watch", "helmsman", "I", false)
  | 7 => ("PegWatch$Watch", "wind", "I", false)
  | _ => ("PegWatch$Watch", "sail", "I", false)
def ct9 : Nat → FieldType := fun k => match k with
  | 0 => .array .int
  | 1 => .array .int
  | 2 => .array .int
  | 3 => .array .int
  | 4 => .int
  | 5 => .int
  | 6 => .int
  | 7 => .int
  | _ => .int
theorem cw9 : ∀ w ∈ u_ws cN9 cT9 9, w ∈ wsG := mem_gs [135, 137, 139, 141, 143, 145, 147, 149, 151] (by decide +kernel) (by decide +kernel)
theorem cm9 : ∀ a, a < 9 → ∀ b, b < 9 → a ≠ b → (cT9 a).2.1 ≠ (cT9 b).2.1 := by decide +kernel
theorem cy9 : ∀ k, k < 9 → parseFieldDescriptor (cT9 k).2.2.1 = some (ct9 k) := by decide +kernel
def cN10 : String := "PegWatch$Words"
def cT10 : u_T := fun k => match k with
  | 0 => ("PegWatch$Words", "numbers", "[I", true)
  | 1 => ("PegWatch$Words", "meanings", "[I", true)
  | _ => ("PegWatch$Words", "length", "I", false)
def ct10 : Nat → FieldType := fun k => match k with
  | 0 => .array .int
  | 1 => .array .int
  | _ => .int
theorem cw10 : ∀ w ∈ u_ws cN10 cT10 3, w ∈ wsG := mem_gs [98, 100, 102] (by decide +kernel) (by decide +kernel)
theorem cm10 : ∀ a, a < 3 → ∀ b, b < 3 → a ≠ b → (cT10 a).2.1 ≠ (cT10 b).2.1 := by decide +kernel
theorem cy10 : ∀ k, k < 3 → parseFieldDescriptor (cT10 k).2.2.1 = some (ct10 k) := by decide +kernel
def cN11 : String := "PegWatch"
def cT11 : u_T := fun k => match k with
  | 0 => ("PegWatch", "words", "LPegWatch$Words;", true)
  | 1 => ("PegWatch", "board", "LPegWatch$Board;", true)
  | 2 => ("PegWatch", "chart", "LPegWatch$Chart;", true)
  | 3 => ("PegWatch", "log", "LPegWatch$Log;", true)
  | 4 => ("PegWatch", "reckoning", "LPegWatch$Reckoning;", true)
  | 5 => ("PegWatch", "voyage", "LPegWatch$Voyage;", true)
  | 6 => ("PegWatch", "landfallsDone", "I", false)
  | 7 => ("PegWatch", "coursesDone", "I", false)
  | _ => ("PegWatch", "blamesDone", "I", false)
def ct11 : Nat → FieldType := fun k => match k with
  | 0 => .object "PegWatch$Words"
  | 1 => .object "PegWatch$Board"
  | 2 => .object "PegWatch$Chart"
  | 3 => .object "PegWatch$Log"
  | 4 => .object "PegWatch$Reckoning"
  | 5 => .object "PegWatch$Voyage"
  | 6 => .int
  | 7 => .int
  | _ => .int
theorem cw11 : ∀ w ∈ u_ws cN11 cT11 9, w ∈ wsG := mem_gs [444, 446, 448, 450, 452, 454, 456, 458, 460] (by decide +kernel) (by decide +kernel)
theorem cm11 : ∀ a, a < 9 → ∀ b, b < 9 → a ≠ b → (cT11 a).2.1 ≠ (cT11 b).2.1 := by decide +kernel
theorem cy11 : ∀ k, k < 9 → parseFieldDescriptor (cT11 k).2.2.1 = some (ct11 k) := by decide +kernel
def cN12 : String := "PegWatchModel"
def cT12 : u_T := fun k => match k with
  | 0 => ("PegWatchModel", "names", "[I", true)
  | 1 => ("PegWatchModel", "thousandths", "[I", true)
  | 2 => ("PegWatchModel", "words", "I", false)
  | 3 => ("PegWatchModel", "wordOf", "[I", true)
  | 4 => ("PegWatchModel", "watches", "I", false)
  | 5 => ("PegWatchModel", "pegs", "[I", true)
  | 6 => ("PegWatchModel", "knotsOf", "[I", true)
  | 7 => ("PegWatchModel", "sets", "[I", true)
  | 8 => ("PegWatchModel", "miss", "I", false)
  | 9 => ("PegWatchModel", "wide", "I", false)
  | 10 => ("PegWatchModel", "high", "I", false)
  | 11 => ("PegWatchModel", "depths", "[I", true)
  | 12 => ("PegWatchModel", "isWeed", "[Z", true)
  | 13 => ("PegWatchModel", "eastFrom", "I", false)
  | 14 => ("PegWatchModel", "eastTo", "I", false)
  | 15 => ("PegWatchModel", "northFrom", "I", false)
  | 16 => ("PegWatchModel", "northTo", "I", false)
  | 17 => ("PegWatchModel", "startX", "I", false)
  | 18 => ("PegWatchModel", "startY", "I", false)
  | 19 => ("PegWatchModel", "startR", "I", false)
  | 20 => ("PegWatchModel", "rows", "I", false)
  | 21 => ("PegWatchModel", "rowOf", "[I", true)
  | 22 => ("PegWatchModel", "fitsDone", "I", false)
  | 23 => ("PegWatchModel", "coursesDone", "I", false)
  | 24 => ("PegWatchModel", "blamesDone", "I", false)
  | 25 => ("PegWatchModel", "waits", "[I", true)
  | 26 => ("PegWatchModel", "east", "I", false)
  | 27 => ("PegWatchModel", "north", "I", false)
  | 28 => ("PegWatchModel", "spread", "I", false)
  | 29 => ("PegWatchModel", "held", "[Z", true)
  | 30 => ("PegWatchModel", "between", "[Z", true)
  | 31 => ("PegWatchModel", "history", "[Z", true)
  | 32 => ("PegWatchModel", "nearOf", "[I", true)
  | 33 => ("PegWatchModel", "blamedOne", "I", false)
  | _ => ("PegWatchModel", "h", "J", false)
def ct12 : Nat → FieldType := fun k => match k with
  | 0 => .array .int
  | 1 => .array .int
  | 2 => .int
  | 3 => .array .int
  | 4 => .int
  | 5 => .array .int
  | 6 => .array .int
  | 7 => .array .int
  | 8 => .int
  | 9 => .int
  | 10 => .int
  | 11 => .array .int
  | 12 => .array .boolean
  | 13 => .int
  | 14 => .int
  | 15 => .int
  | 16 => .int
  | 17 => .int
  | 18 => .int
  | 19 => .int
  | 20 => .int
  | 21 => .array .int
  | 22 => .int
  | 23 => .int
  | 24 => .int
  | 25 => .array .int
  | 26 => .int
  | 27 => .int
  | 28 => .int
  | 29 => .array .boolean
  | 30 => .array .boolean
  | 31 => .array .boolean
  | 32 => .array .int
  | 33 => .int
  | _ => .long
theorem cw12 : ∀ w ∈ u_ws cN12 cT12 35, w ∈ wsG := mem_gs [1101, 1103, 1105, 1107, 1109, 1111, 1113, 1115, 1117, 1119, 1121, 1123, 1125, 1127, 1129, 1131, 1133, 1135, 1137, 1139, 1141, 1143, 1145, 1147, 1149, 1151, 1153, 1155, 1157, 1159, 1161, 1163, 1165, 1167, 1169] (by decide +kernel) (by decide +kernel)
theorem cm12 : ∀ a, a < 35 → ∀ b, b < 35 → a ≠ b → (cT12 a).2.1 ≠ (cT12 b).2.1 := by decide +kernel
theorem cy12 : ∀ k, k < 35 → parseFieldDescriptor (cT12 k).2.2.1 = some (ct12 k) := by decide +kernel
abbrev clsL : List vw_C := [(cN0, cT0, 3), (cN1, cT1, 10), (cN2, cT2, 0), (cN3, cT3, 5), (cN4, cT4, 1), (cN5, cT5, 4), (cN6, cT6, 10), (cN7, cT7, 8), (cN8, cT8, 6), (cN9, cT9, 9), (cN10, cT10, 3), (cN11, cT11, 9), (cN12, cT12, 35)]
def clT (ci : Nat) : Nat → FieldType := match ci with
  | 0 => ct0
  | 1 => ct1
  | 2 => ct2
  | 3 => ct3
  | 4 => ct4
  | 5 => ct5
  | 6 => ct6
  | 7 => ct7
  | 8 => ct8
  | 9 => ct9
  | 10 => ct10
  | 11 => ct11
  | _ => ct12
def ClOk (ci : Nat) (r : vw_C) : Prop := (∀ w ∈ u_ws r.1 r.2.1 r.2.2, w ∈ wsG) ∧ (∀ k, k < r.2.2 → parseFieldDescriptor (r.2.1 k).2.2.1 = some (clT ci k)) ∧ ∀ a, a < r.2.2 → ∀ b, b < r.2.2 → a ≠ b → (r.2.1 a).2.1 ≠ (r.2.1 b).2.1
theorem cl_ok {ci : Nat} {r : vw_C} (h : clsL[ci]? = some r) : ClOk ci r := by
  match ci, h with
  | 0, h => cases h; exact ⟨cw0, cy0, cm0⟩
  | 1, h => cases h; exact ⟨cw1, cy1, cm1⟩
  | 2, h => cases h; exact ⟨cw2, cy2, cm2⟩
  | 3, h => cases h; exact ⟨cw3, cy3, cm3⟩
  | 4, h => cases h; exact ⟨cw4, cy4, cm4⟩
  | 5, h => cases h; exact ⟨cw5, cy5, cm5⟩
  | 6, h => cases h; exact ⟨cw6, cy6, cm6⟩
  | 7, h => cases h; exact ⟨cw7, cy7, cm7⟩
  | 8, h => cases h; exact ⟨cw8, cy8, cm8⟩
  | 9, h => cases h; exact ⟨cw9, cy9, cm9⟩
  | 10, h => cases h; exact ⟨cw10, cy10, cm10⟩
  | 11, h => cases h; exact ⟨cw11, cy11, cm11⟩
  | 12, h => cases h; exact ⟨cw12, cy12, cm12⟩
  | n + 13, h => simp [clsL] at h
abbrev Md : Type := MethodName × ByteArray × Nat × Option FieldType × Nat × Nat
def mY (m : Md) : MethodName := m.1
def mB (m : Md) : ByteArray := m.2.1
def mL (m : Md) : Nat := m.2.2.1
def mR (m : Md) : Option FieldType := m.2.2.2.1
def mF (m : Md) : Nat := m.2.2.2.2.1
def mO (m : Md) : Nat := m.2.2.2.2.2
def md_Peg_init : Md := (⟨"PegWatch", "<init>", "()V"⟩, prog_1_method_1_code, 1, (Option.none : Option Jvm.ClassFile.FieldType), 4, 93)
def md_Words_init : Md := (⟨"PegWatch$Words", "<init>", "()V"⟩, prog_12_method_1_code, 1, (Option.none : Option Jvm.ClassFile.FieldType), 1, 20)
def md_Board_init : Md := (⟨"PegWatch$Board", "<init>", "()V"⟩, prog_2_method_1_code, 2, (Option.none : Option Jvm.ClassFile.FieldType), 2, 43)
def md_Watch_init : Md := (⟨"PegWatch$Watch", "<init>", "()V"⟩, prog_11_method_1_code, 1, (Option.none : Option Jvm.ClassFile.FieldType), 1, 23)
def md_JArrays_fill : Md := (⟨"java/util/Arrays", "fill", "([II)V"⟩, prog_18_method_103_code, 4, (Option.none : Option Jvm.ClassFile.FieldType), 0, 0)
def md_Chart_init : Md := (⟨"PegWatch$Chart", "<init>", "()V"⟩, prog_3_method_1_code, 1, (Option.none : Option Jvm.ClassFile.FieldType), 3, 73)
def md_Patch_init : Md := (⟨"PegWatch$Patch", "<init>", "()V"⟩, prog_6_method_1_code, 1, (Option.none : Option Jvm.ClassFile.FieldType), 1, 20)
def md_Chart_streamBecomes : Md := (⟨"PegWatch$Chart", "streamBecomes", "(IIII)V"⟩, prog_3_method_3_code, 5, (Option.none : Option Jvm.ClassFile.FieldType), 0, 0)
def md_Chart_drawAnew : Md := (⟨"PegWatch$Chart", "drawAnew", "(II)V"⟩, prog_3_method_2_code, 3, (Option.none : Option Jvm.ClassFile.FieldType), 2, 51)
def md_Patch_clear : Md := (⟨"PegWatch$Patch", "clear", "()V"⟩, prog_6_method_2_code, 1, (Option.none : Option Jvm.ClassFile.FieldType), 1, 23)
def md_Patch_put : Md := (⟨"PegWatch$Patch", "put", "(IIIIZ)V"⟩, prog_6_method_10_code, 11, (Option.none : Option Jvm.ClassFile.FieldType), 1, 21)
def md_JMath_max : Md := (⟨"java/lang/Math", "max", "(II)I"⟩, prog_16_method_65_code, 2, (Option.some Jvm.ClassFile.FieldType.int), 0, 0)
def md_JMath_min : Md := (⟨"java/lang/Math", "min", "(II)I"⟩, prog_16_method_69_code, 2, (Option.some Jvm.ClassFile.FieldType.int), 0, 0)
def md_Patch_firstBits : Md := (⟨"PegWatch$Patch", "firstBits", "(I)I"⟩, prog_6_method_13_code, 1, (Option.some Jvm.ClassFile.FieldType.int), 0, 0)
def md_Log_init : Md := (⟨"PegWatch$Log", "<init>", "()V"⟩, prog_5_method_1_code, 2, (Option.none : Option Jvm.ClassFile.FieldType), 3, 60)
def md_Row_init : Md := (⟨"PegWatch$Row", "<init>", "()V"⟩, prog_9_method_1_code, 1, (Option.none : Option Jvm.ClassFile.FieldType), 2, 40)
def md_Reach_init : Md := (⟨"PegWatch$Reach", "<init>", "()V"⟩, prog_7_method_1_code, 1, (Option.none : Option Jvm.ClassFile.FieldType), 1, 20)
def md_Row_become : Md := (⟨"PegWatch$Row", "become", "(IIII)V"⟩, prog_9_method_5_code, 5, (Option.none : Option Jvm.ClassFile.FieldType), 0, 0)
def md_Log_startFrom : Md := (⟨"PegWatch$Log", "startFrom", "(III)V"⟩, prog_5_method_2_code, 4, (Option.none : Option Jvm.ClassFile.FieldType), 0, 0)
def md_Reckoning_init : Md := (⟨"PegWatch$Reckoning", "<init>", "(LPegWatch$Chart;LPegWatch$Board;LPegWatch$Log;)V"⟩, prog_8_method_1_code, 5, (Option.none : Option Jvm.ClassFile.FieldType), 2, 40)
def md_Voyage_init : Md := (⟨"PegWatch$Voyage", "<init>", "(LPegWatch$Chart;)V"⟩, prog_10_method_1_code, 2, (Option.none : Option Jvm.ClassFile.FieldType), 2, 40)
def md_Peg_name : Md := (⟨"PegWatch", "name", "(I)I"⟩, prog_1_method_2_code, 2, (Option.some Jvm.ClassFile.FieldType.int), 1, 20)
def md_Compass_isPoint : Md := (⟨"PegWatch$Compass", "isPoint", "(I)Z"⟩, prog_4_method_2_code, 1, (Option.some Jvm.ClassFile.FieldType.boolean), 0, 0)
def md_Peg_read : Md := (⟨"PegWatch", "read", "(I)I"⟩, prog_1_method_3_code, 3, (Option.some Jvm.ClassFile.FieldType.int), 2, 44)
def md_Compass_hasFigureZero : Md := (⟨"PegWatch$Compass", "hasFigureZero", "(I)Z"⟩, prog_4_method_10_code, 2, (Option.some Jvm.ClassFile.FieldType.boolean), 0, 0)
def md_Compass_pointNamed : Md := (⟨"PegWatch$Compass", "pointNamed", "(I)I"⟩, prog_4_method_9_code, 2, (Option.some Jvm.ClassFile.FieldType.int), 0, 0)
def md_Compass_lettersThatBegin : Md := (⟨"PegWatch$Compass", "lettersThatBegin", "(I)I"⟩, prog_4_method_11_code, 3, (Option.some Jvm.ClassFile.FieldType.int), 1, 22)
def md_Compass_isBeginning : Md := (⟨"PegWatch$Compass", "isBeginning", "(I)Z"⟩, prog_4_method_12_code, 3, (Option.some Jvm.ClassFile.FieldType.boolean), 0, 0)
def md_Peg_turns : Md := (⟨"PegWatch", "turns", "(II)I"⟩, prog_1_method_4_code, 3, (Option.some Jvm.ClassFile.FieldType.int), 1, 21)
def md_Compass_turnsBetween : Md := (⟨"PegWatch$Compass", "turnsBetween", "(II)I"⟩, prog_4_method_4_code, 2, (Option.some Jvm.ClassFile.FieldType.int), 0, 0)
def md_Peg_go : Md := (⟨"PegWatch", "go", "(II)I"⟩, prog_1_method_5_code, 3, (Option.some Jvm.ClassFile.FieldType.int), 4, 85)
def md_Peg_isWithin : Md := (⟨"PegWatch", "isWithin", "(III)Z"⟩, prog_1_method_41_code, 3, (Option.some Jvm.ClassFile.FieldType.boolean), 0, 0)
def md_Compass_eastOf : Md := (⟨"PegWatch$Compass", "eastOf", "(I)I"⟩, prog_4_method_7_code, 1, (Option.some Jvm.ClassFile.FieldType.int), 3, 65)
def md_Compass_turned : Md := (⟨"PegWatch$Compass", "turned", "(II)I"⟩, prog_4_method_3_code, 2, (Option.some Jvm.ClassFile.FieldType.int), 0, 0)
def md_Compass_northOf : Md := (⟨"PegWatch$Compass", "northOf", "(I)I"⟩, prog_4_method_6_code, 3, (Option.some Jvm.ClassFile.FieldType.int), 2, 43)
def md_Compass_angle : Md := (⟨"PegWatch$Compass", "angle", "(II)I"⟩, prog_4_method_5_code, 3, (Option.some Jvm.ClassFile.FieldType.int), 1, 21)
def md_Peg_word : Md := (⟨"PegWatch", "word", "(I)I"⟩, prog_1_method_6_code, 2, (Option.some Jvm.ClassFile.FieldType.int), 1, 22)
def md_Words_append : Md := (⟨"PegWatch$Words", "append", "(I)Z"⟩, prog_12_method_2_code, 2, (Option.some Jvm.ClassFile.FieldType.boolean), 0, 0)
def md_Peg_hush : Md := (⟨"PegWatch", "hush", "()I"⟩, prog_1_method_7_code, 2, (Option.some Jvm.ClassFile.FieldType.int), 0, 0)
def md_Peg_fault : Md := (⟨"PegWatch", "fault", "()I"⟩, prog_1_method_8_code, 1, (Option.some Jvm.ClassFile.FieldType.int), 4, 85)
def md_Words_firstFault : Md := (⟨"PegWatch$Words", "firstFault", "()I"⟩, prog_12_method_3_code, 4, (Option.some Jvm.ClassFile.FieldType.int), 3, 62)
def md_Words_isWord : Md := (⟨"PegWatch$Words", "isWord", "(I)Z"⟩, prog_12_method_6_code, 1, (Option.some Jvm.ClassFile.FieldType.boolean), 2, 42)
def md_Words_turnOf : Md := (⟨"PegWatch$Words", "turnOf", "(I)I"⟩, prog_12_method_7_code, 1, (Option.some Jvm.ClassFile.FieldType.int), 1, 22)
def md_Peg_told : Md := (⟨"PegWatch", "told", "()I"⟩, prog_1_method_9_code, 1, (Option.some Jvm.ClassFile.FieldType.int), 4, 85)
def md_Words_meaning : Md := (⟨"PegWatch$Words", "meaning", "()I"⟩, prog_12_method_4_code, 4, (Option.some Jvm.ClassFile.FieldType.int), 2, 42)
def md_Words_halfway : Md := (⟨"PegWatch$Words", "halfway", "(II)I"⟩, prog_12_method_8_code, 2, (Option.some Jvm.ClassFile.FieldType.int), 1, 21)
def md_Peg_watch : Md := (⟨"PegWatch", "watch", "()I"⟩, prog_1_method_10_code, 1, (Option.some Jvm.ClassFile.FieldType.int), 0, 0)
def md_Peg_peg : Md := (⟨"PegWatch", "peg", "(III)I"⟩, prog_1_method_11_code, 4, (Option.some Jvm.ClassFile.FieldType.int), 7, 160)
def md_Board_isWatch : Md := (⟨"PegWatch$Board", "isWatch", "(I)Z"⟩, prog_2_method_2_code, 2, (Option.some Jvm.ClassFile.FieldType.boolean), 0, 0)
def md_Watch_putPeg : Md := (⟨"PegWatch$Watch", "putPeg", "(II)I"⟩, prog_11_method_3_code, 4, (Option.some Jvm.ClassFile.FieldType.int), 6, 137)
def md_Watch_sumUp : Md := (⟨"PegWatch$Watch", "sumUp", "()V"⟩, prog_11_method_11_code, 2, (Option.none : Option Jvm.ClassFile.FieldType), 5, 116)
def md_Watch_sumSpreads : Md := (⟨"PegWatch$Watch", "sumSpreads", "()V"⟩, prog_11_method_12_code, 4, (Option.none : Option Jvm.ClassFile.FieldType), 1, 21)
def md_Watch_knotsOfPeg : Md := (⟨"PegWatch$Watch", "knotsOfPeg", "(I)I"⟩, prog_11_method_9_code, 2, (Option.some Jvm.ClassFile.FieldType.int), 0, 0)
def md_Watch_sumParts : Md := (⟨"PegWatch$Watch", "sumParts", "(I)V"⟩, prog_11_method_13_code, 6, (Option.none : Option Jvm.ClassFile.FieldType), 4, 91)
def md_Watch_madeGood : Md := (⟨"PegWatch$Watch", "madeGood", "(II)I"⟩, prog_11_method_14_code, 6, (Option.some Jvm.ClassFile.FieldType.int), 3, 66)
def md_Compass_pointsFarther : Md := (⟨"PegWatch$Compass", "pointsFarther", "(III)I"⟩, prog_4_method_8_code, 4, (Option.some Jvm.ClassFile.FieldType.int), 2, 43)
def md_Peg_knots : Md := (⟨"PegWatch", "knots", "(III)I"⟩, prog_1_method_12_code, 4, (Option.some Jvm.ClassFile.FieldType.int), 7, 160)
def md_Watch_putKnots : Md := (⟨"PegWatch$Watch", "putKnots", "(II)I"⟩, prog_11_method_4_code, 4, (Option.some Jvm.ClassFile.FieldType.int), 6, 137)
def md_Peg_set : Md := (⟨"PegWatch", "set", "(III)I"⟩, prog_1_method_13_code, 4, (Option.some Jvm.ClassFile.FieldType.int), 7, 160)
def md_Watch_mostOf : Md := (⟨"PegWatch$Watch", "mostOf", "(I)I"⟩, prog_11_method_2_code, 1, (Option.some Jvm.ClassFile.FieldType.int), 0, 0)
def md_Watch_putTrait : Md := (⟨"PegWatch$Watch", "putTrait", "(II)I"⟩, prog_11_method_5_code, 4, (Option.some Jvm.ClassFile.FieldType.int), 6, 137)
def md_Peg_leeway : Md := (⟨"PegWatch", "leeway", "(III)I"⟩, prog_1_method_14_code, 4, (Option.some Jvm.ClassFile.FieldType.int), 3, 66)
def md_Peg_way : Md := (⟨"PegWatch", "way", "(IIII)I"⟩, prog_1_method_15_code, 7, (Option.some Jvm.ClassFile.FieldType.int), 3, 65)
def md_Watch_wayEast : Md := (⟨"PegWatch$Watch", "wayEast", "(II)I"⟩, prog_11_method_6_code, 3, (Option.some Jvm.ClassFile.FieldType.int), 2, 43)
def md_Watch_byGlass : Md := (⟨"PegWatch$Watch", "byGlass", "(II)I"⟩, prog_11_method_10_code, 2, (Option.some Jvm.ClassFile.FieldType.int), 1, 22)
def md_JMath_floorDiv : Md := (⟨"java/lang/Math", "floorDiv", "(II)I"⟩, prog_16_method_47_code, 3, (Option.some Jvm.ClassFile.FieldType.int), 0, 0)
def md_Watch_wayNorth : Md := (⟨"PegWatch$Watch", "wayNorth", "(II)I"⟩, prog_11_method_7_code, 3, (Option.some Jvm.ClassFile.FieldType.int), 2, 43)
def md_Peg_miss : Md := (⟨"PegWatch", "miss", "(I)I"⟩, prog_1_method_16_code, 3, (Option.some Jvm.ClassFile.FieldType.int), 1, 22)
def md_Peg_chart : Md := (⟨"PegWatch", "chart", "(II)I"⟩, prog_1_method_17_code, 3, (Option.some Jvm.ClassFile.FieldType.int), 3, 73)
def md_Peg_sea : Md := (⟨"PegWatch", "sea", "(IIIII)I"⟩, prog_1_method_18_code, 6, (Option.some Jvm.ClassFile.FieldType.int), 3, 78)
def md_Chart_isCell : Md := (⟨"PegWatch$Chart", "isCell", "(II)Z"⟩, prog_3_method_4_code, 3, (Option.some Jvm.ClassFile.FieldType.boolean), 0, 0)
def md_Chart_putDepth : Md := (⟨"PegWatch$Chart", "putDepth", "(IIIII)V"⟩, prog_3_method_6_code, 8, (Option.none : Option Jvm.ClassFile.FieldType), 2, 51)
def md_Peg_weed : Md := (⟨"PegWatch", "weed", "(IIIIZ)I"⟩, prog_1_method_19_code, 6, (Option.some Jvm.ClassFile.FieldType.int), 2, 51)
def md_Peg_about : Md := (⟨"PegWatch", "about", "(III)I"⟩, prog_1_method_20_code, 4, (Option.some Jvm.ClassFile.FieldType.int), 3, 69)
def md_Chart_depthAt : Md := (⟨"PegWatch$Chart", "depthAt", "(II)I"⟩, prog_3_method_5_code, 3, (Option.some Jvm.ClassFile.FieldType.int), 1, 22)
def md_Patch_holds : Md := (⟨"PegWatch$Patch", "holds", "(II)Z"⟩, prog_6_method_6_code, 3, (Option.some Jvm.ClassFile.FieldType.boolean), 1, 22)
def md_Peg_asNumber : Md := (⟨"PegWatch", "asNumber", "(Z)I"⟩, prog_1_method_42_code, 1, (Option.some Jvm.ClassFile.FieldType.int), 0, 0)
def md_Chart_leastNear : Md := (⟨"PegWatch$Chart", "leastNear", "(II)I"⟩, prog_3_method_7_code, 6, (Option.some Jvm.ClassFile.FieldType.int), 2, 44)
def md_Peg_stream : Md := (⟨"PegWatch", "stream", "(IIII)I"⟩, prog_1_method_21_code, 5, (Option.some Jvm.ClassFile.FieldType.int), 1, 24)
def md_Peg_isStream : Md := (⟨"PegWatch", "isStream", "(II)Z"⟩, prog_1_method_44_code, 2, (Option.some Jvm.ClassFile.FieldType.boolean), 0, 0)
def md_Peg_start : Md := (⟨"PegWatch", "start", "(III)I"⟩, prog_1_method_22_code, 4, (Option.some Jvm.ClassFile.FieldType.int), 4, 92)
def md_Reckoning_startCells : Md := (⟨"PegWatch$Reckoning", "startCells", "()I"⟩, prog_8_method_2_code, 1, (Option.some Jvm.ClassFile.FieldType.int), 3, 72)
def md_Reckoning_findStart : Md := (⟨"PegWatch$Reckoning", "findStart", "()V"⟩, prog_8_method_8_code, 2, (Option.none : Option Jvm.ClassFile.FieldType), 2, 51)
def md_Patch_cutTo : Md := (⟨"PegWatch$Patch", "cutTo", "(LPegWatch$Patch;)V"⟩, prog_6_method_8_code, 3, (Option.none : Option Jvm.ClassFile.FieldType), 0, 0)
def md_Patch_size : Md := (⟨"PegWatch$Patch", "size", "()I"⟩, prog_6_method_4_code, 3, (Option.some Jvm.ClassFile.FieldType.int), 1, 20)
def md_JInteger_bitCount : Md := (⟨"java/lang/Integer", "bitCount", "(I)I"⟩, prog_15_method_49_code, 1, (Option.some Jvm.ClassFile.FieldType.int), 0, 0)
def md_Peg_run : Md := (⟨"PegWatch", "run", "(I)I"⟩, prog_1_method_23_code, 2, (Option.some Jvm.ClassFile.FieldType.int), 2, 48)
def md_Log_holdsWatch : Md := (⟨"PegWatch$Log", "holdsWatch", "(I)Z"⟩, prog_5_method_5_code, 3, (Option.some Jvm.ClassFile.FieldType.boolean), 0, 0)
def md_Log_append : Md := (⟨"PegWatch$Log", "append", "(IIII)Z"⟩, prog_5_method_6_code, 5, (Option.some Jvm.ClassFile.FieldType.boolean), 1, 24)
def md_Peg_sign : Md := (⟨"PegWatch", "sign", "(III)I"⟩, prog_1_method_24_code, 6, (Option.some Jvm.ClassFile.FieldType.int), 2, 48)
def md_Row_isSign : Md := (⟨"PegWatch$Row", "isSign", "(III)Z"⟩, prog_9_method_4_code, 4, (Option.some Jvm.ClassFile.FieldType.boolean), 1, 22)
def md_Row_needsFirst : Md := (⟨"PegWatch$Row", "needsFirst", "(I)Z"⟩, prog_9_method_2_code, 1, (Option.some Jvm.ClassFile.FieldType.boolean), 0, 0)
def md_Row_needsSecond : Md := (⟨"PegWatch$Row", "needsSecond", "(I)Z"⟩, prog_9_method_3_code, 1, (Option.some Jvm.ClassFile.FieldType.boolean), 0, 0)
def md_Peg_count : Md := (⟨"PegWatch", "count", "(IZ)I"⟩, prog_1_method_25_code, 4, (Option.some Jvm.ClassFile.FieldType.int), 1, 21)
def md_Log_isRow : Md := (⟨"PegWatch$Log", "isRow", "(I)Z"⟩, prog_5_method_3_code, 2, (Option.some Jvm.ClassFile.FieldType.boolean), 0, 0)
def md_Peg_strike : Md := (⟨"PegWatch", "strike", "()I"⟩, prog_1_method_26_code, 1, (Option.some Jvm.ClassFile.FieldType.int), 0, 0)
def md_Peg_row : Md := (⟨"PegWatch", "row", "(II)I"⟩, prog_1_method_27_code, 3, (Option.some Jvm.ClassFile.FieldType.int), 2, 41)
def md_Row_fact : Md := (⟨"PegWatch$Row", "fact", "(I)I"⟩, prog_9_method_7_code, 2, (Option.some Jvm.ClassFile.FieldType.int), 1, 20)
def md_Peg_patch : Md := (⟨"PegWatch", "patch", "(I)I"⟩, prog_1_method_28_code, 2, (Option.some Jvm.ClassFile.FieldType.int), 6, 160)
def md_Log_isBehind : Md := (⟨"PegWatch$Log", "isBehind", "(I)Z"⟩, prog_5_method_4_code, 2, (Option.some Jvm.ClassFile.FieldType.boolean), 0, 0)
def md_Reckoning_lookAhead : Md := (⟨"PegWatch$Reckoning", "lookAhead", "()LPegWatch$Patch;"⟩, prog_8_method_3_code, 2, (Option.some (Jvm.ClassFile.FieldType.object "PegWatch$Patch")), 5, 139)
def md_Reckoning_makeReady : Md := (⟨"PegWatch$Reckoning", "makeReady", "(LPegWatch$Row;)V"⟩, prog_8_method_9_code, 2, (Option.none : Option Jvm.ClassFile.FieldType), 4, 102)
def md_Row_isWatch : Md := (⟨"PegWatch$Row", "isWatch", "()Z"⟩, prog_9_method_6_code, 1, (Option.some Jvm.ClassFile.FieldType.boolean), 0, 0)
def md_Reckoning_stretchCounted : Md := (⟨"PegWatch$Reckoning", "stretchCounted", "(LPegWatch$Row;II)Z"⟩, prog_8_method_10_code, 5, (Option.some Jvm.ClassFile.FieldType.boolean), 3, 67)
def md_Reckoning_stretch : Md := (⟨"PegWatch$Reckoning", "stretch", "(LPegWatch$Reach;III)Z"⟩, prog_8_method_11_code, 6, (Option.some Jvm.ClassFile.FieldType.boolean), 2, 42)
def md_Reach_cellsDown : Md := (⟨"PegWatch$Reach", "cellsDown", "(I)I"⟩, prog_7_method_3_code, 1, (Option.some Jvm.ClassFile.FieldType.int), 1, 22)
def md_Reach_cellsUp : Md := (⟨"PegWatch$Reach", "cellsUp", "(I)I"⟩, prog_7_method_4_code, 1, (Option.some Jvm.ClassFile.FieldType.int), 1, 22)
def md_Reach_become : Md := (⟨"PegWatch$Reach", "become", "(IIII)Z"⟩, prog_7_method_2_code, 6, (Option.some Jvm.ClassFile.FieldType.boolean), 0, 0)
def md_Row_findStaying : Md := (⟨"PegWatch$Row", "findStaying", "(LPegWatch$Chart;)V"⟩, prog_9_method_8_code, 2, (Option.none : Option Jvm.ClassFile.FieldType), 3, 81)
def md_Chart_findDepths : Md := (⟨"PegWatch$Chart", "findDepths", "(IILPegWatch$Patch;)V"⟩, prog_3_method_9_code, 6, (Option.none : Option Jvm.ClassFile.FieldType), 2, 51)
def md_Chart_findNear : Md := (⟨"PegWatch$Chart", "findNear", "(ILPegWatch$Patch;)V"⟩, prog_3_method_8_code, 3, (Option.none : Option Jvm.ClassFile.FieldType), 2, 59)
def md_Patch_becomeReached : Md := (⟨"PegWatch$Patch", "becomeReached", "(LPegWatch$Patch;IIIILPegWatch$Chart;)V"⟩, prog_6_method_11_code, 14, (Option.none : Option Jvm.ClassFile.FieldType), 1, 26)
def md_Patch_smear : Md := (⟨"PegWatch$Patch", "smear", "(III)I"⟩, prog_6_method_14_code, 7, (Option.some Jvm.ClassFile.FieldType.int), 0, 0)
def md_Patch_copy : Md := (⟨"PegWatch$Patch", "copy", "(LPegWatch$Patch;)V"⟩, prog_6_method_3_code, 2, (Option.none : Option Jvm.ClassFile.FieldType), 1, 48)
def md_Patch_turnOver : Md := (⟨"PegWatch$Patch", "turnOver", "(LPegWatch$Patch;)V"⟩, prog_6_method_9_code, 3, (Option.none : Option Jvm.ClassFile.FieldType), 0, 0)
def md_Reckoning_takeOnFrom : Md := (⟨"PegWatch$Reckoning", "takeOnFrom", "(I)V"⟩, prog_8_method_13_code, 3, (Option.none : Option Jvm.ClassFile.FieldType), 4, 117)
def md_Row_takeOn : Md := (⟨"PegWatch$Row", "takeOn", "(ZLPegWatch$Patch;LPegWatch$Patch;LPegWatch$Chart;)V"⟩, prog_9_method_9_code, 6, (Option.none : Option Jvm.ClassFile.FieldType), 3, 92)
def md_Row_cut : Md := (⟨"PegWatch$Row", "cut", "(ZLPegWatch$Patch;LPegWatch$Patch;)V"⟩, prog_9_method_11_code, 4, (Option.none : Option Jvm.ClassFile.FieldType), 2, 69)
def md_Peg_has : Md := (⟨"PegWatch", "has", "(III)I"⟩, prog_1_method_29_code, 4, (Option.some Jvm.ClassFile.FieldType.int), 6, 160)
def md_Peg_here : Md := (⟨"PegWatch", "here", "(I)I"⟩, prog_1_method_30_code, 2, (Option.some Jvm.ClassFile.FieldType.int), 7, 181)
def md_Reckoning_seenFromEnd : Md := (⟨"PegWatch$Reckoning", "seenFromEnd", "(I)LPegWatch$Patch;"⟩, prog_8_method_4_code, 2, (Option.some (Jvm.ClassFile.FieldType.object "PegWatch$Patch")), 6, 160)
def md_Reckoning_lookBack : Md := (⟨"PegWatch$Reckoning", "lookBack", "()V"⟩, prog_8_method_14_code, 2, (Option.none : Option Jvm.ClassFile.FieldType), 4, 116)
def md_Row_takeBack : Md := (⟨"PegWatch$Row", "takeBack", "(LPegWatch$Patch;LPegWatch$Patch;LPegWatch$Chart;)V"⟩, prog_9_method_10_code, 5, (Option.none : Option Jvm.ClassFile.FieldType), 3, 92)
def md_Peg_was : Md := (⟨"PegWatch", "was", "(III)I"⟩, prog_1_method_31_code, 4, (Option.some Jvm.ClassFile.FieldType.int), 7, 181)
def md_Peg_blamed : Md := (⟨"PegWatch", "blamed", "()I"⟩, prog_1_method_32_code, 1, (Option.some Jvm.ClassFile.FieldType.int), 7, 185)
def md_Peg_mayBlame : Md := (⟨"PegWatch", "mayBlame", "()Z"⟩, prog_1_method_45_code, 1, (Option.some Jvm.ClassFile.FieldType.boolean), 6, 160)
def md_Patch_isEmpty : Md := (⟨"PegWatch$Patch", "isEmpty", "()Z"⟩, prog_6_method_5_code, 2, (Option.some Jvm.ClassFile.FieldType.boolean), 0, 0)
def md_Reckoning_findBlamed : Md := (⟨"PegWatch$Reckoning", "findBlamed", "()V"⟩, prog_8_method_6_code, 3, (Option.none : Option Jvm.ClassFile.FieldType), 6, 163)
def md_Reckoning_leadsOnWithout : Md := (⟨"PegWatch$Reckoning", "leadsOnWithout", "(ILPegWatch$Patch;LPegWatch$Patch;)Z"⟩, prog_8_method_15_code, 4, (Option.some Jvm.ClassFile.FieldType.boolean), 4, 117)
def md_Patch_meets : Md := (⟨"PegWatch$Patch", "meets", "(LPegWatch$Patch;)Z"⟩, prog_6_method_7_code, 3, (Option.some Jvm.ClassFile.FieldType.boolean), 0, 0)
def md_Reckoning_add : Md := (⟨"PegWatch$Reckoning", "add", "(I)V"⟩, prog_8_method_17_code, 2, (Option.none : Option Jvm.ClassFile.FieldType), 0, 0)
def md_Reckoning_findPairsOf : Md := (⟨"PegWatch$Reckoning", "findPairsOf", "(I)V"⟩, prog_8_method_16_code, 4, (Option.none : Option Jvm.ClassFile.FieldType), 5, 140)
def md_Peg_blame : Md := (⟨"PegWatch", "blame", "(I)I"⟩, prog_1_method_33_code, 2, (Option.some Jvm.ClassFile.FieldType.int), 7, 185)
def md_Reckoning_foundAt : Md := (⟨"PegWatch$Reckoning", "foundAt", "(I)I"⟩, prog_8_method_5_code, 2, (Option.some Jvm.ClassFile.FieldType.int), 0, 0)
def md_Peg_fits : Md := (⟨"PegWatch", "fits", "(II)I"⟩, prog_1_method_34_code, 3, (Option.some Jvm.ClassFile.FieldType.int), 7, 191)
def md_Reckoning_findFits : Md := (⟨"PegWatch$Reckoning", "findFits", "(II)V"⟩, prog_8_method_7_code, 6, (Option.none : Option Jvm.ClassFile.FieldType), 6, 166)
def md_Reckoning_lookAheadBy : Md := (⟨"PegWatch$Reckoning", "lookAheadBy", "(III)LPegWatch$Patch;"⟩, prog_8_method_12_code, 8, (Option.some (Jvm.ClassFile.FieldType.object "PegWatch$Patch")), 5, 139)
def md_Peg_fit : Md := (⟨"PegWatch", "fit", "(III)I"⟩, prog_1_method_35_code, 4, (Option.some Jvm.ClassFile.FieldType.int), 7, 191)
def md_Peg_sights : Md := (⟨"PegWatch", "sights", "(IIIIIII)I"⟩, prog_1_method_36_code, 8, (Option.some Jvm.ClassFile.FieldType.int), 6, 160)
def md_Voyage_isVoyage : Md := (⟨"PegWatch$Voyage", "isVoyage", "(IIII)Z"⟩, prog_10_method_2_code, 4, (Option.some Jvm.ClassFile.FieldType.boolean), 1, 22)
def md_Voyage_fitOut : Md := (⟨"PegWatch$Voyage", "fitOut", "(III)V"⟩, prog_10_method_3_code, 4, (Option.none : Option Jvm.ClassFile.FieldType), 3, 81)
def md_Voyage_sightedFromCell : Md := (⟨"PegWatch$Voyage", "sightedFromCell", "(IIII)I"⟩, prog_10_method_4_code, 5, (Option.some Jvm.ClassFile.FieldType.int), 5, 110)
def md_Voyage_sightedFromLeft : Md := (⟨"PegWatch$Voyage", "sightedFromLeft", "(II)I"⟩, prog_10_method_7_code, 6, (Option.some Jvm.ClassFile.FieldType.int), 4, 85)
def md_Voyage_isOneAground : Md := (⟨"PegWatch$Voyage", "isOneAground", "()Z"⟩, prog_10_method_8_code, 4, (Option.some Jvm.ClassFile.FieldType.boolean), 2, 44)
def md_Patch_seenFrom : Md := (⟨"PegWatch$Patch", "seenFrom", "(II)I"⟩, prog_6_method_12_code, 3, (Option.some Jvm.ClassFile.FieldType.int), 1, 22)
def md_Voyage_dropSighted : Md := (⟨"PegWatch$Voyage", "dropSighted", "()V"⟩, prog_10_method_9_code, 5, (Option.none : Option Jvm.ClassFile.FieldType), 2, 44)
def md_Peg_sure : Md := (⟨"PegWatch", "sure", "(IIIII)I"⟩, prog_1_method_37_code, 7, (Option.some Jvm.ClassFile.FieldType.int), 6, 160)
def md_Voyage_sightedFromAll : Md := (⟨"PegWatch$Voyage", "sightedFromAll", "(LPegWatch$Patch;II)I"⟩, prog_10_method_5_code, 4, (Option.some Jvm.ClassFile.FieldType.int), 5, 110)
def md_Peg_course : Md := (⟨"PegWatch", "course", "(IIII)I"⟩, prog_1_method_38_code, 6, (Option.some Jvm.ClassFile.FieldType.int), 7, 160)
def md_Voyage_soonestPoint : Md := (⟨"PegWatch$Voyage", "soonestPoint", "(LPegWatch$Patch;I)I"⟩, prog_10_method_6_code, 7, (Option.some Jvm.ClassFile.FieldType.int), 6, 133)
def md_Peg_many : Md := (⟨"PegWatch", "many", "(I)I"⟩, prog_1_method_39_code, 2, (Option.some Jvm.ClassFile.FieldType.int), 2, 42)
def md_Peg_digest : Md := (⟨"PegWatch", "digest", "()J"⟩, prog_1_method_40_code, 3, (Option.some Jvm.ClassFile.FieldType.long), 6, 160)
def md_Words_foldInto : Md := (⟨"PegWatch$Words", "foldInto", "(J)J"⟩, prog_12_method_5_code, 6, (Option.some Jvm.ClassFile.FieldType.long), 1, 22)
def md_Peg_fold : Md := (⟨"PegWatch", "fold", "(JI)J"⟩, prog_1_method_43_code, 3, (Option.some Jvm.ClassFile.FieldType.long), 0, 0)
def md_Board_foldWatchesInto : Md := (⟨"PegWatch$Board", "foldWatchesInto", "(J)J"⟩, prog_2_method_3_code, 6, (Option.some Jvm.ClassFile.FieldType.long), 2, 47)
def md_Watch_foldInto : Md := (⟨"PegWatch$Watch", "foldInto", "(J)J"⟩, prog_11_method_8_code, 6, (Option.some Jvm.ClassFile.FieldType.long), 1, 22)
def md_Chart_foldInto : Md := (⟨"PegWatch$Chart", "foldInto", "(J)J"⟩, prog_3_method_10_code, 7, (Option.some Jvm.ClassFile.FieldType.long), 2, 44)
def md_Log_foldInto : Md := (⟨"PegWatch$Log", "foldInto", "(J)J"⟩, prog_5_method_7_code, 7, (Option.some Jvm.ClassFile.FieldType.long), 2, 41)
def md_Mod_init : Md := (⟨"PegWatchModel", "<init>", "()V"⟩, prog_14_method_1_code, 1, (Option.none : Option Jvm.ClassFile.FieldType), 1, 21)
def md_Mod_flood : Md := (⟨"PegWatchModel", "flood", "()V"⟩, prog_14_method_4_code, 2, (Option.none : Option Jvm.ClassFile.FieldType), 0, 0)
def md_Mod_name : Md := (⟨"PegWatchModel", "name", "(I)I"⟩, prog_14_method_6_code, 2, (Option.some Jvm.ClassFile.FieldType.int), 2, 42)
def md_Mod_isPoint : Md := (⟨"PegWatchModel", "isPoint", "(I)Z"⟩, prog_14_method_5_code, 1, (Option.some Jvm.ClassFile.FieldType.boolean), 1, 22)
def md_Mod_in : Md := (⟨"PegWatchModel", "in", "(III)Z"⟩, prog_14_method_3_code, 3, (Option.some Jvm.ClassFile.FieldType.boolean), 0, 0)
def md_Mod_read : Md := (⟨"PegWatchModel", "read", "(I)I"⟩, prog_14_method_10_code, 4, (Option.some Jvm.ClassFile.FieldType.int), 2, 47)
def md_Mod_lettersOf : Md := (⟨"PegWatchModel", "lettersOf", "(I)I"⟩, prog_14_method_7_code, 3, (Option.some Jvm.ClassFile.FieldType.int), 0, 0)
def md_Mod_cutOff : Md := (⟨"PegWatchModel", "cutOff", "(II)I"⟩, prog_14_method_8_code, 4, (Option.some Jvm.ClassFile.FieldType.int), 0, 0)
def md_Mod_begins : Md := (⟨"PegWatchModel", "begins", "(I)Z"⟩, prog_14_method_9_code, 5, (Option.some Jvm.ClassFile.FieldType.boolean), 1, 23)
def md_Mod_turns : Md := (⟨"PegWatchModel", "turns", "(II)I"⟩, prog_14_method_12_code, 3, (Option.some Jvm.ClassFile.FieldType.int), 2, 42)
def md_Mod_turnsOf : Md := (⟨"PegWatchModel", "turnsOf", "(II)I"⟩, prog_14_method_11_code, 2, (Option.some Jvm.ClassFile.FieldType.int), 0, 0)
def md_Mod_go : Md := (⟨"PegWatchModel", "go", "(II)I"⟩, prog_14_method_15_code, 3, (Option.some Jvm.ClassFile.FieldType.int), 2, 43)
def md_Mod_eastOf : Md := (⟨"PegWatchModel", "eastOf", "(I)I"⟩, prog_14_method_14_code, 2, (Option.some Jvm.ClassFile.FieldType.int), 1, 22)
def md_Mod_northOf : Md := (⟨"PegWatchModel", "northOf", "(I)I"⟩, prog_14_method_13_code, 3, (Option.some Jvm.ClassFile.FieldType.int), 0, 0)
def md_Mod_word : Md := (⟨"PegWatchModel", "word", "(I)I"⟩, prog_14_method_16_code, 2, (Option.some Jvm.ClassFile.FieldType.int), 1, 22)
def md_Mod_hush : Md := (⟨"PegWatchModel", "hush", "()I"⟩, prog_14_method_17_code, 2, (Option.some Jvm.ClassFile.FieldType.int), 0, 0)
def md_Mod_fault : Md := (⟨"PegWatchModel", "fault", "()I"⟩, prog_14_method_19_code, 1, (Option.some Jvm.ClassFile.FieldType.int), 3, 66)
def md_Mod_faultOf : Md := (⟨"PegWatchModel", "faultOf", "()I"⟩, prog_14_method_18_code, 5, (Option.some Jvm.ClassFile.FieldType.int), 2, 42)
def md_Mod_told : Md := (⟨"PegWatchModel", "told", "()I"⟩, prog_14_method_20_code, 6, (Option.some Jvm.ClassFile.FieldType.int), 3, 66)
def md_Mod_watch : Md := (⟨"PegWatchModel", "watch", "()I"⟩, prog_14_method_22_code, 2, (Option.some Jvm.ClassFile.FieldType.int), 0, 0)
def md_Mod_peg : Md := (⟨"PegWatchModel", "peg", "(III)I"⟩, prog_14_method_23_code, 5, (Option.some Jvm.ClassFile.FieldType.int), 2, 43)
def md_Mod_isWatch : Md := (⟨"PegWatchModel", "isWatch", "(I)Z"⟩, prog_14_method_21_code, 2, (Option.some Jvm.ClassFile.FieldType.boolean), 1, 22)
def md_Mod_knots : Md := (⟨"PegWatchModel", "knots", "(III)I"⟩, prog_14_method_24_code, 5, (Option.some Jvm.ClassFile.FieldType.int), 2, 43)
def md_Mod_set : Md := (⟨"PegWatchModel", "set", "(III)I"⟩, prog_14_method_25_code, 5, (Option.some Jvm.ClassFile.FieldType.int), 2, 43)
def md_Mod_leeway : Md := (⟨"PegWatchModel", "leeway", "(III)I"⟩, prog_14_method_27_code, 4, (Option.some Jvm.ClassFile.FieldType.int), 2, 45)
def md_Mod_leewayOf : Md := (⟨"PegWatchModel", "leewayOf", "(III)I"⟩, prog_14_method_26_code, 5, (Option.some Jvm.ClassFile.FieldType.int), 1, 21)
def md_Mod_way : Md := (⟨"PegWatchModel", "way", "(IIII)I"⟩, prog_14_method_30_code, 5, (Option.some Jvm.ClassFile.FieldType.int), 3, 75)
def md_Mod_goWatch : Md := (⟨"PegWatchModel", "goWatch", "(IIIZ)V"⟩, prog_14_method_29_code, 11, (Option.none : Option Jvm.ClassFile.FieldType), 2, 45)
def md_Mod_down : Md := (⟨"PegWatchModel", "down", "(II)I"⟩, prog_14_method_28_code, 3, (Option.some Jvm.ClassFile.FieldType.int), 0, 0)
def md_Mod_miss : Md := (⟨"PegWatchModel", "miss", "(I)I"⟩, prog_14_method_31_code, 3, (Option.some Jvm.ClassFile.FieldType.int), 1, 22)
def md_Mod_chart : Md := (⟨"PegWatchModel", "chart", "(II)I"⟩, prog_14_method_34_code, 3, (Option.some Jvm.ClassFile.FieldType.int), 1, 22)
def md_Mod_sea : Md := (⟨"PegWatchModel", "sea", "(IIIII)I"⟩, prog_14_method_35_code, 8, (Option.some Jvm.ClassFile.FieldType.int), 2, 44)
def md_Mod_isCell : Md := (⟨"PegWatchModel", "isCell", "(II)Z"⟩, prog_14_method_32_code, 3, (Option.some Jvm.ClassFile.FieldType.boolean), 1, 22)
def md_Mod_at : Md := (⟨"PegWatchModel", "at", "(II)I"⟩, prog_14_method_33_code, 2, (Option.some Jvm.ClassFile.FieldType.int), 0, 0)
def md_Mod_weed : Md := (⟨"PegWatchModel", "weed", "(IIIIZ)I"⟩, prog_14_method_36_code, 8, (Option.some Jvm.ClassFile.FieldType.int), 2, 44)
def md_Mod_about : Md := (⟨"PegWatchModel", "about", "(III)I"⟩, prog_14_method_39_code, 4, (Option.some Jvm.ClassFile.FieldType.int), 4, 91)
def md_Mod_nearest : Md := (⟨"PegWatchModel", "nearest", "(II)I"⟩, prog_14_method_38_code, 6, (Option.some Jvm.ClassFile.FieldType.int), 3, 66)
def md_Mod_isLand : Md := (⟨"PegWatchModel", "isLand", "(II)Z"⟩, prog_14_method_37_code, 3, (Option.some Jvm.ClassFile.FieldType.boolean), 2, 44)
def md_Mod_stream : Md := (⟨"PegWatchModel", "stream", "(IIII)I"⟩, prog_14_method_40_code, 5, (Option.some Jvm.ClassFile.FieldType.int), 1, 22)
def md_Mod_run : Md := (⟨"PegWatchModel", "run", "(I)I"⟩, prog_14_method_41_code, 3, (Option.some Jvm.ClassFile.FieldType.int), 2, 43)
def md_Mod_add : Md := (⟨"PegWatchModel", "add", "(IIII)I"⟩, prog_14_method_42_code, 5, (Option.some Jvm.ClassFile.FieldType.int), 0, 0)
def md_Mod_sign : Md := (⟨"PegWatchModel", "sign", "(III)I"⟩, prog_14_method_43_code, 7, (Option.some Jvm.ClassFile.FieldType.int), 1, 24)
def md_Mod_count : Md := (⟨"PegWatchModel", "count", "(IZ)I"⟩, prog_14_method_45_code, 4, (Option.some Jvm.ClassFile.FieldType.int), 2, 43)
def md_Mod_isRow : Md := (⟨"PegWatchModel", "isRow", "(I)Z"⟩, prog_14_method_44_code, 2, (Option.some Jvm.ClassFile.FieldType.boolean), 1, 22)
def md_Mod_strike : Md := (⟨"PegWatchModel", "strike", "()I"⟩, prog_14_method_46_code, 1, (Option.some Jvm.ClassFile.FieldType.int), 0, 0)
def md_Mod_row : Md := (⟨"PegWatchModel", "row", "(II)I"⟩, prog_14_method_47_code, 3, (Option.some Jvm.ClassFile.FieldType.int), 2, 43)
def md_Mod_start : Md := (⟨"PegWatchModel", "start", "(III)I"⟩, prog_14_method_48_code, 4, (Option.some Jvm.ClassFile.FieldType.int), 4, 89)
def md_Mod_begin : Md := (⟨"PegWatchModel", "begin", "()V"⟩, prog_14_method_49_code, 4, (Option.none : Option Jvm.ClassFile.FieldType), 3, 66)
def md_Mod_cells : Md := (⟨"PegWatchModel", "cells", "()I"⟩, prog_14_method_50_code, 4, (Option.some Jvm.ClassFile.FieldType.int), 1, 21)
def md_Mod_patch : Md := (⟨"PegWatchModel", "patch", "(I)I"⟩, prog_14_method_66_code, 2, (Option.some Jvm.ClassFile.FieldType.int), 8, 183)
def md_Mod_goPlain : Md := (⟨"PegWatchModel", "goPlain", "()V"⟩, prog_14_method_64_code, 1, (Option.none : Option Jvm.ClassFile.FieldType), 7, 163)
def md_Mod_measure : Md := (⟨"PegWatchModel", "measure", "()V"⟩, prog_14_method_52_code, 3, (Option.none : Option Jvm.ClassFile.FieldType), 4, 91)
def md_Mod_goAll : Md := (⟨"PegWatchModel", "goAll", "(III)V"⟩, prog_14_method_63_code, 5, (Option.none : Option Jvm.ClassFile.FieldType), 6, 139)
def md_Mod_keep : Md := (⟨"PegWatchModel", "keep", "(I)V"⟩, prog_14_method_62_code, 3, (Option.none : Option Jvm.ClassFile.FieldType), 0, 0)
def md_Mod_step : Md := (⟨"PegWatchModel", "step", "(IIII)V"⟩, prog_14_method_61_code, 5, (Option.none : Option Jvm.ClassFile.FieldType), 5, 115)
def md_Mod_wayOf : Md := (⟨"PegWatchModel", "wayOf", "(IIII)V"⟩, prog_14_method_60_code, 7, (Option.none : Option Jvm.ClassFile.FieldType), 3, 75)
def md_Mod_eastLow : Md := (⟨"PegWatchModel", "eastLow", "()I"⟩, prog_14_method_56_code, 1, (Option.some Jvm.ClassFile.FieldType.int), 1, 22)
def md_Mod_eastHigh : Md := (⟨"PegWatchModel", "eastHigh", "()I"⟩, prog_14_method_57_code, 1, (Option.some Jvm.ClassFile.FieldType.int), 1, 22)
def md_Mod_northLow : Md := (⟨"PegWatchModel", "northLow", "()I"⟩, prog_14_method_58_code, 1, (Option.some Jvm.ClassFile.FieldType.int), 1, 22)
def md_Mod_northHigh : Md := (⟨"PegWatchModel", "northHigh", "()I"⟩, prog_14_method_59_code, 1, (Option.some Jvm.ClassFile.FieldType.int), 1, 22)
def md_Mod_dilate : Md := (⟨"PegWatchModel", "dilate", "(IIII)V"⟩, prog_14_method_51_code, 11, (Option.none : Option Jvm.ClassFile.FieldType), 1, 21)
def md_Mod_cutBy : Md := (⟨"PegWatchModel", "cutBy", "(I)V"⟩, prog_14_method_55_code, 4, (Option.none : Option Jvm.ClassFile.FieldType), 4, 92)
def md_Mod_isSign : Md := (⟨"PegWatchModel", "isSign", "(III)Z"⟩, prog_14_method_54_code, 6, (Option.some Jvm.ClassFile.FieldType.boolean), 3, 67)
def md_Mod_isNear : Md := (⟨"PegWatchModel", "isNear", "(III)Z"⟩, prog_14_method_53_code, 4, (Option.some Jvm.ClassFile.FieldType.boolean), 2, 44)
def md_Mod_lay : Md := (⟨"PegWatchModel", "lay", "(I)V"⟩, prog_14_method_65_code, 3, (Option.none : Option Jvm.ClassFile.FieldType), 0, 0)
def md_Mod_has : Md := (⟨"PegWatchModel", "has", "(III)I"⟩, prog_14_method_67_code, 4, (Option.some Jvm.ClassFile.FieldType.int), 8, 183)
def md_Mod_here : Md := (⟨"PegWatchModel", "here", "(I)I"⟩, prog_14_method_69_code, 2, (Option.some Jvm.ClassFile.FieldType.int), 9, 206)
def md_Mod_goBack : Md := (⟨"PegWatchModel", "goBack", "(I)V"⟩, prog_14_method_68_code, 4, (Option.none : Option Jvm.ClassFile.FieldType), 8, 183)
def md_Mod_was : Md := (⟨"PegWatchModel", "was", "(III)I"⟩, prog_14_method_70_code, 4, (Option.some Jvm.ClassFile.FieldType.int), 9, 206)
def md_Mod_blamed : Md := (⟨"PegWatchModel", "blamed", "()I"⟩, prog_14_method_76_code, 1, (Option.some Jvm.ClassFile.FieldType.int), 10, 233)
def md_Mod_isBlaming : Md := (⟨"PegWatchModel", "isBlaming", "()Z"⟩, prog_14_method_75_code, 1, (Option.some Jvm.ClassFile.FieldType.boolean), 7, 161)
def md_Mod_isEmptyNow : Md := (⟨"PegWatchModel", "isEmptyNow", "()Z"⟩, prog_14_method_71_code, 3, (Option.some Jvm.ClassFile.FieldType.boolean), 6, 139)
def md_Mod_seek : Md := (⟨"PegWatchModel", "seek", "(I)I"⟩, prog_14_method_73_code, 4, (Option.some Jvm.ClassFile.FieldType.int), 9, 210)
def md_Mod_helps : Md := (⟨"PegWatchModel", "helps", "(II)Z"⟩, prog_14_method_72_code, 6, (Option.some Jvm.ClassFile.FieldType.boolean), 7, 161)
def md_Mod_seekPairs : Md := (⟨"PegWatchModel", "seekPairs", "(I)I"⟩, prog_14_method_74_code, 5, (Option.some Jvm.ClassFile.FieldType.int), 8, 186)
def md_Mod_blame : Md := (⟨"PegWatchModel", "blame", "(I)I"⟩, prog_14_method_77_code, 2, (Option.some Jvm.ClassFile.FieldType.int), 10, 233)
def md_Mod_fits : Md := (⟨"PegWatchModel", "fits", "(II)I"⟩, prog_14_method_79_code, 3, (Option.some Jvm.ClassFile.FieldType.int), 8, 191)
def md_Mod_seekFits : Md := (⟨"PegWatchModel", "seekFits", "(III)I"⟩, prog_14_method_78_code, 9, (Option.some Jvm.ClassFile.FieldType.int), 7, 163)
def md_Mod_fit : Md := (⟨"PegWatchModel", "fit", "(III)I"⟩, prog_14_method_80_code, 4, (Option.some Jvm.ClassFile.FieldType.int), 8, 191)
def md_Mod_sights : Md := (⟨"PegWatchModel", "sights", "(IIIIIII)I"⟩, prog_14_method_84_code, 8, (Option.some Jvm.ClassFile.FieldType.int), 8, 183)
def md_Mod_isCourse : Md := (⟨"PegWatchModel", "isCourse", "(IIII)Z"⟩, prog_14_method_83_code, 4, (Option.some Jvm.ClassFile.FieldType.boolean), 1, 22)
def md_Mod_seesAt : Md := (⟨"PegWatchModel", "seesAt", "(IIIIIII)I"⟩, prog_14_method_82_code, 12, (Option.some Jvm.ClassFile.FieldType.int), 3, 67)
def md_Mod_up : Md := (⟨"PegWatchModel", "up", "(II)I"⟩, prog_14_method_81_code, 2, (Option.some Jvm.ClassFile.FieldType.int), 1, 22)
def md_Mod_sure : Md := (⟨"PegWatchModel", "sure", "(IIIII)I"⟩, prog_14_method_86_code, 6, (Option.some Jvm.ClassFile.FieldType.int), 8, 183)
def md_Mod_sureBy : Md := (⟨"PegWatchModel", "sureBy", "(IIIII)I"⟩, prog_14_method_85_code, 10, (Option.some Jvm.ClassFile.FieldType.int), 4, 98)
def md_Mod_course : Md := (⟨"PegWatchModel", "course", "(IIII)I"⟩, prog_14_method_87_code, 9, (Option.some Jvm.ClassFile.FieldType.int), 8, 183)
def md_Mod_many : Md := (⟨"PegWatchModel", "many", "(I)I"⟩, prog_14_method_89_code, 2, (Option.some Jvm.ClassFile.FieldType.int), 4, 89)
def md_Mod_landMany : Md := (⟨"PegWatchModel", "landMany", "()I"⟩, prog_14_method_88_code, 4, (Option.some Jvm.ClassFile.FieldType.int), 3, 66)
def md_Mod_digest : Md := (⟨"PegWatchModel", "digest", "()J"⟩, prog_14_method_93_code, 3, (Option.some Jvm.ClassFile.FieldType.long), 9, 204)
def md_Mod_mix : Md := (⟨"PegWatchModel", "mix", "(J)V"⟩, prog_14_method_90_code, 3, (Option.none : Option Jvm.ClassFile.FieldType), 0, 0)
def md_Mod_mixWatch : Md := (⟨"PegWatchModel", "mixWatch", "(I)V"⟩, prog_14_method_91_code, 3, (Option.none : Option Jvm.ClassFile.FieldType), 1, 22)
def md_Mod_mixChart : Md := (⟨"PegWatchModel", "mixChart", "()V"⟩, prog_14_method_92_code, 3, (Option.none : Option Jvm.ClassFile.FieldType), 1, 22)
def md_Law_law : Md := (⟨"PegWatchLaw", "law", "([I)Z"⟩, code, 4, (Option.some Jvm.ClassFile.FieldType.boolean), 11, 254)
end
section
/-! THE ABSTRACT HEAP: a list of cells; an address is a place in the list (the machine's is z more); statics' arrays and the script, which nobody writes, are references of another kind (retAddr k) -/
abbrev Ce : Type := (Nat × Nat × (Nat → Int32)) ⊕ ((Nat × Nat × (Nat → Option Nat)) ⊕ (Nat × List Value))
def tv (z : Nat) (ar : Nat → Nat) (v : Value) : Value := match v with
  | .ref a => .ref (z + a)
  | .retAddr k => .ref (ar k)
  | w => w
theorem tv_cat (z : Nat) (ar : Nat → Nat) (v : Value) : (tv z ar v).category = v.category := by cases v <;> rfl
def tf (n : Nat) : FieldType := match n with
  | 0 => .int
  | _ => .boolean
def atC (D : va_G) (z : Nat) (ar : Nat → Nat) (ac : Nat → ClassId) (a : Nat) (c : Ce) (H : Heap) : Prop := match c with
  | .inl (_, n, f) => H[z + a]? = some (arrV (ac a) n (fun j => .int (f j)))
  | .inr (.inl (_, n, f)) => H[z + a]? = some (arrV (ac a) n (fun j => va_rf ((f j).map (fun x => z + x))))
  | .inr (.inr (ci, fs)) => ∃ r : vw_C, clsL[ci]? = some r ∧ fs.length = r.2.2 ∧ t_OB (z + a) (D.1 ci) r.2.2 (D.2 ci) H (fun k => tv z ar (vp_V fs k))
def tyC (U : State) (ac : Nat → ClassId) (a : Nat) (c : Ce) : Prop := match c with
  | .inl (t, _, _) => ArrOfT U (ac a) (tf t)
  | .inr (.inl (ci, _, _)) => ∃ r : vw_C, clsL[ci]? = some r ∧ ArrOfT U (ac a) (.object r.1) ∧ va_RA U (ac a) (.object r.1)
  | .inr (.inr _) => True
def aoL : List String := ["PegWatch$Watch", "PegWatch$Row", "PegWatch$Patch"]
def KS (D : va_G) (U : State) : Prop := va_K D clsL [] U ∧ (∀ w ∈ nestW, va_Nw w U) ∧ ∀ C ∈ aoL, va_AO C U
def namesT : List Int32 := [1, 68, 44, 319, 8, 320, 80, 103, 2, 105, 92, 752, 20, 753, 128, 140, 3, 142, 130, 825, 22, 826, 166, 177, 4, 175, 154, 394, 10, 391, 46, 70]
def lengthsT : List Int32 := [1000, 981, 924, 831, 707, 556, 383, 195, 0]
def roT (xs : List Int32) (k : Nat) : List Int32 := match k with
  | 0 => xs
  | 1 => namesT
  | _ => lengthsT
def RO (xs : List Int32) (z : Nat) (ar : Nat → Nat) (U : State) (H : Heap) : Prop :=
  (∀ k, k < 3 → va_T .int (ar k) (roT xs k).length (fun j => .int ((roT xs k).getD j 0)) (fun q => z ≤ q) U H) ∧ va_Z "PegWatch$Compass" "NAMES" "[I" (.ref (ar 1)) (fun q => z ≤ q) U H ∧ va_Z "PegWatch$Compass" "LENGTHS" "[I" (.ref (ar 2)) (fun q => z ≤ q) U H
def Wd (xs : List Int32) (z : Nat) (D : va_G) (ar : Nat → Nat) (ac : Nat → ClassId) (h : List Ce) (U : State) (H : Heap) : Prop :=
  H.size = z + h.length ∧ (∀ (a : Nat) (c : Ce), h[a]? = some c → atC D z ar ac a c H ∧ tyC U ac a c) ∧ KS D U ∧ RO xs z ar U H
def Fr (z : Nat) (s : State) (H : Heap) (locs : List Loc) : Prop := (∀ q : Nat, q < z → H[q]? = s.heap[q]?) ∧ ∀ q ∈ locs, z ≤ q.base
theorem KS.moved {D : va_G} {s U : State} (hW : s.WarmedH U.vm) (h : KS D s) : KS D U := by
  refine ⟨va_K.moved hW.alike h.1, fun w hw => ?_, fun C hC => va_AO.moved hW.alike (h.2.2 C hC)⟩
  have h1 := h.2.1 w hw
  have h2 : isNest w = true := (List.mem_filter.mp hw).2
  unfold isNest at h2
  split at h2
  · exact va_Nw.warmF hW h1
  · exact va_Nw.warmM hW h1
  · cases h2
theorem RO.moved {xs : List Int32} {z : Nat} {ar : Nat → Nat} {s U : State} {H : Heap} (hvm : s.vm.Alike U.vm) (h : RO xs z ar s H) : RO xs z ar U H :=
  ⟨fun k hk => va_T.moved hvm (h.1 k hk), va_Z.moved hvm h.2.1, va_Z.moved hvm h.2.2⟩
theorem RO.kept {xs : List Int32} {z : Nat} {ar : Nat → Nat} {s : State} {H H1 : Heap} (h : RO xs z ar s H) (hq : ∀ q : Nat, q < z → H1[q]? = H[q]?) : RO xs z ar s H1 := by
  have hq' : ∀ a : Nat, a < H.size → ¬ z ≤ a → H1[a]? = H[a]? := fun a _ hn => hq a (Nat.not_le.mp hn)
  exact ⟨fun k hk => (h.1 k hk).kept hq', h.2.1.kept hq', h.2.2.kept hq'⟩
theorem tyC.moved {s U : State} {ac : Nat → ClassId} {a : Nat} {c : Ce} (hvm : s.vm.Alike U.vm) (h : tyC s ac a c) : tyC U ac a c := by
  match c, h with
  | .inl (t, n, f), h => exact arrOfT_moved hvm h
  | .inr (.inl (ci, n, f)), h =>
    obtain ⟨r, h1, h2, h3⟩ := h
    exact ⟨r, h1, arrOfT_moved hvm h2, va_RA.moved hvm h3⟩
  | .inr (.inr q), h => exact trivial
theorem atC.kept {D : va_G} {z : Nat} {ar : Nat → Nat} {ac ac' : Nat → ClassId} {a : Nat} {c : Ce} {H H1 : Heap} (h : atC D z ar ac a c H) (ha : ac' a = ac a) (hq : H1[z + a]? = H[z + a]?) : atC D z ar ac' a c H1 := by
  match c, h with
  | .inl (t, n, f), h =>
    show H1[z + a]? = _
    rw [hq, ha]; exact h
  | .inr (.inl (ci, n, f)), h =>
    show H1[z + a]? = _
    rw [hq, ha]; exact h
  | .inr (.inr (ci, fs)), h =>
    obtain ⟨r, h1, h2, h3⟩ := h
    exact ⟨r, h1, h2, h3.kept hq⟩
theorem tyC.same {U : State} {ac ac' : Nat → ClassId} {a : Nat} {c : Ce} (h : tyC U ac a c) (ha : ac' a = ac a) : tyC U ac' a c := by
  match c, h with
  | .inl (t, n, f), h =>
    show ArrOfT U (ac' a) _
    rw [ha]; exact h
  | .inr (.inl (ci, n, f)), h =>
    obtain ⟨r, h1, h2, h3⟩ := h
    refine ⟨r, h1, ?_, ?_⟩
    · rw [ha]; exact h2
    · rw [ha]; exact h3
  | .inr (.inr q), h => exact trivial
theorem Wd.moved {xs : List Int32} {z : Nat} {D : va_G} {ar : Nat → Nat} {ac : Nat → ClassId} {h : List Ce} {s U : State} {H : Heap} (hW : s.WarmedH U.vm) (w : Wd xs z D ar ac h s H) : Wd xs z D ar ac h U H :=
  ⟨w.1, fun a c hc => ⟨(w.2.1 a c hc).1, (w.2.1 a c hc).2.moved hW.alike⟩, w.2.2.1.moved hW, w.2.2.2.moved hW.alike⟩
/-- one cell is written -/
theorem Wd.upd {xs : List Int32} {z : Nat} {D : va_G} {ar : Nat → Nat} {ac : Nat → ClassId} {h : List Ce} {s : State} {H H1 : Heap} (w : Wd xs z D ar ac h s H) {a : Nat} {c' : Ce} (hz : H1.size = H.size) (oq : ∀ q : Nat, q ≠ z + a → H1[q]? = H[q]?) (h1 : atC D z ar ac a c' H1) (h2 : tyC s ac a c') : Wd xs z D ar ac (h.set a c') s H1 := by
  refine ⟨by rw [hz, List.length_set]; exact w.1, fun b c hc => ?_, w.2.2.1, w.2.2.2.kept fun q hq => oq q (by omega)⟩
  rw [List.getElem?_set] at hc
  by_cases hb : a = b
  · subst hb
    rw [if_pos rfl] at hc
    split at hc
    · cases hc; exact ⟨h1, h2⟩
    · cases hc
  · rw [if_neg hb] at hc
    exact ⟨(w.2.1 b c hc).1.kept rfl (oq _ (by omega)), (w.2.1 b c hc).2⟩
/-- a cell is made -/
theorem Wd.push {xs : List Int32} {z : Nat} {D : va_G} {ar : Nat → Nat} {ac ac' : Nat → ClassId} {h : List Ce} {s : State} {H H1 : Heap} (w : Wd xs z D ar ac h s H) {c' : Ce} (hz : H1.size = H.size + 1) (oq : ∀ q : Nat, q < H.size → H1[q]? = H[q]?) (ha : ∀ a, a < h.length → ac' a = ac a) (h1 : atC D z ar ac' h.length c' H1) (h2 : tyC s ac' h.length c') : Wd xs z D ar ac' (h ++ [c']) s H1 := by
  refine ⟨by rw [hz, w.1, List.length_append]; simp; omega, fun b c hc => ?_, w.2.2.1, w.2.2.2.kept fun q hq => oq q (by have := w.1; omega)⟩
  by_cases hb : b < h.length
  · rw [List.getElem?_append_left hb] at hc
    exact ⟨(w.2.1 b c hc).1.kept (ha b hb) (oq _ (by have := w.1; omega)), (w.2.1 b c hc).2.same (ha b hb)⟩
  · rw [List.getElem?_append_right (by omega)] at hc
    have hz : b - h.length < 1 := (List.getElem?_eq_some_iff.mp hc).1
    have hb' : b = h.length := by omega
    subst hb'
    rw [Nat.sub_self] at hc
    cases hc
    exact ⟨h1, h2⟩
theorem Fr.put {z : Nat} {s : State} {H H1 : Heap} {locs : List Loc} (f : Fr z s H locs) {a k : Nat} (oq : ∀ q : Nat, q ≠ z + a → H1[q]? = H[q]?) : Fr z s H1 (locs ++ [⟨z + a, k⟩]) := by
  refine ⟨fun q hq => (oq q (by omega)).trans (f.1 q hq), fun q hq => ?_⟩
  rcases List.mem_append.mp hq with h | h
  · exact f.2 q h
  · rw [List.mem_singleton.mp h]; exact Nat.le_add_right _ _
/-- the locals: by their places; null stands for what isn't known -/
def LH (z : Nat) (ar : Nat → Nat) (ls : Array Slot) (n : Nat) (lv : List Value) : Prop := ls.size = n ∧ lv_wf ls ∧ ∀ (i : Nat) (v : Value), lv[i]? = some v → v ≠ Value.null → ls[i]? = some (Slot.val (tv z ar v))
def lpr (z : Nat) (ar : Nat → Nat) (lv : List Value) : List (Nat × Value) := (List.range lv.length).filterMap fun (i : Nat) => match (lv[i]? : Option Value) with
  | some Value.null => none
  | some v => some (i, tv z ar v)
  | none => none
theorem lpr_mem {z : Nat} {ar : Nat → Nat} {lv : List Value} {i : Nat} {v : Value} (h : lv[i]? = some v) (hn : v ≠ .null) : (i, tv z ar v) ∈ lpr z ar lv := by
  refine List.mem_filterMap.mpr ⟨i, List.mem_range.mpr (List.getElem?_eq_some_iff.mp h).1, ?_⟩
  rw [h]
  cases v <;> first | rfl | exact absurd rfl hn
theorem lpr_of {z : Nat} {ar : Nat → Nat} {lv : List Value} {q : Nat × Value} (h : q ∈ lpr z ar lv) : ∃ v, lv[q.1]? = some v ∧ v ≠ .null ∧ q.2 = tv z ar v := by
  obtain ⟨i, -, hi⟩ := List.mem_filterMap.mp h
  split at hi
  · cases hi
  · rename_i v hne hv
    cases hi
    exact ⟨v, hv, fun e => hne e, rfl⟩
  · cases hi
theorem LH.has {z : Nat} {ar : Nat → Nat} {ls : Array Slot} {n : Nat} {lv : List Value} (h : LH z ar ls n lv) : lv_has ls n (lpr z ar lv) := by
  refine ⟨h.1, h.2.1, fun q hq => ?_⟩
  obtain ⟨v, h1, h2, h3⟩ := lpr_of hq
  rw [h3]; exact h.2.2 _ v h1 h2
/-- the place ahead of i is forgotten, if a long lies there; i becomes v -/
def lset (lv : List Value) (i : Nat) (v : Value) : List Value := match i with
  | 0 => lv.set 0 v
  | j + 1 => match lv[j]? with
    | some (.long _) => (lv.set j .null).set (j + 1) v
    | some (.double _) => (lv.set j .null).set (j + 1) v
    | _ => lv.set (j + 1) v
def lset2 (lv : List Value) (i : Nat) (v : Value) : List Value := (lset lv i v).set (i + 1) .null
theorem lset_get {lv : List Value} {i : Nat} {v w : Value} {j : Nat} (h : (lset lv i v)[j]? = some w) (hw : w ≠ .null) : (j = i ∧ w = v) ∨ (j ≠ i ∧ lv[j]? = some w ∧ ¬ (j + 1 = i ∧ w.category = 2)) := by
  unfold lset at h
  split at h
  · rw [List.getElem?_set] at h
    by_cases e : 0 = j
    · subst e
      rw [if_pos rfl] at h
      split at h
      · cases h; exact Or.inl ⟨rfl, rfl⟩
      · cases h
    · rw [if_neg e] at h
      exact Or.inr ⟨fun q => e q.symm, h, fun q => by omega⟩
  · rename_i k
    have two : (lv.set k Value.null).set (k + 1) v = (lv.set k Value.null).set (k + 1) v := rfl
    have key : ∀ l : List Value, ((l.set (k + 1) v)[j]? = some w → (j = k + 1 ∧ w = v) ∨ (j ≠ k + 1 ∧ l[j]? = some w)) := by
      intro l hl
      rw [List.getElem?_set] at hl
      by_cases e : k + 1 = j
      · subst e
        rw [if_pos rfl] at hl
        split at hl
        · cases hl; exact Or.inl ⟨rfl, rfl⟩
        · cases hl
      · rw [if_neg e] at hl
        exact Or.inr ⟨fun q => e q.symm, hl⟩
    have key2 : ((lv.set k Value.null)[j]? = some w → lv[j]? = some w ∧ j ≠ k) := by
      intro hl
      rw [List.getElem?_set] at hl
      by_cases e : k = j
      · subst e
        rw [if_pos rfl] at hl
        split at hl
        · cases hl; exact absurd rfl hw
        · cases hl
      · rw [if_neg e] at hl
        exact ⟨hl, fun q => e q.symm⟩
    split at h
    · rcases key _ h with q | ⟨q1, q2⟩
      · exact Or.inl q
      · exact Or.inr ⟨q1, (key2 q2).1, fun q => (key2 q2).2 (by omega)⟩
    · rcases key _ h with q | ⟨q1, q2⟩
      · exact Or.inl q
      · exact Or.inr ⟨q1, (key2 q2).1, fun q => (key2 q2).2 (by omega)⟩
    · rename_i h1 h2
      rcases key _ h with q | ⟨q1, q2⟩
      · exact Or.inl q
      · refine Or.inr ⟨q1, q2, fun q => ?_⟩
        have ej : j = k := by omega
        subst ej
        cases w <;> first | exact h1 _ q2 | exact h2 _ q2 | (exact absurd q.2 (by simp [Value.category]))
theorem LH.store1 {z : Nat} {ar : Nat → Nat} {ls : Array Slot} {n i : Nat} {lv : List Value} {v : Value} (h : LH z ar ls n lv) (hi : i < n) (hc : v.category = 1) : ∃ ls', storeLocals ls i (tv z ar v) = some ls' ∧ LH z ar ls' n (lset lv i v) := by
  obtain ⟨ls', e, g1, g2, g3⟩ := lv_store1 (v := tv z ar v) h.has hi (by rw [tv_cat]; exact hc)
  refine ⟨ls', e, g1, g2, fun j w hj hw => ?_⟩
  rcases lset_get hj hw with ⟨rfl, rfl⟩ | ⟨a1, a2, a3⟩
  · exact g3 _ List.mem_cons_self
  · refine g3 (j, tv z ar w) (List.mem_cons_of_mem _ (List.mem_filter.mpr ⟨lpr_mem a2 hw, ?_⟩))
    simp only [tv_cat, Bool.and_eq_true, Bool.not_eq_true', Bool.and_eq_false_iff, beq_eq_false_iff_ne, ne_eq]
    refine ⟨a1, ?_⟩
    by_cases e1 : j + 1 = i
    · exact Or.inr fun q => a3 ⟨e1, q⟩
    · exact Or.inl e1
theorem LH.store2 {z : Nat} {ar : Nat → Nat} {ls : Array Slot} {n i : Nat} {lv : List Value} {v : Value} (h : LH z ar ls n lv) (hi : i + 1 < n) (hc : v.category = 2) : ∃ ls', storeLocals ls i (tv z ar v) = some ls' ∧ LH z ar ls' n (lset2 lv i v) := by
  obtain ⟨ls', e, g1, g2, g3⟩ := lv_store2 (v := tv z ar v) h.has hi (by rw [tv_cat]; exact hc)
  refine ⟨ls', e, g1, g2, fun j w hj hw => ?_⟩
  unfold lset2 at hj
  rw [List.getElem?_set] at hj
  by_cases e0 : i + 1 = j
  · rw [if_pos e0] at hj
    split at hj
    · cases hj; exact absurd rfl hw
    · cases hj
  rw [if_neg e0] at hj
  rcases lset_get hj hw with ⟨rfl, rfl⟩ | ⟨a1, a2, a3⟩
  · exact g3 _ List.mem_cons_self
  · refine g3 (j, tv z ar w) (List.mem_cons_of_mem _ (List.mem_filter.mpr ⟨lpr_mem a2 hw, ?_⟩))
    simp only [tv_cat, Bool.and_eq_true, Bool.not_eq_true', Bool.and_eq_false_iff, beq_eq_false_iff_ne, ne_eq]
    refine ⟨a1, fun q => e0 q.symm, ?_⟩
    by_cases e1 : j + 1 = i
    · exact Or.inr fun q => a3 ⟨e1, q⟩
    · exact Or.inl e1
end
section
/-! THE JUDGEMENT RR: from this place of the method m, with these locals, this stack and this heap, the method comes to its end, with an answer and a heap that Q holds of -/
def dc1 (b : ByteArray) (pc : Nat) (I : Instr) (pc' : Nat) : Prop := decode b pc = .ok (I, 1) ∧ pc' = pc + 1
def dc2 (b : ByteArray) (pc : Nat) (I : Instr) (pc' : Nat) : Prop := decode b pc = .ok (I, 2) ∧ pc' = pc + 2
def dc3 (b : ByteArray) (pc : Nat) (I : Instr) (pc' : Nat) : Prop := decode b pc = .ok (I, 3) ∧ pc' = pc + 3
def dcI (b : ByteArray) (pc : Nat) (c : Jvm.ClassFile.Cond) (tgt pc' : Nat) : Prop := ∃ off : Int, decode b pc = .ok (.if_icmp c off, 3) ∧ (pc : Int) + off = (tgt : Int) ∧ pc' = pc + 3
def dcZ (b : ByteArray) (pc : Nat) (c : Jvm.ClassFile.Cond) (tgt pc' : Nat) : Prop := ∃ off : Int, decode b pc = .ok (.ifCond c off, 3) ∧ (pc : Int) + off = (tgt : Int) ∧ pc' = pc + 3
def dcG (b : ByteArray) (pc tgt : Nat) : Prop := ∃ off : Int, decode b pc = .ok (.goto off, 3) ∧ (pc : Int) + off = (tgt : Int)
def RetOk (m : Md) (pc : Nat) (r : Option Value) : Prop := match r with
  | none => decode (mB m) pc = .ok (.return_, 1) ∧ mR m = none
  | some (.int v) => decode (mB m) pc = .ok (.ireturn, 1) ∧ ∃ ty, mR m = some ty ∧ narrow ty (.int v) = .int v
  | some (.long _) => decode (mB m) pc = .ok (.lreturn, 1) ∧ mR m = some .long
  | some (.ref _) => decode (mB m) pc = .ok (.areturn, 1) ∧ ∃ n, mR m = some (.object n)
  | _ => False
def Cx (m : Md) (p : Program) (s : State) (mi : MethodId) (args : Array Value) (meth : Method) (c : Code) (R : Room) : Prop :=
  p.tables.exec = Jvm.exec ∧ c.code = mB m ∧ c.maxLocals = mL m ∧ meth.sig.returnType = mR m ∧ s.vm.findClass (mY m).cls = some mi.cls ∧ (∀ w ∈ wsG, w.before args s = true) ∧ meth.locks = false ∧ meth.name = (mY m).name ∧ mF m ≤ R.frames ∧ mO m ≤ R.locals
def ExR (xs : List Int32) (m : Md) (Q : Option Value → List Ce → Prop) (l : Launch) (p : Program) (e : Env) (R : Room) (s : State) (mi : MethodId) (args : Array Value) (below : List Frame) (meth : Method) (c : Code) (Z : State → Prop) (z : Nat) (D : va_G) (ar : Nat → Nat) : Prop :=
  ∀ (r : Option Value) (h' : List Ce) (ac' : Nat → ClassId) (H' : Heap) (locs' : List Loc) (cells' slots' pc' : Nat) (ls' : Array Slot), Q r h' → Wd xs z D ar ac' h' s H' → Fr z s H' locs' → cells' ≤ R.cells → slots' ≤ R.slots → RetOk m pc' r → W p l e R s mi args below meth c H' locs' cells' slots' Z (F0 mi pc' ls' (r.toList.map (tv z ar)))
def RR (xs : List Int32) (m : Md) (pc : Nat) (lv : List Value) (st : List Value) (h : List Ce) (bc bs : Nat) (Q : Option Value → List Ce → Prop) : Prop :=
  ∀ (l : Launch) (p : Program) (e : Env) (R : Room) (s : State) (mi : MethodId) (args : Array Value) (below : List Frame) (meth : Method) (c : Code) (Z : State → Prop) (z : Nat) (D : va_G) (ar : Nat → Nat) (ac : Nat → ClassId) (H : Heap) (locs : List Loc) (cells slots : Nat) (ls : Array Slot),
    Cx m p s mi args meth c R → ExR xs m Q l p e R s mi args below meth c Z z D ar → Wd xs z D ar ac h s H → Fr z s H locs → cells + bc ≤ R.cells ∧ slots + bs ≤ R.slots → LH z ar ls (mL m) lv →
    W p l e R s mi args below meth c H locs cells slots Z (F0 mi pc ls (st.map (tv z ar)))
theorem LH.of1 {z : Nat} {ar : Nat → Nat} {ls' : Array Slot} {n i : Nat} {lv : List Value} {v : Value} (g : lv_has ls' n ((i, tv z ar v) :: (lpr z ar lv).filter (fun q => !(q.1 == i) && !(q.1 + 1 == i && q.2.category == 2)))) : LH z ar ls' n (lset lv i v) := by
  refine ⟨g.1, g.2.1, fun j w hj hw => ?_⟩
  rcases lset_get hj hw with ⟨rfl, rfl⟩ | ⟨a1, a2, a3⟩
  · exact g.2.2 _ List.mem_cons_self
  · refine g.2.2 (j, tv z ar w) (List.mem_cons_of_mem _ (List.mem_filter.mpr ⟨lpr_mem a2 hw, ?_⟩))
    simp only [tv_cat, Bool.and_eq_true, Bool.not_eq_true', Bool.and_eq_false_iff, beq_eq_false_iff_ne, ne_eq]
    refine ⟨a1, ?_⟩
    by_cases e1 : j + 1 = i
    · exact Or.inr fun q => a3 ⟨e1, q⟩
    · exact Or.inl e1
theorem LH.of2 {z : Nat} {ar : Nat → Nat} {ls' : Array Slot} {n i : Nat} {lv : List Value} {v : Value} (g : lv_has ls' n ((i, tv z ar v) :: (lpr z ar lv).filter (fun q => !(q.1 == i) && (!(q.1 == i + 1) && !(q.1 + 1 == i && q.2.category == 2))))) : LH z ar ls' n (lset2 lv i v) := by
  refine ⟨g.1, g.2.1, fun j w hj hw => ?_⟩
  unfold lset2 at hj
  rw [List.getElem?_set] at hj
  by_cases e0 : i + 1 = j
  · rw [if_pos e0] at hj
    split at hj
    · cases hj; exact absurd rfl hw
    · cases hj
  rw [if_neg e0] at hj
  rcases lset_get hj hw with ⟨rfl, rfl⟩ | ⟨a1, a2, a3⟩
  · exact g.2.2 _ List.mem_cons_self
  · refine g.2.2 (j, tv z ar w) (List.mem_cons_of_mem _ (List.mem_filter.mpr ⟨lpr_mem a2 hw, ?_⟩))
    simp only [tv_cat, Bool.and_eq_true, Bool.not_eq_true', Bool.and_eq_false_iff, beq_eq_false_iff_ne, ne_eq]
    refine ⟨a1, fun q => e0 q.symm, ?_⟩
    by_cases e1 : j + 1 = i
    · exact Or.inr fun q => a3 ⟨e1, q⟩
    · exact Or.inl e1
section RULES
variable {xs : List Int32} {m : Md} {pc pc' tgt : Nat} {lv : List Value} {st : List Value} {h : List Ce} {bc bs : Nat} {Q : Option Value → List Ce → Prop}
theorem r_iconst {n : Int} {v : Int32} (hd : dc1 (mB m) pc (.iconst n) pc') (hv : Int32.ofInt n = v) (kk : RR xs m pc' lv (.int v :: st) h bc bs Q) : RR xs m pc lv (st) h bc bs Q := by
  obtain ⟨hd, rfl⟩ := hd
  intro l p e R s mi args below meth c Z z D ar ac H locs cells slots ls C E hW hF hB hl
  exact lv_iconst C.1 C.2.1 hd hv (kk l p e R s mi args below meth c Z z D ar ac H locs cells slots ls C E hW hF hB hl)
theorem r_bipush {n : Int} {v : Int32} (hd : dc2 (mB m) pc (.bipush n) pc') (hv : (Int8.ofInt n).toInt32 = v) (kk : RR xs m pc' lv (.int v :: st) h bc bs Q) : RR xs m pc lv (st) h bc bs Q := by
  obtain ⟨hd, rfl⟩ := hd
  intro l p e R s mi args below meth c Z z D ar ac H locs cells slots ls C E hW hF hB hl
  exact lv_bipush C.1 C.2.1 hd hv (kk l p e R s mi args below meth c Z z D ar ac H locs cells slots ls C E hW hF hB hl)
theorem r_sipush {n : Int} {v : Int32} (hd : dc3 (mB m) pc (.sipush n) pc') (hv : (Int16.ofInt n).toInt32 = v) (kk : RR xs m pc' lv (.int v :: st) h bc bs Q) : RR xs m pc lv (st) h bc bs Q := by
  obtain ⟨hd, rfl⟩ := hd
  intro l p e R s mi args below meth c Z z D ar ac H locs cells slots ls C E hW hF hB hl
  exact lv_sipush C.1 C.2.1 hd hv (kk l p e R s mi args below meth c Z z D ar ac H locs cells slots ls C E hW hF hB hl)
theorem r_lconst {n : Fin 2} {v : Int64} (hd : dc1 (mB m) pc (.lconst n) pc') (hv : Int64.ofNat (n : Nat) = v) (kk : RR xs m pc' lv (.long v :: st) h bc bs Q) : RR xs m pc lv (st) h bc bs Q := by
  obtain ⟨hd, rfl⟩ := hd
  intro l p e R s mi args below meth c Z z D ar ac H locs cells slots ls C E hW hF hB hl
  exact lv_lconst C.1 C.2.1 hd hv (kk l p e R s mi args below meth c Z z D ar ac H locs cells slots ls C E hW hF hB hl)
theorem r_iload_n {k : Fin 4} {x : Int32} (hd : dc1 (mB m) pc (.iload_n k) pc') (hx : lv[(k : Nat)]? = some (.int x)) (kk : RR xs m pc' lv (.int x :: st) h bc bs Q) : RR xs m pc lv st h bc bs Q := by
  obtain ⟨hd, rfl⟩ := hd
  intro l p e R s mi args below meth c Z z D ar ac H locs cells slots ls C E hW hF hB hl
  exact lv_iload_n C.1 C.2.1 hd rfl (hl.2.2 _ _ hx (fun q => by cases q)) (kk l p e R s mi args below meth c Z z D ar ac H locs cells slots ls C E hW hF hB hl)
theorem r_iload {k : Nat} {x : Int32} (hd : dc2 (mB m) pc (.iload k) pc') (hx : lv[k]? = some (.int x)) (kk : RR xs m pc' lv (.int x :: st) h bc bs Q) : RR xs m pc lv st h bc bs Q := by
  obtain ⟨hd, rfl⟩ := hd
  intro l p e R s mi args below meth c Z z D ar ac H locs cells slots ls C E hW hF hB hl
  exact lv_iload C.1 C.2.1 hd (hl.2.2 _ _ hx (fun q => by cases q)) (kk l p e R s mi args below meth c Z z D ar ac H locs cells slots ls C E hW hF hB hl)
theorem r_lload_n {k : Fin 4} {x : Int64} (hd : dc1 (mB m) pc (.lload_n k) pc') (hx : lv[(k : Nat)]? = some (.long x)) (kk : RR xs m pc' lv (.long x :: st) h bc bs Q) : RR xs m pc lv st h bc bs Q := by
  obtain ⟨hd, rfl⟩ := hd
  intro l p e R s mi args below meth c Z z D ar ac H locs cells slots ls C E hW hF hB hl
  exact lv_lload_n C.1 C.2.1 hd rfl (hl.2.2 _ _ hx (fun q => by cases q)) (kk l p e R s mi args below meth c Z z D ar ac H locs cells slots ls C E hW hF hB hl)
theorem r_lload {k : Nat} {x : Int64} (hd : dc2 (mB m) pc (.lload k) pc') (hx : lv[k]? = some (.long x)) (kk : RR xs m pc' lv (.long x :: st) h bc bs Q) : RR xs m pc lv st h bc bs Q := by
  obtain ⟨hd, rfl⟩ := hd
  intro l p e R s mi args below meth c Z z D ar ac H locs cells slots ls C E hW hF hB hl
  exact lv_lload C.1 C.2.1 hd (hl.2.2 _ _ hx (fun q => by cases q)) (kk l p e R s mi args below meth c Z z D ar ac H locs cells slots ls C E hW hF hB hl)
theorem r_aload_n {k : Fin 4} {x : Nat} (hd : dc1 (mB m) pc (.aload_n k) pc') (hx : lv[(k : Nat)]? = some (.ref x)) (kk : RR xs m pc' lv (.ref x :: st) h bc bs Q) : RR xs m pc lv st h bc bs Q := by
  obtain ⟨hd, rfl⟩ := hd
  intro l p e R s mi args below meth c Z z D ar ac H locs cells slots ls C E hW hF hB hl
  exact lv_aload_n C.1 C.2.1 hd rfl (hl.2.2 _ _ hx (fun q => by cases q)) (kk l p e R s mi args below meth c Z z D ar ac H locs cells slots ls C E hW hF hB hl)
theorem r_aload {k : Nat} {x : Nat} (hd : dc2 (mB m) pc (.aload k) pc') (hx : lv[k]? = some (.ref x)) (kk : RR xs m pc' lv (.ref x :: st) h bc bs Q) : RR xs m pc lv st h bc bs Q := by
  obtain ⟨hd, rfl⟩ := hd
  intro l p e R s mi args below meth c Z z D ar ac H locs cells slots ls C E hW hF hB hl
  exact lv_aload C.1 C.2.1 hd (hl.2.2 _ _ hx (fun q => by cases q)) (kk l p e R s mi args below meth c Z z D ar ac H locs cells slots ls C E hW hF hB hl)
theorem r_aload_nR {k : Fin 4} {x : Nat} (hd : dc1 (mB m) pc (.aload_n k) pc') (hx : lv[(k : Nat)]? = some (.retAddr x)) (kk : RR xs m pc' lv (.retAddr x :: st) h bc bs Q) : RR xs m pc lv st h bc bs Q := by
  obtain ⟨hd, rfl⟩ := hd
  intro l p e R s mi args below meth c Z z D ar ac H locs cells slots ls C E hW hF hB hl
  exact lv_aload_n C.1 C.2.1 hd rfl (hl.2.2 _ _ hx (fun q => by cases q)) (kk l p e R s mi args below meth c Z z D ar ac H locs cells slots ls C E hW hF hB hl)
theorem r_aloadR {k : Nat} {x : Nat} (hd : dc2 (mB m) pc (.aload k) pc') (hx : lv[k]? = some (.retAddr x)) (kk : RR xs m pc' lv (.retAddr x :: st) h bc bs Q) : RR xs m pc lv st h bc bs Q := by
  obtain ⟨hd, rfl⟩ := hd
  intro l p e R s mi args below meth c Z z D ar ac H locs cells slots ls C E hW hF hB hl
  exact lv_aload C.1 C.2.1 hd (hl.2.2 _ _ hx (fun q => by cases q)) (kk l p e R s mi args below meth c Z z D ar ac H locs cells slots ls C E hW hF hB hl)
theorem r_istore_n {k : Fin 4} {x : Int32} (hd : dc1 (mB m) pc (.istore_n k) pc') (hk : (k : Nat) < mL m) (kk : RR xs m pc' (lset lv (k : Nat) (.int x)) st h bc bs Q) : RR xs m pc lv (.int x :: st) h bc bs Q := by
  obtain ⟨hd, rfl⟩ := hd
  intro l p e R s mi args below meth c Z z D ar ac H locs cells slots ls C E hW hF hB hl
  exact lv_istore_n C.1 C.2.1 hd rfl hl.has hk rfl (fun ls' hl' => kk l p e R s mi args below meth c Z z D ar ac H locs cells slots ls' C E hW hF hB (LH.of1 (v := .int x) hl'))
theorem r_istore {k : Nat} {x : Int32} (hd : dc2 (mB m) pc (.istore k) pc') (hk : (k : Nat) < mL m) (kk : RR xs m pc' (lset lv k (.int x)) st h bc bs Q) : RR xs m pc lv (.int x :: st) h bc bs Q := by
  obtain ⟨hd, rfl⟩ := hd
  intro l p e R s mi args below meth c Z z D ar ac H locs cells slots ls C E hW hF hB hl
  exact lv_istore C.1 C.2.1 hd hl.has hk rfl (fun ls' hl' => kk l p e R s mi args below meth c Z z D ar ac H locs cells slots ls' C E hW hF hB (LH.of1 (v := .int x) hl'))
theorem r_astore_n {k : Fin 4} {x : Nat} (hd : dc1 (mB m) pc (.astore_n k) pc') (hk : (k : Nat) < mL m) (kk : RR xs m pc' (lset lv (k : Nat) (.ref x)) st h bc bs Q) : RR xs m pc lv (.ref x :: st) h bc bs Q := by
  obtain ⟨hd, rfl⟩ := hd
  intro l p e R s mi args below meth c Z z D ar ac H locs cells slots ls C E hW hF hB hl
  exact lv_astore_n C.1 C.2.1 hd rfl hl.has hk rfl (fun ls' hl' => kk l p e R s mi args below meth c Z z D ar ac H locs cells slots ls' C E hW hF hB (LH.of1 (v := .ref x) hl'))
theorem r_astore {k : Nat} {x : Nat} (hd : dc2 (mB m) pc (.astore k) pc') (hk : (k : Nat) < mL m) (kk : RR xs m pc' (lset lv k (.ref x)) st h bc bs Q) : RR xs m pc lv (.ref x :: st) h bc bs Q := by
  obtain ⟨hd, rfl⟩ := hd
  intro l p e R s mi args below meth c Z z D ar ac H locs cells slots ls C E hW hF hB hl
  exact lv_astore C.1 C.2.1 hd hl.has hk rfl (fun ls' hl' => kk l p e R s mi args below meth c Z z D ar ac H locs cells slots ls' C E hW hF hB (LH.of1 (v := .ref x) hl'))
theorem r_lstore_n {k : Fin 4} {x : Int64} (hd : dc1 (mB m) pc (.lstore_n k) pc') (hk : (k : Nat) + 1 < mL m) (kk : RR xs m pc' (lset2 lv (k : Nat) (.long x)) st h bc bs Q) : RR xs m pc lv (.long x :: st) h bc bs Q := by
  obtain ⟨hd, rfl⟩ := hd
  intro l p e R s mi args below meth c Z z D ar ac H locs cells slots ls C E hW hF hB hl
  exact lv_lstore_n C.1 C.2.1 hd rfl hl.has hk rfl (fun ls' hl' => kk l p e R s mi args below meth c Z z D ar ac H locs cells slots ls' C E hW hF hB (LH.of2 (v := .long x) hl'))
theorem r_lstore {k : Nat} {x : Int64} (hd : dc2 (mB m) pc (.lstore k) pc') (hk : (k : Nat) + 1 < mL m) (kk : RR xs m pc' (lset2 lv k (.long x)) st h bc bs Q) : RR xs m pc lv (.long x :: st) h bc bs Q := by
  obtain ⟨hd, rfl⟩ := hd
  intro l p e R s mi args below meth c Z z D ar ac H locs cells slots ls C E hW hF hB hl
  exact lv_lstore C.1 C.2.1 hd hl.has hk rfl (fun ls' hl' => kk l p e R s mi args below meth c Z z D ar ac H locs cells slots ls' C E hW hF hB (LH.of2 (v := .long x) hl'))
theorem r_iinc {k : Nat} {n : Int} {x v : Int32} (hd : dc3 (mB m) pc (.iinc k n) pc') (hx : lv[k]? = some (.int x)) (hv : x + Int32.ofInt n = v) (hk : k < mL m) (kk : RR xs m pc' (lset lv k (.int v)) st h bc bs Q) : RR xs m pc lv st h bc bs Q := by
  obtain ⟨hd, rfl⟩ := hd
  intro l p e R s mi args below meth c Z z D ar ac H locs cells slots ls C E hW hF hB hl
  obtain ⟨j, hj⟩ := List.getElem?_of_mem (lpr_mem (z := z) (ar := ar) hx (fun q => by cases q))
  exact lv_iinc C.1 C.2.1 hd hl.has hj hv hk rfl (fun ls' hl' => kk l p e R s mi args below meth c Z z D ar ac H locs cells slots ls' C E hW hF hB (LH.of1 (v := .int v) hl'))
theorem r_iadd {x y : Int32} (hd : dc1 (mB m) pc .iadd pc') (kk : RR xs m pc' lv (.int (x + y) :: st) h bc bs Q) : RR xs m pc lv (.int y :: .int x :: st) h bc bs Q := by
  obtain ⟨hd, rfl⟩ := hd
  intro l p e R s mi args below meth c Z z D ar ac H locs cells slots ls C E hW hF hB hl
  exact lv_iadd C.1 C.2.1 hd  (kk l p e R s mi args below meth c Z z D ar ac H locs cells slots ls C E hW hF hB hl)
theorem r_isub {x y : Int32} (hd : dc1 (mB m) pc .isub pc') (kk : RR xs m pc' lv (.int (x - y) :: st) h bc bs Q) : RR xs m pc lv (.int y :: .int x :: st) h bc bs Q := by
  obtain ⟨hd, rfl⟩ := hd
  intro l p e R s mi args below meth c Z z D ar ac H locs cells slots ls C E hW hF hB hl
  exact lv_isub C.1 C.2.1 hd  (kk l p e R s mi args below meth c Z z D ar ac H locs cells slots ls C E hW hF hB hl)
theorem r_imul {x y : Int32} (hd : dc1 (mB m) pc .imul pc') (kk : RR xs m pc' lv (.int (x * y) :: st) h bc bs Q) : RR xs m pc lv (.int y :: .int x :: st) h bc bs Q := by
  obtain ⟨hd, rfl⟩ := hd
  intro l p e R s mi args below meth c Z z D ar ac H locs cells slots ls C E hW hF hB hl
  exact lv_imul C.1 C.2.1 hd  (kk l p e R s mi args below meth c Z z D ar ac H locs cells slots ls C E hW hF hB hl)
theorem r_iand {x y : Int32} (hd : dc1 (mB m) pc .iand pc') (kk : RR xs m pc' lv (.int (x &&& y) :: st) h bc bs Q) : RR xs m pc lv (.int y :: .int x :: st) h bc bs Q := by
  obtain ⟨hd, rfl⟩ := hd
  intro l p e R s mi args below meth c Z z D ar ac H locs cells slots ls C E hW hF hB hl
  exact lv_iand C.1 C.2.1 hd  (kk l p e R s mi args below meth c Z z D ar ac H locs cells slots ls C E hW hF hB hl)
theorem r_ior {x y : Int32} (hd : dc1 (mB m) pc .ior pc') (kk : RR xs m pc' lv (.int (x ||| y) :: st) h bc bs Q) : RR xs m pc lv (.int y :: .int x :: st) h bc bs Q := by
  obtain ⟨hd, rfl⟩ := hd
  intro l p e R s mi args below meth c Z z D ar ac H locs cells slots ls C E hW hF hB hl
  exact lv_ior C.1 C.2.1 hd  (kk l p e R s mi args below meth c Z z D ar ac H locs cells slots ls C E hW hF hB hl)
theorem r_ixor {x y : Int32} (hd : dc1 (mB m) pc .ixor pc') (kk : RR xs m pc' lv (.int (x ^^^ y) :: st) h bc bs Q) : RR xs m pc lv (.int y :: .int x :: st) h bc bs Q := by
  obtain ⟨hd, rfl⟩ := hd
  intro l p e R s mi args below meth c Z z D ar ac H locs cells slots ls C E hW hF hB hl
  exact lv_ixor C.1 C.2.1 hd  (kk l p e R s mi args below meth c Z z D ar ac H locs cells slots ls C E hW hF hB hl)
theorem r_ishl {x y : Int32} (hd : dc1 (mB m) pc .ishl pc') (kk : RR xs m pc' lv (.int (x <<< (y &&& 31)) :: st) h bc bs Q) : RR xs m pc lv (.int y :: .int x :: st) h bc bs Q := by
  obtain ⟨hd, rfl⟩ := hd
  intro l p e R s mi args below meth c Z z D ar ac H locs cells slots ls C E hW hF hB hl
  exact lv_ishl C.1 C.2.1 hd  (kk l p e R s mi args below meth c Z z D ar ac H locs cells slots ls C E hW hF hB hl)
theorem r_ishr {x y : Int32} (hd : dc1 (mB m) pc .ishr pc') (kk : RR xs m pc' lv (.int (x >>> (y &&& 31)) :: st) h bc bs Q) : RR xs m pc lv (.int y :: .int x :: st) h bc bs Q := by
  obtain ⟨hd, rfl⟩ := hd
  intro l p e R s mi args below meth c Z z D ar ac H locs cells slots ls C E hW hF hB hl
  exact lv_ishr C.1 C.2.1 hd  (kk l p e R s mi args below meth c Z z D ar ac H locs cells slots ls C E hW hF hB hl)
theorem r_idiv {x y : Int32} (hd : dc1 (mB m) pc .idiv pc') (hn : ¬ y = 0) (kk : RR xs m pc' lv (.int (x / y) :: st) h bc bs Q) : RR xs m pc lv (.int y :: .int x :: st) h bc bs Q := by
  obtain ⟨hd, rfl⟩ := hd
  intro l p e R s mi args below meth c Z z D ar ac H locs cells slots ls C E hW hF hB hl
  exact lv_idiv C.1 C.2.1 hd hn (kk l p e R s mi args below meth c Z z D ar ac H locs cells slots ls C E hW hF hB hl)
theorem r_irem {x y : Int32} (hd : dc1 (mB m) pc .irem pc') (hn : ¬ y = 0) (kk : RR xs m pc' lv (.int (x - x / y * y) :: st) h bc bs Q) : RR xs m pc lv (.int y :: .int x :: st) h bc bs Q := by
  obtain ⟨hd, rfl⟩ := hd
  intro l p e R s mi args below meth c Z z D ar ac H locs cells slots ls C E hW hF hB hl
  exact lv_irem C.1 C.2.1 hd hn (kk l p e R s mi args below meth c Z z D ar ac H locs cells slots ls C E hW hF hB hl)
theorem r_ineg {x : Int32} (hd : dc1 (mB m) pc .ineg pc') (kk : RR xs m pc' lv (.int (-x) :: st) h bc bs Q) : RR xs m pc lv (.int x :: st) h bc bs Q := by
  obtain ⟨hd, rfl⟩ := hd
  intro l p e R s mi args below meth c Z z D ar ac H locs cells slots ls C E hW hF hB hl
  exact lv_ineg C.1 C.2.1 hd  (kk l p e R s mi args below meth c Z z D ar ac H locs cells slots ls C E hW hF hB hl)
theorem r_iushr {x y : Int32} (hd : dc1 (mB m) pc .iushr pc') (kk : RR xs m pc' lv (.int ((x.toUInt32 >>> (y.toUInt32 &&& Int32.toUInt32 31)).toInt32) :: st) h bc bs Q) : RR xs m pc lv (.int y :: .int x :: st) h bc bs Q := by
  obtain ⟨hd, rfl⟩ := hd
  intro l p e R s mi args below meth c Z z D ar ac H locs cells slots ls C E hW hF hB hl
  exact lv_iushr C.1 C.2.1 hd rfl (kk l p e R s mi args below meth c Z z D ar ac H locs cells slots ls C E hW hF hB hl)
theorem r_ladd {x y : Int64} (hd : dc1 (mB m) pc .ladd pc') (kk : RR xs m pc' lv (.long (x + y) :: st) h bc bs Q) : RR xs m pc lv (.long y :: .long x :: st) h bc bs Q := by
  obtain ⟨hd, rfl⟩ := hd
  intro l p e R s mi args below meth c Z z D ar ac H locs cells slots ls C E hW hF hB hl
  exact lv_ladd C.1 C.2.1 hd  (kk l p e R s mi args below meth c Z z D ar ac H locs cells slots ls C E hW hF hB hl)
theorem r_lmul {x y : Int64} (hd : dc1 (mB m) pc .lmul pc') (kk : RR xs m pc' lv (.long (x * y) :: st) h bc bs Q) : RR xs m pc lv (.long y :: .long x :: st) h bc bs Q := by
  obtain ⟨hd, rfl⟩ := hd
  intro l p e R s mi args below meth c Z z D ar ac H locs cells slots ls C E hW hF hB hl
  exact lv_lmul C.1 C.2.1 hd  (kk l p e R s mi args below meth c Z z D ar ac H locs cells slots ls C E hW hF hB hl)
theorem r_lor {x y : Int64} (hd : dc1 (mB m) pc .lor pc') (kk : RR xs m pc' lv (.long (x ||| y) :: st) h bc bs Q) : RR xs m pc lv (.long y :: .long x :: st) h bc bs Q := by
  obtain ⟨hd, rfl⟩ := hd
  intro l p e R s mi args below meth c Z z D ar ac H locs cells slots ls C E hW hF hB hl
  exact lv_lor C.1 C.2.1 hd  (kk l p e R s mi args below meth c Z z D ar ac H locs cells slots ls C E hW hF hB hl)
theorem r_lshl {x : Int64} {y : Int32} (hd : dc1 (mB m) pc .lshl pc') (kk : RR xs m pc' lv (.long (x <<< (y.toInt64 &&& 63)) :: st) h bc bs Q) : RR xs m pc lv (.int y :: .long x :: st) h bc bs Q := by
  obtain ⟨hd, rfl⟩ := hd
  intro l p e R s mi args below meth c Z z D ar ac H locs cells slots ls C E hW hF hB hl
  exact lv_lshl C.1 C.2.1 hd rfl (kk l p e R s mi args below meth c Z z D ar ac H locs cells slots ls C E hW hF hB hl)
theorem r_lshr {x : Int64} {y : Int32} (hd : dc1 (mB m) pc .lshr pc') (kk : RR xs m pc' lv (.long (x >>> (y.toInt64 &&& 63)) :: st) h bc bs Q) : RR xs m pc lv (.int y :: .long x :: st) h bc bs Q := by
  obtain ⟨hd, rfl⟩ := hd
  intro l p e R s mi args below meth c Z z D ar ac H locs cells slots ls C E hW hF hB hl
  exact lv_lshr C.1 C.2.1 hd rfl (kk l p e R s mi args below meth c Z z D ar ac H locs cells slots ls C E hW hF hB hl)
theorem r_lcmp {x y : Int64} (hd : dc1 (mB m) pc .lcmp pc') (kk : RR xs m pc' lv (.int (lg_cmp x y) :: st) h bc bs Q) : RR xs m pc lv (.long y :: .long x :: st) h bc bs Q := by
  obtain ⟨hd, rfl⟩ := hd
  intro l p e R s mi args below meth c Z z D ar ac H locs cells slots ls C E hW hF hB hl
  exact W.lcmp C.1 C.2.1 hd  (kk l p e R s mi args below meth c Z z D ar ac H locs cells slots ls C E hW hF hB hl)
theorem r_i2l {x : Int32} (hd : dc1 (mB m) pc .i2l pc') (kk : RR xs m pc' lv (.long x.toInt64 :: st) h bc bs Q) : RR xs m pc lv (.int x :: st) h bc bs Q := by
  obtain ⟨hd, rfl⟩ := hd
  intro l p e R s mi args below meth c Z z D ar ac H locs cells slots ls C E hW hF hB hl
  exact lv_i2l C.1 C.2.1 hd rfl (kk l p e R s mi args below meth c Z z D ar ac H locs cells slots ls C E hW hF hB hl)
theorem r_l2i {x : Int64} (hd : dc1 (mB m) pc .l2i pc') (kk : RR xs m pc' lv (.int x.toInt32 :: st) h bc bs Q) : RR xs m pc lv (.long x :: st) h bc bs Q := by
  obtain ⟨hd, rfl⟩ := hd
  intro l p e R s mi args below meth c Z z D ar ac H locs cells slots ls C E hW hF hB hl
  exact lv_l2i C.1 C.2.1 hd rfl (kk l p e R s mi args below meth c Z z D ar ac H locs cells slots ls C E hW hF hB hl)
theorem r_dup {v : Value} (hd : dc1 (mB m) pc .dup pc') (hc : v.category = 1) (kk : RR xs m pc' lv (v :: v :: st) h bc bs Q) : RR xs m pc lv (v :: st) h bc bs Q := by
  obtain ⟨hd, rfl⟩ := hd
  intro l p e R s mi args below meth c Z z D ar ac H locs cells slots ls C E hW hF hB hl
  exact lv_dup C.1 C.2.1 hd (by rw [tv_cat]; exact hc) (kk l p e R s mi args below meth c Z z D ar ac H locs cells slots ls C E hW hF hB hl)
theorem r_pop {v : Value} (hd : dc1 (mB m) pc .pop pc') (hc : v.category = 1) (kk : RR xs m pc' lv (st) h bc bs Q) : RR xs m pc lv (v :: st) h bc bs Q := by
  obtain ⟨hd, rfl⟩ := hd
  intro l p e R s mi args below meth c Z z D ar ac H locs cells slots ls C E hW hF hB hl
  exact lv_pop C.1 C.2.1 hd (by rw [tv_cat]; exact hc) (kk l p e R s mi args below meth c Z z D ar ac H locs cells slots ls C E hW hF hB hl)
theorem r_dup2 {v w : Value} (hd : dc1 (mB m) pc .dup2 pc') (hc : v.category = 1) (hc2 : w.category = 1) (kk : RR xs m pc' lv (v :: w :: v :: w :: st) h bc bs Q) : RR xs m pc lv (v :: w :: st) h bc bs Q := by
  obtain ⟨hd, rfl⟩ := hd
  intro l p e R s mi args below meth c Z z D ar ac H locs cells slots ls C E hW hF hB hl
  exact lv_dup2_11 C.1 C.2.1 hd (by rw [tv_cat]; exact hc) (by rw [tv_cat]; exact hc2) (kk l p e R s mi args below meth c Z z D ar ac H locs cells slots ls C E hW hF hB hl)
theorem r_goto (hd : dcG (mB m) pc tgt) (kk : RR xs m tgt lv st h bc bs Q) : RR xs m pc lv st h bc bs Q := by
  obtain ⟨off, hd, ht⟩ := hd
  intro l p e R s mi args below meth c Z z D ar ac H locs cells slots ls C E hW hF hB hl
  exact lv_goto C.1 C.2.1 hd ht (kk l p e R s mi args below meth c Z z D ar ac H locs cells slots ls C E hW hF hB hl)
theorem r_ic_eq {x y : Int32} (hd : dcI (mB m) pc .eq tgt pc') (kt : x = y → RR xs m tgt lv st h bc bs Q) (kf : ¬ x = y → RR xs m pc' lv st h bc bs Q) : RR xs m pc lv (.int y :: .int x :: st) h bc bs Q := by
  obtain ⟨off, hd, ht, rfl⟩ := hd
  intro l p e R s mi args below meth c Z z D ar ac H locs cells slots ls C E hW hF hB hl
  exact lv_icmp_eq C.1 C.2.1 hd ht (fun q => kt q l p e R s mi args below meth c Z z D ar ac H locs cells slots ls C E hW hF hB hl) (fun q => kf q l p e R s mi args below meth c Z z D ar ac H locs cells slots ls C E hW hF hB hl)
theorem r_if_eq {x : Int32} (hd : dcZ (mB m) pc .eq tgt pc') (kt : x = 0 → RR xs m tgt lv st h bc bs Q) (kf : ¬ x = 0 → RR xs m pc' lv st h bc bs Q) : RR xs m pc lv (.int x :: st) h bc bs Q := by
  obtain ⟨off, hd, ht, rfl⟩ := hd
  intro l p e R s mi args below meth c Z z D ar ac H locs cells slots ls C E hW hF hB hl
  exact lv_if_eq C.1 C.2.1 hd ht (fun q => kt q l p e R s mi args below meth c Z z D ar ac H locs cells slots ls C E hW hF hB hl) (fun q => kf q l p e R s mi args below meth c Z z D ar ac H locs cells slots ls C E hW hF hB hl)
theorem r_ic_ne {x y : Int32} (hd : dcI (mB m) pc .ne tgt pc') (kt : ¬ x = y → RR xs m tgt lv st h bc bs Q) (kf : x = y → RR xs m pc' lv st h bc bs Q) : RR xs m pc lv (.int y :: .int x :: st) h bc bs Q := by
  obtain ⟨off, hd, ht, rfl⟩ := hd
  intro l p e R s mi args below meth c Z z D ar ac H locs cells slots ls C E hW hF hB hl
  exact lv_icmp_ne C.1 C.2.1 hd ht (fun q => kt q l p e R s mi args below meth c Z z D ar ac H locs cells slots ls C E hW hF hB hl) (fun q => kf q l p e R s mi args below meth c Z z D ar ac H locs cells slots ls C E hW hF hB hl)
theorem r_if_ne {x : Int32} (hd : dcZ (mB m) pc .ne tgt pc') (kt : ¬ x = 0 → RR xs m tgt lv st h bc bs Q) (kf : x = 0 → RR xs m pc' lv st h bc bs Q) : RR xs m pc lv (.int x :: st) h bc bs Q := by
  obtain ⟨off, hd, ht, rfl⟩ := hd
  intro l p e R s mi args below meth c Z z D ar ac H locs cells slots ls C E hW hF hB hl
  exact lv_if_ne C.1 C.2.1 hd ht (fun q => kt q l p e R s mi args below meth c Z z D ar ac H locs cells slots ls C E hW hF hB hl) (fun q => kf q l p e R s mi args below meth c Z z D ar ac H locs cells slots ls C E hW hF hB hl)
theorem r_ic_lt {x y : Int32} (hd : dcI (mB m) pc .lt tgt pc') (kt : x < y → RR xs m tgt lv st h bc bs Q) (kf : ¬ x < y → RR xs m pc' lv st h bc bs Q) : RR xs m pc lv (.int y :: .int x :: st) h bc bs Q := by
  obtain ⟨off, hd, ht, rfl⟩ := hd
  intro l p e R s mi args below meth c Z z D ar ac H locs cells slots ls C E hW hF hB hl
  exact lv_icmp_lt C.1 C.2.1 hd ht (fun q => kt q l p e R s mi args below meth c Z z D ar ac H locs cells slots ls C E hW hF hB hl) (fun q => kf q l p e R s mi args below meth c Z z D ar ac H locs cells slots ls C E hW hF hB hl)
theorem r_if_lt {x : Int32} (hd : dcZ (mB m) pc .lt tgt pc') (kt : x < 0 → RR xs m tgt lv st h bc bs Q) (kf : ¬ x < 0 → RR xs m pc' lv st h bc bs Q) : RR xs m pc lv (.int x :: st) h bc bs Q := by
  obtain ⟨off, hd, ht, rfl⟩ := hd
  intro l p e R s mi args below meth c Z z D ar ac H locs cells slots ls C E hW hF hB hl
  exact lv_if_lt C.1 C.2.1 hd ht (fun q => kt q l p e R s mi args below meth c Z z D ar ac H locs cells slots ls C E hW hF hB hl) (fun q => kf q l p e R s mi args below meth c Z z D ar ac H locs cells slots ls C E hW hF hB hl)
theorem r_ic_ge {x y : Int32} (hd : dcI (mB m) pc .ge tgt pc') (kt : y ≤ x → RR xs m tgt lv st h bc bs Q) (kf : ¬ y ≤ x → RR xs m pc' lv st h bc bs Q) : RR xs m pc lv (.int y :: .int x :: st) h bc bs Q := by
  obtain ⟨off, hd, ht, rfl⟩ := hd
  intro l p e R s mi args below meth c Z z D ar ac H locs cells slots ls C E hW hF hB hl
  exact lv_icmp_ge C.1 C.2.1 hd ht (fun q => kt q l p e R s mi args below meth c Z z D ar ac H locs cells slots ls C E hW hF hB hl) (fun q => kf q l p e R s mi args below meth c Z z D ar ac H locs cells slots ls C E hW hF hB hl)
theorem r_if_ge {x : Int32} (hd : dcZ (mB m) pc .ge tgt pc') (kt : 0 ≤ x → RR xs m tgt lv st h bc bs Q) (kf : ¬ 0 ≤ x → RR xs m pc' lv st h bc bs Q) : RR xs m pc lv (.int x :: st) h bc bs Q := by
  obtain ⟨off, hd, ht, rfl⟩ := hd
  intro l p e R s mi args below meth c Z z D ar ac H locs cells slots ls C E hW hF hB hl
  exact lv_if_ge C.1 C.2.1 hd ht (fun q => kt q l p e R s mi args below meth c Z z D ar ac H locs cells slots ls C E hW hF hB hl) (fun q => kf q l p e R s mi args below meth c Z z D ar ac H locs cells slots ls C E hW hF hB hl)
theorem r_ic_gt {x y : Int32} (hd : dcI (mB m) pc .gt tgt pc') (kt : y < x → RR xs m tgt lv st h bc bs Q) (kf : ¬ y < x → RR xs m pc' lv st h bc bs Q) : RR xs m pc lv (.int y :: .int x :: st) h bc bs Q := by
  obtain ⟨off, hd, ht, rfl⟩ := hd
  intro l p e R s mi args below meth c Z z D ar ac H locs cells slots ls C E hW hF hB hl
  exact lv_icmp_gt C.1 C.2.1 hd ht (fun q => kt q l p e R s mi args below meth c Z z D ar ac H locs cells slots ls C E hW hF hB hl) (fun q => kf q l p e R s mi args below meth c Z z D ar ac H locs cells slots ls C E hW hF hB hl)
theorem r_if_gt {x : Int32} (hd : dcZ (mB m) pc .gt tgt pc') (kt : 0 < x → RR xs m tgt lv st h bc bs Q) (kf : ¬ 0 < x → RR xs m pc' lv st h bc bs Q) : RR xs m pc lv (.int x :: st) h bc bs Q := by
  obtain ⟨off, hd, ht, rfl⟩ := hd
  intro l p e R s mi args below meth c Z z D ar ac H locs cells slots ls C E hW hF hB hl
  exact lv_if_gt C.1 C.2.1 hd ht (fun q => kt q l p e R s mi args below meth c Z z D ar ac H locs cells slots ls C E hW hF hB hl) (fun q => kf q l p e R s mi args below meth c Z z D ar ac H locs cells slots ls C E hW hF hB hl)
theorem r_ic_le {x y : Int32} (hd : dcI (mB m) pc .le tgt pc') (kt : x ≤ y → RR xs m tgt lv st h bc bs Q) (kf : ¬ x ≤ y → RR xs m pc' lv st h bc bs Q) : RR xs m pc lv (.int y :: .int x :: st) h bc bs Q := by
  obtain ⟨off, hd, ht, rfl⟩ := hd
  intro l p e R s mi args below meth c Z z D ar ac H locs cells slots ls C E hW hF hB hl
  exact lv_icmp_le C.1 C.2.1 hd ht (fun q => kt q l p e R s mi args below meth c Z z D ar ac H locs cells slots ls C E hW hF hB hl) (fun q => kf q l p e R s mi args below meth c Z z D ar ac H locs cells slots ls C E hW hF hB hl)
theorem r_if_le {x : Int32} (hd : dcZ (mB m) pc .le tgt pc') (kt : x ≤ 0 → RR xs m tgt lv st h bc bs Q) (kf : ¬ x ≤ 0 → RR xs m pc' lv st h bc bs Q) : RR xs m pc lv (.int x :: st) h bc bs Q := by
  obtain ⟨off, hd, ht, rfl⟩ := hd
  intro l p e R s mi args below meth c Z z D ar ac H locs cells slots ls C E hW hF hB hl
  exact lv_if_le C.1 C.2.1 hd ht (fun q => kt q l p e R s mi args below meth c Z z D ar ac H locs cells slots ls C E hW hF hB hl) (fun q => kf q l p e R s mi args below meth c Z z D ar ac H locs cells slots ls C E hW hF hB hl)
theorem r_ldc {idx : Nat} {v : Int32} (hd : dc2 (mB m) pc (.ldc idx) pc') (hw : Cond.constant (mY m).cls idx v ∈ wsG) (kk : RR xs m pc' lv (.int v :: st) h bc bs Q) : RR xs m pc lv st h bc bs Q := by
  obtain ⟨hd, rfl⟩ := hd
  intro l p e R s mi args below meth c Z z D ar ac H locs cells slots ls C E hW hF hB hl
  exact lv_ldc C.1 C.2.1 C.2.2.2.2.1 (C.2.2.2.2.2.1 _ hw) hd (kk l p e R s mi args below meth c Z z D ar ac H locs cells slots ls C E hW hF hB hl)
theorem r_ldcw {idx : Nat} {v : Int32} (hd : dc3 (mB m) pc (.ldc_w idx) pc') (hw : Cond.constant (mY m).cls idx v ∈ wsG) (kk : RR xs m pc' lv (.int v :: st) h bc bs Q) : RR xs m pc lv st h bc bs Q := by
  obtain ⟨hd, rfl⟩ := hd
  intro l p e R s mi args below meth c Z z D ar ac H locs cells slots ls C E hW hF hB hl
  exact lv_ldcw C.1 C.2.1 C.2.2.2.2.1 (C.2.2.2.2.2.1 _ hw) hd (kk l p e R s mi args below meth c Z z D ar ac H locs cells slots ls C E hW hF hB hl)
theorem r_ldc2 {idx : Nat} {v : Int64} (hd : dc3 (mB m) pc (.ldc2_w idx) pc') (hw : Cond.constantLong (mY m).cls idx v ∈ wsG) (kk : RR xs m pc' lv (.long v :: st) h bc bs Q) : RR xs m pc lv st h bc bs Q := by
  obtain ⟨hd, rfl⟩ := hd
  intro l p e R s mi args below meth c Z z D ar ac H locs cells slots ls C E hW hF hB hl
  exact lv_ldc2 C.1 C.2.1 C.2.2.2.2.1 (C.2.2.2.2.2.1 _ hw) hd (kk l p e R s mi args below meth c Z z D ar ac H locs cells slots ls C E hW hF hB hl)
theorem r_ret {r : Option Value} (hd : RetOk m pc r) (hq : Q r h) : RR xs m pc lv r.toList h bc bs Q := by
  intro l p e R s mi args below meth c Z z D ar ac H locs cells slots ls C E hW hF hB hl
  exact E r h ac H locs cells slots pc ls hq hW hF (by omega) (by omega) hd
theorem r_iret {v : Int32} (hd : RetOk m pc (some (.int v))) (hq : Q (some (.int v)) h) : RR xs m pc lv [.int v] h bc bs Q := r_ret hd hq
theorem r_lret {v : Int64} (hd : RetOk m pc (some (.long v))) (hq : Q (some (.long v)) h) : RR xs m pc lv [.long v] h bc bs Q := r_ret hd hq
theorem r_aret {v : Nat} (hd : RetOk m pc (some (.ref v))) (hq : Q (some (.ref v)) h) : RR xs m pc lv [.ref v] h bc bs Q := r_ret hd hq
theorem r_vret (hd : RetOk m pc none) (hq : Q none h) : RR xs m pc lv [] h bc bs Q := r_ret hd hq
/-- the switch: inside the table, and beside it -/
def dcT (b : ByteArray) (pc : Nat) (x : Int32) (tgt : Nat) : Prop := ∃ (dflt lo hi : Int) (offs : Array Int) (len : Nat), decode b pc = .ok (.tableswitch dflt lo hi offs, len) ∧ (((x.toInt < lo ∨ hi < x.toInt) ∧ (pc : Int) + dflt = (tgt : Int)) ∨ (¬ x.toInt < lo ∧ ¬ hi < x.toInt ∧ ∃ off, offs[(x.toInt - lo).toNat]? = some off ∧ (pc : Int) + off = (tgt : Int)))
theorem r_switch {x : Int32} (hd : dcT (mB m) pc x tgt) (kk : RR xs m tgt lv st h bc bs Q) : RR xs m pc lv (.int x :: st) h bc bs Q := by
  obtain ⟨dflt, lo, hi, offs, len, hd, ⟨h1, ht⟩ | ⟨h1, h2, off, ho, ht⟩⟩ := hd
  · intro l p e R s mi args below meth c Z z D ar ac H locs cells slots ls C E hW hF hB hl
    exact lv_tableOut C.1 C.2.1 hd h1 ht (kk l p e R s mi args below meth c Z z D ar ac H locs cells slots ls C E hW hF hB hl)
  · intro l p e R s mi args below meth c Z z D ar ac H locs cells slots ls C E hW hF hB hl
    exact lv_tableIn C.1 C.2.1 hd h1 h2 ho ht (kk l p e R s mi args below meth c Z z D ar ac H locs cells slots ls C E hW hF hB hl)
theorem r_mono {Q' : Option Value → List Ce → Prop} (hq : ∀ r h', Q r h' → Q' r h') (kk : RR xs m pc lv st h bc bs Q) : RR xs m pc lv st h bc bs Q' := by
  intro l p e R s mi args below meth c Z z D ar ac H locs cells slots ls C E hW hF hB hl
  exact kk l p e R s mi args below meth c Z z D ar ac H locs cells slots ls C (fun r h' ac' H' locs' cells' slots' pc' ls' q => E r h' ac' H' locs' cells' slots' pc' ls' (hq r h' q)) hW hF hB hl
end RULES
end
section
/-! rules that read and write cells -/
def VOk (ty : FieldType) (v : Value) : Prop := ∀ (z : Nat) (ar : Nat → Nat), narrow ty (tv z ar v) = tv z ar v ∧ fits ty (tv z ar v) = true
theorem VOk_int (x : Int32) : VOk .int (.int x) := fun _ _ => ⟨rfl, rfl⟩
theorem VOk_long (x : Int64) : VOk .long (.long x) := fun _ _ => ⟨rfl, rfl⟩
theorem VOk_bool {x : Int32} (h : x = 0 ∨ x = 1) : VOk .boolean (.int x) := fun _ _ => by rcases h with rfl | rfl <;> exact ⟨rfl, rfl⟩
theorem VOk_obj (n : String) (a : Nat) : VOk (.object n) (.ref a) := fun _ _ => ⟨rfl, rfl⟩
theorem VOk_arr (t : FieldType) (a : Nat) : VOk (.array t) (.ref a) := fun _ _ => ⟨rfl, rfl⟩
def FL (own : String) (idx ci k : Nat) : Prop := ∃ r : vw_C, clsL[ci]? = some r ∧ k < r.2.2 ∧ (r.2.1 k).1 = r.1 ∧ (Cond.fieldLink own idx r.1 (r.2.1 k).2.1 (r.2.1 k).2.2.1 ∈ wsG ∨ ∃ host, Cond.fieldLinkNest own idx r.1 (r.2.1 k).2.1 (r.2.1 k).2.2.1 host ∈ nestW)
section HEAP
variable {xs : List Int32} {m : Md} {pc pc' tgt : Nat} {lv : List Value} {st : List Value} {h : List Ce} {bc bs : Nat} {Q : Option Value → List Ce → Prop}
theorem r_get {idx ci k a : Nat} {fs : List Value} {v : Value} (hd : dc3 (mB m) pc (.getfield idx) pc') (hL : FL (mY m).cls idx ci k) (hc : h[a]? = some (.inr (.inr (ci, fs)))) (hv : fs[k]? = some v) (kk : RR xs m pc' lv (v :: st) h bc bs Q) : RR xs m pc lv (.ref a :: st) h bc bs Q := by
  obtain ⟨hd, rfl⟩ := hd
  intro l p e R s mi args below meth c Z z D ar ac H locs cells slots ls C E hW hF hB hl
  obtain ⟨r, hr, hk, he, hL⟩ := hL
  obtain ⟨r', h1, hlen, cell, q1, q2, q3, q4⟩ := (hW.2.1 a _ hc).1
  cases hr.symm.trans h1
  obtain ⟨hS, hfc, kC, hkC, hkind⟩ := hW.2.2.1.1.1 ci _ h1
  obtain ⟨cf, kf, fi, f, hi, hsl⟩ := hS k hk
  have hst := (u_facts hfc hkC (u_lays C.2.2.2.2.2.1 (cl_ok h1).1 hk) hi).1
  rw [he] at hi
  have hslot : cell.slots[f.slot]? = some (tv z ar v) := by
    rw [hsl, q4 k hk]
    simp [vp_V, hv]
  rcases hL with hL | ⟨host, hL⟩
  · exact W.getf C.1 C.2.1 C.2.2.2.2.1 (C.2.2.2.2.2.1 _ hL) hi hst q1 (by rw [q3]; exact fun h => by cases h) hslot rfl rfl hd (kk l p e R s mi args below meth c Z z D ar ac H locs cells slots ls C E hW hF hB hl)
  · exact va_Wgetf C.1 C.2.1 C.2.2.2.2.1 (va_Nw.use rfl (hW.2.2.1.2.1 _ hL)) hi hst q1 (by rw [q3]; exact fun h => by cases h) hslot rfl rfl hd (kk l p e R s mi args below meth c Z z D ar ac H locs cells slots ls C E hW hF hB hl)
theorem atC_put {D : va_G} {z : Nat} {ar : Nat → Nat} {ac : Nat → ClassId} {a ci k : Nat} {fs : List Value} {v : Value} {r : vw_C} {H1 : Heap} {cell : Cell} (h1 : clsL[ci]? = some r) (hlen : fs.length = r.2.2) (hk : k < r.2.2) (q2 : cell.cls = D.1 ci) (q3 : cell.vm = .none) (q4 : ∀ k, k < r.2.2 → cell.slots[(D.2 ci) k]? = some (tv z ar (vp_V fs k))) (hap : ∀ x y, x < r.2.2 → y < r.2.2 → x ≠ y → (D.2 ci) x ≠ (D.2 ci) y) (e1 : H1[z + a]? = some (cell.setSlot (D.2 ci k) (tv z ar v))) : atC D z ar ac a (.inr (.inr (ci, fs.set k v))) H1 := by
  refine ⟨r, h1, by rw [List.length_set]; exact hlen, _, e1, q2, q3, fun j hj => ?_⟩
  rw [t_set (V := fun k => tv z ar (vp_V fs k)) q4 hap hk _ j hj]
  by_cases e : j = k
  · subst e
    simp [updV, vp_V, hlen, hk]
  · simp [updV, vp_V, e, List.getElem?_set, Ne.symm e]
theorem r_put {idx ci k a : Nat} {fs : List Value} {v : Value} (hd : dc3 (mB m) pc (.putfield idx) pc') (hL : FL (mY m).cls idx ci k) (hnf : ∀ r : vw_C, clsL[ci]? = some r → (r.2.1 k).2.2.2 = false) (hc : h[a]? = some (.inr (.inr (ci, fs)))) (hv : VOk (clT ci k) v) (kk : RR xs m pc' lv st (h.set a (.inr (.inr (ci, fs.set k v)))) bc bs Q) : RR xs m pc lv (v :: .ref a :: st) h bc bs Q := by
  obtain ⟨hd, rfl⟩ := hd
  intro l p e R s mi args below meth c Z z D ar ac H locs cells slots ls C E hW hF hB hl
  obtain ⟨r, hr, hk, he, hL⟩ := hL
  obtain ⟨r', h1, hlen, cell, q1, q2, q3, q4⟩ := (hW.2.1 a _ hc).1
  cases hr.symm.trans h1
  have hok := cl_ok h1
  have hap := va_apart (own := (mY m).cls) C.2.2.2.2.2.1 hok.1 (clT ci) hok.2.1 hok.2.2 hW.2.2.1.1 h1
  obtain ⟨hS, hfc, kC, hkC, hkind⟩ := hW.2.2.1.1.1 ci _ h1
  obtain ⟨cf, kf, fi, f, hi, hsl⟩ := hS k hk
  have hlay := C.2.2.2.2.2.1 _ (hok.1 _ (u_in_lay hk))
  unfold u_lay at hlay
  rw [if_neg (by rw [hnf r hr]; decide)] at hlay
  have hst := (u_facts hfc hkC (u_lays C.2.2.2.2.2.1 hok.1 hk) hi).1
  have h6 := u_store hfc hkC hkind hlay hi (hok.2.1 k hk) (hv z ar).1 (hv z ar).2
  rw [he] at hi
  have hlt : f.slot < cell.slots.size := by rw [hsl]; exact k2_hasslot (q4 k hk)
  rcases hL with hL | ⟨host, hL⟩
  · refine W.putK C.1 C.2.1 (f := f) ⟨C.2.2.2.2.1, C.2.2.2.2.2.1 _ hL, ⟨_, _, _, hi⟩, hst⟩ (by rw [q2]; exact h6) q1 q3 hlt rfl rfl hd fun H' e1 e2 e3 => ?_
    rw [hsl] at e1 ⊢
    exact kk l p e R s mi args below meth c Z z D ar ac H' _ cells slots ls C E (hW.upd e2 e3 (atC_put h1 hlen hk q2 q3 q4 hap e1) trivial) (hF.put e3) hB hl
  · refine va_WputK C.1 C.2.1 (f := f) C.2.2.2.2.1 (va_Nw.use rfl (hW.2.2.1.2.1 _ hL)) hi hst (by rw [q2]; exact h6) q1 q3 hlt rfl rfl hd fun H' e1 e2 e3 => ?_
    rw [hsl] at e1 ⊢
    exact kk l p e R s mi args below meth c Z z D ar ac H' _ cells slots ls C E (hW.upd e2 e3 (atC_put h1 hlen hk q2 q3 q4 hap e1) trivial) (hF.put e3) hB hl
/-- a final field, in a constructor of its class -/
theorem r_putF {idx ci k a : Nat} {fs : List Value} {v : Value} (hd : dc3 (mB m) pc (.putfield idx) pc') (hL : ∃ r : vw_C, clsL[ci]? = some r ∧ k < r.2.2 ∧ (r.2.1 k).1 = r.1 ∧ r.1 = (mY m).cls ∧ (r.2.1 k).2.2.2 = true ∧ Cond.fieldLink (mY m).cls idx r.1 (r.2.1 k).2.1 (r.2.1 k).2.2.1 ∈ wsG) (hin : (mY m).name = "<init>") (hc : h[a]? = some (.inr (.inr (ci, fs)))) (hv : VOk (clT ci k) v) (kk : RR xs m pc' lv st (h.set a (.inr (.inr (ci, fs.set k v)))) bc bs Q) : RR xs m pc lv (v :: .ref a :: st) h bc bs Q := by
  obtain ⟨hd, rfl⟩ := hd
  intro l p e R s mi args below meth c Z z D ar ac H locs cells slots ls C E hW hF hB hl
  obtain ⟨r, hr, hk, he, hown, hfin, hL⟩ := hL
  obtain ⟨r', h1, hlen, cell, q1, q2, q3, q4⟩ := (hW.2.1 a _ hc).1
  cases hr.symm.trans h1
  have hok := cl_ok h1
  have hap := va_apart (own := (mY m).cls) C.2.2.2.2.2.1 hok.1 (clT ci) hok.2.1 hok.2.2 hW.2.2.1.1 h1
  obtain ⟨hS, hfc, kC, hkC, hkind⟩ := hW.2.2.1.1.1 ci _ h1
  obtain ⟨cf, kf, fi, f, hi, hsl⟩ := hS k hk
  have hlay := C.2.2.2.2.2.1 _ (hok.1 _ (u_in_lay hk))
  unfold u_lay at hlay
  rw [if_pos hfin] at hlay
  have hst := (u_facts hfc hkC (u_lays C.2.2.2.2.2.1 hok.1 hk) hi).1
  have hcf : mi.cls = cf := by
    obtain ⟨_, _, c', _, _, _, -, -, hf', -, -, -, hown2, -⟩ := Cond.laysFinal_spec hlay
    have e1 : c' = cf := by have := hi.symm.trans hf'; simp at this; exact this.1.symm
    rw [he, hown] at hown2
    rw [← e1]; exact Option.some.inj (C.2.2.2.2.1.symm.trans hown2)
  have h6 := u_fits hfc hkC hkind (Or.inr hlay) hi (hok.2.1 k hk) (hv z ar).1 (hv z ar).2
  rw [he] at hi
  have hlt : f.slot < cell.slots.size := by rw [hsl]; exact k2_hasslot (q4 k hk)
  refine W.putFinK C.1 C.2.1 C.2.2.2.2.1 (C.2.2.2.2.2.1 _ hL) hi hst hcf (C.2.2.2.2.2.2.2.1.trans hin) (by rw [q2]; exact h6) q1 q3 hlt rfl rfl hd fun H' e1 e2 e3 => ?_
  rw [hsl] at e1 ⊢
  exact kk l p e R s mi args below meth c Z z D ar ac H' _ cells slots ls C E (hW.upd e2 e3 (atC_put h1 hlen hk q2 q3 q4 hap e1) trivial) (hF.put e3) hB hl
theorem arrNo {cA : ClassId} {n : Nat} {f : Nat → Value} : (arrV cA n f).vm ≠ .unknown := fun q => by cases q
theorem r_iald {a n : Nat} {f : Nat → Int32} {i : Int32} (hd : dc1 (mB m) pc .iaload pc') (hc : h[a]? = some (.inl (0, n, f))) (hin : vp_in i n) (kk : RR xs m pc' lv (.int (f i.toNatClampNeg) :: st) h bc bs Q) : RR xs m pc lv (.int i :: .ref a :: st) h bc bs Q := by
  obtain ⟨hd, rfl⟩ := hd
  intro l p e R s mi args below meth c Z z D ar ac H locs cells slots ls C E hW hF hB hl
  have hlt : i.toNatClampNeg < n := Nat.not_le.mp fun q => hin (Or.inr q)
  exact W.iald (v := .int (f i.toNatClampNeg)) C.1 C.2.1 (hW.2.1 a _ hc).1 ((hW.2.1 a _ hc).2 n (fun j => .int (f j))) arrNo (by rw [arrV_size]; exact hin) (arrV_read _ _ hlt) rfl rfl hd (kk l p e R s mi args below meth c Z z D ar ac H locs cells slots ls C E hW hF hB hl)
theorem r_zald {a n : Nat} {f : Nat → Int32} {i : Int32} (hd : dc1 (mB m) pc .baload pc') (hc : h[a]? = some (.inl (1, n, f))) (hin : vp_in i n) (kk : RR xs m pc' lv (.int (f i.toNatClampNeg) :: st) h bc bs Q) : RR xs m pc lv (.int i :: .ref a :: st) h bc bs Q := by
  obtain ⟨hd, rfl⟩ := hd
  intro l p e R s mi args below meth c Z z D ar ac H locs cells slots ls C E hW hF hB hl
  have hlt : i.toNatClampNeg < n := Nat.not_le.mp fun q => hin (Or.inr q)
  exact W.zald (v := .int (f i.toNatClampNeg)) C.1 C.2.1 (hW.2.1 a _ hc).1 ((hW.2.1 a _ hc).2 n (fun j => .int (f j))) arrNo (by rw [arrV_size]; exact hin) (arrV_read _ _ hlt) rfl rfl hd (kk l p e R s mi args below meth c Z z D ar ac H locs cells slots ls C E hW hF hB hl)
theorem updV_int (f : Nat → Int32) (k : Nat) (x : Int32) : updV (fun j => Value.int (f j)) k (.int x) = fun j => Value.int (upd f k x j) := by
  funext q
  by_cases hq : q = k
  · subst hq; simp [updV, upd]
  · simp [updV, upd, hq]
theorem r_iast {a n : Nat} {f : Nat → Int32} {i x : Int32} (hd : dc1 (mB m) pc .iastore pc') (hc : h[a]? = some (.inl (0, n, f))) (hin : vp_in i n) (kk : RR xs m pc' lv st (h.set a (.inl (0, n, upd f i.toNatClampNeg x))) bc bs Q) : RR xs m pc lv (.int x :: .int i :: .ref a :: st) h bc bs Q := by
  obtain ⟨hd, rfl⟩ := hd
  intro l p e R s mi args below meth c Z z D ar ac H locs cells slots ls C E hW hF hB hl
  refine W.iast C.1 C.2.1 (hW.2.1 a _ hc).1 ((hW.2.1 a _ hc).2 n (fun j => .int (f j))) arrNo (by rw [arrV_size]; exact hin) rfl rfl hd fun H' e1 e2 e3 => ?_
  rw [arrV_store, updV_int] at e1
  exact kk l p e R s mi args below meth c Z z D ar ac H' _ cells slots ls C E (hW.upd e2 e3 e1 (hW.2.1 a _ hc).2) (hF.put e3) hB hl
theorem r_zast {a n : Nat} {f : Nat → Int32} {i x : Int32} (hd : dc1 (mB m) pc .bastore pc') (hc : h[a]? = some (.inl (1, n, f))) (hin : vp_in i n) (kk : RR xs m pc' lv st (h.set a (.inl (1, n, upd f i.toNatClampNeg (x &&& 1)))) bc bs Q) : RR xs m pc lv (.int x :: .int i :: .ref a :: st) h bc bs Q := by
  obtain ⟨hd, rfl⟩ := hd
  intro l p e R s mi args below meth c Z z D ar ac H locs cells slots ls C E hW hF hB hl
  refine W.zast C.1 C.2.1 (hW.2.1 a _ hc).1 ((hW.2.1 a _ hc).2 n (fun j => .int (f j))) arrNo (by rw [arrV_size]; exact hin) rfl rfl hd fun H' e1 e2 e3 => ?_
  rw [show narrow FieldType.boolean (Value.int x) = Value.int (x &&& 1) from rfl, arrV_store, updV_int] at e1
  exact kk l p e R s mi args below meth c Z z D ar ac H' _ cells slots ls C E (hW.upd e2 e3 e1 (hW.2.1 a _ hc).2) (hF.put e3) hB hl
theorem r_alen {a t n : Nat} {f : Nat → Int32} (hd : dc1 (mB m) pc .arraylength pc') (hc : h[a]? = some (.inl (t, n, f))) (kk : RR xs m pc' lv (.int (Int32.ofNat n) :: st) h bc bs Q) : RR xs m pc lv (.ref a :: st) h bc bs Q := by
  obtain ⟨hd, rfl⟩ := hd
  intro l p e R s mi args below meth c Z z D ar ac H locs cells slots ls C E hW hF hB hl
  exact W.alen (n := Int32.ofNat n) C.1 C.2.1 (hW.2.1 a _ hc).1 ((hW.2.1 a _ hc).2 n (fun j => .int (f j))) (by rw [arrV_size]) rfl rfl hd (kk l p e R s mi args below meth c Z z D ar ac H locs cells slots ls C E hW hF hB hl)
/-- the arrays that nobody writes -/
theorem r_rald {k : Nat} {i : Int32} (hd : dc1 (mB m) pc .iaload pc') (hk : k < 3) (hin : vp_in i (roT xs k).length) (kk : RR xs m pc' lv (.int ((roT xs k).getD i.toNatClampNeg 0) :: st) h bc bs Q) : RR xs m pc lv (.int i :: .retAddr k :: st) h bc bs Q := by
  obtain ⟨hd, rfl⟩ := hd
  intro l p e R s mi args below meth c Z z D ar ac H locs cells slots ls C E hW hF hB hl
  obtain ⟨cell, t1, t2, t3, t4, t5, t6, t7⟩ := hW.2.2.2.1 k hk
  have hlt : i.toNatClampNeg < (roT xs k).length := Nat.not_le.mp fun q => hin (Or.inr q)
  exact W.iald (v := .int ((roT xs k).getD i.toNatClampNeg 0)) C.1 C.2.1 t1 t2 t3 (fun q => hin (q.imp_right fun q => by omega)) (t6 _ hlt) rfl rfl hd (kk l p e R s mi args below meth c Z z D ar ac H locs cells slots ls C E hW hF hB hl)
theorem r_rlen {k : Nat} (hd : dc1 (mB m) pc .arraylength pc') (hk : k < 3) (kk : RR xs m pc' lv (.int (Int32.ofNat (roT xs k).length) :: st) h bc bs Q) : RR xs m pc lv (.retAddr k :: st) h bc bs Q := by
  obtain ⟨hd, rfl⟩ := hd
  intro l p e R s mi args below meth c Z z D ar ac H locs cells slots ls C E hW hF hB hl
  obtain ⟨cell, t1, t2, t3, t4, t5, t6, t7⟩ := hW.2.2.2.1 k hk
  exact W.alen (n := Int32.ofNat (roT xs k).length) C.1 C.2.1 t1 t2 t5 rfl rfl hd (kk l p e R s mi args below meth c Z z D ar ac H locs cells slots ls C E hW hF hB hl)
def SL (own : String) (idx : Nat) (n : String) : Prop := Cond.fieldLink own idx "PegWatch$Compass" n "[I" ∈ wsG ∨ ∃ host, Cond.fieldLinkNest own idx "PegWatch$Compass" n "[I" host ∈ nestW
theorem r_gets {idx k : Nat} {n : String} (hd : dc3 (mB m) pc (.getstatic idx) pc') (hL : SL (mY m).cls idx n) (hk : (k = 1 ∧ n = "NAMES") ∨ (k = 2 ∧ n = "LENGTHS")) (kk : RR xs m pc' lv (.retAddr k :: st) h bc bs Q) : RR xs m pc lv st h bc bs Q := by
  obtain ⟨hd, rfl⟩ := hd
  intro l p e R s mi args below meth c Z z D ar ac H locs cells slots ls C E hW hF hB hl
  have hZ : va_Z "PegWatch$Compass" n "[I" (.ref (ar k)) (fun q => z ≤ q) s H := by
    rcases hk with ⟨rfl, rfl⟩ | ⟨rfl, rfl⟩
    · exact hW.2.2.2.2.1
    · exact hW.2.2.2.2.2
  obtain ⟨cf, kf, fi, f, a, cell, h1, h2, h3, h4, h5, h6, h7, h8⟩ := hZ
  rcases hL with hL | ⟨host, hL⟩
  · exact W.gets C.1 C.2.1 C.2.2.2.2.1 (C.2.2.2.2.2.1 _ hL) h1 h2 h3 h4 h5 (fun e => by rw [e] at h6; cases h6) h7 rfl hd (kk l p e R s mi args below meth c Z z D ar ac H locs cells slots ls C E hW hF hB hl)
  · exact va_WgetsN C.1 C.2.1 C.2.2.2.2.1 (va_Nw.use rfl (hW.2.2.1.2.1 _ hL)) h1 h2 h3 h4 h5 (fun e => by rw [e] at h6; cases h6) h7 rfl hd (kk l p e R s mi args below meth c Z z D ar ac H locs cells slots ls C E hW hF hB hl)
/-- an array of references -/
theorem r_aald {a ci n b : Nat} {f : Nat → Option Nat} {i : Int32} (hd : dc1 (mB m) pc .aaload pc') (hc : h[a]? = some (.inr (.inl (ci, n, f)))) (hin : vp_in i n) (hb : f i.toNatClampNeg = some b) (kk : RR xs m pc' lv (.ref b :: st) h bc bs Q) : RR xs m pc lv (.int i :: .ref a :: st) h bc bs Q := by
  obtain ⟨hd, rfl⟩ := hd
  intro l p e R s mi args below meth c Z z D ar ac H locs cells slots ls C E hW hF hB hl
  have hlt : i.toNatClampNeg < n := Nat.not_le.mp fun q => hin (Or.inr q)
  obtain ⟨r, hr, g1, g2⟩ := (hW.2.1 a _ hc).2
  exact W.aald (v := .ref (z + b)) (ty := .object r.1) C.1 C.2.1 (hW.2.1 a _ hc).1 (g1 n (fun j => va_rf ((f j).map (fun x => z + x)))) rfl arrNo (by rw [arrV_size]; exact hin) (by rw [arrV_read _ _ hlt, hb]; rfl) rfl rfl hd (kk l p e R s mi args below meth c Z z D ar ac H locs cells slots ls C E hW hF hB hl)
theorem r_aast {a ci n b : Nat} {f : Nat → Option Nat} {fs : List Value} {i : Int32} (hd : dc1 (mB m) pc .aastore pc') (hc : h[a]? = some (.inr (.inl (ci, n, f)))) (hin : vp_in i n) (hb : h[b]? = some (.inr (.inr (ci, fs)))) (kk : RR xs m pc' lv st (h.set a (.inr (.inl (ci, n, va_up f i.toNatClampNeg (some b))))) bc bs Q) : RR xs m pc lv (.ref b :: .int i :: .ref a :: st) h bc bs Q := by
  obtain ⟨hd, rfl⟩ := hd
  intro l p e R s mi args below meth c Z z D ar ac H locs cells slots ls C E hW hF hB hl
  have hlt : i.toNatClampNeg < n := Nat.not_le.mp fun q => hin (Or.inr q)
  have h0 : ¬ i < 0 := fun q => hin (Or.inl q)
  obtain ⟨r', hr', -, cellV, g1, g2, g3, -⟩ := (hW.2.1 b _ hb).1
  obtain ⟨r, hr, t1, t2⟩ := (hW.2.1 a _ hc).2
  cases hr.symm.trans hr'
  have hcls := (hW.2.2.1.1.1 ci _ hr).2
  obtain ⟨kA, comp, k1, k2, k3, k4⟩ := t2
  have hcomp : comp = D.1 ci := Option.some.inj (k3.symm.trans hcls.1)
  subst hcomp
  obtain ⟨kC, hkC, -⟩ := hcls.2
  refine W.aast C.1 C.2.1 (hW.2.1 a _ hc).1 (fun q h => by cases h) (fun h => by cases h) k1 k2 rfl hkC ⟨h0, by rw [arrV_size]; exact hlt⟩ g1 (fun q h => by rw [g3] at h; cases h) (by rw [g2]; exact hkC) (by rw [g2]; exact va_assign hcls) rfl rfl hd fun H' e1 e2 e3 => ?_
  have e1' : H'[z + a]? = some (arrV (ac a) n (fun j => va_rf ((va_up f i.toNatClampNeg (some b) j).map (fun x => z + x)))) := by
    rw [e1, arrV_store]
    congr 2
    funext q
    by_cases hq : q = i.toNatClampNeg
    · subst hq
      simp [updV, va_up, va_rf]
    · simp [updV, va_up, hq]
  exact kk l p e R s mi args below meth c Z z D ar ac H' _ cells slots ls C E (hW.upd e2 e3 e1' ⟨_, hr, t1, kA, D.1 ci, k1, k2, k3, k4⟩) (hF.put e3) hB hl
end HEAP
end
section
/-! making cells; calls; a contract out of RR -/
section MAKE
variable {xs : List Int32} {m : Md} {pc pc' tgt : Nat} {lv : List Value} {st : List Value} {h : List Ce} {bc bs : Nat} {Q : Option Value → List Ce → Prop}
def acU (ac : Nat → ClassId) (k : Nat) (cA : ClassId) : Nat → ClassId := fun j => if j = k then cA else ac j
def dvs (ci : Nat) (n : Nat) : List Value := (List.range n).map fun k => defaultValue (clT ci k)
theorem tv_dv (z : Nat) (ar : Nat → Nat) (t : FieldType) : tv z ar (defaultValue t) = defaultValue t := by cases t <;> rfl
theorem r_new {idx ci n : Nat} (hd : dc3 (mB m) pc (.new idx) pc') (hL : ∃ r : vw_C, clsL[ci]? = some r ∧ r.2.2 = n ∧ Cond.classLink (mY m).cls idx r.1 ∈ wsG ∧ Cond.instantiable r.1 n ∈ wsG ∧ Cond.initialized r.1 ∈ wsG) (kk : RR xs m pc' lv (.ref h.length :: st) (h ++ [.inr (.inr (ci, dvs ci n))]) bc bs Q) : RR xs m pc lv st h (bc + 1) (bs + n) Q := by
  obtain ⟨hd, rfl⟩ := hd
  intro l p e R s mi args below meth c Z z D ar ac H locs cells slots ls C E hW hF hB hl
  obtain ⟨r, hr, rfl, hL1, hL2, hL3⟩ := hL
  have hKn := hW.2.2.1.1.1 ci _ hr
  have hok := cl_ok hr
  refine W.newcK C.1 C.2.1 C.2.2.2.2.1 (C.2.2.2.2.2.1 _ hL1) (C.2.2.2.2.2.1 _ hL2) (C.2.2.2.2.2.1 _ hL3) rfl hd (by omega) (by omega) hKn.2.1 hW.1 fun H1 kC hkC e1 z1 o1 => ?_
  refine kk l p e R s mi args below meth c Z z D ar ac H1 locs (cells + 1) (slots + r.2.2) ls C E (hW.push (by rw [z1, hW.1]) (fun q hq => o1 q (by rw [← hW.1]; exact hq)) (fun _ _ => rfl) ⟨r, hr, by simp [dvs], (u_born (clT ci) C.2.2.2.2.2.1 hok.1 hKn hkC e1 hok.2.1).to fun k hk => ?_⟩ trivial) ⟨fun q hq => (o1 q (by omega)).trans (hF.1 q hq), hF.2⟩ (by omega) hl
  simp [dvs, vp_V, hk, tv_dv]
theorem r_newi {n : Int32} {N : Nat} (hd : dc2 (mB m) pc (.newarray .int) pc') (hw : Cond.arrayClass .int ∈ wsG) (hn : ¬ n < 0) (hN : n.toNatClampNeg = N) (hb : N ≤ 100000) (kk : RR xs m pc' lv (.ref h.length :: st) (h ++ [.inl (0, N, fun _ => 0)]) bc bs Q) : RR xs m pc lv (.int n :: st) h (bc + 1) (bs + N) Q := by
  obtain ⟨hd, rfl⟩ := hd
  intro l p e R s mi args below meth c Z z D ar ac H locs cells slots ls C E hW hF hB hl
  refine va_newaK (atype := .int) C.1 C.2.1 (C.2.2.2.2.2.1 _ hw) rfl hd rfl hn hN (by show N * 4 ≤ _; omega) (by omega) (by omega) hW.1 fun H1 cA e1 z1 o1 hAr hNm => ?_
  refine kk l p e R s mi args below meth c Z z D ar (acU ac h.length cA) H1 locs (cells + 1) (slots + N) ls C E (hW.push (by rw [z1, hW.1]) (fun q hq => o1 q (by rw [← hW.1]; exact hq)) (fun a ha => by simp [acU, Nat.ne_of_lt ha]) ?_ ?_) ⟨fun q hq => (o1 q (by omega)).trans (hF.1 q hq), hF.2⟩ (by omega) hl
  · show H1[z + h.length]? = some (arrV (acU ac h.length cA h.length) N _)
    rw [show acU ac h.length cA h.length = cA from if_pos rfl, e1]; rfl
  · show ArrOfT s (acU ac h.length cA h.length) _
    rw [show acU ac h.length cA h.length = cA from if_pos rfl]; exact hAr
theorem r_newz {n : Int32} {N : Nat} (hd : dc2 (mB m) pc (.newarray .boolean) pc') (hw : Cond.arrayClass .boolean ∈ wsG) (hn : ¬ n < 0) (hN : n.toNatClampNeg = N) (hb : N ≤ 100000) (kk : RR xs m pc' lv (.ref h.length :: st) (h ++ [.inl (1, N, fun _ => 0)]) bc bs Q) : RR xs m pc lv (.int n :: st) h (bc + 1) (bs + N) Q := by
  obtain ⟨hd, rfl⟩ := hd
  intro l p e R s mi args below meth c Z z D ar ac H locs cells slots ls C E hW hF hB hl
  refine va_newaK (atype := .boolean) C.1 C.2.1 (C.2.2.2.2.2.1 _ hw) rfl hd rfl hn hN (by show N * 1 ≤ _; omega) (by omega) (by omega) hW.1 fun H1 cA e1 z1 o1 hAr hNm => ?_
  refine kk l p e R s mi args below meth c Z z D ar (acU ac h.length cA) H1 locs (cells + 1) (slots + N) ls C E (hW.push (by rw [z1, hW.1]) (fun q hq => o1 q (by rw [← hW.1]; exact hq)) (fun a ha => by simp [acU, Nat.ne_of_lt ha]) ?_ ?_) ⟨fun q hq => (o1 q (by omega)).trans (hF.1 q hq), hF.2⟩ (by omega) hl
  · show H1[z + h.length]? = some (arrV (acU ac h.length cA h.length) N _)
    rw [show acU ac h.length cA h.length = cA from if_pos rfl, e1]; rfl
  · show ArrOfT s (acU ac h.length cA h.length) _
    rw [show acU ac h.length cA h.length = cA from if_pos rfl]; exact hAr
theorem r_newq {idx ci : Nat} {n : Int32} {N : Nat} (hd : dc3 (mB m) pc (.anewarray idx) pc') (hL : ∃ r : vw_C, clsL[ci]? = some r ∧ r.1 ∈ aoL ∧ Cond.classLink (mY m).cls idx r.1 ∈ wsG) (hn : ¬ n < 0) (hN : n.toNatClampNeg = N) (hb : N ≤ 100000) (kk : RR xs m pc' lv (.ref h.length :: st) (h ++ [.inr (.inl (ci, N, fun _ => none))]) bc bs Q) : RR xs m pc lv (.int n :: st) h (bc + 1) (bs + N) Q := by
  obtain ⟨hd, rfl⟩ := hd
  intro l p e R s mi args below meth c Z z D ar ac H locs cells slots ls C E hW hF hB hl
  obtain ⟨r, hr, hL1, hL2⟩ := hL
  subst hN
  refine W.anew C.1 C.2.1 C.2.2.2.2.1 (C.2.2.2.2.2.1 _ hL2) (va_AO.use (hW.2.2.1.2.2 _ hL1)) rfl hd rfl hn (by omega) (by omega) (by omega) fun cA kA comp f1 f2 f3 f4 => ?_
  generalize hH1 : H.push ({ cls := cA, slots := Array.replicate n.toNatClampNeg .null, vm := .none } : Cell) = H1
  have z1 : H1.size = H.size + 1 := by rw [← hH1, Array.size_push]
  have e1 : H1[H.size]? = some (arrV cA n.toNatClampNeg (fun _ => .null)) := by rw [← hH1, Array.getElem?_push_size, ← arrV_new]
  have o1 : ∀ q : Nat, q < H.size → H1[q]? = H[q]? := fun q hq => by rw [← hH1, Array.getElem?_push, if_neg (Nat.ne_of_lt hq)]
  have hAr : ArrOfT s cA (.object r.1) := fun N z => ⟨(fun k h => by cases h), kA, f2, comp, f3⟩
  have hk := kk l p e R s mi args below meth c Z z D ar (acU ac h.length cA) H1 locs (cells + 1) (slots + n.toNatClampNeg) ls C E (hW.push z1 o1 (fun a ha => by simp [acU, Nat.ne_of_lt ha]) (by
    show H1[z + h.length]? = some (arrV (acU ac h.length cA h.length) n.toNatClampNeg _)
    rw [show acU ac h.length cA h.length = cA from if_pos rfl, ← hW.1, e1]; rfl) (by
    refine ⟨r, hr, ?_, ?_⟩
    · rw [show acU ac h.length cA h.length = cA from if_pos rfl]; exact hAr
    · rw [show acU ac h.length cA h.length = cA from if_pos rfl]; exact ⟨kA, comp, f2, f3, f4, f1⟩)) ⟨fun q hq => (o1 q (by have := hW.1; omega)).trans (hF.1 q hq), hF.2⟩ (by omega) hl
  rw [show H.size = z + h.length from hW.1]
  exact hk
end MAKE
/-- the locals at a method's entry: a long takes two places -/
def ent (vs : List Value) : List Value := vs.flatMap fun v => if v.category = 2 then [v, .null] else [v]
theorem ent_get (vs : List Value) (z : Nat) (ar : Nat → Nat) : ∀ (k i : Nat) (v : Value), (ent vs)[i]? = some v → v ≠ .null → (k + i, tv z ar v) ∈ lv_args k (vs.map (tv z ar)) := by
  induction vs with
  | nil => intro k i v h; simp [ent] at h
  | cons u us ih =>
    intro k i v h hn
    simp only [ent, List.flatMap_cons, List.map_cons, lv_args, tv_cat] at h ⊢
    by_cases hc : u.category = 2
    · rw [if_pos hc] at h ⊢
      match i, h with
      | 0, h => simp at h; subst h; exact List.mem_cons_self
      | 1, h => simp at h; exact absurd h.symm hn
      | i + 2, h =>
        have h' : (ent us)[i]? = some v := by simpa [ent] using h
        have := ih (k + 2) i v h' hn
        rw [show k + (i + 2) = k + 2 + i by omega]
        exact List.mem_cons_of_mem _ this
    · rw [if_neg hc] at h ⊢
      match i, h with
      | 0, h => simp at h; subst h; exact List.mem_cons_self
      | i + 1, h =>
        have h' : (ent us)[i]? = some v := by simpa [ent] using h
        have := ih (k + 1) i v h' hn
        rw [show k + (i + 1) = k + 1 + i by omega]
        exact List.mem_cons_of_mem _ this
theorem ent_len (vs : List Value) (z : Nat) (ar : Nat → Nat) : (lg_sl (vs.map (tv z ar))).length = (ent vs).length := by
  induction vs with
  | nil => rfl
  | cons u us ih =>
    simp only [lg_sl, ent, List.flatMap_cons, List.map_cons, List.length_append, tv_cat] at ih ⊢
    rw [ih]
    by_cases hc : u.category = 2
    · simp [hc]
    · simp [hc]
def PreC (xs : List Int32) (z : Nat) (D : va_G) (ar : Nat → Nat) (ac : Nat → ClassId) (h : List Ce) (as : List Value) : Array Value → State → Prop := fun v U => v = (as.map (tv z ar)).toArray ∧ Wd xs z D ar ac h U U.heap
def PostC (xs : List Int32) (z : Nat) (D : va_G) (ar : Nat → Nat) (Q : Option Value → List Ce → Prop) : Array Value → State → Outcome → State → Prop := fun _ st oc t =>
  ∃ (r : Option Value) (h' : List Ce) (ac' : Nat → ClassId), oc = .returned (r.map (tv z ar)) ∧ Q r h' ∧ Wd xs z D ar ac' h' t t.heap ∧ ∀ q : Nat, q < z → t.heap[q]? = st.heap[q]?
def rmC (m : Md) (bc bs : Nat) : Room := { frames := mF m, cells := bc, slots := bs, locals := mO m }
def wsC (m : Md) : List Cond := Cond.code (mY m) (mB m) (mL m) (mR m) :: wsG
theorem MetOf {xs : List Int32} {m : Md} {as : List Value} {h : List Ce} {bc bs : Nat} {Q : Option Value → List Ce → Prop} (hy : plainName (mY m).cls = true) (hlen : (ent as).length ≤ mL m) (kk : RR xs m 0 (ent as) [] h bc bs Q) (l : Launch) (z : Nat) (D : va_G) (ar : Nat → Nat) (ac : Nat → ClassId) :
    Met l (mY m) (wsC m) (rmC m bc bs) (PreC xs z D ar ac h as) (PostC xs z D ar Q) bc bs (fun q => z ≤ q) := by
  refine Met.ofW (cc := mB m) (maxL := mL m) (ret := mR m) hy rfl ?_
  intro p e s mi args below meth c s₁ B hml hv
  obtain ⟨rfl, hW⟩ := hv
  have hts := atoms_spec (ws := wsC m) B.pre
  rw [lg_entry_eq]
  have hl := lv_entry (as.map (tv z ar)) (n := mL m) (by rw [ent_len]; exact hlen)
  refine kk l p e _ s mi _ below meth c _ z D ar ac s.heap [] 0 0 _ ⟨B.exec, B.bytes, hml, B.returns, findClass_of_methodNamed B.named, fun w hw => hts w (List.mem_cons_of_mem _ hw), B.notSynchronized, (name_of_methodNamed B.named B.method).1, Nat.le_refl _, Nat.le_refl _⟩ ?_ hW ⟨fun _ _ => rfl, fun _ h => by cases h⟩ ⟨by show 0 + bc ≤ bc; omega, by show 0 + bs ≤ bs; omega⟩ ⟨hl.1, hl.2.1, fun i v hi hn => by have := hl.2.2 _ (ent_get as z ar 0 i v hi hn); simpa using this⟩
  intro r h' ac' H' locs' cells' slots' pc' ls' hq hW' hF' hc hs hd
  have hlocks := B.notSynchronized
  refine W.widen (k := bc) (n := bs) hc hs ?_
  have hpost : ∀ (r0 : Option Value), r0 = r.map (tv z ar) → ∀ t : State, t.heap = H' → s.WarmedH t.vm → PostC xs z D ar Q (as.map (tv z ar)).toArray s (.returned r0) t := by
    intro r0 hr0 t ht hWt
    exact ⟨r, h', ac', by rw [hr0], hq, by rw [ht]; exact hW'.moved hWt, fun q hqz => by rw [ht]; exact hF'.1 q hqz⟩
  match r, hd with
  | none, hd => exact W.vret B.exec B.bytes (B.returns.trans hd.2) (hpost _ rfl) hF'.2 hd.1
  | some (.int v), hd =>
    obtain ⟨hd1, ty, hty, hn⟩ := hd
    exact W.zret B.exec B.bytes (B.returns.trans hty) hn (hpost _ rfl) hF'.2 hd1
  | some (.long v), hd => exact W.lret B.exec B.bytes (B.returns.trans hd.2) (hpost _ rfl) hF'.2 hd.1
  | some (.ref v), hd =>
    obtain ⟨hd1, n, hn⟩ := hd
    exact W.aret B.exec B.bytes (B.returns.trans hn) (Or.inl ⟨n, rfl⟩) (Or.inr ⟨_, rfl⟩) (hpost _ rfl) hF'.2 hd1
theorem Wd.back {xs : List Int32} {z : Nat} {D : va_G} {ar : Nat → Nat} {ac : Nat → ClassId} {h : List Ce} {s t : State} {H : Heap} (hvm : t.vm.Alike s.vm) (hK : KS D s) (w : Wd xs z D ar ac h t H) : Wd xs z D ar ac h s H :=
  ⟨w.1, fun a c hc => ⟨(w.2.1 a c hc).1, (w.2.1 a c hc).2.moved hvm⟩, hK, w.2.2.2.moved hvm⟩
theorem PreC.blind {xs : List Int32} {z : Nat} {D : va_G} {ar : Nat → Nat} {ac : Nat → ClassId} {h : List Ce} {as : List Value} : FrameBlind (PreC xs z D ar ac h as) := by
  intro a U g mk q
  exact ⟨q.1, q.2.moved (U := U.calling g mk a) (State.WarmedH.refl U)⟩
def ML (own : String) (idx : Nat) (y : MethodName) : Prop := Cond.methodLink own idx y ∈ wsG ∨ ∃ host, Cond.methodLinkNest own idx y host ∈ nestW
def MC (mj : Md) (n : Nat) : Prop := Cond.code (mY mj) (mB mj) (mL mj) (mR mj) ∈ wsG ∧ Cond.initialized (mY mj).cls ∈ wsG ∧ plainName (mY mj).cls = true ∧ (mY mj).cls ≠ "java/lang/invoke/MethodHandle" ∧ (mY mj).cls ≠ "java/lang/invoke/VarHandle" ∧ (parseMethodDescriptor (mY mj).desc).map (fun d => d.parameters.length) = some n
def RmOk (m mj : Md) : Prop := mF mj + 1 ≤ mF m ∧ 8 + (mL mj + 11) + mO mj ≤ mO m
theorem good_wsC {mj : Md} (h : Cond.code (mY mj) (mB mj) (mL mj) (mR mj) ∈ wsG) : GoodIn wsG (wsC mj) := by
  have hg : ∀ w ∈ wsG, w ∈ wsG ∧ ((w.onTables && w.keeps) = true ∨ ∃ ty, w = .arrayClass ty) := fun w hw => ⟨hw, good_of_word (List.mem_filter.mp hw).2⟩
  intro w hw
  rcases List.mem_cons.mp hw with rfl | hw
  · exact hg _ h
  · exact hg w hw
theorem tv_rest (z : Nat) (ar : Nat → Nat) (r : Option Value) (st : List Value) : (r.map (tv z ar)).toList ++ st.map (tv z ar) = (r.toList ++ st).map (tv z ar) := by cases r <;> simp
theorem tv_sum (z : Nat) (ar : Nat → Nat) (st : List Value) : ((st.map (tv z ar)).map fun v => v.category) = st.map fun v => v.category := by
  rw [List.map_map]
  exact List.map_congr_left fun v _ => tv_cat z ar v
section CALL
variable {xs : List Int32} {m mj : Md} {pc pc' : Nat} {lv : List Value} {st as : List Value} {h : List Ce} {bc bs b1 b2 n idx : Nat} {Q Q1 : Option Value → List Ce → Prop}
/-- behind a call -/
theorem r_back {l : Launch} {p : Program} {e : Env} {R : Room} {s : State} {mi : MethodId} {args : Array Value} {below : List Frame} {meth : Method} {c : Code} {Z : State → Prop} {z : Nat} {D : va_G} {ar : Nat → Nat} {ac : Nat → ClassId} {H : Heap} {locs : List Loc} {cells slots : Nat} {ls : Array Slot} {st0 : List Value} {a9 : Array Value}
    (C : Cx m p s mi args meth c R) (E : ExR xs m Q l p e R s mi args below meth c Z z D ar) (hW : Wd xs z D ar ac h s H) (hF : Fr z s H locs) (hB : cells + (bc + b1) ≤ R.cells ∧ slots + (bs + b2) ≤ R.slots) (hl : LH z ar ls (mL m) lv)
    (run : va_Run p l e R s mi args below meth c H locs cells slots b1 b2 (F0 mi pc ls st0) (st.map (tv z ar)) (PostC xs z D ar Q1 a9) (fun q => z ≤ q))
    (kk : ∀ r h', Q1 r h' → RR xs m (pc + 3) lv (r.toList ++ st) h' bc bs Q) : W p l e R s mi args below meth c H locs cells slots Z (F0 mi pc ls st0) := by
  intro T hT X
  obtain ⟨v, st₀, t, T', L, h0, X', hL, e1, e2, ⟨r, h', ac', hv, hq, hWd, hq2⟩, step⟩ := run T hT X
  have hv' : v = r.map (tv z ar) := by cases hv; rfl
  subst hv'
  have hal : s.vm.Alike t.vm := by rw [← e2]; exact X'.warmed.alike
  have hWs : Wd xs z D ar ac' h' s T'.heap := by rw [e1]; exact hWd.back hal.symm hW.2.2.1
  have hFs : Fr z s T'.heap (locs ++ L) := by
    refine ⟨fun q hqz => ?_, fun q hqm => ?_⟩
    · rw [e1, hq2 q hqz, h0]; exact hF.1 q hqz
    · rcases List.mem_append.mp hqm with g | g
      · exact hF.2 q g
      · exact hL q g
  obtain ⟨t2, a1, b1'⟩ := kk r h' hq l p e R s mi args below meth c Z z D ar ac' T'.heap (locs ++ L) (cells + b1) (slots + b2) ls C E hWs hFs (by omega) hl T' rfl X'
  rw [← tv_rest] at a1
  exact ⟨t2, step t2 a1, b1'⟩
theorem r_callS (hd : dc3 (mB m) pc (.invokestatic idx) pc') (hL : ML (mY m).cls idx (mY mj)) (hC : MC mj n) (hS : Cond.static (mY mj) ∈ wsG) (hR : RmOk m mj) (hn : as.length = n) (hs : (st.map fun v => v.category).sum ≤ 8) (hlen : (ent as).length ≤ mL mj)
    (k1 : RR xs mj 0 (ent as) [] h b1 b2 Q1) (kk : ∀ r h', Q1 r h' → RR xs m pc' lv (r.toList ++ st) h' bc bs Q) : RR xs m pc lv (as.reverse ++ st) h (bc + b1) (bs + b2) Q := by
  obtain ⟨hd, rfl⟩ := hd
  intro l p e R s mi args below meth c Z z D ar ac H locs cells slots ls C E hW hF hB hl
  have hM := MetOf hC.2.2.1 hlen k1 l z D ar ac
  have hRm : (rmC mj b1 b2).frames + 1 ≤ R.frames ∧ 8 + (mL mj + 11) + (rmC mj b1 b2).locals ≤ R.locals := ⟨Nat.le_trans hR.1 C.2.2.2.2.2.2.2.2.1, Nat.le_trans hR.2 C.2.2.2.2.2.2.2.2.2⟩
  have hfix : CallFix p mi c (mB m) (mL m) s args wsG (mY m).cls := ⟨C.1, C.2.1, C.2.2.1, C.2.2.2.2.1, C.2.2.2.2.2.1⟩
  have hpre : PreS s H (PreC xs z D ar ac h as) (as.map (tv z ar)) := ⟨PreC.blind, fun U hU hWU => ⟨rfl, by rw [hU]; exact hW.moved hWU⟩⟩
  have hst : (F0 mi pc ls ((as.reverse ++ st).map (tv z ar))).stack = (as.map (tv z ar)).reverse ++ st.map (tv z ar) := by simp
  have hsum : 2 * (F0 mi pc ls ((as.reverse ++ st).map (tv z ar))).monitorRoom + ((st.map (tv z ar)).map fun v => v.category).sum ≤ 8 := lv_room (by rw [tv_sum]; exact hs)
  refine r_back (a9 := (as.map (tv z ar)).toArray) C E hW hF hB hl ?_ kk
  rcases hL with hL | ⟨host, hL⟩
  · exact va_runS hfix hM ⟨callB_of n C.2.2.2.2.2.1 (good_wsC hC.1) rfl rfl rfl (C.2.2.2.2.2.1 _ hC.2.1) (C.2.2.2.2.2.1 _ hL) ⟨hC.2.2.2.1, hC.2.2.2.2.1, hC.2.2.2.2.2⟩ hRm, C.2.2.2.2.2.1 _ hS⟩ hpre rfl (by rw [List.length_map]; exact hn) hl.1 hst hsum hd ⟨by omega, by omega⟩
  · exact va_runSN hfix hM ⟨va_cnB n C.2.2.2.2.2.1 (good_wsC hC.1) rfl rfl rfl (hW.2.2.1.2.1 _ hL) (C.2.2.2.2.2.1 _ hC.2.1) ⟨hC.2.2.2.1, hC.2.2.2.2.1, hC.2.2.2.2.2⟩ hRm, C.2.2.2.2.2.1 _ hS, trivial⟩ hpre rfl (by rw [List.length_map]; exact hn) hl.1 hst hsum hd ⟨by omega, by omega⟩
theorem r_callV {b ci : Nat} {fs : List Value} (hd : dc3 (mB m) pc (.invokevirtual idx) pc') (hL : Cond.methodLink (mY m).cls idx (mY mj) ∈ wsG) (hC : MC mj n) (hS : Cond.instanceMethod (mY mj) ∈ wsG ∧ Cond.selects (mY mj).cls (mY mj) (mY mj) ∈ wsG) (hR : RmOk m mj) (hb : h[b]? = some (.inr (.inr (ci, fs)))) (hci : ∃ r : vw_C, clsL[ci]? = some r ∧ r.1 = (mY mj).cls) (hn : as.length = n) (hs : (st.map fun v => v.category).sum ≤ 8) (hlen : (ent (.ref b :: as)).length ≤ mL mj)
    (k1 : RR xs mj 0 (ent (.ref b :: as)) [] h b1 b2 Q1) (kk : ∀ r h', Q1 r h' → RR xs m pc' lv (r.toList ++ st) h' bc bs Q) : RR xs m pc lv (as.reverse ++ .ref b :: st) h (bc + b1) (bs + b2) Q := by
  obtain ⟨hd, rfl⟩ := hd
  intro l p e R s mi args below meth c Z z D ar ac H locs cells slots ls C E hW hF hB hl
  have hM := MetOf hC.2.2.1 hlen k1 l z D ar ac
  have hRm : (rmC mj b1 b2).frames + 1 ≤ R.frames ∧ 8 + (mL mj + 11) + (rmC mj b1 b2).locals ≤ R.locals := ⟨Nat.le_trans hR.1 C.2.2.2.2.2.2.2.2.1, Nat.le_trans hR.2 C.2.2.2.2.2.2.2.2.2⟩
  have hfix : CallFix p mi c (mB m) (mL m) s args wsG (mY m).cls := ⟨C.1, C.2.1, C.2.2.1, C.2.2.2.2.1, C.2.2.2.2.2.1⟩
  obtain ⟨r, hr, hrc⟩ := hci
  have hrecv : ∃ cellB : Cell, H[z + b]? = some cellB ∧ cellB.vm.isStatics = false ∧ s.vm.findClass (mY mj).cls = some cellB.cls := by
    obtain ⟨r', h1, -, cell, q1, q2, q3, -⟩ := (hW.2.1 b _ hb).1
    cases hr.symm.trans h1
    exact ⟨cell, q1, by rw [q3]; rfl, by rw [q2, ← hrc]; exact (hW.2.2.1.1.1 ci _ h1).2.1⟩
  have hpre : PreV s H (mY mj).cls (z + b) (PreC xs z D ar ac h (.ref b :: as)) (as.map (tv z ar)) := ⟨PreC.blind, hrecv, fun U hU hWU => ⟨rfl, by rw [hU]; exact hW.moved hWU⟩⟩
  refine r_back (a9 := (Value.ref (z + b) :: as.map (tv z ar)).toArray) C E hW hF hB hl ?_ kk
  exact va_runV hfix hM ⟨callB_of n C.2.2.2.2.2.1 (good_wsC hC.1) rfl rfl rfl (C.2.2.2.2.2.1 _ hC.2.1) (C.2.2.2.2.2.1 _ hL) ⟨hC.2.2.2.1, hC.2.2.2.2.1, hC.2.2.2.2.2⟩ hRm, C.2.2.2.2.2.1 _ hS.1, C.2.2.2.2.2.1 _ hS.2⟩ hpre rfl (by rw [List.length_map]; exact hn) hl.1 (by simp [tv]) (lv_room (by rw [tv_sum]; exact hs)) hd ⟨by omega, by omega⟩
theorem r_callI {b : Nat} (hd : dc3 (mB m) pc (.invokespecial idx) pc') (hL : Cond.methodLink (mY m).cls idx (mY mj) ∈ wsG) (hC : MC mj n) (hS : Cond.instanceMethod (mY mj) ∈ wsG) (hi : (mY mj).name = "<init>") (hv : mR mj = none) (hR : RmOk m mj) (hn : as.length = n) (hs : (st.map fun v => v.category).sum ≤ 8) (hlen : (ent (.ref b :: as)).length ≤ mL mj)
    (k1 : RR xs mj 0 (ent (.ref b :: as)) [] h b1 b2 Q1) (kk : ∀ r h', Q1 r h' → RR xs m pc' lv (r.toList ++ st) h' bc bs Q) : RR xs m pc lv (as.reverse ++ .ref b :: st) h (bc + b1) (bs + b2) Q := by
  obtain ⟨hd, rfl⟩ := hd
  intro l p e R s mi args below meth c Z z D ar ac H locs cells slots ls C E hW hF hB hl
  have hM := MetOf hC.2.2.1 hlen k1 l z D ar ac
  have hRm : (rmC mj b1 b2).frames + 1 ≤ R.frames ∧ 8 + (mL mj + 11) + (rmC mj b1 b2).locals ≤ R.locals := ⟨Nat.le_trans hR.1 C.2.2.2.2.2.2.2.2.1, Nat.le_trans hR.2 C.2.2.2.2.2.2.2.2.2⟩
  have hfix : CallFix p mi c (mB m) (mL m) s args wsG (mY m).cls := ⟨C.1, C.2.1, C.2.2.1, C.2.2.2.2.1, C.2.2.2.2.2.1⟩
  have hpre : PreS s H (PreC xs z D ar ac h (.ref b :: as)) (.ref (z + b) :: as.map (tv z ar)) := ⟨PreC.blind, fun U hU hWU => ⟨rfl, by rw [hU]; exact hW.moved hWU⟩⟩
  have hcb := callB_of (R := R) n C.2.2.2.2.2.1 (good_wsC hC.1) rfl rfl rfl (C.2.2.2.2.2.1 _ hC.2.1) (C.2.2.2.2.2.1 _ hL) ⟨hC.2.2.2.1, hC.2.2.2.2.1, hC.2.2.2.2.2⟩ hRm
  rw [hv] at hcb
  refine r_back (a9 := (Value.ref (z + b) :: as.map (tv z ar)).toArray) C E hW hF hB hl ?_ kk
  exact va_runI hfix hM ⟨hcb, hi, C.2.2.2.2.2.1 _ hS⟩ hpre rfl (by rw [List.length_map]; exact hn) hl.1 (by simp [tv]) (lv_room (by rw [tv_sum]; exact hs)) hd ⟨by omega, by omega⟩
theorem r_objInit {b : Nat} (hd : dc3 (mB m) pc (.invokespecial idx) pc') (hL : Cond.methodLink (mY m).cls idx Lib.objectInit ∈ wsG) (hi : Cond.instanceMethod Lib.objectInit ∈ wsG) (hc : Cond.code Lib.objectInit ⟨#[0xb1]⟩ 1 none ∈ wsG) (hf : 1 ≤ mF m) (hs : (st.map fun v => v.category).sum + 12 ≤ mO m) (kk : RR xs m pc' lv st h bc bs Q) : RR xs m pc lv (.ref b :: st) h bc bs Q := by
  obtain ⟨hd, rfl⟩ := hd
  intro l p e R s mi args below meth c Z z D ar ac H locs cells slots ls C E hW hF hB hl
  exact W.objInit C.1 C.2.1 C.2.2.2.2.1 (C.2.2.2.2.2.1 _ hL) (C.2.2.2.2.2.1 _ hi) (C.2.2.2.2.2.1 _ hc) rfl (hl.1.trans C.2.2.1.symm) rfl hd (Nat.le_trans hf C.2.2.2.2.2.2.2.2.1) (by show 2 * 0 + _ + 12 ≤ _; rw [tv_sum]; have := C.2.2.2.2.2.2.2.2.2; omega) (kk l p e R s mi args below meth c Z z D ar ac H locs cells slots ls C E hW hF hB hl)
/-- System.arraycopy between int arrays -/
theorem r_copy {a0 a n0 n1 : Nat} {f g : Nat → Int32} {sp dp cn : Int32} (hd : dc3 (mB m) pc (.invokestatic idx) pc') (hL : Cond.methodLink (mY m).cls idx arraycopyName ∈ wsG) (hw : Cond.native arraycopyName ∈ wsG ∧ Cond.static arraycopyName ∈ wsG ∧ Cond.initialized "java/lang/System" ∈ wsG) (hc0 : h[a0]? = some (.inl (0, n0, f))) (hc1 : h[a]? = some (.inl (0, n1, g)))
    (h1 : ¬ sp < 0) (h2 : ¬ dp < 0) (h3 : ¬ cn < 0) (h4 : sp.toNatClampNeg + cn.toNatClampNeg ≤ n0) (h5 : dp.toNatClampNeg + cn.toNatClampNeg ≤ n1) (hf : 1 ≤ mF m) (hs : (st.map fun v => v.category).sum + (nativeFrameWords "java/lang/System" "arraycopy" 5 + 11) ≤ mO m)
    (kk : RR xs m pc' lv st (h.set a (.inl (0, n1, va_cpy f g sp.toNatClampNeg dp.toNatClampNeg cn.toNatClampNeg))) bc bs Q) : RR xs m pc lv (.int cn :: .int dp :: .ref a :: .int sp :: .ref a0 :: st) h bc bs Q := by
  obtain ⟨hd, rfl⟩ := hd
  intro l p e R s mi args below meth c Z z D ar ac H locs cells slots ls C E hW hF hB hl
  have nn : ∀ z : Int32, ¬ z < 0 → z.toInt = (z.toNatClampNeg : Int) := by
    intro z hz
    have hz0 : (0 : Int) ≤ z.toInt := by
      have := Int32.not_lt.mp hz
      simpa using Int32.le_iff_toInt_le.mp this
    show z.toInt = ((z.toInt.toNat : Nat) : Int)
    omega
  intro T hT X
  have hk0 : H[z + a0]? = some (arrV (ac a0) n0 (fun j => .int (f j))) := (hW.2.1 a0 _ hc0).1
  have hk1 : H[z + a]? = some (arrV (ac a) n1 (fun j => .int (g j))) := (hW.2.1 a _ hc1).1
  obtain ⟨-, q0, hq0, cm0, hkk0⟩ := (hW.2.1 a0 _ hc0).2 n0 (fun j => .int (f j))
  obtain ⟨-, q1, hq1, cm1, hkk1⟩ := (hW.2.1 a _ hc1).2 n1 (fun j => .int (g j))
  obtain ⟨vm', X', step⟩ := X.arraycopy C.1 C.2.2.2.2.1 (C.2.2.2.2.2.1 _ hL) (C.2.2.2.2.2.1 _ hw.1) (C.2.2.2.2.2.1 _ hw.2.1) (C.2.2.2.2.2.1 _ hw.2.2) (src := z + a0) (dst := z + a) (cs := vp_cell (ac a0) (n0, .inl f)) (cd := vp_cell (ac a) (n1, .inl g)) (srcPos := sp) (destPos := dp) (n := cn) (by rw [hT]; exact hk0) (by rw [hT]; exact hk1)
    (fun _ h => by cases h) (fun _ h => by cases h) (fun h => by cases h) (fun h => by cases h) hq0 hq1 hkk0 hkk1 (by simp [tf, refKind]) h1 h2 h3
    (by rw [nn sp h1, nn cn h3]; show ¬ _ > ((arrV (ac a0) n0 (fun j => .int (f j))).slots.size : Int); rw [arrV_size]; omega)
    (by rw [nn dp h2, nn cn h3]; show ¬ _ > ((arrV (ac a) n1 (fun j => .int (g j))).slots.size : Int); rw [arrV_size]; omega)
    (fun vm₁ _ i hi => by
      have e : (vp_cell (ac a0) (n0, .inl f)).slots.getD (sp.toNatClampNeg + i) .null = .int (f (sp.toNatClampNeg + i)) := by
        show (arrV (ac a0) n0 (fun j => .int (f j))).slots.getD _ _ = _
        rw [Array.getD_eq_getD_getElem?, arrV_read _ _ (by omega)]
        rfl
      refine ⟨?_, ?_⟩
      · rw [e]; rfl
      · rw [e]
        exact trivial)
    (g := F0 mi pc ls (.int cn :: .int dp :: .ref (z + a) :: .int sp :: .ref (z + a0) :: st.map (tv z ar))) rfl (hl.1.trans C.2.2.1.symm) (rest := st.map (tv z ar)) rfl (by rw [C.2.1]; exact hd) (Nat.le_trans hf C.2.2.2.2.2.2.2.2.1) (by show 2 * 0 + _ + _ ≤ _; rw [tv_sum]; have := C.2.2.2.2.2.2.2.2.2; omega)
  have e1 : copied (vp_cell (ac a0) (n0, .inl f)) (vp_cell (ac a) (n1, .inl g)) sp dp cn = vp_cell (ac a) (n1, .inl (va_cpy f g sp.toNatClampNeg dp.toNatClampNeg cn.toNatClampNeg)) := va_copied (fun z => .int z) (ac a0) (ac a) f g h4
  rw [e1] at X' step
  have hlt : z + a < H.size := (Array.getElem?_eq_some_iff.mp hk1).1
  have hheap : ((T.setVm vm').setCell (z + a) (vp_cell (ac a) (n1, .inl (va_cpy f g sp.toNatClampNeg dp.toNatClampNeg cn.toNatClampNeg)))).heap = H.setIfInBounds (z + a) (vp_cell (ac a) (n1, .inl (va_cpy f g sp.toNatClampNeg dp.toNatClampNeg cn.toNatClampNeg))) := by rw [← hT]; rfl
  have oq : ∀ q : Nat, q ≠ z + a → (H.setIfInBounds (z + a) (vp_cell (ac a) (n1, .inl (va_cpy f g sp.toNatClampNeg dp.toNatClampNeg cn.toNatClampNeg))))[q]? = H[q]? := fun q hq => by simp [Array.getElem?_setIfInBounds, Ne.symm hq]
  obtain ⟨t, a1, b1⟩ := kk l p e R s mi args below meth c Z z D ar ac _ _ cells slots ls C E (hW.upd (a := a) (by simp) oq (show (H.setIfInBounds (z + a) _)[z + a]? = some _ by simp [Array.getElem?_setIfInBounds, hlt]; rfl) (hW.2.1 a _ hc1).2) ⟨fun q hq => (oq q (by omega)).trans (hF.1 q hq), fun q hq => by
      rcases List.mem_append.mp hq with h | h
      · exact hF.2 q h
      · obtain ⟨w, -, hz⟩ := List.mem_map.mp h
        rw [← hz]
        exact Nat.le_add_right _ _⟩ hB hl _ hheap X'
  exact ⟨t, step t a1, b1⟩
end CALL
end
