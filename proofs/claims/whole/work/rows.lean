section
-- ===== PART A: goes FIRST, ahead of the names: the tables' words, and 'selects' of the private methods out of them =====
/-- a private method of a class that the tables say can be made, by its rows of tables_1 -/
def lw_okq (q : MethodName × Nat) : Prop := (q.1.cls ≠ "java/lang/invoke/MethodHandle" ∧ q.1.cls ≠ "java/lang/invoke/VarHandle") ∧ Cond.instantiable q.1.cls q.2 ∈ tables_1 ∧ Cond.privateMethod q.1 ∈ tables_1 ∧ Cond.instanceMethod q.1 ∈ tables_1
theorem lw_p0 : lw_okq (⟨"FoldPress$Jobs", "rowSpot", "(II)I"⟩, 7) := ⟨⟨by decide +kernel, by decide +kernel⟩, List.mem_of_getElem? (i := 78) (by decide +kernel), List.mem_of_getElem? (i := 426) (by decide +kernel), List.mem_of_getElem? (i := 427) (by decide +kernel)⟩
theorem lw_p1 : lw_okq (⟨"FoldPress$Jobs", "letterSpot", "(II)I"⟩, 7) := ⟨⟨by decide +kernel, by decide +kernel⟩, List.mem_of_getElem? (i := 78) (by decide +kernel), List.mem_of_getElem? (i := 446) (by decide +kernel), List.mem_of_getElem? (i := 447) (by decide +kernel)⟩
theorem lw_p2 : lw_okq (⟨"FoldPress$Jobs", "trimPage", "(III)V"⟩, 7) := ⟨⟨by decide +kernel, by decide +kernel⟩, List.mem_of_getElem? (i := 78) (by decide +kernel), List.mem_of_getElem? (i := 502) (by decide +kernel), List.mem_of_getElem? (i := 503) (by decide +kernel)⟩
theorem lw_p3 : lw_okq (⟨"FoldPress$Jobs", "copyPage", "(II)V"⟩, 7) := ⟨⟨by decide +kernel, by decide +kernel⟩, List.mem_of_getElem? (i := 78) (by decide +kernel), List.mem_of_getElem? (i := 517) (by decide +kernel), List.mem_of_getElem? (i := 518) (by decide +kernel)⟩
theorem lw_p4 : lw_okq (⟨"FoldPress", "foldBare", "(III)I"⟩, 7) := ⟨⟨by decide +kernel, by decide +kernel⟩, List.mem_of_getElem? (i := 14) (by decide +kernel), List.mem_of_getElem? (i := 588) (by decide +kernel), List.mem_of_getElem? (i := 589) (by decide +kernel)⟩
theorem lw_p5 : lw_okq (⟨"FoldPress$Folds", "perform", "(II)I"⟩, 11) := ⟨⟨by decide +kernel, by decide +kernel⟩, List.mem_of_getElem? (i := 122) (by decide +kernel), List.mem_of_getElem? (i := 603) (by decide +kernel), List.mem_of_getElem? (i := 604) (by decide +kernel)⟩
theorem lw_p6 : lw_okq (⟨"FoldPress$Piles", "share", "(II)I"⟩, 6) := ⟨⟨by decide +kernel, by decide +kernel⟩, List.mem_of_getElem? (i := 128) (by decide +kernel), List.mem_of_getElem? (i := 618) (by decide +kernel), List.mem_of_getElem? (i := 619) (by decide +kernel)⟩
theorem lw_p7 : lw_okq (⟨"FoldPress$Piles", "turnOver", "(III)V"⟩, 6) := ⟨⟨by decide +kernel, by decide +kernel⟩, List.mem_of_getElem? (i := 128) (by decide +kernel), List.mem_of_getElem? (i := 622) (by decide +kernel), List.mem_of_getElem? (i := 623) (by decide +kernel)⟩
theorem lw_p8 : lw_okq (⟨"FoldPress$Piles", "placeOf", "(II)I"⟩, 6) := ⟨⟨by decide +kernel, by decide +kernel⟩, List.mem_of_getElem? (i := 128) (by decide +kernel), List.mem_of_getElem? (i := 626) (by decide +kernel), List.mem_of_getElem? (i := 627) (by decide +kernel)⟩
theorem lw_p9 : lw_okq (⟨"FoldPress$Piles", "narrow", "(III)I"⟩, 6) := ⟨⟨by decide +kernel, by decide +kernel⟩, List.mem_of_getElem? (i := 128) (by decide +kernel), List.mem_of_getElem? (i := 630) (by decide +kernel), List.mem_of_getElem? (i := 631) (by decide +kernel)⟩
theorem lw_p10 : lw_okq (⟨"FoldPress$Sheets", "hasRow", "(II)Z"⟩, 13) := ⟨⟨by decide +kernel, by decide +kernel⟩, List.mem_of_getElem? (i := 189) (by decide +kernel), List.mem_of_getElem? (i := 700) (by decide +kernel), List.mem_of_getElem? (i := 701) (by decide +kernel)⟩
theorem lw_p11 : lw_okq (⟨"FoldPress$Sheets", "faceCell", "(II)I"⟩, 13) := ⟨⟨by decide +kernel, by decide +kernel⟩, List.mem_of_getElem? (i := 189) (by decide +kernel), List.mem_of_getElem? (i := 760) (by decide +kernel), List.mem_of_getElem? (i := 761) (by decide +kernel)⟩
theorem lw_p12 : lw_okq (⟨"FoldPress$Book", "member", "(II)I"⟩, 10) := ⟨⟨by decide +kernel, by decide +kernel⟩, List.mem_of_getElem? (i := 237) (by decide +kernel), List.mem_of_getElem? (i := 850) (by decide +kernel), List.mem_of_getElem? (i := 851) (by decide +kernel)⟩
theorem lw_p13 : lw_okq (⟨"FoldPress$Book", "faceCount", "(I)I"⟩, 10) := ⟨⟨by decide +kernel, by decide +kernel⟩, List.mem_of_getElem? (i := 237) (by decide +kernel), List.mem_of_getElem? (i := 916) (by decide +kernel), List.mem_of_getElem? (i := 917) (by decide +kernel)⟩
theorem lw_p14 : lw_okq (⟨"FoldPress$Press", "block", "(I)I"⟩, 7) := ⟨⟨by decide +kernel, by decide +kernel⟩, List.mem_of_getElem? (i := 280) (by decide +kernel), List.mem_of_getElem? (i := 994) (by decide +kernel), List.mem_of_getElem? (i := 995) (by decide +kernel)⟩
theorem lw_p15 : lw_okq (⟨"FoldPress$Press", "work", "(II)I"⟩, 7) := ⟨⟨by decide +kernel, by decide +kernel⟩, List.mem_of_getElem? (i := 280) (by decide +kernel), List.mem_of_getElem? (i := 998) (by decide +kernel), List.mem_of_getElem? (i := 999) (by decide +kernel)⟩
def lw_privs_1 : List (MethodName × Nat) := [(⟨"FoldPress$Jobs", "rowSpot", "(II)I"⟩, 7), (⟨"FoldPress$Jobs", "letterSpot", "(II)I"⟩, 7), (⟨"FoldPress$Jobs", "trimPage", "(III)V"⟩, 7), (⟨"FoldPress$Jobs", "copyPage", "(II)V"⟩, 7), (⟨"FoldPress", "foldBare", "(III)I"⟩, 7), (⟨"FoldPress$Folds", "perform", "(II)I"⟩, 11), (⟨"FoldPress$Piles", "share", "(II)I"⟩, 6), (⟨"FoldPress$Piles", "turnOver", "(III)V"⟩, 6), (⟨"FoldPress$Piles", "placeOf", "(II)I"⟩, 6), (⟨"FoldPress$Piles", "narrow", "(III)I"⟩, 6), (⟨"FoldPress$Sheets", "hasRow", "(II)Z"⟩, 13), (⟨"FoldPress$Sheets", "faceCell", "(II)I"⟩, 13), (⟨"FoldPress$Book", "member", "(II)I"⟩, 10), (⟨"FoldPress$Book", "faceCount", "(I)I"⟩, 10), (⟨"FoldPress$Press", "block", "(I)I"⟩, 7), (⟨"FoldPress$Press", "work", "(II)I"⟩, 7)]
theorem lw_r1 : ∀ q ∈ lw_privs_1, lw_okq q := List.forall_mem_cons.mpr ⟨lw_p0, List.forall_mem_cons.mpr ⟨lw_p1, List.forall_mem_cons.mpr ⟨lw_p2, List.forall_mem_cons.mpr ⟨lw_p3, List.forall_mem_cons.mpr ⟨lw_p4, List.forall_mem_cons.mpr ⟨lw_p5, List.forall_mem_cons.mpr ⟨lw_p6, List.forall_mem_cons.mpr ⟨lw_p7, List.forall_mem_cons.mpr ⟨lw_p8, List.forall_mem_cons.mpr ⟨lw_p9, List.forall_mem_cons.mpr ⟨lw_p10, List.forall_mem_cons.mpr ⟨lw_p11, List.forall_mem_cons.mpr ⟨lw_p12, List.forall_mem_cons.mpr ⟨lw_p13, List.forall_mem_cons.mpr ⟨lw_p14, List.forall_mem_cons.mpr ⟨lw_p15, fun _ h => absurd h List.not_mem_nil⟩⟩⟩⟩⟩⟩⟩⟩⟩⟩⟩⟩⟩⟩⟩⟩
theorem lw_p16 : lw_okq (⟨"FoldPress$Press", "separate", "()I"⟩, 7) := ⟨⟨by decide +kernel, by decide +kernel⟩, List.mem_of_getElem? (i := 280) (by decide +kernel), List.mem_of_getElem? (i := 1002) (by decide +kernel), List.mem_of_getElem? (i := 1003) (by decide +kernel)⟩
theorem lw_p17 : lw_okq (⟨"FoldPress$Press", "inkSide", "(II)I"⟩, 7) := ⟨⟨by decide +kernel, by decide +kernel⟩, List.mem_of_getElem? (i := 280) (by decide +kernel), List.mem_of_getElem? (i := 1006) (by decide +kernel), List.mem_of_getElem? (i := 1007) (by decide +kernel)⟩
theorem lw_p18 : lw_okq (⟨"FoldPress$Press", "trimEdge", "(I)I"⟩, 7) := ⟨⟨by decide +kernel, by decide +kernel⟩, List.mem_of_getElem? (i := 280) (by decide +kernel), List.mem_of_getElem? (i := 1026) (by decide +kernel), List.mem_of_getElem? (i := 1027) (by decide +kernel)⟩
theorem lw_p19 : lw_okq (⟨"FoldPressModel", "isJammed", "()Z"⟩, 51) := ⟨⟨by decide +kernel, by decide +kernel⟩, List.mem_of_getElem? (i := 1118) (by decide +kernel), List.mem_of_getElem? (i := 1283) (by decide +kernel), List.mem_of_getElem? (i := 1284) (by decide +kernel)⟩
theorem lw_p20 : lw_okq (⟨"FoldPressModel", "copyAll", "(Z)V"⟩, 51) := ⟨⟨by decide +kernel, by decide +kernel⟩, List.mem_of_getElem? (i := 1118) (by decide +kernel), List.mem_of_getElem? (i := 1287) (by decide +kernel), List.mem_of_getElem? (i := 1288) (by decide +kernel)⟩
theorem lw_p21 : lw_okq (⟨"FoldPressModel", "change", "()V"⟩, 51) := ⟨⟨by decide +kernel, by decide +kernel⟩, List.mem_of_getElem? (i := 1118) (by decide +kernel), List.mem_of_getElem? (i := 1304) (by decide +kernel), List.mem_of_getElem? (i := 1305) (by decide +kernel)⟩
theorem lw_p22 : lw_okq (⟨"FoldPressModel", "isJob", "(I)Z"⟩, 51) := ⟨⟨by decide +kernel, by decide +kernel⟩, List.mem_of_getElem? (i := 1118) (by decide +kernel), List.mem_of_getElem? (i := 1312) (by decide +kernel), List.mem_of_getElem? (i := 1313) (by decide +kernel)⟩
theorem lw_p23 : lw_okq (⟨"FoldPressModel", "isPage", "(II)Z"⟩, 51) := ⟨⟨by decide +kernel, by decide +kernel⟩, List.mem_of_getElem? (i := 1118) (by decide +kernel), List.mem_of_getElem? (i := 1323) (by decide +kernel), List.mem_of_getElem? (i := 1324) (by decide +kernel)⟩
theorem lw_p24 : lw_okq (⟨"FoldPressModel", "finds", "(I)I"⟩, 51) := ⟨⟨by decide +kernel, by decide +kernel⟩, List.mem_of_getElem? (i := 1118) (by decide +kernel), List.mem_of_getElem? (i := 1331) (by decide +kernel), List.mem_of_getElem? (i := 1332) (by decide +kernel)⟩
theorem lw_p25 : lw_okq (⟨"FoldPressModel", "lacksRow", "(II)I"⟩, 51) := ⟨⟨by decide +kernel, by decide +kernel⟩, List.mem_of_getElem? (i := 1118) (by decide +kernel), List.mem_of_getElem? (i := 1339) (by decide +kernel), List.mem_of_getElem? (i := 1340) (by decide +kernel)⟩
theorem lw_p26 : lw_okq (⟨"FoldPressModel", "lacksLetter", "(III)I"⟩, 51) := ⟨⟨by decide +kernel, by decide +kernel⟩, List.mem_of_getElem? (i := 1118) (by decide +kernel), List.mem_of_getElem? (i := 1351) (by decide +kernel), List.mem_of_getElem? (i := 1352) (by decide +kernel)⟩
theorem lw_p27 : lw_okq (⟨"FoldPressModel", "lettersAt", "(II)I"⟩, 51) := ⟨⟨by decide +kernel, by decide +kernel⟩, List.mem_of_getElem? (i := 1118) (by decide +kernel), List.mem_of_getElem? (i := 1367) (by decide +kernel), List.mem_of_getElem? (i := 1368) (by decide +kernel)⟩
theorem lw_p28 : lw_okq (⟨"FoldPressModel", "addFold", "(IIIII)I"⟩, 51) := ⟨⟨by decide +kernel, by decide +kernel⟩, List.mem_of_getElem? (i := 1118) (by decide +kernel), List.mem_of_getElem? (i := 1387) (by decide +kernel), List.mem_of_getElem? (i := 1388) (by decide +kernel)⟩
theorem lw_p29 : lw_okq (⟨"FoldPressModel", "isFold", "(I)Z"⟩, 51) := ⟨⟨by decide +kernel, by decide +kernel⟩, List.mem_of_getElem? (i := 1118) (by decide +kernel), List.mem_of_getElem? (i := 1395) (by decide +kernel), List.mem_of_getElem? (i := 1396) (by decide +kernel)⟩
theorem lw_p30 : lw_okq (⟨"FoldPressModel", "worthOf", "(II)I"⟩, 51) := ⟨⟨by decide +kernel, by decide +kernel⟩, List.mem_of_getElem? (i := 1118) (by decide +kernel), List.mem_of_getElem? (i := 1411) (by decide +kernel), List.mem_of_getElem? (i := 1412) (by decide +kernel)⟩
theorem lw_p31 : lw_okq (⟨"FoldPressModel", "await", "(I)V"⟩, 51) := ⟨⟨by decide +kernel, by decide +kernel⟩, List.mem_of_getElem? (i := 1118) (by decide +kernel), List.mem_of_getElem? (i := 1415) (by decide +kernel), List.mem_of_getElem? (i := 1416) (by decide +kernel)⟩
def lw_privs_2 : List (MethodName × Nat) := [(⟨"FoldPress$Press", "separate", "()I"⟩, 7), (⟨"FoldPress$Press", "inkSide", "(II)I"⟩, 7), (⟨"FoldPress$Press", "trimEdge", "(I)I"⟩, 7), (⟨"FoldPressModel", "isJammed", "()Z"⟩, 51), (⟨"FoldPressModel", "copyAll", "(Z)V"⟩, 51), (⟨"FoldPressModel", "change", "()V"⟩, 51), (⟨"FoldPressModel", "isJob", "(I)Z"⟩, 51), (⟨"FoldPressModel", "isPage", "(II)Z"⟩, 51), (⟨"FoldPressModel", "finds", "(I)I"⟩, 51), (⟨"FoldPressModel", "lacksRow", "(II)I"⟩, 51), (⟨"FoldPressModel", "lacksLetter", "(III)I"⟩, 51), (⟨"FoldPressModel", "lettersAt", "(II)I"⟩, 51), (⟨"FoldPressModel", "addFold", "(IIIII)I"⟩, 51), (⟨"FoldPressModel", "isFold", "(I)Z"⟩, 51), (⟨"FoldPressModel", "worthOf", "(II)I"⟩, 51), (⟨"FoldPressModel", "await", "(I)V"⟩, 51)]
theorem lw_r2 : ∀ q ∈ lw_privs_2, lw_okq q := List.forall_mem_cons.mpr ⟨lw_p16, List.forall_mem_cons.mpr ⟨lw_p17, List.forall_mem_cons.mpr ⟨lw_p18, List.forall_mem_cons.mpr ⟨lw_p19, List.forall_mem_cons.mpr ⟨lw_p20, List.forall_mem_cons.mpr ⟨lw_p21, List.forall_mem_cons.mpr ⟨lw_p22, List.forall_mem_cons.mpr ⟨lw_p23, List.forall_mem_cons.mpr ⟨lw_p24, List.forall_mem_cons.mpr ⟨lw_p25, List.forall_mem_cons.mpr ⟨lw_p26, List.forall_mem_cons.mpr ⟨lw_p27, List.forall_mem_cons.mpr ⟨lw_p28, List.forall_mem_cons.mpr ⟨lw_p29, List.forall_mem_cons.mpr ⟨lw_p30, List.forall_mem_cons.mpr ⟨lw_p31, fun _ h => absurd h List.not_mem_nil⟩⟩⟩⟩⟩⟩⟩⟩⟩⟩⟩⟩⟩⟩⟩⟩
theorem lw_p32 : lw_okq (⟨"FoldPressModel", "foldGrid", "(III)I"⟩, 51) := ⟨⟨by decide +kernel, by decide +kernel⟩, List.mem_of_getElem? (i := 1118) (by decide +kernel), List.mem_of_getElem? (i := 1426) (by decide +kernel), List.mem_of_getElem? (i := 1427) (by decide +kernel)⟩
theorem lw_p33 : lw_okq (⟨"FoldPressModel", "beginGrid", "(II)V"⟩, 51) := ⟨⟨by decide +kernel, by decide +kernel⟩, List.mem_of_getElem? (i := 1118) (by decide +kernel), List.mem_of_getElem? (i := 1430) (by decide +kernel), List.mem_of_getElem? (i := 1431) (by decide +kernel)⟩
theorem lw_p34 : lw_okq (⟨"FoldPressModel", "trace0", "(I)V"⟩, 51) := ⟨⟨by decide +kernel, by decide +kernel⟩, List.mem_of_getElem? (i := 1118) (by decide +kernel), List.mem_of_getElem? (i := 1434) (by decide +kernel), List.mem_of_getElem? (i := 1435) (by decide +kernel)⟩
theorem lw_p35 : lw_okq (⟨"FoldPressModel", "folds", "(I)Z"⟩, 51) := ⟨⟨by decide +kernel, by decide +kernel⟩, List.mem_of_getElem? (i := 1118) (by decide +kernel), List.mem_of_getElem? (i := 1438) (by decide +kernel), List.mem_of_getElem? (i := 1439) (by decide +kernel)⟩
theorem lw_p36 : lw_okq (⟨"FoldPressModel", "bends", "(II)Z"⟩, 51) := ⟨⟨by decide +kernel, by decide +kernel⟩, List.mem_of_getElem? (i := 1118) (by decide +kernel), List.mem_of_getElem? (i := 1442) (by decide +kernel), List.mem_of_getElem? (i := 1443) (by decide +kernel)⟩
theorem lw_p37 : lw_okq (⟨"FoldPressModel", "gets", "(III)V"⟩, 51) := ⟨⟨by decide +kernel, by decide +kernel⟩, List.mem_of_getElem? (i := 1118) (by decide +kernel), List.mem_of_getElem? (i := 1449) (by decide +kernel), List.mem_of_getElem? (i := 1450) (by decide +kernel)⟩
theorem lw_p38 : lw_okq (⟨"FoldPressModel", "stays", "(III)V"⟩, 51) := ⟨⟨by decide +kernel, by decide +kernel⟩, List.mem_of_getElem? (i := 1118) (by decide +kernel), List.mem_of_getElem? (i := 1453) (by decide +kernel), List.mem_of_getElem? (i := 1454) (by decide +kernel)⟩
theorem lw_p39 : lw_okq (⟨"FoldPressModel", "faceOf", "(I)I"⟩, 51) := ⟨⟨by decide +kernel, by decide +kernel⟩, List.mem_of_getElem? (i := 1118) (by decide +kernel), List.mem_of_getElem? (i := 1457) (by decide +kernel), List.mem_of_getElem? (i := 1458) (by decide +kernel)⟩
theorem lw_p40 : lw_okq (⟨"FoldPressModel", "isSheet", "(I)Z"⟩, 51) := ⟨⟨by decide +kernel, by decide +kernel⟩, List.mem_of_getElem? (i := 1118) (by decide +kernel), List.mem_of_getElem? (i := 1485) (by decide +kernel), List.mem_of_getElem? (i := 1486) (by decide +kernel)⟩
theorem lw_p41 : lw_okq (⟨"FoldPressModel", "lacksCell", "(IIII)I"⟩, 51) := ⟨⟨by decide +kernel, by decide +kernel⟩, List.mem_of_getElem? (i := 1118) (by decide +kernel), List.mem_of_getElem? (i := 1496) (by decide +kernel), List.mem_of_getElem? (i := 1497) (by decide +kernel)⟩
theorem lw_p42 : lw_okq (⟨"FoldPressModel", "cellsAt", "(III)I"⟩, 51) := ⟨⟨by decide +kernel, by decide +kernel⟩, List.mem_of_getElem? (i := 1118) (by decide +kernel), List.mem_of_getElem? (i := 1511) (by decide +kernel), List.mem_of_getElem? (i := 1512) (by decide +kernel)⟩
theorem lw_p43 : lw_okq (⟨"FoldPressModel", "listSheetFaces", "(II)I"⟩, 51) := ⟨⟨by decide +kernel, by decide +kernel⟩, List.mem_of_getElem? (i := 1118) (by decide +kernel), List.mem_of_getElem? (i := 1519) (by decide +kernel), List.mem_of_getElem? (i := 1520) (by decide +kernel)⟩
theorem lw_p44 : lw_okq (⟨"FoldPressModel", "list", "(III)V"⟩, 51) := ⟨⟨by decide +kernel, by decide +kernel⟩, List.mem_of_getElem? (i := 1118) (by decide +kernel), List.mem_of_getElem? (i := 1523) (by decide +kernel), List.mem_of_getElem? (i := 1524) (by decide +kernel)⟩
theorem lw_p45 : lw_okq (⟨"FoldPressModel", "layList", "(I)I"⟩, 51) := ⟨⟨by decide +kernel, by decide +kernel⟩, List.mem_of_getElem? (i := 1118) (by decide +kernel), List.mem_of_getElem? (i := 1527) (by decide +kernel), List.mem_of_getElem? (i := 1528) (by decide +kernel)⟩
theorem lw_p46 : lw_okq (⟨"FoldPressModel", "readList", "(I)I"⟩, 51) := ⟨⟨by decide +kernel, by decide +kernel⟩, List.mem_of_getElem? (i := 1118) (by decide +kernel), List.mem_of_getElem? (i := 1535) (by decide +kernel), List.mem_of_getElem? (i := 1536) (by decide +kernel)⟩
theorem lw_p47 : lw_okq (⟨"FoldPressModel", "look", "(IIII)I"⟩, 51) := ⟨⟨by decide +kernel, by decide +kernel⟩, List.mem_of_getElem? (i := 1118) (by decide +kernel), List.mem_of_getElem? (i := 1543) (by decide +kernel), List.mem_of_getElem? (i := 1544) (by decide +kernel)⟩
def lw_privs_3 : List (MethodName × Nat) := [(⟨"FoldPressModel", "foldGrid", "(III)I"⟩, 51), (⟨"FoldPressModel", "beginGrid", "(II)V"⟩, 51), (⟨"FoldPressModel", "trace0", "(I)V"⟩, 51), (⟨"FoldPressModel", "folds", "(I)Z"⟩, 51), (⟨"FoldPressModel", "bends", "(II)Z"⟩, 51), (⟨"FoldPressModel", "gets", "(III)V"⟩, 51), (⟨"FoldPressModel", "stays", "(III)V"⟩, 51), (⟨"FoldPressModel", "faceOf", "(I)I"⟩, 51), (⟨"FoldPressModel", "isSheet", "(I)Z"⟩, 51), (⟨"FoldPressModel", "lacksCell", "(IIII)I"⟩, 51), (⟨"FoldPressModel", "cellsAt", "(III)I"⟩, 51), (⟨"FoldPressModel", "listSheetFaces", "(II)I"⟩, 51), (⟨"FoldPressModel", "list", "(III)V"⟩, 51), (⟨"FoldPressModel", "layList", "(I)I"⟩, 51), (⟨"FoldPressModel", "readList", "(I)I"⟩, 51), (⟨"FoldPressModel", "look", "(IIII)I"⟩, 51)]
theorem lw_r3 : ∀ q ∈ lw_privs_3, lw_okq q := List.forall_mem_cons.mpr ⟨lw_p32, List.forall_mem_cons.mpr ⟨lw_p33, List.forall_mem_cons.mpr ⟨lw_p34, List.forall_mem_cons.mpr ⟨lw_p35, List.forall_mem_cons.mpr ⟨lw_p36, List.forall_mem_cons.mpr ⟨lw_p37, List.forall_mem_cons.mpr ⟨lw_p38, List.forall_mem_cons.mpr ⟨lw_p39, List.forall_mem_cons.mpr ⟨lw_p40, List.forall_mem_cons.mpr ⟨lw_p41, List.forall_mem_cons.mpr ⟨lw_p42, List.forall_mem_cons.mpr ⟨lw_p43, List.forall_mem_cons.mpr ⟨lw_p44, List.forall_mem_cons.mpr ⟨lw_p45, List.forall_mem_cons.mpr ⟨lw_p46, List.forall_mem_cons.mpr ⟨lw_p47, fun _ h => absurd h List.not_mem_nil⟩⟩⟩⟩⟩⟩⟩⟩⟩⟩⟩⟩⟩⟩⟩⟩
theorem lw_p48 : lw_okq (⟨"FoldPressModel", "isSignature", "(I)Z"⟩, 51) := ⟨⟨by decide +kernel, by decide +kernel⟩, List.mem_of_getElem? (i := 1118) (by decide +kernel), List.mem_of_getElem? (i := 1555) (by decide +kernel), List.mem_of_getElem? (i := 1556) (by decide +kernel)⟩
theorem lw_p49 : lw_okq (⟨"FoldPressModel", "listSignature", "(II)I"⟩, 51) := ⟨⟨by decide +kernel, by decide +kernel⟩, List.mem_of_getElem? (i := 1118) (by decide +kernel), List.mem_of_getElem? (i := 1563) (by decide +kernel), List.mem_of_getElem? (i := 1564) (by decide +kernel)⟩
theorem lw_p50 : lw_okq (⟨"FoldPressModel", "sheetThere", "(I)I"⟩, 51) := ⟨⟨by decide +kernel, by decide +kernel⟩, List.mem_of_getElem? (i := 1118) (by decide +kernel), List.mem_of_getElem? (i := 1603) (by decide +kernel), List.mem_of_getElem? (i := 1604) (by decide +kernel)⟩
theorem lw_p51 : lw_okq (⟨"FoldPressModel", "spoils", "(II)V"⟩, 51) := ⟨⟨by decide +kernel, by decide +kernel⟩, List.mem_of_getElem? (i := 1118) (by decide +kernel), List.mem_of_getElem? (i := 1619) (by decide +kernel), List.mem_of_getElem? (i := 1620) (by decide +kernel)⟩
theorem lw_p52 : lw_okq (⟨"FoldPressModel", "work", "(II)I"⟩, 51) := ⟨⟨by decide +kernel, by decide +kernel⟩, List.mem_of_getElem? (i := 1118) (by decide +kernel), List.mem_of_getElem? (i := 1623) (by decide +kernel), List.mem_of_getElem? (i := 1624) (by decide +kernel)⟩
theorem lw_p53 : lw_okq (⟨"FoldPressModel", "prints", "(II)I"⟩, 51) := ⟨⟨by decide +kernel, by decide +kernel⟩, List.mem_of_getElem? (i := 1118) (by decide +kernel), List.mem_of_getElem? (i := 1627) (by decide +kernel), List.mem_of_getElem? (i := 1628) (by decide +kernel)⟩
def lw_privs_4 : List (MethodName × Nat) := [(⟨"FoldPressModel", "isSignature", "(I)Z"⟩, 51), (⟨"FoldPressModel", "listSignature", "(II)I"⟩, 51), (⟨"FoldPressModel", "sheetThere", "(I)I"⟩, 51), (⟨"FoldPressModel", "spoils", "(II)V"⟩, 51), (⟨"FoldPressModel", "work", "(II)I"⟩, 51), (⟨"FoldPressModel", "prints", "(II)I"⟩, 51)]
theorem lw_r4 : ∀ q ∈ lw_privs_4, lw_okq q := List.forall_mem_cons.mpr ⟨lw_p48, List.forall_mem_cons.mpr ⟨lw_p49, List.forall_mem_cons.mpr ⟨lw_p50, List.forall_mem_cons.mpr ⟨lw_p51, List.forall_mem_cons.mpr ⟨lw_p52, List.forall_mem_cons.mpr ⟨lw_p53, fun _ h => absurd h List.not_mem_nil⟩⟩⟩⟩⟩⟩
def lw_privs : List (MethodName × Nat) := lw_privs_1 ++ (lw_privs_2 ++ (lw_privs_3 ++ (lw_privs_4)))
def lw_tbl : List Cond := k2_sels lw_privs ++ tables_1
theorem lw_privs_ok : ∀ q ∈ lw_privs, lw_okq q := by
  show ∀ q ∈ lw_privs_1 ++ (lw_privs_2 ++ (lw_privs_3 ++ (lw_privs_4))), lw_okq q
  exact List.forall_mem_append.mpr ⟨lw_r1, List.forall_mem_append.mpr ⟨lw_r2, List.forall_mem_append.mpr ⟨lw_r3, lw_r4⟩⟩⟩
end
section
/-! A small machine of ours: the instructions that the claim's methods use, over a heap of numbered cells. Its runs are shown (part 04) to be runs of the Java machine. -/
-- code: (pc, instruction, a, b, c): a b c are what the instruction links to
abbrev AmCd : Type := List (Nat × Instr × Nat × Nat × Nat)
-- what cells hold: ints (array elements, int fields) and references
abbrev AmS : Type := (Nat → Nat → Int32) × (Nat → Nat → Option Nat)
-- cells: (0, n) int array, (1, n) boolean array, (2, n) array of references, (3 + class, fields)
abbrev AmH : Type := List (Nat × Nat) × AmS
-- arrays from outside, read only: number e is the reference 1000000 + e
abbrev AmX : Type := Nat → Option (Nat × (Nat → Int32))
def am_upI (I : Nat → Nat → Int32) (a i : Nat) (x : Int32) : Nat → Nat → Int32 := fun k j => if k = a then (if j = i then x else I k j) else I k j
def am_upG (G : Nat → Nat → Option Nat) (a i : Nat) (x : Option Nat) : Nat → Nat → Option Nat := fun k j => if k = a then (if j = i then x else G k j) else G k j
def am_zI (I : Nat → Nat → Int32) (a : Nat) : Nat → Nat → Int32 := fun k j => if k = a then 0 else I k j
def am_zG (G : Nat → Nat → Option Nat) (a : Nat) : Nat → Nat → Option Nat := fun k j => if k = a then none else G k j
-- what stands on the stack
def am_1i {α : Type} (st : List Value) (k : Int32 → List Value → Option α) : Option α := match st with
  | .int x :: r => k x r
  | _ => none
def am_2i {α : Type} (st : List Value) (k : Int32 → Int32 → List Value → Option α) : Option α := match st with
  | .int y :: .int x :: r => k x y r
  | _ => none
def am_1r {α : Type} (st : List Value) (k : Nat → List Value → Option α) : Option α := match st with
  | .ref a :: r => k a r
  | _ => none
def am_ia {α : Type} (st : List Value) (k : Nat → Int32 → List Value → Option α) : Option α := match st with
  | .int i :: .ref a :: r => k a i r
  | _ => none
def am_iia {α : Type} (st : List Value) (k : Nat → Int32 → Int32 → List Value → Option α) : Option α := match st with
  | .int x :: .int i :: .ref a :: r => k a i x r
  | _ => none
def am_ir {α : Type} (st : List Value) (k : Nat → Int32 → List Value → Option α) : Option α := match st with
  | .int x :: .ref a :: r => k a x r
  | _ => none
def am_rr {α : Type} (st : List Value) (k : Nat → Nat → List Value → Option α) : Option α := match st with
  | .ref v :: .ref a :: r => k a v r
  | _ => none
def am_ria {α : Type} (st : List Value) (k : Nat → Int32 → Nat → List Value → Option α) : Option α := match st with
  | .ref v :: .int i :: .ref a :: r => k a i v r
  | _ => none
-- a reference or null
def am_1v {α : Type} (st : List Value) (k : Option Nat → List Value → Option α) : Option α := match st with
  | .ref a :: r => k (some a) r
  | .null :: r => k none r
  | _ => none
def am_li {α : Type} (L : List Value) (i : Nat) (k : Int32 → Option α) : Option α := match L[i]? with
  | some (.int x) => k x
  | _ => none
def am_la {α : Type} (L : List Value) (i : Nat) (k : Option Nat → Option α) : Option α := match L[i]? with
  | some (.ref x) => k (some x)
  | some .null => k none
  | _ => none
def am_st {α : Type} (L : List Value) (i : Nat) (v : Value) (k : List Value → Option α) : Option α := if i < L.length then k (L.set i v) else none
-- from a pc on
def am_at (C : AmCd) (pc : Nat) : AmCd := C.dropWhile (fun e => !(e.1 == pc))
def am_tg (pc : Nat) (off : Int) : Nat := ((pc : Int) + off).toNat
def am_sw (dflt lo hi : Int) (offs : Array Int) (x : Int32) : Int := if x.toInt < lo ∨ hi < x.toInt then dflt else offs.getD (x.toInt - lo).toNat dflt
-- an int array (t = 0) or boolean array (t = 1)
def am_arr (X : AmX) (h : AmH) (t a : Nat) : Option (Nat × (Nat → Int32)) := if a < 1000000 then
    (match h.1[a]? with
    | some (t', n) => if t' = t then some (n, h.2.1 a) else none
    | none => none)
  else (if t = 0 then X (a - 1000000) else none)
-- a cell of kind t
def am_is (h : AmH) (a t : Nat) : Bool := decide (a < 1000000) && (match h.1[a]? with
  | some (t', _) => decide (t' = t)
  | none => false)
def am_len (X : AmX) (h : AmH) (a : Nat) : Option Nat := if a < 1000000 then
    (match h.1[a]? with
    | some (t, n) => if t < 3 then some n else none
    | none => none)
  else (X (a - 1000000)).map (fun q => q.1)
def am_push (v : Option Int32) (r : List Value) : List Value := match v with
  | some x => .int x :: r
  | none => r
def am_ini (maxL : Nat) (args : List Value) : List Value := args ++ List.replicate (maxL - args.length) (.long 0)
def am_cats (st : List Value) : Nat := (st.map fun v => v.category).sum
-- the receiver: kind 0 (virtual): an object of class k
def am_rcv (h : AmH) (kind k : Nat) (args : List Value) : Bool := match kind with
  | 0 => (match args with
    | .ref a :: _ => am_is h a (k + 3)
    | _ => false)
  | 1 => true
  | _ => (match args with
    | .ref _ :: _ => true
    | _ => false)
/-- a run: n instructions at most, d calls deep at most. P: the code of a method; Mi: its locals' number, its class, what it answers (0 nothing, 1 an int, 2 a boolean); Nf: fields of a class -/
def am_ex (P : Nat → AmCd) (Mi : Nat → Nat × Nat × Nat) (Nf : Nat → Nat) (X : AmX) : Nat → Nat → Nat → AmCd → List Value → List Value → AmH → Option (Option Int32 × AmH)
  | 0, _, _, _, _, _, _ => none
  | _ + 1, _, _, [], _, _, _ => none
  | n + 1, d, M, (pc, i, a, b, c) :: cs, L, st, h => match i with
    | .iload k => am_li L k fun x => am_ex P Mi Nf X n d M cs L (.int x :: st) h
    | .iload_n k => am_li L k.val fun x => am_ex P Mi Nf X n d M cs L (.int x :: st) h
    | .aload k => am_la L k fun x => am_ex P Mi Nf X n d M cs L (va_rf x :: st) h
    | .aload_n k => am_la L k.val fun x => am_ex P Mi Nf X n d M cs L (va_rf x :: st) h
    | .istore k => am_1i st fun x r => am_st L k (.int x) fun L' => am_ex P Mi Nf X n d M cs L' r h
    | .istore_n k => am_1i st fun x r => am_st L k.val (.int x) fun L' => am_ex P Mi Nf X n d M cs L' r h
    | .astore k => am_1v st fun x r => am_st L k (va_rf x) fun L' => am_ex P Mi Nf X n d M cs L' r h
    | .astore_n k => am_1v st fun x r => am_st L k.val (va_rf x) fun L' => am_ex P Mi Nf X n d M cs L' r h
    | .iconst v => am_ex P Mi Nf X n d M cs L (.int (Int32.ofInt v) :: st) h
    | .bipush v => am_ex P Mi Nf X n d M cs L (.int (Int8.ofInt v).toInt32 :: st) h
    | .sipush v => am_ex P Mi Nf X n d M cs L (.int (Int16.ofInt v).toInt32 :: st) h
    | .iinc k v => am_li L k fun x => am_st L k (.int (x + Int32.ofInt v)) fun L' => am_ex P Mi Nf X n d M cs L' st h
    | .iadd => am_2i st fun x y r => am_ex P Mi Nf X n d M cs L (.int (x + y) :: r) h
    | .isub => am_2i st fun x y r => am_ex P Mi Nf X n d M cs L (.int (x - y) :: r) h
    | .imul => am_2i st fun x y r => am_ex P Mi Nf X n d M cs L (.int (x * y) :: r) h
    | .idiv => am_2i st fun x y r => if y = 0 then none else am_ex P Mi Nf X n d M cs L (.int (x / y) :: r) h
    | .irem => am_2i st fun x y r => if y = 0 then none else am_ex P Mi Nf X n d M cs L (.int (x - x / y * y) :: r) h
    | .iand => am_2i st fun x y r => am_ex P Mi Nf X n d M cs L (.int (x &&& y) :: r) h
    | .ixor => am_2i st fun x y r => am_ex P Mi Nf X n d M cs L (.int (x ^^^ y) :: r) h
    | .ishr => am_2i st fun x y r => am_ex P Mi Nf X n d M cs L (.int (x >>> (y &&& 31)) :: r) h
    | .dup => (match st with
      | .int x :: r => am_ex P Mi Nf X n d M cs L (.int x :: .int x :: r) h
      | .ref x :: r => am_ex P Mi Nf X n d M cs L (.ref x :: .ref x :: r) h
      | _ => none)
    | .dup2 => am_ia st fun x j r => am_ex P Mi Nf X n d M cs L (.int j :: .ref x :: .int j :: .ref x :: r) h
    | .goto o => am_ex P Mi Nf X n d M (am_at (P M) (am_tg pc o)) L st h
    | .ifCond .eq o => am_1i st fun x r => if x = 0 then am_ex P Mi Nf X n d M (am_at (P M) (am_tg pc o)) L r h else am_ex P Mi Nf X n d M cs L r h
    | .ifCond .ne o => am_1i st fun x r => if x = 0 then am_ex P Mi Nf X n d M cs L r h else am_ex P Mi Nf X n d M (am_at (P M) (am_tg pc o)) L r h
    | .ifCond .lt o => am_1i st fun x r => if x < 0 then am_ex P Mi Nf X n d M (am_at (P M) (am_tg pc o)) L r h else am_ex P Mi Nf X n d M cs L r h
    | .ifCond .ge o => am_1i st fun x r => if 0 ≤ x then am_ex P Mi Nf X n d M (am_at (P M) (am_tg pc o)) L r h else am_ex P Mi Nf X n d M cs L r h
    | .ifCond .gt o => am_1i st fun x r => if 0 < x then am_ex P Mi Nf X n d M (am_at (P M) (am_tg pc o)) L r h else am_ex P Mi Nf X n d M cs L r h
    | .ifCond .le o => am_1i st fun x r => if x ≤ 0 then am_ex P Mi Nf X n d M (am_at (P M) (am_tg pc o)) L r h else am_ex P Mi Nf X n d M cs L r h
    | .if_icmp .eq o => am_2i st fun x y r => if x = y then am_ex P Mi Nf X n d M (am_at (P M) (am_tg pc o)) L r h else am_ex P Mi Nf X n d M cs L r h
    | .if_icmp .ne o => am_2i st fun x y r => if x = y then am_ex P Mi Nf X n d M cs L r h else am_ex P Mi Nf X n d M (am_at (P M) (am_tg pc o)) L r h
    | .if_icmp .lt o => am_2i st fun x y r => if x < y then am_ex P Mi Nf X n d M (am_at (P M) (am_tg pc o)) L r h else am_ex P Mi Nf X n d M cs L r h
    | .if_icmp .ge o => am_2i st fun x y r => if y ≤ x then am_ex P Mi Nf X n d M (am_at (P M) (am_tg pc o)) L r h else am_ex P Mi Nf X n d M cs L r h
    | .if_icmp .gt o => am_2i st fun x y r => if y < x then am_ex P Mi Nf X n d M (am_at (P M) (am_tg pc o)) L r h else am_ex P Mi Nf X n d M cs L r h
    | .if_icmp .le o => am_2i st fun x y r => if x ≤ y then am_ex P Mi Nf X n d M (am_at (P M) (am_tg pc o)) L r h else am_ex P Mi Nf X n d M cs L r h
    | .ifnull o => am_1v st fun x r => (match x with
      | none => am_ex P Mi Nf X n d M (am_at (P M) (am_tg pc o)) L r h
      | some _ => am_ex P Mi Nf X n d M cs L r h)
    | .tableswitch df lo hi offs => am_1i st fun x r => am_ex P Mi Nf X n d M (am_at (P M) (am_tg pc (am_sw df lo hi offs x))) L r h
    | .lookupswitch df ps => am_1i st fun x r => am_ex P Mi Nf X n d M (am_at (P M) (am_tg pc (Op.lookupswitch.offset ps.toList df x.toInt))) L r h
    | .getfield _ => am_1r st fun o r => if am_is h o (a + 3) = true then
        (if c = 1 then am_ex P Mi Nf X n d M cs L (va_rf (h.2.2 o b) :: r) h else am_ex P Mi Nf X n d M cs L (.int (h.2.1 o b) :: r) h) else none
    | .putfield _ => if c = 1 then am_rr st fun o v r => (if am_is h o (a + 3) = true then am_ex P Mi Nf X n d M cs L r (h.1, h.2.1, am_upG h.2.2 o b (some v)) else none)
        else am_ir st fun o x r => (if am_is h o (a + 3) = true then (if c = 2 ∧ ¬ (x = 0 ∨ x = 1) then none else am_ex P Mi Nf X n d M cs L r (h.1, am_upI h.2.1 o b x, h.2.2)) else none)
    | .iaload => am_ia st fun o j r => (match am_arr X h 0 o with
      | some (k, f) => if j < 0 ∨ k ≤ j.toNatClampNeg then none else am_ex P Mi Nf X n d M cs L (.int (f j.toNatClampNeg) :: r) h
      | none => none)
    | .baload => am_ia st fun o j r => (match am_arr X h 1 o with
      | some (k, f) => if j < 0 ∨ k ≤ j.toNatClampNeg then none else am_ex P Mi Nf X n d M cs L (.int (f j.toNatClampNeg) :: r) h
      | none => none)
    | .aaload => am_ia st fun o j r => if am_is h o 2 = true then (match am_len X h o with
      | some k => if j < 0 ∨ k ≤ j.toNatClampNeg then none else am_ex P Mi Nf X n d M cs L (va_rf (h.2.2 o j.toNatClampNeg) :: r) h
      | none => none) else none
    | .iastore => am_iia st fun o j x r => if am_is h o 0 = true then (match am_len X h o with
      | some k => if j < 0 ∨ k ≤ j.toNatClampNeg then none else am_ex P Mi Nf X n d M cs L r (h.1, am_upI h.2.1 o j.toNatClampNeg x, h.2.2)
      | none => none) else none
    | .bastore => am_iia st fun o j x r => if am_is h o 1 = true then (match am_len X h o with
      | some k => if j < 0 ∨ k ≤ j.toNatClampNeg then none else (if x = 0 ∨ x = 1 then am_ex P Mi Nf X n d M cs L r (h.1, am_upI h.2.1 o j.toNatClampNeg x, h.2.2) else none)
      | none => none) else none
    | .aastore => am_ria st fun o j v r => if am_is h o 2 = true ∧ am_is h v (a + 3) = true then (match am_len X h o with
      | some k => if j < 0 ∨ k ≤ j.toNatClampNeg then none else am_ex P Mi Nf X n d M cs L r (h.1, h.2.1, am_upG h.2.2 o j.toNatClampNeg (some v))
      | none => none) else none
    | .arraylength => am_1r st fun o r => (match am_len X h o with
      | some k => am_ex P Mi Nf X n d M cs L (.int (Int32.ofNat k) :: r) h
      | none => none)
    | .new _ => if h.1.length < 1000000 then am_ex P Mi Nf X n d M cs L (.ref h.1.length :: st) (h.1 ++ [(a + 3, Nf a)], am_zI h.2.1 h.1.length, am_zG h.2.2 h.1.length) else none
    | .newarray .int => am_1i st fun x r => if x < 0 ∨ 1000000 < x.toNatClampNeg ∨ 1000000 ≤ h.1.length then none else am_ex P Mi Nf X n d M cs L (.ref h.1.length :: r) (h.1 ++ [(0, x.toNatClampNeg)], am_zI h.2.1 h.1.length, am_zG h.2.2 h.1.length)
    | .newarray .boolean => am_1i st fun x r => if x < 0 ∨ 1000000 < x.toNatClampNeg ∨ 1000000 ≤ h.1.length then none else am_ex P Mi Nf X n d M cs L (.ref h.1.length :: r) (h.1 ++ [(1, x.toNatClampNeg)], am_zI h.2.1 h.1.length, am_zG h.2.2 h.1.length)
    | .anewarray _ => am_1i st fun x r => if x < 0 ∨ 1000000 < x.toNatClampNeg ∨ 1000000 ≤ h.1.length then none else am_ex P Mi Nf X n d M cs L (.ref h.1.length :: r) (h.1 ++ [(2, x.toNatClampNeg)], am_zI h.2.1 h.1.length, am_zG h.2.2 h.1.length)
    | .getstatic _ => am_ex P Mi Nf X n d M cs L (.ref (1000000 + a) :: st) h
    | .invokevirtual _ => if b ≤ st.length ∧ am_cats (st.drop b) ≤ 8 ∧ am_rcv h 0 (Mi a).2.1 (st.take b).reverse = true then
        (match d with
        | 0 => none
        | d' + 1 => (am_ex P Mi Nf X n d' a (P a) (am_ini (Mi a).1 (st.take b).reverse) [] h).bind fun q => am_ex P Mi Nf X n (d' + 1) M cs L (am_push q.1 (st.drop b)) q.2) else none
    | .invokestatic _ => if b ≤ st.length ∧ am_cats (st.drop b) ≤ 8 then
        (match d with
        | 0 => none
        | d' + 1 => (am_ex P Mi Nf X n d' a (P a) (am_ini (Mi a).1 (st.take b).reverse) [] h).bind fun q => am_ex P Mi Nf X n (d' + 1) M cs L (am_push q.1 (st.drop b)) q.2) else none
    | .invokespecial _ => if c = 4 then am_1r st fun _ r => (if am_cats r ≤ 8 ∧ 0 < d then am_ex P Mi Nf X n d M cs L r h else none)
        else if b ≤ st.length ∧ am_cats (st.drop b) ≤ 8 ∧ am_rcv h 2 (Mi a).2.1 (st.take b).reverse = true then
        (match d with
        | 0 => none
        | d' + 1 => (am_ex P Mi Nf X n d' a (P a) (am_ini (Mi a).1 (st.take b).reverse) [] h).bind fun q => am_ex P Mi Nf X n (d' + 1) M cs L (am_push q.1 (st.drop b)) q.2) else none
    | .ireturn => (match st with
      | [.int v] => if (Mi M).2.2 = 1 ∨ ((Mi M).2.2 = 2 ∧ (v = 0 ∨ v = 1)) then some (some v, h) else none
      | _ => none)
    | .return_ => (match st with
      | [] => if (Mi M).2.2 = 0 then some (none, h) else none
      | _ => none)
    | _ => none
end
section
/-! printed by wip/gen/tables.py: classes, methods, code -/
def am_T0 : u_T := fun k => match k with
  | 0 => ("FoldPress$Book", "folds", "LFoldPress$Folds;", true)
  | 1 => ("FoldPress$Book", "sheets", "LFoldPress$Sheets;", true)
  | 2 => ("FoldPress$Book", "total", "LFoldPress$Kept;", true)
  | 3 => ("FoldPress$Book", "ways", "LFoldPress$Kept;", true)
  | 4 => ("FoldPress$Book", "sheetCounts", "LFoldPress$Kept;", true)
  | 5 => ("FoldPress$Book", "members", "LFoldPress$Kept;", true)
  | 6 => ("FoldPress$Book", "booked", "LFoldPress$Kept;", true)
  | 7 => ("FoldPress$Book", "bookLength", "LFoldPress$Kept;", true)
  | 8 => ("FoldPress$Book", "order", "LFoldPress$Kept;", true)
  | _ => ("FoldPress$Book", "coverNumber", "LFoldPress$Kept;", true)
def am_ty0 : Nat → FieldType := fun k => match k with
  | 0 => .object "FoldPress$Folds"
  | 1 => .object "FoldPress$Sheets"
  | 2 => .object "FoldPress$Kept"
  | 3 => .object "FoldPress$Kept"
  | 4 => .object "FoldPress$Kept"
  | 5 => .object "FoldPress$Kept"
  | 6 => .object "FoldPress$Kept"
  | 7 => .object "FoldPress$Kept"
  | 8 => .object "FoldPress$Kept"
  | _ => .object "FoldPress$Kept"
def am_T1 : u_T := fun k => match k with
  | 0 => ("FoldPress$Folds", "tally", "LFoldPress$Tally;", true)
  | 1 => ("FoldPress$Folds", "piles", "LFoldPress$Piles;", true)
  | 2 => ("FoldPress$Folds", "leaves", "[I", true)
  | 3 => ("FoldPress$Folds", "total", "LFoldPress$Kept;", true)
  | 4 => ("FoldPress$Folds", "kinds", "LFoldPress$Kept;", true)
  | 5 => ("FoldPress$Folds", "axes", "LFoldPress$Kept;", true)
  | 6 => ("FoldPress$Folds", "firsts", "LFoldPress$Kept;", true)
  | 7 => ("FoldPress$Folds", "seconds", "LFoldPress$Kept;", true)
  | 8 => ("FoldPress$Folds", "plainCounts", "LFoldPress$Kept;", true)
  | 9 => ("FoldPress$Folds", "thicks", "LFoldPress$Kept;", true)
  | _ => ("FoldPress$Folds", "trims", "LFoldPress$Kept;", true)
def am_ty1 : Nat → FieldType := fun k => match k with
  | 0 => .object "FoldPress$Tally"
  | 1 => .object "FoldPress$Piles"
  | 2 => .array .int
  | 3 => .object "FoldPress$Kept"
  | 4 => .object "FoldPress$Kept"
  | 5 => .object "FoldPress$Kept"
  | 6 => .object "FoldPress$Kept"
  | 7 => .object "FoldPress$Kept"
  | 8 => .object "FoldPress$Kept"
  | 9 => .object "FoldPress$Kept"
  | _ => .object "FoldPress$Kept"
def am_T2 : u_T := fun k => match k with
  | 0 => ("FoldPress$Jobs", "total", "LFoldPress$Kept;", true)
  | 1 => ("FoldPress$Jobs", "lines", "LFoldPress$Kept;", true)
  | 2 => ("FoldPress$Jobs", "widths", "LFoldPress$Kept;", true)
  | 3 => ("FoldPress$Jobs", "pages", "LFoldPress$Kept;", true)
  | 4 => ("FoldPress$Jobs", "rowCounts", "LFoldPress$Kept;", true)
  | 5 => ("FoldPress$Jobs", "letterCounts", "LFoldPress$Kept;", true)
  | _ => ("FoldPress$Jobs", "letters", "LFoldPress$Kept;", true)
def am_ty2 : Nat → FieldType := fun k => match k with
  | 0 => .object "FoldPress$Kept"
  | 1 => .object "FoldPress$Kept"
  | 2 => .object "FoldPress$Kept"
  | 3 => .object "FoldPress$Kept"
  | 4 => .object "FoldPress$Kept"
  | 5 => .object "FoldPress$Kept"
  | _ => .object "FoldPress$Kept"
def am_T3 : u_T := fun k => match k with
  | 0 => ("FoldPress$Journal", "rows", "[LFoldPress$Kept;", true)
  | 1 => ("FoldPress$Journal", "places", "[I", true)
  | 2 => ("FoldPress$Journal", "numbers", "[I", true)
  | 3 => ("FoldPress$Journal", "noted", "I", false)
  | _ => ("FoldPress$Journal", "holdsChange", "Z", false)
def am_ty3 : Nat → FieldType := fun k => match k with
  | 0 => .array (.object "FoldPress$Kept")
  | 1 => .array .int
  | 2 => .array .int
  | 3 => .int
  | _ => .boolean
def am_T4 : u_T := fun k => match k with
  | 0 => ("FoldPress$Kept", "journal", "LFoldPress$Journal;", true)
  | _ => ("FoldPress$Kept", "numbers", "[I", true)
def am_ty4 : Nat → FieldType := fun k => match k with
  | 0 => .object "FoldPress$Journal"
  | _ => .array .int
def am_T5 : u_T := fun k => match k with
  | 0 => ("FoldPress$Piles", "tally", "LFoldPress$Tally;", true)
  | 1 => ("FoldPress$Piles", "starts", "[I", true)
  | 2 => ("FoldPress$Piles", "counts", "[I", true)
  | 3 => ("FoldPress$Piles", "tops", "[I", true)
  | 4 => ("FoldPress$Piles", "belows", "[I", true)
  | _ => ("FoldPress$Piles", "lies", "[I", true)
def am_ty5 : Nat → FieldType := fun k => match k with
  | 0 => .object "FoldPress$Tally"
  | 1 => .array .int
  | 2 => .array .int
  | 3 => .array .int
  | 4 => .array .int
  | _ => .array .int
def am_T6 : u_T := fun k => match k with
  | 0 => ("FoldPress$Press", "tally", "LFoldPress$Tally;", true)
  | 1 => ("FoldPress$Press", "folds", "LFoldPress$Folds;", true)
  | 2 => ("FoldPress$Press", "sheets", "LFoldPress$Sheets;", true)
  | 3 => ("FoldPress$Press", "jams", "LFoldPress$Kept;", true)
  | 4 => ("FoldPress$Press", "doubleTold", "LFoldPress$Kept;", true)
  | 5 => ("FoldPress$Press", "jammed", "LFoldPress$Kept;", true)
  | _ => ("FoldPress$Press", "marginNow", "LFoldPress$Kept;", true)
def am_ty6 : Nat → FieldType := fun k => match k with
  | 0 => .object "FoldPress$Tally"
  | 1 => .object "FoldPress$Folds"
  | 2 => .object "FoldPress$Sheets"
  | 3 => .object "FoldPress$Kept"
  | 4 => .object "FoldPress$Kept"
  | 5 => .object "FoldPress$Kept"
  | _ => .object "FoldPress$Kept"
def am_T7 : u_T := fun k => match k with
  | 0 => ("FoldPress$Sheets", "jobs", "LFoldPress$Jobs;", true)
  | 1 => ("FoldPress$Sheets", "folds", "LFoldPress$Folds;", true)
  | 2 => ("FoldPress$Sheets", "total", "LFoldPress$Kept;", true)
  | 3 => ("FoldPress$Sheets", "owners", "LFoldPress$Kept;", true)
  | 4 => ("FoldPress$Sheets", "rowCounts", "LFoldPress$Kept;", true)
  | 5 => ("FoldPress$Sheets", "columnCounts", "LFoldPress$Kept;", true)
  | 6 => ("FoldPress$Sheets", "torn", "LFoldPress$Kept;", true)
  | 7 => ("FoldPress$Sheets", "cells", "LFoldPress$Kept;", true)
  | 8 => ("FoldPress$Sheets", "gathered", "LFoldPress$Kept;", true)
  | 9 => ("FoldPress$Sheets", "toldFolds", "LFoldPress$Kept;", true)
  | 10 => ("FoldPress$Sheets", "places", "LFoldPress$Kept;", true)
  | 11 => ("FoldPress$Sheets", "numbers", "LFoldPress$Kept;", true)
  | _ => ("FoldPress$Sheets", "causes", "LFoldPress$Kept;", true)
def am_ty7 : Nat → FieldType := fun k => match k with
  | 0 => .object "FoldPress$Jobs"
  | 1 => .object "FoldPress$Folds"
  | 2 => .object "FoldPress$Kept"
  | 3 => .object "FoldPress$Kept"
  | 4 => .object "FoldPress$Kept"
  | 5 => .object "FoldPress$Kept"
  | 6 => .object "FoldPress$Kept"
  | 7 => .object "FoldPress$Kept"
  | 8 => .object "FoldPress$Kept"
  | 9 => .object "FoldPress$Kept"
  | 10 => .object "FoldPress$Kept"
  | 11 => .object "FoldPress$Kept"
  | _ => .object "FoldPress$Kept"
def am_T8 : u_T := fun k => match k with
  | 0 => ("FoldPress$Tally", "trace", "[I", true)
  | 1 => ("FoldPress$Tally", "traceCount", "I", false)
  | 2 => ("FoldPress$Tally", "found", "I", false)
  | 3 => ("FoldPress$Tally", "latestFinding", "I", false)
  | 4 => ("FoldPress$Tally", "worked", "I", false)
  | 5 => ("FoldPress$Tally", "ink", "I", false)
  | 6 => ("FoldPress$Tally", "numbersGiven", "I", false)
  | _ => ("FoldPress$Tally", "rowsMoved", "I", false)
def am_ty8 : Nat → FieldType := fun k => match k with
  | 0 => .array .int
  | 1 => .int
  | 2 => .int
  | 3 => .int
  | 4 => .int
  | 5 => .int
  | 6 => .int
  | _ => .int
def am_T9 : u_T := fun k => match k with
  | 0 => ("FoldPress", "journal", "LFoldPress$Journal;", true)
  | 1 => ("FoldPress", "tally", "LFoldPress$Tally;", true)
  | 2 => ("FoldPress", "jobs", "LFoldPress$Jobs;", true)
  | 3 => ("FoldPress", "folds", "LFoldPress$Folds;", true)
  | 4 => ("FoldPress", "sheets", "LFoldPress$Sheets;", true)
  | 5 => ("FoldPress", "book", "LFoldPress$Book;", true)
  | _ => ("FoldPress", "press", "LFoldPress$Press;", true)
def am_ty9 : Nat → FieldType := fun k => match k with
  | 0 => .object "FoldPress$Journal"
  | 1 => .object "FoldPress$Tally"
  | 2 => .object "FoldPress$Jobs"
  | 3 => .object "FoldPress$Folds"
  | 4 => .object "FoldPress$Sheets"
  | 5 => .object "FoldPress$Book"
  | _ => .object "FoldPress$Press"
def am_T10 : u_T := fun k => match k with
  | 0 => ("FoldPressModel", "all", "[I", true)
  | 1 => ("FoldPressModel", "jobPages", "[I", true)
  | 2 => ("FoldPressModel", "jobLines", "[I", true)
  | 3 => ("FoldPressModel", "jobWidth", "[I", true)
  | 4 => ("FoldPressModel", "pageRows", "[I", true)
  | 5 => ("FoldPressModel", "rowSize", "[I", true)
  | 6 => ("FoldPressModel", "letters", "[I", true)
  | 7 => ("FoldPressModel", "foldKind", "[I", true)
  | 8 => ("FoldPressModel", "foldAxis", "[I", true)
  | 9 => ("FoldPressModel", "foldFirst", "[I", true)
  | 10 => ("FoldPressModel", "foldSecond", "[I", true)
  | 11 => ("FoldPressModel", "foldMany", "[I", true)
  | 12 => ("FoldPressModel", "sheetJob", "[I", true)
  | 13 => ("FoldPressModel", "sheetRows", "[I", true)
  | 14 => ("FoldPressModel", "sheetColumns", "[I", true)
  | 15 => ("FoldPressModel", "sheetFold", "[I", true)
  | 16 => ("FoldPressModel", "sheetAt", "[I", true)
  | 17 => ("FoldPressModel", "sheetNumber", "[I", true)
  | 18 => ("FoldPressModel", "sheetFinding", "[I", true)
  | 19 => ("FoldPressModel", "sheetIn", "[I", true)
  | 20 => ("FoldPressModel", "torn", "[Z", true)
  | 21 => ("FoldPressModel", "cellPage", "[I", true)
  | 22 => ("FoldPressModel", "cellUp", "[I", true)
  | 23 => ("FoldPressModel", "way", "[I", true)
  | 24 => ("FoldPressModel", "sheetsIn", "[I", true)
  | 25 => ("FoldPressModel", "gathered", "[I", true)
  | 26 => ("FoldPressModel", "isAdded", "[Z", true)
  | 27 => ("FoldPressModel", "book", "[I", true)
  | 28 => ("FoldPressModel", "jams", "[Z", true)
  | 29 => ("FoldPressModel", "hasBefore", "Z", false)
  | 30 => ("FoldPressModel", "found", "I", false)
  | 31 => ("FoldPressModel", "latest", "I", false)
  | 32 => ("FoldPressModel", "worked", "I", false)
  | 33 => ("FoldPressModel", "ink", "I", false)
  | 34 => ("FoldPressModel", "given", "I", false)
  | 35 => ("FoldPressModel", "cameLast", "I", false)
  | 36 => ("FoldPressModel", "traced", "I", false)
  | 37 => ("FoldPressModel", "traces", "[I", true)
  | 38 => ("FoldPressModel", "waiting", "[I", true)
  | 39 => ("FoldPressModel", "waits", "I", false)
  | 40 => ("FoldPressModel", "gridRows", "I", false)
  | 41 => ("FoldPressModel", "gridColumns", "I", false)
  | 42 => ("FoldPressModel", "pileSize", "[I", true)
  | 43 => ("FoldPressModel", "leaves", "[I", true)
  | 44 => ("FoldPressModel", "listSheet", "[I", true)
  | 45 => ("FoldPressModel", "listWhich", "[I", true)
  | 46 => ("FoldPressModel", "listFace", "[I", true)
  | 47 => ("FoldPressModel", "listed", "I", false)
  | 48 => ("FoldPressModel", "sheetFaces", "[I", true)
  | 49 => ("FoldPressModel", "sheetMany", "[I", true)
  | _ => ("FoldPressModel", "sight", "I", false)
def am_ty10 : Nat → FieldType := fun k => match k with
  | 0 => .array .int
  | 1 => .array .int
  | 2 => .array .int
  | 3 => .array .int
  | 4 => .array .int
  | 5 => .array .int
  | 6 => .array .int
  | 7 => .array .int
  | 8 => .array .int
  | 9 => .array .int
  | 10 => .array .int
  | 11 => .array .int
  | 12 => .array .int
  | 13 => .array .int
  | 14 => .array .int
  | 15 => .array .int
  | 16 => .array .int
  | 17 => .array .int
  | 18 => .array .int
  | 19 => .array .int
  | 20 => .array .boolean
  | 21 => .array .int
  | 22 => .array .int
  | 23 => .array .int
  | 24 => .array .int
  | 25 => .array .int
  | 26 => .array .boolean
  | 27 => .array .int
  | 28 => .array .boolean
  | 29 => .boolean
  | 30 => .int
  | 31 => .int
  | 32 => .int
  | 33 => .int
  | 34 => .int
  | 35 => .int
  | 36 => .int
  | 37 => .array .int
  | 38 => .array .int
  | 39 => .int
  | 40 => .int
  | 41 => .int
  | 42 => .array .int
  | 43 => .array .int
  | 44 => .array .int
  | 45 => .array .int
  | 46 => .array .int
  | 47 => .int
  | 48 => .array .int
  | 49 => .array .int
  | _ => .int
def am_cns : List String := ["FoldPress$Book", "FoldPress$Folds", "FoldPress$Jobs", "FoldPress$Journal", "FoldPress$Kept", "FoldPress$Piles", "FoldPress$Press", "FoldPress$Sheets", "FoldPress$Tally", "FoldPress", "FoldPressModel", "java/lang/Math", "FoldPressLaw"]
def am_cn (c : Nat) : String := am_cns.getD c ""
def am_Ts : List u_T := [am_T0, am_T1, am_T2, am_T3, am_T4, am_T5, am_T6, am_T7, am_T8, am_T9, am_T10]
def am_T (c : Nat) : u_T := am_Ts.getD c (fun _ => ("", "", "", false))
def am_tys : List (Nat → FieldType) := [am_ty0, am_ty1, am_ty2, am_ty3, am_ty4, am_ty5, am_ty6, am_ty7, am_ty8, am_ty9, am_ty10]
def am_ty (c : Nat) : Nat → FieldType := am_tys.getD c (fun _ => .int)
def am_Nfs : List Nat := [10, 11, 7, 5, 2, 6, 7, 13, 8, 7, 51]
def am_Nf (c : Nat) : Nat := am_Nfs.getD c 0
def am_cl : List vw_C := [(am_cn 0, am_T 0, 10), (am_cn 1, am_T 1, 11), (am_cn 2, am_T 2, 7), (am_cn 3, am_T 3, 5), (am_cn 4, am_T 4, 2), (am_cn 5, am_T 5, 6), (am_cn 6, am_T 6, 7), (am_cn 7, am_T 7, 13), (am_cn 8, am_T 8, 8), (am_cn 9, am_T 9, 7), (am_cn 10, am_T 10, 51)]
-- kinds of fields: 0 int, 1 reference, 2 boolean
def am_fks : List (List Nat) := [[1, 1, 1, 1, 1, 1, 1, 1, 1, 1], [1, 1, 1, 1, 1, 1, 1, 1, 1, 1, 1], [1, 1, 1, 1, 1, 1, 1], [1, 1, 1, 0, 2], [1, 1], [1, 1, 1, 1, 1, 1], [1, 1, 1, 1, 1, 1, 1], [1, 1, 1, 1, 1, 1, 1, 1, 1, 1, 1, 1, 1], [1, 0, 0, 0, 0, 0, 0, 0], [1, 1, 1, 1, 1, 1, 1], [1, 1, 1, 1, 1, 1, 1, 1, 1, 1, 1, 1, 1, 1, 1, 1, 1, 1, 1, 1, 1, 1, 1, 1, 1, 1, 1, 1, 1, 2, 0, 0, 0, 0, 0, 0, 0, 1, 1, 0, 0, 0, 1, 1, 1, 1, 1, 0, 1, 1, 0]]
def am_fk (c k : Nat) : Nat := (am_fks.getD c []).getD k 0
-- methods: name, code, locals, answer, own class, arguments, 0 nothing 1 int 2 boolean, 0 virtual 1 static 2 constructor
def am_m0 : MethodName × ByteArray × Nat × Option FieldType × Nat × Nat × Nat × Nat := (⟨"FoldPress$Book", "<init>", "(LFoldPress$Journal;LFoldPress$Folds;LFoldPress$Sheets;)V"⟩, prog_2_method_1_code, 4, none, 0, 4, 0, 2)
def am_m1 : MethodName × ByteArray × Nat × Option FieldType × Nat × Nat × Nat × Nat := (⟨"FoldPress$Book", "count", "()I"⟩, prog_2_method_2_code, 1, (some .int), 0, 1, 1, 0)
def am_m2 : MethodName × ByteArray × Nat × Option FieldType × Nat × Nat × Nat × Nat := (⟨"FoldPress$Book", "has", "(I)Z"⟩, prog_2_method_3_code, 2, (some .boolean), 0, 2, 2, 0)
def am_m3 : MethodName × ByteArray × Nat × Option FieldType × Nat × Nat × Nat × Nat := (⟨"FoldPress$Book", "make", "(I)I"⟩, prog_2_method_4_code, 3, (some .int), 0, 2, 1, 0)
def am_m4 : MethodName × ByteArray × Nat × Option FieldType × Nat × Nat × Nat × Nat := (⟨"FoldPress$Book", "sheetsIn", "(I)I"⟩, prog_2_method_5_code, 2, (some .int), 0, 2, 1, 0)
def am_m5 : MethodName × ByteArray × Nat × Option FieldType × Nat × Nat × Nat × Nat := (⟨"FoldPress$Book", "isInside", "(I)Z"⟩, prog_2_method_6_code, 2, (some .boolean), 0, 2, 2, 0)
def am_m6 : MethodName × ByteArray × Nat × Option FieldType × Nat × Nat × Nat × Nat := (⟨"FoldPress$Book", "take", "(II)I"⟩, prog_2_method_7_code, 4, (some .int), 0, 3, 1, 0)
def am_m7 : MethodName × ByteArray × Nat × Option FieldType × Nat × Nat × Nat × Nat := (⟨"FoldPress$Book", "member", "(II)I"⟩, prog_2_method_8_code, 3, (some .int), 0, 3, 1, 0)
def am_m8 : MethodName × ByteArray × Nat × Option FieldType × Nat × Nat × Nat × Nat := (⟨"FoldPress$Book", "foldSheets", "(II)I"⟩, prog_2_method_9_code, 7, (some .int), 0, 3, 1, 0)
def am_m9 : MethodName × ByteArray × Nat × Option FieldType × Nat × Nat × Nat × Nat := (⟨"FoldPress$Book", "findFace", "(II)I"⟩, prog_2_method_10_code, 9, (some .int), 0, 3, 1, 0)
def am_m10 : MethodName × ByteArray × Nat × Option FieldType × Nat × Nat × Nat × Nat := (⟨"FoldPress$Book", "layPages", "(III)I"⟩, prog_2_method_11_code, 8, (some .int), 0, 4, 1, 0)
def am_m11 : MethodName × ByteArray × Nat × Option FieldType × Nat × Nat × Nat × Nat := (⟨"FoldPress$Book", "isBooked", "(I)Z"⟩, prog_2_method_12_code, 2, (some .boolean), 0, 2, 2, 0)
def am_m12 : MethodName × ByteArray × Nat × Option FieldType × Nat × Nat × Nat × Nat := (⟨"FoldPress$Book", "bookedCount", "()I"⟩, prog_2_method_13_code, 1, (some .int), 0, 1, 1, 0)
def am_m13 : MethodName × ByteArray × Nat × Option FieldType × Nat × Nat × Nat × Nat := (⟨"FoldPress$Book", "append", "(I)I"⟩, prog_2_method_14_code, 3, (some .int), 0, 2, 1, 0)
def am_m14 : MethodName × ByteArray × Nat × Option FieldType × Nat × Nat × Nat × Nat := (⟨"FoldPress$Book", "readFace", "(II)I"⟩, prog_2_method_15_code, 6, (some .int), 0, 3, 1, 0)
def am_m15 : MethodName × ByteArray × Nat × Option FieldType × Nat × Nat × Nat × Nat := (⟨"FoldPress$Book", "faceCount", "(I)I"⟩, prog_2_method_16_code, 4, (some .int), 0, 2, 1, 0)
def am_m16 : MethodName × ByteArray × Nat × Option FieldType × Nat × Nat × Nat × Nat := (⟨"FoldPress$Book", "coverWith", "(I)I"⟩, prog_2_method_17_code, 2, (some .int), 0, 2, 1, 0)
def am_m17 : MethodName × ByteArray × Nat × Option FieldType × Nat × Nat × Nat × Nat := (⟨"FoldPress$Book", "coverSheet", "()I"⟩, prog_2_method_18_code, 1, (some .int), 0, 1, 1, 0)
def am_m18 : MethodName × ByteArray × Nat × Option FieldType × Nat × Nat × Nat × Nat := (⟨"FoldPress$Book", "goodSheets", "(I)I"⟩, prog_2_method_19_code, 4, (some .int), 0, 2, 1, 0)
def am_m19 : MethodName × ByteArray × Nat × Option FieldType × Nat × Nat × Nat × Nat := (⟨"FoldPress$Folds", "<init>", "(LFoldPress$Journal;LFoldPress$Tally;)V"⟩, prog_3_method_1_code, 3, none, 1, 3, 0, 2)
def am_m20 : MethodName × ByteArray × Nat × Option FieldType × Nat × Nat × Nat × Nat := (⟨"FoldPress$Folds", "count", "()I"⟩, prog_3_method_2_code, 1, (some .int), 1, 1, 1, 0)
def am_m21 : MethodName × ByteArray × Nat × Option FieldType × Nat × Nat × Nat × Nat := (⟨"FoldPress$Folds", "has", "(I)Z"⟩, prog_3_method_3_code, 2, (some .boolean), 1, 2, 2, 0)
def am_m22 : MethodName × ByteArray × Nat × Option FieldType × Nat × Nat × Nat × Nat := (⟨"FoldPress$Folds", "plainOf", "(I)I"⟩, prog_3_method_4_code, 2, (some .int), 1, 2, 1, 0)
def am_m23 : MethodName × ByteArray × Nat × Option FieldType × Nat × Nat × Nat × Nat := (⟨"FoldPress$Folds", "thickOf", "(I)I"⟩, prog_3_method_5_code, 2, (some .int), 1, 2, 1, 0)
def am_m24 : MethodName × ByteArray × Nat × Option FieldType × Nat × Nat × Nat × Nat := (⟨"FoldPress$Folds", "trimOf", "(I)I"⟩, prog_3_method_6_code, 2, (some .int), 1, 2, 1, 0)
def am_m25 : MethodName × ByteArray × Nat × Option FieldType × Nat × Nat × Nat × Nat := (⟨"FoldPress$Folds", "lipsOf", "(I)I"⟩, prog_3_method_7_code, 2, (some .int), 1, 2, 1, 0)
def am_m26 : MethodName × ByteArray × Nat × Option FieldType × Nat × Nat × Nat × Nat := (⟨"FoldPress$Folds", "partOf", "(II)I"⟩, prog_3_method_8_code, 3, (some .int), 1, 3, 1, 0)
def am_m27 : MethodName × ByteArray × Nat × Option FieldType × Nat × Nat × Nat × Nat := (⟨"FoldPress$Folds", "makePlain", "(II)I"⟩, prog_3_method_9_code, 4, (some .int), 1, 3, 1, 0)
def am_m28 : MethodName × ByteArray × Nat × Option FieldType × Nat × Nat × Nat × Nat := (⟨"FoldPress$Folds", "makeCross", "(II)I"⟩, prog_3_method_10_code, 4, (some .int), 1, 3, 1, 0)
def am_m29 : MethodName × ByteArray × Nat × Option FieldType × Nat × Nat × Nat × Nat := (⟨"FoldPress$Folds", "foldGrid", "(IIII)I"⟩, prog_3_method_11_code, 6, (some .int), 1, 5, 1, 0)
def am_m30 : MethodName × ByteArray × Nat × Option FieldType × Nat × Nat × Nat × Nat := (⟨"FoldPress$Folds", "perform", "(II)I"⟩, prog_3_method_12_code, 5, (some .int), 1, 3, 1, 0)
def am_m31 : MethodName × ByteArray × Nat × Option FieldType × Nat × Nat × Nat × Nat := (⟨"FoldPress$Folds", "faceOf", "(III)I"⟩, prog_3_method_13_code, 6, (some .int), 1, 4, 1, 0)
def am_m32 : MethodName × ByteArray × Nat × Option FieldType × Nat × Nat × Nat × Nat := (⟨"FoldPress$Jobs", "<init>", "(LFoldPress$Journal;)V"⟩, prog_4_method_1_code, 3, none, 2, 2, 0, 2)
def am_m33 : MethodName × ByteArray × Nat × Option FieldType × Nat × Nat × Nat × Nat := (⟨"FoldPress$Jobs", "count", "()I"⟩, prog_4_method_2_code, 1, (some .int), 2, 1, 1, 0)
def am_m34 : MethodName × ByteArray × Nat × Option FieldType × Nat × Nat × Nat × Nat := (⟨"FoldPress$Jobs", "has", "(I)Z"⟩, prog_4_method_3_code, 2, (some .boolean), 2, 2, 2, 0)
def am_m35 : MethodName × ByteArray × Nat × Option FieldType × Nat × Nat × Nat × Nat := (⟨"FoldPress$Jobs", "hasPage", "(II)Z"⟩, prog_4_method_4_code, 3, (some .boolean), 2, 3, 2, 0)
def am_m36 : MethodName × ByteArray × Nat × Option FieldType × Nat × Nat × Nat × Nat := (⟨"FoldPress$Jobs", "pagesOf", "(I)I"⟩, prog_4_method_5_code, 2, (some .int), 2, 2, 1, 0)
def am_m37 : MethodName × ByteArray × Nat × Option FieldType × Nat × Nat × Nat × Nat := (⟨"FoldPress$Jobs", "linesOf", "(I)I"⟩, prog_4_method_6_code, 2, (some .int), 2, 2, 1, 0)
def am_m38 : MethodName × ByteArray × Nat × Option FieldType × Nat × Nat × Nat × Nat := (⟨"FoldPress$Jobs", "widthOf", "(I)I"⟩, prog_4_method_7_code, 2, (some .int), 2, 2, 1, 0)
def am_m39 : MethodName × ByteArray × Nat × Option FieldType × Nat × Nat × Nat × Nat := (⟨"FoldPress$Jobs", "spotOf", "(II)I"⟩, prog_4_method_8_code, 3, (some .int), 2, 3, 1, 0)
def am_m40 : MethodName × ByteArray × Nat × Option FieldType × Nat × Nat × Nat × Nat := (⟨"FoldPress$Jobs", "make", "(II)I"⟩, prog_4_method_9_code, 4, (some .int), 2, 3, 1, 0)
def am_m41 : MethodName × ByteArray × Nat × Option FieldType × Nat × Nat × Nat × Nat := (⟨"FoldPress$Jobs", "makePage", "(I)I"⟩, prog_4_method_10_code, 3, (some .int), 2, 2, 1, 0)
def am_m42 : MethodName × ByteArray × Nat × Option FieldType × Nat × Nat × Nat × Nat := (⟨"FoldPress$Jobs", "makeBlank", "(I)I"⟩, prog_4_method_11_code, 2, (some .int), 2, 2, 1, 0)
def am_m43 : MethodName × ByteArray × Nat × Option FieldType × Nat × Nat × Nat × Nat := (⟨"FoldPress$Jobs", "makeRows", "(II)I"⟩, prog_4_method_12_code, 4, (some .int), 2, 3, 1, 0)
def am_m44 : MethodName × ByteArray × Nat × Option FieldType × Nat × Nat × Nat × Nat := (⟨"FoldPress$Jobs", "makeRow", "(III)I"⟩, prog_4_method_13_code, 6, (some .int), 2, 4, 1, 0)
def am_m45 : MethodName × ByteArray × Nat × Option FieldType × Nat × Nat × Nat × Nat := (⟨"FoldPress$Jobs", "makeMissing", "(II)I"⟩, prog_4_method_14_code, 4, (some .int), 2, 3, 1, 0)
def am_m46 : MethodName × ByteArray × Nat × Option FieldType × Nat × Nat × Nat × Nat := (⟨"FoldPress$Jobs", "writeLetter", "(IIII)I"⟩, prog_4_method_15_code, 6, (some .int), 2, 5, 1, 0)
def am_m47 : MethodName × ByteArray × Nat × Option FieldType × Nat × Nat × Nat × Nat := (⟨"FoldPress$Jobs", "letterAt", "(III)I"⟩, prog_4_method_16_code, 5, (some .int), 2, 4, 1, 0)
def am_m48 : MethodName × ByteArray × Nat × Option FieldType × Nat × Nat × Nat × Nat := (⟨"FoldPress$Jobs", "rowsOf", "(I)I"⟩, prog_4_method_17_code, 3, (some .int), 2, 2, 1, 0)
def am_m49 : MethodName × ByteArray × Nat × Option FieldType × Nat × Nat × Nat × Nat := (⟨"FoldPress$Jobs", "lettersOf", "(II)I"⟩, prog_4_method_18_code, 5, (some .int), 2, 3, 1, 0)
def am_m50 : MethodName × ByteArray × Nat × Option FieldType × Nat × Nat × Nat × Nat := (⟨"FoldPress$Jobs", "rowSpot", "(II)I"⟩, prog_4_method_19_code, 4, (some .int), 2, 3, 1, 0)
def am_m51 : MethodName × ByteArray × Nat × Option FieldType × Nat × Nat × Nat × Nat := (⟨"FoldPress$Jobs", "letterSpot", "(II)I"⟩, prog_4_method_20_code, 4, (some .int), 2, 3, 1, 0)
def am_m52 : MethodName × ByteArray × Nat × Option FieldType × Nat × Nat × Nat × Nat := (⟨"FoldPress$Jobs", "copyRow", "(IIIII)Z"⟩, prog_4_method_21_code, 9, (some .boolean), 2, 6, 2, 0)
def am_m53 : MethodName × ByteArray × Nat × Option FieldType × Nat × Nat × Nat × Nat := (⟨"FoldPress$Jobs", "trimTo", "(III)I"⟩, prog_4_method_22_code, 5, (some .int), 2, 4, 1, 0)
def am_m54 : MethodName × ByteArray × Nat × Option FieldType × Nat × Nat × Nat × Nat := (⟨"FoldPress$Jobs", "trimPage", "(III)V"⟩, prog_4_method_23_code, 6, none, 2, 4, 0, 0)
def am_m55 : MethodName × ByteArray × Nat × Option FieldType × Nat × Nat × Nat × Nat := (⟨"FoldPress$Jobs", "append", "(II)I"⟩, prog_4_method_24_code, 6, (some .int), 2, 3, 1, 0)
def am_m56 : MethodName × ByteArray × Nat × Option FieldType × Nat × Nat × Nat × Nat := (⟨"FoldPress$Jobs", "copyPage", "(II)V"⟩, prog_4_method_25_code, 7, none, 2, 3, 0, 0)
def am_m57 : MethodName × ByteArray × Nat × Option FieldType × Nat × Nat × Nat × Nat := (⟨"FoldPress$Journal", "<init>", "()V"⟩, prog_5_method_1_code, 1, none, 3, 1, 0, 2)
def am_m58 : MethodName × ByteArray × Nat × Option FieldType × Nat × Nat × Nat × Nat := (⟨"FoldPress$Journal", "begin", "()V"⟩, prog_5_method_2_code, 1, none, 3, 1, 0, 0)
def am_m59 : MethodName × ByteArray × Nat × Option FieldType × Nat × Nat × Nat × Nat := (⟨"FoldPress$Journal", "note", "(LFoldPress$Kept;II)V"⟩, prog_5_method_3_code, 4, none, 3, 4, 0, 0)
def am_m60 : MethodName × ByteArray × Nat × Option FieldType × Nat × Nat × Nat × Nat := (⟨"FoldPress$Journal", "takeBack", "()Z"⟩, prog_5_method_4_code, 3, (some .boolean), 3, 1, 2, 0)
def am_m61 : MethodName × ByteArray × Nat × Option FieldType × Nat × Nat × Nat × Nat := (⟨"FoldPress$Kept", "<init>", "(LFoldPress$Journal;I)V"⟩, prog_6_method_1_code, 3, none, 4, 3, 0, 2)
def am_m62 : MethodName × ByteArray × Nat × Option FieldType × Nat × Nat × Nat × Nat := (⟨"FoldPress$Kept", "get", "(I)I"⟩, prog_6_method_2_code, 2, (some .int), 4, 2, 1, 0)
def am_m63 : MethodName × ByteArray × Nat × Option FieldType × Nat × Nat × Nat × Nat := (⟨"FoldPress$Kept", "set", "(II)V"⟩, prog_6_method_3_code, 3, none, 4, 3, 0, 0)
def am_m64 : MethodName × ByteArray × Nat × Option FieldType × Nat × Nat × Nat × Nat := (⟨"FoldPress$Kept", "setUnnoted", "(II)V"⟩, prog_6_method_4_code, 3, none, 4, 3, 0, 0)
def am_m65 : MethodName × ByteArray × Nat × Option FieldType × Nat × Nat × Nat × Nat := (⟨"FoldPress$Piles", "<init>", "(LFoldPress$Tally;)V"⟩, prog_7_method_1_code, 2, none, 5, 2, 0, 2)
def am_m66 : MethodName × ByteArray × Nat × Option FieldType × Nat × Nat × Nat × Nat := (⟨"FoldPress$Piles", "sideAbove", "(I)I"⟩, prog_7_method_2_code, 1, (some .int), 5, 1, 1, 1)
def am_m67 : MethodName × ByteArray × Nat × Option FieldType × Nat × Nat × Nat × Nat := (⟨"FoldPress$Piles", "upOf", "(I)I"⟩, prog_7_method_3_code, 1, (some .int), 5, 1, 1, 1)
def am_m68 : MethodName × ByteArray × Nat × Option FieldType × Nat × Nat × Nat × Nat := (⟨"FoldPress$Piles", "rowOf", "(I)I"⟩, prog_7_method_4_code, 1, (some .int), 5, 1, 1, 1)
def am_m69 : MethodName × ByteArray × Nat × Option FieldType × Nat × Nat × Nat × Nat := (⟨"FoldPress$Piles", "columnOf", "(I)I"⟩, prog_7_method_5_code, 1, (some .int), 5, 1, 1, 1)
def am_m70 : MethodName × ByteArray × Nat × Option FieldType × Nat × Nat × Nat × Nat := (⟨"FoldPress$Piles", "spread", "(II)V"⟩, prog_7_method_6_code, 4, none, 5, 3, 0, 0)
def am_m71 : MethodName × ByteArray × Nat × Option FieldType × Nat × Nat × Nat × Nat := (⟨"FoldPress$Piles", "isOnePile", "()Z"⟩, prog_7_method_7_code, 1, (some .boolean), 5, 1, 2, 0)
def am_m72 : MethodName × ByteArray × Nat × Option FieldType × Nat × Nat × Nat × Nat := (⟨"FoldPress$Piles", "halve", "(I)I"⟩, prog_7_method_8_code, 4, (some .int), 5, 2, 1, 0)
def am_m73 : MethodName × ByteArray × Nat × Option FieldType × Nat × Nat × Nat × Nat := (⟨"FoldPress$Piles", "foldThird", "(I)I"⟩, prog_7_method_9_code, 4, (some .int), 5, 2, 1, 0)
def am_m74 : MethodName × ByteArray × Nat × Option FieldType × Nat × Nat × Nat × Nat := (⟨"FoldPress$Piles", "foldGate", "(I)I"⟩, prog_7_method_10_code, 4, (some .int), 5, 2, 1, 0)
def am_m75 : MethodName × ByteArray × Nat × Option FieldType × Nat × Nat × Nat × Nat := (⟨"FoldPress$Piles", "share", "(II)I"⟩, prog_7_method_11_code, 4, (some .int), 5, 3, 1, 0)
def am_m76 : MethodName × ByteArray × Nat × Option FieldType × Nat × Nat × Nat × Nat := (⟨"FoldPress$Piles", "narrow", "(III)I"⟩, prog_7_method_12_code, 5, (some .int), 5, 4, 1, 0)
def am_m77 : MethodName × ByteArray × Nat × Option FieldType × Nat × Nat × Nat × Nat := (⟨"FoldPress$Piles", "turnOver", "(III)V"⟩, prog_7_method_13_code, 12, none, 5, 4, 0, 0)
def am_m78 : MethodName × ByteArray × Nat × Option FieldType × Nat × Nat × Nat × Nat := (⟨"FoldPress$Piles", "placeOf", "(II)I"⟩, prog_7_method_14_code, 4, (some .int), 5, 3, 1, 0)
def am_m79 : MethodName × ByteArray × Nat × Option FieldType × Nat × Nat × Nat × Nat := (⟨"FoldPress$Piles", "listLeaves", "([II)I"⟩, prog_7_method_15_code, 5, (some .int), 5, 3, 1, 0)
def am_m80 : MethodName × ByteArray × Nat × Option FieldType × Nat × Nat × Nat × Nat := (⟨"FoldPress$Press", "<init>", "(LFoldPress$Journal;LFoldPress$Tally;LFoldPress$Folds;LFoldPress$Sheets;)V"⟩, prog_8_method_1_code, 5, none, 6, 5, 0, 2)
def am_m81 : MethodName × ByteArray × Nat × Option FieldType × Nat × Nat × Nat × Nat := (⟨"FoldPress$Press", "isJammed", "()Z"⟩, prog_8_method_2_code, 1, (some .boolean), 6, 1, 2, 0)
def am_m82 : MethodName × ByteArray × Nat × Option FieldType × Nat × Nat × Nat × Nat := (⟨"FoldPress$Press", "endJam", "()I"⟩, prog_8_method_3_code, 2, (some .int), 6, 1, 1, 0)
def am_m83 : MethodName × ByteArray × Nat × Option FieldType × Nat × Nat × Nat × Nat := (⟨"FoldPress$Press", "currentMargin", "()I"⟩, prog_8_method_4_code, 1, (some .int), 6, 1, 1, 0)
def am_m84 : MethodName × ByteArray × Nat × Option FieldType × Nat × Nat × Nat × Nat := (⟨"FoldPress$Press", "changeMargin", "(I)I"⟩, prog_8_method_5_code, 3, (some .int), 6, 2, 1, 0)
def am_m85 : MethodName × ByteArray × Nat × Option FieldType × Nat × Nat × Nat × Nat := (⟨"FoldPress$Press", "tellDouble", "()I"⟩, prog_8_method_6_code, 1, (some .int), 6, 1, 1, 0)
def am_m86 : MethodName × ByteArray × Nat × Option FieldType × Nat × Nat × Nat × Nat := (⟨"FoldPress$Press", "tellJam", "(I)I"⟩, prog_8_method_7_code, 2, (some .int), 6, 2, 1, 0)
def am_m87 : MethodName × ByteArray × Nat × Option FieldType × Nat × Nat × Nat × Nat := (⟨"FoldPress$Press", "workAt", "(I)I"⟩, prog_8_method_8_code, 4, (some .int), 6, 2, 1, 0)
def am_m88 : MethodName × ByteArray × Nat × Option FieldType × Nat × Nat × Nat × Nat := (⟨"FoldPress$Press", "block", "(I)I"⟩, prog_8_method_9_code, 2, (some .int), 6, 2, 1, 0)
def am_m89 : MethodName × ByteArray × Nat × Option FieldType × Nat × Nat × Nat × Nat := (⟨"FoldPress$Press", "work", "(II)I"⟩, prog_8_method_10_code, 4, (some .int), 6, 3, 1, 0)
def am_m90 : MethodName × ByteArray × Nat × Option FieldType × Nat × Nat × Nat × Nat := (⟨"FoldPress$Press", "separate", "()I"⟩, prog_8_method_11_code, 2, (some .int), 6, 1, 1, 0)
def am_m91 : MethodName × ByteArray × Nat × Option FieldType × Nat × Nat × Nat × Nat := (⟨"FoldPress$Press", "inkSide", "(II)I"⟩, prog_8_method_12_code, 7, (some .int), 6, 3, 1, 0)
def am_m92 : MethodName × ByteArray × Nat × Option FieldType × Nat × Nat × Nat × Nat := (⟨"FoldPress$Press", "trimEdge", "(I)I"⟩, prog_8_method_13_code, 3, (some .int), 6, 2, 1, 0)
def am_m93 : MethodName × ByteArray × Nat × Option FieldType × Nat × Nat × Nat × Nat := (⟨"FoldPress$Sheets", "<init>", "(LFoldPress$Journal;LFoldPress$Jobs;LFoldPress$Folds;)V"⟩, prog_9_method_1_code, 4, none, 7, 4, 0, 2)
def am_m94 : MethodName × ByteArray × Nat × Option FieldType × Nat × Nat × Nat × Nat := (⟨"FoldPress$Sheets", "count", "()I"⟩, prog_9_method_2_code, 1, (some .int), 7, 1, 1, 0)
def am_m95 : MethodName × ByteArray × Nat × Option FieldType × Nat × Nat × Nat × Nat := (⟨"FoldPress$Sheets", "has", "(I)Z"⟩, prog_9_method_3_code, 2, (some .boolean), 7, 2, 2, 0)
def am_m96 : MethodName × ByteArray × Nat × Option FieldType × Nat × Nat × Nat × Nat := (⟨"FoldPress$Sheets", "make", "(III)I"⟩, prog_9_method_4_code, 5, (some .int), 7, 4, 1, 0)
def am_m97 : MethodName × ByteArray × Nat × Option FieldType × Nat × Nat × Nat × Nat := (⟨"FoldPress$Sheets", "rowsOf", "(I)I"⟩, prog_9_method_5_code, 2, (some .int), 7, 2, 1, 0)
def am_m98 : MethodName × ByteArray × Nat × Option FieldType × Nat × Nat × Nat × Nat := (⟨"FoldPress$Sheets", "columnsOf", "(I)I"⟩, prog_9_method_6_code, 2, (some .int), 7, 2, 1, 0)
def am_m99 : MethodName × ByteArray × Nat × Option FieldType × Nat × Nat × Nat × Nat := (⟨"FoldPress$Sheets", "leavesOf", "(I)I"⟩, prog_9_method_7_code, 2, (some .int), 7, 2, 1, 0)
def am_m100 : MethodName × ByteArray × Nat × Option FieldType × Nat × Nat × Nat × Nat := (⟨"FoldPress$Sheets", "rowSpot", "(III)I"⟩, prog_9_method_8_code, 3, (some .int), 7, 3, 1, 1)
def am_m101 : MethodName × ByteArray × Nat × Option FieldType × Nat × Nat × Nat × Nat := (⟨"FoldPress$Sheets", "hasRow", "(II)Z"⟩, prog_9_method_9_code, 3, (some .boolean), 7, 3, 2, 0)
def am_m102 : MethodName × ByteArray × Nat × Option FieldType × Nat × Nat × Nat × Nat := (⟨"FoldPress$Sheets", "isTorn", "(III)Z"⟩, prog_9_method_10_code, 4, (some .boolean), 7, 4, 2, 0)
def am_m103 : MethodName × ByteArray × Nat × Option FieldType × Nat × Nat × Nat × Nat := (⟨"FoldPress$Sheets", "tearRow", "(III)I"⟩, prog_9_method_11_code, 4, (some .int), 7, 4, 1, 0)
def am_m104 : MethodName × ByteArray × Nat × Option FieldType × Nat × Nat × Nat × Nat := (⟨"FoldPress$Sheets", "cellSpot", "(IIII)I"⟩, prog_9_method_12_code, 5, (some .int), 7, 5, 1, 0)
def am_m105 : MethodName × ByteArray × Nat × Option FieldType × Nat × Nat × Nat × Nat := (⟨"FoldPress$Sheets", "writeCell", "(III)I"⟩, prog_9_method_13_code, 4, (some .int), 7, 4, 1, 0)
def am_m106 : MethodName × ByteArray × Nat × Option FieldType × Nat × Nat × Nat × Nat := (⟨"FoldPress$Sheets", "pageIn", "(I)I"⟩, prog_9_method_14_code, 2, (some .int), 7, 2, 1, 0)
def am_m107 : MethodName × ByteArray × Nat × Option FieldType × Nat × Nat × Nat × Nat := (⟨"FoldPress$Sheets", "upIn", "(I)I"⟩, prog_9_method_15_code, 2, (some .int), 7, 2, 1, 0)
def am_m108 : MethodName × ByteArray × Nat × Option FieldType × Nat × Nat × Nat × Nat := (⟨"FoldPress$Sheets", "filledRow", "(IIII)I"⟩, prog_9_method_16_code, 5, (some .int), 7, 5, 1, 0)
def am_m109 : MethodName × ByteArray × Nat × Option FieldType × Nat × Nat × Nat × Nat := (⟨"FoldPress$Sheets", "copyCells", "(III)V"⟩, prog_9_method_17_code, 5, none, 7, 4, 0, 0)
def am_m110 : MethodName × ByteArray × Nat × Option FieldType × Nat × Nat × Nat × Nat := (⟨"FoldPress$Sheets", "layPages", "(III)I"⟩, prog_9_method_18_code, 7, (some .int), 7, 4, 1, 0)
def am_m111 : MethodName × ByteArray × Nat × Option FieldType × Nat × Nat × Nat × Nat := (⟨"FoldPress$Sheets", "layFace", "(III)I"⟩, prog_9_method_19_code, 6, (some .int), 7, 4, 1, 0)
def am_m112 : MethodName × ByteArray × Nat × Option FieldType × Nat × Nat × Nat × Nat := (⟨"FoldPress$Sheets", "faceCell", "(II)I"⟩, prog_9_method_20_code, 4, (some .int), 7, 3, 1, 0)
def am_m113 : MethodName × ByteArray × Nat × Option FieldType × Nat × Nat × Nat × Nat := (⟨"FoldPress$Sheets", "readFace", "(III)I"⟩, prog_9_method_21_code, 5, (some .int), 7, 4, 1, 0)
def am_m114 : MethodName × ByteArray × Nat × Option FieldType × Nat × Nat × Nat × Nat := (⟨"FoldPress$Sheets", "pageOnFace", "(II)I"⟩, prog_9_method_22_code, 4, (some .int), 7, 3, 1, 0)
def am_m115 : MethodName × ByteArray × Nat × Option FieldType × Nat × Nat × Nat × Nat := (⟨"FoldPress$Sheets", "letterSeen", "(IIII)I"⟩, prog_9_method_23_code, 8, (some .int), 7, 5, 1, 0)
def am_m116 : MethodName × ByteArray × Nat × Option FieldType × Nat × Nat × Nat × Nat := (⟨"FoldPress$Sheets", "isGathered", "(I)Z"⟩, prog_9_method_24_code, 2, (some .boolean), 7, 2, 2, 0)
def am_m117 : MethodName × ByteArray × Nat × Option FieldType × Nat × Nat × Nat × Nat := (⟨"FoldPress$Sheets", "markGathered", "(I)V"⟩, prog_9_method_25_code, 2, none, 7, 2, 0, 0)
def am_m118 : MethodName × ByteArray × Nat × Option FieldType × Nat × Nat × Nat × Nat := (⟨"FoldPress$Sheets", "tellFold", "(II)I"⟩, prog_9_method_26_code, 3, (some .int), 7, 3, 1, 0)
def am_m119 : MethodName × ByteArray × Nat × Option FieldType × Nat × Nat × Nat × Nat := (⟨"FoldPress$Sheets", "toldFold", "(I)I"⟩, prog_9_method_27_code, 2, (some .int), 7, 2, 1, 0)
def am_m120 : MethodName × ByteArray × Nat × Option FieldType × Nat × Nat × Nat × Nat := (⟨"FoldPress$Sheets", "placeOf", "(I)I"⟩, prog_9_method_28_code, 2, (some .int), 7, 2, 1, 0)
def am_m121 : MethodName × ByteArray × Nat × Option FieldType × Nat × Nat × Nat × Nat := (⟨"FoldPress$Sheets", "numberOf", "(I)I"⟩, prog_9_method_29_code, 2, (some .int), 7, 2, 1, 0)
def am_m122 : MethodName × ByteArray × Nat × Option FieldType × Nat × Nat × Nat × Nat := (⟨"FoldPress$Sheets", "causeOf", "(I)I"⟩, prog_9_method_30_code, 2, (some .int), 7, 2, 1, 0)
def am_m123 : MethodName × ByteArray × Nat × Option FieldType × Nat × Nat × Nat × Nat := (⟨"FoldPress$Sheets", "sheetAt", "(I)I"⟩, prog_9_method_31_code, 3, (some .int), 7, 2, 1, 0)
def am_m124 : MethodName × ByteArray × Nat × Option FieldType × Nat × Nat × Nat × Nat := (⟨"FoldPress$Sheets", "enter", "(II)I"⟩, prog_9_method_32_code, 3, (some .int), 7, 3, 1, 0)
def am_m125 : MethodName × ByteArray × Nat × Option FieldType × Nat × Nat × Nat × Nat := (⟨"FoldPress$Sheets", "passOn", "(I)V"⟩, prog_9_method_33_code, 2, none, 7, 2, 0, 0)
def am_m126 : MethodName × ByteArray × Nat × Option FieldType × Nat × Nat × Nat × Nat := (⟨"FoldPress$Sheets", "spoil", "(II)V"⟩, prog_9_method_34_code, 3, none, 7, 3, 0, 0)
def am_m127 : MethodName × ByteArray × Nat × Option FieldType × Nat × Nat × Nat × Nat := (⟨"FoldPress$Sheets", "layToRest", "(I)I"⟩, prog_9_method_35_code, 2, (some .int), 7, 2, 1, 0)
def am_m128 : MethodName × ByteArray × Nat × Option FieldType × Nat × Nat × Nat × Nat := (⟨"FoldPress$Tally", "<init>", "()V"⟩, prog_10_method_1_code, 1, none, 8, 1, 0, 2)
def am_m129 : MethodName × ByteArray × Nat × Option FieldType × Nat × Nat × Nat × Nat := (⟨"FoldPress$Tally", "answer", "(I)I"⟩, prog_10_method_2_code, 2, (some .int), 8, 2, 1, 0)
def am_m130 : MethodName × ByteArray × Nat × Option FieldType × Nat × Nat × Nat × Nat := (⟨"FoldPress$Tally", "findingOf", "(I)I"⟩, prog_10_method_3_code, 1, (some .int), 8, 1, 1, 1)
def am_m131 : MethodName × ByteArray × Nat × Option FieldType × Nat × Nat × Nat × Nat := (⟨"FoldPress$Tally", "note", "(I)V"⟩, prog_10_method_4_code, 2, none, 8, 2, 0, 0)
def am_m132 : MethodName × ByteArray × Nat × Option FieldType × Nat × Nat × Nat × Nat := (⟨"FoldPress$Tally", "traced", "(I)I"⟩, prog_10_method_5_code, 2, (some .int), 8, 2, 1, 0)
def am_m133 : MethodName × ByteArray × Nat × Option FieldType × Nat × Nat × Nat × Nat := (⟨"FoldPress$Tally", "counted", "(I)I"⟩, prog_10_method_6_code, 2, (some .int), 8, 2, 1, 0)
def am_m134 : MethodName × ByteArray × Nat × Option FieldType × Nat × Nat × Nat × Nat := (⟨"FoldPress$Tally", "countWork", "()V"⟩, prog_10_method_7_code, 1, none, 8, 1, 0, 0)
def am_m135 : MethodName × ByteArray × Nat × Option FieldType × Nat × Nat × Nat × Nat := (⟨"FoldPress$Tally", "useInk", "(I)V"⟩, prog_10_method_8_code, 2, none, 8, 2, 0, 0)
def am_m136 : MethodName × ByteArray × Nat × Option FieldType × Nat × Nat × Nat × Nat := (⟨"FoldPress$Tally", "giveNumber", "()I"⟩, prog_10_method_9_code, 1, (some .int), 8, 1, 1, 0)
def am_m137 : MethodName × ByteArray × Nat × Option FieldType × Nat × Nat × Nat × Nat := (⟨"FoldPress$Tally", "beginMove", "()V"⟩, prog_10_method_10_code, 1, none, 8, 1, 0, 0)
def am_m138 : MethodName × ByteArray × Nat × Option FieldType × Nat × Nat × Nat × Nat := (⟨"FoldPress$Tally", "countMovedRow", "()V"⟩, prog_10_method_11_code, 1, none, 8, 1, 0, 0)
def am_m139 : MethodName × ByteArray × Nat × Option FieldType × Nat × Nat × Nat × Nat := (⟨"FoldPress$Tally", "movedRows", "()I"⟩, prog_10_method_12_code, 1, (some .int), 8, 1, 1, 0)
def am_m140 : MethodName × ByteArray × Nat × Option FieldType × Nat × Nat × Nat × Nat := (⟨"FoldPress", "<init>", "()V"⟩, prog_1_method_1_code, 1, none, 9, 1, 0, 2)
def am_m141 : MethodName × ByteArray × Nat × Option FieldType × Nat × Nat × Nat × Nat := (⟨"FoldPress", "job", "(II)I"⟩, prog_1_method_2_code, 3, (some .int), 9, 3, 1, 0)
def am_m142 : MethodName × ByteArray × Nat × Option FieldType × Nat × Nat × Nat × Nat := (⟨"FoldPress", "page", "(I)I"⟩, prog_1_method_3_code, 2, (some .int), 9, 2, 1, 0)
def am_m143 : MethodName × ByteArray × Nat × Option FieldType × Nat × Nat × Nat × Nat := (⟨"FoldPress", "blank", "(II)I"⟩, prog_1_method_4_code, 3, (some .int), 9, 3, 1, 0)
def am_m144 : MethodName × ByteArray × Nat × Option FieldType × Nat × Nat × Nat × Nat := (⟨"FoldPress", "rows", "(III)I"⟩, prog_1_method_5_code, 4, (some .int), 9, 4, 1, 0)
def am_m145 : MethodName × ByteArray × Nat × Option FieldType × Nat × Nat × Nat × Nat := (⟨"FoldPress", "row", "(IIII)I"⟩, prog_1_method_6_code, 5, (some .int), 9, 5, 1, 0)
def am_m146 : MethodName × ByteArray × Nat × Option FieldType × Nat × Nat × Nat × Nat := (⟨"FoldPress", "miss", "(III)I"⟩, prog_1_method_7_code, 4, (some .int), 9, 4, 1, 0)
def am_m147 : MethodName × ByteArray × Nat × Option FieldType × Nat × Nat × Nat × Nat := (⟨"FoldPress", "letter", "(IIIII)I"⟩, prog_1_method_8_code, 6, (some .int), 9, 6, 1, 0)
def am_m148 : MethodName × ByteArray × Nat × Option FieldType × Nat × Nat × Nat × Nat := (⟨"FoldPress", "at", "(IIII)I"⟩, prog_1_method_9_code, 5, (some .int), 9, 5, 1, 0)
def am_m149 : MethodName × ByteArray × Nat × Option FieldType × Nat × Nat × Nat × Nat := (⟨"FoldPress", "size", "(III)I"⟩, prog_1_method_10_code, 5, (some .int), 9, 4, 1, 0)
def am_m150 : MethodName × ByteArray × Nat × Option FieldType × Nat × Nat × Nat × Nat := (⟨"FoldPress", "move", "(IIIIIII)I"⟩, prog_1_method_11_code, 9, (some .int), 9, 8, 1, 0)
def am_m151 : MethodName × ByteArray × Nat × Option FieldType × Nat × Nat × Nat × Nat := (⟨"FoldPress", "moved", "()I"⟩, prog_1_method_12_code, 1, (some .int), 9, 1, 1, 0)
def am_m152 : MethodName × ByteArray × Nat × Option FieldType × Nat × Nat × Nat × Nat := (⟨"FoldPress", "cut", "(III)I"⟩, prog_1_method_13_code, 4, (some .int), 9, 4, 1, 0)
def am_m153 : MethodName × ByteArray × Nat × Option FieldType × Nat × Nat × Nat × Nat := (⟨"FoldPress", "join", "(II)I"⟩, prog_1_method_14_code, 3, (some .int), 9, 3, 1, 0)
def am_m154 : MethodName × ByteArray × Nat × Option FieldType × Nat × Nat × Nat × Nat := (⟨"FoldPress", "fold", "(II)I"⟩, prog_1_method_15_code, 3, (some .int), 9, 3, 1, 0)
def am_m155 : MethodName × ByteArray × Nat × Option FieldType × Nat × Nat × Nat × Nat := (⟨"FoldPress", "cross", "(II)I"⟩, prog_1_method_16_code, 3, (some .int), 9, 3, 1, 0)
def am_m156 : MethodName × ByteArray × Nat × Option FieldType × Nat × Nat × Nat × Nat := (⟨"FoldPress", "lips", "(I)I"⟩, prog_1_method_17_code, 2, (some .int), 9, 2, 1, 0)
def am_m157 : MethodName × ByteArray × Nat × Option FieldType × Nat × Nat × Nat × Nat := (⟨"FoldPress", "inner", "(II)I"⟩, prog_1_method_18_code, 3, (some .int), 9, 3, 1, 0)
def am_m158 : MethodName × ByteArray × Nat × Option FieldType × Nat × Nat × Nat × Nat := (⟨"FoldPress", "worth", "(II)I"⟩, prog_1_method_19_code, 3, (some .int), 9, 3, 1, 0)
def am_m159 : MethodName × ByteArray × Nat × Option FieldType × Nat × Nat × Nat × Nat := (⟨"FoldPress", "face", "(IIIII)I"⟩, prog_1_method_20_code, 7, (some .int), 9, 6, 1, 0)
def am_m160 : MethodName × ByteArray × Nat × Option FieldType × Nat × Nat × Nat × Nat := (⟨"FoldPress", "faces", "(III)I"⟩, prog_1_method_21_code, 4, (some .int), 9, 4, 1, 0)
def am_m161 : MethodName × ByteArray × Nat × Option FieldType × Nat × Nat × Nat × Nat := (⟨"FoldPress", "foldBare", "(III)I"⟩, prog_1_method_22_code, 5, (some .int), 9, 4, 1, 0)
def am_m162 : MethodName × ByteArray × Nat × Option FieldType × Nat × Nat × Nat × Nat := (⟨"FoldPress", "gridFault", "(II)I"⟩, prog_1_method_23_code, 2, (some .int), 9, 2, 1, 1)
def am_m163 : MethodName × ByteArray × Nat × Option FieldType × Nat × Nat × Nat × Nat := (⟨"FoldPress", "sheet", "(III)I"⟩, prog_1_method_24_code, 5, (some .int), 9, 4, 1, 0)
def am_m164 : MethodName × ByteArray × Nat × Option FieldType × Nat × Nat × Nat × Nat := (⟨"FoldPress", "tear", "(III)I"⟩, prog_1_method_25_code, 4, (some .int), 9, 4, 1, 0)
def am_m165 : MethodName × ByteArray × Nat × Option FieldType × Nat × Nat × Nat × Nat := (⟨"FoldPress", "put", "(IIIIII)I"⟩, prog_1_method_26_code, 8, (some .int), 9, 7, 1, 0)
def am_m166 : MethodName × ByteArray × Nat × Option FieldType × Nat × Nat × Nat × Nat := (⟨"FoldPress", "cell", "(IIIII)I"⟩, prog_1_method_27_code, 7, (some .int), 9, 6, 1, 0)
def am_m167 : MethodName × ByteArray × Nat × Option FieldType × Nat × Nat × Nat × Nat := (⟨"FoldPress", "shift", "(IIIIIIII)I"⟩, prog_1_method_28_code, 12, (some .int), 9, 9, 1, 0)
def am_m168 : MethodName × ByteArray × Nat × Option FieldType × Nat × Nat × Nat × Nat := (⟨"FoldPress", "lay", "(III)I"⟩, prog_1_method_29_code, 4, (some .int), 9, 4, 1, 0)
def am_m169 : MethodName × ByteArray × Nat × Option FieldType × Nat × Nat × Nat × Nat := (⟨"FoldPress", "read", "(III)I"⟩, prog_1_method_30_code, 4, (some .int), 9, 4, 1, 0)
def am_m170 : MethodName × ByteArray × Nat × Option FieldType × Nat × Nat × Nat × Nat := (⟨"FoldPress", "seen", "(IIIIII)I"⟩, prog_1_method_31_code, 8, (some .int), 9, 7, 1, 0)
def am_m171 : MethodName × ByteArray × Nat × Option FieldType × Nat × Nat × Nat × Nat := (⟨"FoldPress", "signature", "(I)I"⟩, prog_1_method_32_code, 2, (some .int), 9, 2, 1, 0)
def am_m172 : MethodName × ByteArray × Nat × Option FieldType × Nat × Nat × Nat × Nat := (⟨"FoldPress", "gather", "(II)I"⟩, prog_1_method_33_code, 3, (some .int), 9, 3, 1, 0)
def am_m173 : MethodName × ByteArray × Nat × Option FieldType × Nat × Nat × Nat × Nat := (⟨"FoldPress", "bind", "(III)I"⟩, prog_1_method_34_code, 4, (some .int), 9, 4, 1, 0)
def am_m174 : MethodName × ByteArray × Nat × Option FieldType × Nat × Nat × Nat × Nat := (⟨"FoldPress", "leaf", "(IIII)I"⟩, prog_1_method_35_code, 7, (some .int), 9, 5, 1, 0)
def am_m175 : MethodName × ByteArray × Nat × Option FieldType × Nat × Nat × Nat × Nat := (⟨"FoldPress", "creep", "(III)I"⟩, prog_1_method_36_code, 4, (some .int), 9, 4, 1, 0)
def am_m176 : MethodName × ByteArray × Nat × Option FieldType × Nat × Nat × Nat × Nat := (⟨"FoldPress", "add", "(I)I"⟩, prog_1_method_37_code, 2, (some .int), 9, 2, 1, 0)
def am_m177 : MethodName × ByteArray × Nat × Option FieldType × Nat × Nat × Nat × Nat := (⟨"FoldPress", "cover", "(I)I"⟩, prog_1_method_38_code, 2, (some .int), 9, 2, 1, 0)
def am_m178 : MethodName × ByteArray × Nat × Option FieldType × Nat × Nat × Nat × Nat := (⟨"FoldPress", "pageAt", "(II)I"⟩, prog_1_method_39_code, 3, (some .int), 9, 3, 1, 0)
def am_m179 : MethodName × ByteArray × Nat × Option FieldType × Nat × Nat × Nat × Nat := (⟨"FoldPress", "wrap", "(II)I"⟩, prog_1_method_40_code, 4, (some .int), 9, 3, 1, 0)
def am_m180 : MethodName × ByteArray × Nat × Option FieldType × Nat × Nat × Nat × Nat := (⟨"FoldPress", "foldBy", "(II)I"⟩, prog_1_method_41_code, 3, (some .int), 9, 3, 1, 0)
def am_m181 : MethodName × ByteArray × Nat × Option FieldType × Nat × Nat × Nat × Nat := (⟨"FoldPress", "margin", "(I)I"⟩, prog_1_method_42_code, 2, (some .int), 9, 2, 1, 0)
def am_m182 : MethodName × ByteArray × Nat × Option FieldType × Nat × Nat × Nat × Nat := (⟨"FoldPress", "feed", "(I)I"⟩, prog_1_method_43_code, 2, (some .int), 9, 2, 1, 0)
def am_m183 : MethodName × ByteArray × Nat × Option FieldType × Nat × Nat × Nat × Nat := (⟨"FoldPress", "doubled", "()I"⟩, prog_1_method_44_code, 1, (some .int), 9, 1, 1, 0)
def am_m184 : MethodName × ByteArray × Nat × Option FieldType × Nat × Nat × Nat × Nat := (⟨"FoldPress", "jam", "(I)I"⟩, prog_1_method_45_code, 2, (some .int), 9, 2, 1, 0)
def am_m185 : MethodName × ByteArray × Nat × Option FieldType × Nat × Nat × Nat × Nat := (⟨"FoldPress", "step", "()I"⟩, prog_1_method_46_code, 3, (some .int), 9, 1, 1, 0)
def am_m186 : MethodName × ByteArray × Nat × Option FieldType × Nat × Nat × Nat × Nat := (⟨"FoldPress", "reprint", "(I)I"⟩, prog_1_method_47_code, 2, (some .int), 9, 2, 1, 0)
def am_m187 : MethodName × ByteArray × Nat × Option FieldType × Nat × Nat × Nat × Nat := (⟨"FoldPress", "clear", "()I"⟩, prog_1_method_48_code, 1, (some .int), 9, 1, 1, 0)
def am_m188 : MethodName × ByteArray × Nat × Option FieldType × Nat × Nat × Nat × Nat := (⟨"FoldPress", "state", "(II)I"⟩, prog_1_method_49_code, 3, (some .int), 9, 3, 1, 0)
def am_m189 : MethodName × ByteArray × Nat × Option FieldType × Nat × Nat × Nat × Nat := (⟨"FoldPress", "good", "(I)I"⟩, prog_1_method_50_code, 2, (some .int), 9, 2, 1, 0)
def am_m190 : MethodName × ByteArray × Nat × Option FieldType × Nat × Nat × Nat × Nat := (⟨"FoldPress", "undo", "()I"⟩, prog_1_method_51_code, 1, (some .int), 9, 1, 1, 0)
def am_m191 : MethodName × ByteArray × Nat × Option FieldType × Nat × Nat × Nat × Nat := (⟨"FoldPress", "told", "(I)I"⟩, prog_1_method_52_code, 2, (some .int), 9, 2, 1, 0)
def am_m192 : MethodName × ByteArray × Nat × Option FieldType × Nat × Nat × Nat × Nat := (⟨"FoldPress", "trace", "(I)I"⟩, prog_1_method_53_code, 2, (some .int), 9, 2, 1, 0)
def am_m193 : MethodName × ByteArray × Nat × Option FieldType × Nat × Nat × Nat × Nat := (⟨"FoldPress", "about", "(II)I"⟩, prog_1_method_54_code, 3, (some .int), 9, 3, 1, 0)
def am_m194 : MethodName × ByteArray × Nat × Option FieldType × Nat × Nat × Nat × Nat := (⟨"FoldPress", "within", "(III)Z"⟩, prog_1_method_55_code, 3, (some .boolean), 9, 3, 2, 1)
def am_m195 : MethodName × ByteArray × Nat × Option FieldType × Nat × Nat × Nat × Nat := (⟨"FoldPress", "isSide", "(I)Z"⟩, prog_1_method_56_code, 1, (some .boolean), 9, 1, 2, 1)
def am_m196 : MethodName × ByteArray × Nat × Option FieldType × Nat × Nat × Nat × Nat := (⟨"FoldPressModel", "<init>", "()V"⟩, prog_12_method_1_code, 1, none, 10, 1, 0, 2)
def am_m197 : MethodName × ByteArray × Nat × Option FieldType × Nat × Nat × Nat × Nat := (⟨"FoldPressModel", "isIn", "(III)Z"⟩, prog_12_method_2_code, 3, (some .boolean), 10, 3, 2, 1)
def am_m198 : MethodName × ByteArray × Nat × Option FieldType × Nat × Nat × Nat × Nat := (⟨"FoldPressModel", "keepRow", "([IIZ)V"⟩, prog_12_method_3_code, 4, none, 10, 3, 0, 1)
def am_m199 : MethodName × ByteArray × Nat × Option FieldType × Nat × Nat × Nat × Nat := (⟨"FoldPressModel", "keepMarks", "([ZIZ)V"⟩, prog_12_method_4_code, 4, none, 10, 3, 0, 1)
def am_m200 : MethodName × ByteArray × Nat × Option FieldType × Nat × Nat × Nat × Nat := (⟨"FoldPressModel", "copyAll", "(Z)V"⟩, prog_12_method_5_code, 2, none, 10, 2, 0, 0)
def am_m201 : MethodName × ByteArray × Nat × Option FieldType × Nat × Nat × Nat × Nat := (⟨"FoldPressModel", "change", "()V"⟩, prog_12_method_6_code, 1, none, 10, 1, 0, 0)
def am_m202 : MethodName × ByteArray × Nat × Option FieldType × Nat × Nat × Nat × Nat := (⟨"FoldPressModel", "isJammed", "()Z"⟩, prog_12_method_7_code, 1, (some .boolean), 10, 1, 2, 0)
def am_m203 : MethodName × ByteArray × Nat × Option FieldType × Nat × Nat × Nat × Nat := (⟨"FoldPressModel", "finds", "(I)I"⟩, prog_12_method_8_code, 2, (some .int), 10, 2, 1, 0)
def am_m204 : MethodName × ByteArray × Nat × Option FieldType × Nat × Nat × Nat × Nat := (⟨"FoldPressModel", "undo", "()I"⟩, prog_12_method_9_code, 1, (some .int), 10, 1, 1, 0)
def am_m205 : MethodName × ByteArray × Nat × Option FieldType × Nat × Nat × Nat × Nat := (⟨"FoldPressModel", "isJob", "(I)Z"⟩, prog_12_method_10_code, 2, (some .boolean), 10, 2, 2, 0)
def am_m206 : MethodName × ByteArray × Nat × Option FieldType × Nat × Nat × Nat × Nat := (⟨"FoldPressModel", "isPage", "(II)Z"⟩, prog_12_method_11_code, 3, (some .boolean), 10, 3, 2, 0)
def am_m207 : MethodName × ByteArray × Nat × Option FieldType × Nat × Nat × Nat × Nat := (⟨"FoldPressModel", "pageAtOf", "(II)I"⟩, prog_12_method_12_code, 2, (some .int), 10, 2, 1, 1)
def am_m208 : MethodName × ByteArray × Nat × Option FieldType × Nat × Nat × Nat × Nat := (⟨"FoldPressModel", "job", "(II)I"⟩, prog_12_method_13_code, 4, (some .int), 10, 3, 1, 0)
def am_m209 : MethodName × ByteArray × Nat × Option FieldType × Nat × Nat × Nat × Nat := (⟨"FoldPressModel", "page", "(I)I"⟩, prog_12_method_14_code, 2, (some .int), 10, 2, 1, 0)
def am_m210 : MethodName × ByteArray × Nat × Option FieldType × Nat × Nat × Nat × Nat := (⟨"FoldPressModel", "blank", "(II)I"⟩, prog_12_method_15_code, 3, (some .int), 10, 3, 1, 0)
def am_m211 : MethodName × ByteArray × Nat × Option FieldType × Nat × Nat × Nat × Nat := (⟨"FoldPressModel", "rows", "(III)I"⟩, prog_12_method_16_code, 6, (some .int), 10, 4, 1, 0)
def am_m212 : MethodName × ByteArray × Nat × Option FieldType × Nat × Nat × Nat × Nat := (⟨"FoldPressModel", "lacksRow", "(II)I"⟩, prog_12_method_17_code, 3, (some .int), 10, 3, 1, 0)
def am_m213 : MethodName × ByteArray × Nat × Option FieldType × Nat × Nat × Nat × Nat := (⟨"FoldPressModel", "lacksLetter", "(III)I"⟩, prog_12_method_18_code, 6, (some .int), 10, 4, 1, 0)
def am_m214 : MethodName × ByteArray × Nat × Option FieldType × Nat × Nat × Nat × Nat := (⟨"FoldPressModel", "row", "(IIII)I"⟩, prog_12_method_19_code, 8, (some .int), 10, 5, 1, 0)
def am_m215 : MethodName × ByteArray × Nat × Option FieldType × Nat × Nat × Nat × Nat := (⟨"FoldPressModel", "miss", "(III)I"⟩, prog_12_method_20_code, 6, (some .int), 10, 4, 1, 0)
def am_m216 : MethodName × ByteArray × Nat × Option FieldType × Nat × Nat × Nat × Nat := (⟨"FoldPressModel", "letter", "(IIIII)I"⟩, prog_12_method_21_code, 8, (some .int), 10, 6, 1, 0)
def am_m217 : MethodName × ByteArray × Nat × Option FieldType × Nat × Nat × Nat × Nat := (⟨"FoldPressModel", "at", "(IIII)I"⟩, prog_12_method_22_code, 7, (some .int), 10, 5, 1, 0)
def am_m218 : MethodName × ByteArray × Nat × Option FieldType × Nat × Nat × Nat × Nat := (⟨"FoldPressModel", "size", "(III)I"⟩, prog_12_method_23_code, 7, (some .int), 10, 4, 1, 0)
def am_m219 : MethodName × ByteArray × Nat × Option FieldType × Nat × Nat × Nat × Nat := (⟨"FoldPressModel", "lettersAt", "(II)I"⟩, prog_12_method_24_code, 3, (some .int), 10, 3, 1, 0)
def am_m220 : MethodName × ByteArray × Nat × Option FieldType × Nat × Nat × Nat × Nat := (⟨"FoldPressModel", "move", "(IIIIIII)I"⟩, prog_12_method_25_code, 12, (some .int), 10, 8, 1, 0)
def am_m221 : MethodName × ByteArray × Nat × Option FieldType × Nat × Nat × Nat × Nat := (⟨"FoldPressModel", "moved", "()I"⟩, prog_12_method_26_code, 1, (some .int), 10, 1, 1, 0)
def am_m222 : MethodName × ByteArray × Nat × Option FieldType × Nat × Nat × Nat × Nat := (⟨"FoldPressModel", "cut", "(III)I"⟩, prog_12_method_27_code, 8, (some .int), 10, 4, 1, 0)
def am_m223 : MethodName × ByteArray × Nat × Option FieldType × Nat × Nat × Nat × Nat := (⟨"FoldPressModel", "join", "(II)I"⟩, prog_12_method_28_code, 8, (some .int), 10, 3, 1, 0)
def am_m224 : MethodName × ByteArray × Nat × Option FieldType × Nat × Nat × Nat × Nat := (⟨"FoldPressModel", "isFold", "(I)Z"⟩, prog_12_method_29_code, 2, (some .boolean), 10, 2, 2, 0)
def am_m225 : MethodName × ByteArray × Nat × Option FieldType × Nat × Nat × Nat × Nat := (⟨"FoldPressModel", "addFold", "(IIIII)I"⟩, prog_12_method_30_code, 7, (some .int), 10, 6, 1, 0)
def am_m226 : MethodName × ByteArray × Nat × Option FieldType × Nat × Nat × Nat × Nat := (⟨"FoldPressModel", "fold", "(II)I"⟩, prog_12_method_31_code, 3, (some .int), 10, 3, 1, 0)
def am_m227 : MethodName × ByteArray × Nat × Option FieldType × Nat × Nat × Nat × Nat := (⟨"FoldPressModel", "cross", "(II)I"⟩, prog_12_method_32_code, 4, (some .int), 10, 3, 1, 0)
def am_m228 : MethodName × ByteArray × Nat × Option FieldType × Nat × Nat × Nat × Nat := (⟨"FoldPressModel", "lips", "(I)I"⟩, prog_12_method_33_code, 2, (some .int), 10, 2, 1, 0)
def am_m229 : MethodName × ByteArray × Nat × Option FieldType × Nat × Nat × Nat × Nat := (⟨"FoldPressModel", "inner", "(II)I"⟩, prog_12_method_34_code, 3, (some .int), 10, 3, 1, 0)
def am_m230 : MethodName × ByteArray × Nat × Option FieldType × Nat × Nat × Nat × Nat := (⟨"FoldPressModel", "await", "(I)V"⟩, prog_12_method_35_code, 2, none, 10, 2, 0, 0)
def am_m231 : MethodName × ByteArray × Nat × Option FieldType × Nat × Nat × Nat × Nat := (⟨"FoldPressModel", "worthOf", "(II)I"⟩, prog_12_method_36_code, 6, (some .int), 10, 3, 1, 0)
def am_m232 : MethodName × ByteArray × Nat × Option FieldType × Nat × Nat × Nat × Nat := (⟨"FoldPressModel", "worth", "(II)I"⟩, prog_12_method_37_code, 3, (some .int), 10, 3, 1, 0)
def am_m233 : MethodName × ByteArray × Nat × Option FieldType × Nat × Nat × Nat × Nat := (⟨"FoldPressModel", "trace0", "(I)V"⟩, prog_12_method_38_code, 2, none, 10, 2, 0, 0)
def am_m234 : MethodName × ByteArray × Nat × Option FieldType × Nat × Nat × Nat × Nat := (⟨"FoldPressModel", "beginGrid", "(II)V"⟩, prog_12_method_39_code, 5, none, 10, 3, 0, 0)
def am_m235 : MethodName × ByteArray × Nat × Option FieldType × Nat × Nat × Nat × Nat := (⟨"FoldPressModel", "placeOf", "(III)I"⟩, prog_12_method_40_code, 3, (some .int), 10, 3, 1, 1)
def am_m236 : MethodName × ByteArray × Nat × Option FieldType × Nat × Nat × Nat × Nat := (⟨"FoldPressModel", "gets", "(III)V"⟩, prog_12_method_41_code, 6, none, 10, 4, 0, 0)
def am_m237 : MethodName × ByteArray × Nat × Option FieldType × Nat × Nat × Nat × Nat := (⟨"FoldPressModel", "stays", "(III)V"⟩, prog_12_method_42_code, 10, none, 10, 4, 0, 0)
def am_m238 : MethodName × ByteArray × Nat × Option FieldType × Nat × Nat × Nat × Nat := (⟨"FoldPressModel", "bends", "(II)Z"⟩, prog_12_method_43_code, 9, (some .boolean), 10, 3, 2, 0)
def am_m239 : MethodName × ByteArray × Nat × Option FieldType × Nat × Nat × Nat × Nat := (⟨"FoldPressModel", "folds", "(I)Z"⟩, prog_12_method_44_code, 4, (some .boolean), 10, 2, 2, 0)
def am_m240 : MethodName × ByteArray × Nat × Option FieldType × Nat × Nat × Nat × Nat := (⟨"FoldPressModel", "foldGrid", "(III)I"⟩, prog_12_method_45_code, 5, (some .int), 10, 4, 1, 0)
def am_m241 : MethodName × ByteArray × Nat × Option FieldType × Nat × Nat × Nat × Nat := (⟨"FoldPressModel", "faceOf", "(I)I"⟩, prog_12_method_46_code, 3, (some .int), 10, 2, 1, 0)
def am_m242 : MethodName × ByteArray × Nat × Option FieldType × Nat × Nat × Nat × Nat := (⟨"FoldPressModel", "sideOf", "(I)I"⟩, prog_12_method_47_code, 1, (some .int), 10, 1, 1, 1)
def am_m243 : MethodName × ByteArray × Nat × Option FieldType × Nat × Nat × Nat × Nat := (⟨"FoldPressModel", "rowOf", "(I)I"⟩, prog_12_method_48_code, 1, (some .int), 10, 1, 1, 1)
def am_m244 : MethodName × ByteArray × Nat × Option FieldType × Nat × Nat × Nat × Nat := (⟨"FoldPressModel", "columnOf", "(I)I"⟩, prog_12_method_49_code, 1, (some .int), 10, 1, 1, 1)
def am_m245 : MethodName × ByteArray × Nat × Option FieldType × Nat × Nat × Nat × Nat := (⟨"FoldPressModel", "upOf", "(I)I"⟩, prog_12_method_50_code, 1, (some .int), 10, 1, 1, 1)
def am_m246 : MethodName × ByteArray × Nat × Option FieldType × Nat × Nat × Nat × Nat := (⟨"FoldPressModel", "wrongGrid", "(II)I"⟩, prog_12_method_51_code, 2, (some .int), 10, 2, 1, 1)
def am_m247 : MethodName × ByteArray × Nat × Option FieldType × Nat × Nat × Nat × Nat := (⟨"FoldPressModel", "face", "(IIIII)I"⟩, prog_12_method_52_code, 8, (some .int), 10, 6, 1, 0)
def am_m248 : MethodName × ByteArray × Nat × Option FieldType × Nat × Nat × Nat × Nat := (⟨"FoldPressModel", "faces", "(III)I"⟩, prog_12_method_53_code, 5, (some .int), 10, 4, 1, 0)
def am_m249 : MethodName × ByteArray × Nat × Option FieldType × Nat × Nat × Nat × Nat := (⟨"FoldPressModel", "isSheet", "(I)Z"⟩, prog_12_method_54_code, 2, (some .boolean), 10, 2, 2, 0)
def am_m250 : MethodName × ByteArray × Nat × Option FieldType × Nat × Nat × Nat × Nat := (⟨"FoldPressModel", "rowAt", "(III)I"⟩, prog_12_method_55_code, 3, (some .int), 10, 3, 1, 1)
def am_m251 : MethodName × ByteArray × Nat × Option FieldType × Nat × Nat × Nat × Nat := (⟨"FoldPressModel", "cellAt", "(IIII)I"⟩, prog_12_method_56_code, 4, (some .int), 10, 4, 1, 1)
def am_m252 : MethodName × ByteArray × Nat × Option FieldType × Nat × Nat × Nat × Nat := (⟨"FoldPressModel", "sheet", "(III)I"⟩, prog_12_method_57_code, 7, (some .int), 10, 4, 1, 0)
def am_m253 : MethodName × ByteArray × Nat × Option FieldType × Nat × Nat × Nat × Nat := (⟨"FoldPressModel", "tear", "(III)I"⟩, prog_12_method_58_code, 4, (some .int), 10, 4, 1, 0)
def am_m254 : MethodName × ByteArray × Nat × Option FieldType × Nat × Nat × Nat × Nat := (⟨"FoldPressModel", "lacksCell", "(IIII)I"⟩, prog_12_method_59_code, 5, (some .int), 10, 5, 1, 0)
def am_m255 : MethodName × ByteArray × Nat × Option FieldType × Nat × Nat × Nat × Nat := (⟨"FoldPressModel", "put", "(IIIIII)I"⟩, prog_12_method_60_code, 8, (some .int), 10, 7, 1, 0)
def am_m256 : MethodName × ByteArray × Nat × Option FieldType × Nat × Nat × Nat × Nat := (⟨"FoldPressModel", "cell", "(IIIII)I"⟩, prog_12_method_61_code, 8, (some .int), 10, 6, 1, 0)
def am_m257 : MethodName × ByteArray × Nat × Option FieldType × Nat × Nat × Nat × Nat := (⟨"FoldPressModel", "cellsAt", "(III)I"⟩, prog_12_method_62_code, 4, (some .int), 10, 4, 1, 0)
def am_m258 : MethodName × ByteArray × Nat × Option FieldType × Nat × Nat × Nat × Nat := (⟨"FoldPressModel", "shift", "(IIIIIIII)I"⟩, prog_12_method_63_code, 15, (some .int), 10, 9, 1, 0)
def am_m259 : MethodName × ByteArray × Nat × Option FieldType × Nat × Nat × Nat × Nat := (⟨"FoldPressModel", "list", "(III)V"⟩, prog_12_method_64_code, 4, none, 10, 4, 0, 0)
def am_m260 : MethodName × ByteArray × Nat × Option FieldType × Nat × Nat × Nat × Nat := (⟨"FoldPressModel", "listSheetFaces", "(II)I"⟩, prog_12_method_65_code, 5, (some .int), 10, 3, 1, 0)
def am_m261 : MethodName × ByteArray × Nat × Option FieldType × Nat × Nat × Nat × Nat := (⟨"FoldPressModel", "listSignature", "(II)I"⟩, prog_12_method_66_code, 7, (some .int), 10, 3, 1, 0)
def am_m262 : MethodName × ByteArray × Nat × Option FieldType × Nat × Nat × Nat × Nat := (⟨"FoldPressModel", "layList", "(I)I"⟩, prog_12_method_67_code, 7, (some .int), 10, 2, 1, 0)
def am_m263 : MethodName × ByteArray × Nat × Option FieldType × Nat × Nat × Nat × Nat := (⟨"FoldPressModel", "readList", "(I)I"⟩, prog_12_method_68_code, 4, (some .int), 10, 2, 1, 0)
def am_m264 : MethodName × ByteArray × Nat × Option FieldType × Nat × Nat × Nat × Nat := (⟨"FoldPressModel", "lay", "(III)I"⟩, prog_12_method_69_code, 5, (some .int), 10, 4, 1, 0)
def am_m265 : MethodName × ByteArray × Nat × Option FieldType × Nat × Nat × Nat × Nat := (⟨"FoldPressModel", "read", "(III)I"⟩, prog_12_method_70_code, 5, (some .int), 10, 4, 1, 0)
def am_m266 : MethodName × ByteArray × Nat × Option FieldType × Nat × Nat × Nat × Nat := (⟨"FoldPressModel", "look", "(IIII)I"⟩, prog_12_method_71_code, 11, (some .int), 10, 5, 1, 0)
def am_m267 : MethodName × ByteArray × Nat × Option FieldType × Nat × Nat × Nat × Nat := (⟨"FoldPressModel", "seen", "(IIIIII)I"⟩, prog_12_method_72_code, 8, (some .int), 10, 7, 1, 0)
def am_m268 : MethodName × ByteArray × Nat × Option FieldType × Nat × Nat × Nat × Nat := (⟨"FoldPressModel", "isSignature", "(I)Z"⟩, prog_12_method_73_code, 2, (some .boolean), 10, 2, 2, 0)
def am_m269 : MethodName × ByteArray × Nat × Option FieldType × Nat × Nat × Nat × Nat := (⟨"FoldPressModel", "signature", "(I)I"⟩, prog_12_method_74_code, 3, (some .int), 10, 2, 1, 0)
def am_m270 : MethodName × ByteArray × Nat × Option FieldType × Nat × Nat × Nat × Nat := (⟨"FoldPressModel", "gather", "(II)I"⟩, prog_12_method_75_code, 3, (some .int), 10, 3, 1, 0)
def am_m271 : MethodName × ByteArray × Nat × Option FieldType × Nat × Nat × Nat × Nat := (⟨"FoldPressModel", "bind", "(III)I"⟩, prog_12_method_76_code, 5, (some .int), 10, 4, 1, 0)
def am_m272 : MethodName × ByteArray × Nat × Option FieldType × Nat × Nat × Nat × Nat := (⟨"FoldPressModel", "leaf", "(IIII)I"⟩, prog_12_method_77_code, 6, (some .int), 10, 5, 1, 0)
def am_m273 : MethodName × ByteArray × Nat × Option FieldType × Nat × Nat × Nat × Nat := (⟨"FoldPressModel", "creep", "(III)I"⟩, prog_12_method_78_code, 4, (some .int), 10, 4, 1, 0)
def am_m274 : MethodName × ByteArray × Nat × Option FieldType × Nat × Nat × Nat × Nat := (⟨"FoldPressModel", "add", "(I)I"⟩, prog_12_method_79_code, 2, (some .int), 10, 2, 1, 0)
def am_m275 : MethodName × ByteArray × Nat × Option FieldType × Nat × Nat × Nat × Nat := (⟨"FoldPressModel", "cover", "(I)I"⟩, prog_12_method_80_code, 2, (some .int), 10, 2, 1, 0)
def am_m276 : MethodName × ByteArray × Nat × Option FieldType × Nat × Nat × Nat × Nat := (⟨"FoldPressModel", "pageAt", "(II)I"⟩, prog_12_method_81_code, 5, (some .int), 10, 3, 1, 0)
def am_m277 : MethodName × ByteArray × Nat × Option FieldType × Nat × Nat × Nat × Nat := (⟨"FoldPressModel", "wrap", "(II)I"⟩, prog_12_method_82_code, 4, (some .int), 10, 3, 1, 0)
def am_m278 : MethodName × ByteArray × Nat × Option FieldType × Nat × Nat × Nat × Nat := (⟨"FoldPressModel", "foldBy", "(II)I"⟩, prog_12_method_83_code, 3, (some .int), 10, 3, 1, 0)
def am_m279 : MethodName × ByteArray × Nat × Option FieldType × Nat × Nat × Nat × Nat := (⟨"FoldPressModel", "margin", "(I)I"⟩, prog_12_method_84_code, 3, (some .int), 10, 2, 1, 0)
def am_m280 : MethodName × ByteArray × Nat × Option FieldType × Nat × Nat × Nat × Nat := (⟨"FoldPressModel", "sheetThere", "(I)I"⟩, prog_12_method_85_code, 3, (some .int), 10, 2, 1, 0)
def am_m281 : MethodName × ByteArray × Nat × Option FieldType × Nat × Nat × Nat × Nat := (⟨"FoldPressModel", "feed", "(I)I"⟩, prog_12_method_86_code, 2, (some .int), 10, 2, 1, 0)
def am_m282 : MethodName × ByteArray × Nat × Option FieldType × Nat × Nat × Nat × Nat := (⟨"FoldPressModel", "doubled", "()I"⟩, prog_12_method_87_code, 1, (some .int), 10, 1, 1, 0)
def am_m283 : MethodName × ByteArray × Nat × Option FieldType × Nat × Nat × Nat × Nat := (⟨"FoldPressModel", "jam", "(I)I"⟩, prog_12_method_88_code, 2, (some .int), 10, 2, 1, 0)
def am_m284 : MethodName × ByteArray × Nat × Option FieldType × Nat × Nat × Nat × Nat := (⟨"FoldPressModel", "prints", "(II)I"⟩, prog_12_method_89_code, 7, (some .int), 10, 3, 1, 0)
def am_m285 : MethodName × ByteArray × Nat × Option FieldType × Nat × Nat × Nat × Nat := (⟨"FoldPressModel", "work", "(II)I"⟩, prog_12_method_90_code, 4, (some .int), 10, 3, 1, 0)
def am_m286 : MethodName × ByteArray × Nat × Option FieldType × Nat × Nat × Nat × Nat := (⟨"FoldPressModel", "spoils", "(II)V"⟩, prog_12_method_91_code, 4, none, 10, 3, 0, 0)
def am_m287 : MethodName × ByteArray × Nat × Option FieldType × Nat × Nat × Nat × Nat := (⟨"FoldPressModel", "step", "()I"⟩, prog_12_method_92_code, 5, (some .int), 10, 1, 1, 0)
def am_m288 : MethodName × ByteArray × Nat × Option FieldType × Nat × Nat × Nat × Nat := (⟨"FoldPressModel", "reprint", "(I)I"⟩, prog_12_method_93_code, 2, (some .int), 10, 2, 1, 0)
def am_m289 : MethodName × ByteArray × Nat × Option FieldType × Nat × Nat × Nat × Nat := (⟨"FoldPressModel", "clear", "()I"⟩, prog_12_method_94_code, 2, (some .int), 10, 1, 1, 0)
def am_m290 : MethodName × ByteArray × Nat × Option FieldType × Nat × Nat × Nat × Nat := (⟨"FoldPressModel", "state", "(II)I"⟩, prog_12_method_95_code, 3, (some .int), 10, 3, 1, 0)
def am_m291 : MethodName × ByteArray × Nat × Option FieldType × Nat × Nat × Nat × Nat := (⟨"FoldPressModel", "good", "(I)I"⟩, prog_12_method_96_code, 3, (some .int), 10, 2, 1, 0)
def am_m292 : MethodName × ByteArray × Nat × Option FieldType × Nat × Nat × Nat × Nat := (⟨"FoldPressModel", "told", "(I)I"⟩, prog_12_method_97_code, 2, (some .int), 10, 2, 1, 0)
def am_m293 : MethodName × ByteArray × Nat × Option FieldType × Nat × Nat × Nat × Nat := (⟨"FoldPressModel", "trace", "(I)I"⟩, prog_12_method_98_code, 2, (some .int), 10, 2, 1, 0)
def am_m294 : MethodName × ByteArray × Nat × Option FieldType × Nat × Nat × Nat × Nat := (⟨"FoldPressModel", "about", "(II)I"⟩, prog_12_method_99_code, 3, (some .int), 10, 3, 1, 0)
def am_m295 : MethodName × ByteArray × Nat × Option FieldType × Nat × Nat × Nat × Nat := (⟨"java/lang/Math", "floorMod", "(II)I"⟩, prog_13_method_50_code, 3, (some .int), 11, 2, 1, 1)
def am_m296 : MethodName × ByteArray × Nat × Option FieldType × Nat × Nat × Nat × Nat := (⟨"java/lang/Math", "max", "(II)I"⟩, prog_13_method_65_code, 2, (some .int), 11, 2, 1, 1)
def am_m297 : MethodName × ByteArray × Nat × Option FieldType × Nat × Nat × Nat × Nat := (⟨"java/lang/Math", "min", "(II)I"⟩, prog_13_method_69_code, 2, (some .int), 11, 2, 1, 1)
def am_m298 : MethodName × ByteArray × Nat × Option FieldType × Nat × Nat × Nat × Nat := (⟨"FoldPressLaw", "law", "([I)Z"⟩, code, 4, (some .boolean), 12, 1, 2, 1)
def am_ms : List (MethodName × ByteArray × Nat × Option FieldType × Nat × Nat × Nat × Nat) := [am_m0, am_m1, am_m2, am_m3, am_m4, am_m5, am_m6, am_m7, am_m8, am_m9, am_m10, am_m11, am_m12, am_m13, am_m14, am_m15, am_m16, am_m17, am_m18, am_m19, am_m20, am_m21, am_m22, am_m23, am_m24, am_m25, am_m26, am_m27, am_m28, am_m29, am_m30, am_m31, am_m32, am_m33, am_m34, am_m35, am_m36, am_m37, am_m38, am_m39, am_m40, am_m41, am_m42, am_m43, am_m44, am_m45, am_m46, am_m47, am_m48, am_m49, am_m50, am_m51, am_m52, am_m53, am_m54, am_m55, am_m56, am_m57, am_m58, am_m59, am_m60, am_m61, am_m62, am_m63, am_m64, am_m65, am_m66, am_m67, am_m68, am_m69, am_m70, am_m71, am_m72, am_m73, am_m74, am_m75, am_m76, am_m77, am_m78, am_m79, am_m80, am_m81, am_m82, am_m83, am_m84, am_m85, am_m86, am_m87, am_m88, am_m89, am_m90, am_m91, am_m92, am_m93, am_m94, am_m95, am_m96, am_m97, am_m98, am_m99, am_m100, am_m101, am_m102, am_m103, am_m104, am_m105, am_m106, am_m107, am_m108, am_m109, am_m110, am_m111, am_m112, am_m113, am_m114, am_m115, am_m116, am_m117, am_m118, am_m119, am_m120, am_m121, am_m122, am_m123, am_m124, am_m125, am_m126, am_m127, am_m128, am_m129, am_m130, am_m131, am_m132, am_m133, am_m134, am_m135, am_m136, am_m137, am_m138, am_m139, am_m140, am_m141, am_m142, am_m143, am_m144, am_m145, am_m146, am_m147, am_m148, am_m149, am_m150, am_m151, am_m152, am_m153, am_m154, am_m155, am_m156, am_m157, am_m158, am_m159, am_m160, am_m161, am_m162, am_m163, am_m164, am_m165, am_m166, am_m167, am_m168, am_m169, am_m170, am_m171, am_m172, am_m173, am_m174, am_m175, am_m176, am_m177, am_m178, am_m179, am_m180, am_m181, am_m182, am_m183, am_m184, am_m185, am_m186, am_m187, am_m188, am_m189, am_m190, am_m191, am_m192, am_m193, am_m194, am_m195, am_m196, am_m197, am_m198, am_m199, am_m200, am_m201, am_m202, am_m203, am_m204, am_m205, am_m206, am_m207, am_m208, am_m209, am_m210, am_m211, am_m212, am_m213, am_m214, am_m215, am_m216, am_m217, am_m218, am_m219, am_m220, am_m221, am_m222, am_m223, am_m224, am_m225, am_m226, am_m227, am_m228, am_m229, am_m230, am_m231, am_m232, am_m233, am_m234, am_m235, am_m236, am_m237, am_m238, am_m239, am_m240, am_m241, am_m242, am_m243, am_m244, am_m245, am_m246, am_m247, am_m248, am_m249, am_m250, am_m251, am_m252, am_m253, am_m254, am_m255, am_m256, am_m257, am_m258, am_m259, am_m260, am_m261, am_m262, am_m263, am_m264, am_m265, am_m266, am_m267, am_m268, am_m269, am_m270, am_m271, am_m272, am_m273, am_m274, am_m275, am_m276, am_m277, am_m278, am_m279, am_m280, am_m281, am_m282, am_m283, am_m284, am_m285, am_m286, am_m287, am_m288, am_m289, am_m290, am_m291, am_m292, am_m293, am_m294, am_m295, am_m296, am_m297, am_m298]
def am_m (M : Nat) : MethodName × ByteArray × Nat × Option FieldType × Nat × Nat × Nat × Nat := am_ms.getD M (⟨"", "", ""⟩, ⟨#[]⟩, 0, none, 0, 0, 0, 0)
def am_y (M : Nat) : MethodName := (am_m M).1
def am_b (M : Nat) : ByteArray := (am_m M).2.1
def am_L (M : Nat) : Nat := (am_m M).2.2.1
def am_r (M : Nat) : Option FieldType := (am_m M).2.2.2.1
def am_o (M : Nat) : Nat := (am_m M).2.2.2.2.1
def am_na (M : Nat) : Nat := (am_m M).2.2.2.2.2.1
def am_kd (M : Nat) : Nat := (am_m M).2.2.2.2.2.2.1
def am_ct (M : Nat) : Nat := (am_m M).2.2.2.2.2.2.2
def am_Mis : List (Nat × Nat × Nat) := [(4, 0, 0), (1, 0, 1), (2, 0, 2), (3, 0, 1), (2, 0, 1), (2, 0, 2), (4, 0, 1), (3, 0, 1), (7, 0, 1), (9, 0, 1), (8, 0, 1), (2, 0, 2), (1, 0, 1), (3, 0, 1), (6, 0, 1), (4, 0, 1), (2, 0, 1), (1, 0, 1), (4, 0, 1), (3, 1, 0), (1, 1, 1), (2, 1, 2), (2, 1, 1), (2, 1, 1), (2, 1, 1), (2, 1, 1), (3, 1, 1), (4, 1, 1), (4, 1, 1), (6, 1, 1), (5, 1, 1), (6, 1, 1), (3, 2, 0), (1, 2, 1), (2, 2, 2), (3, 2, 2), (2, 2, 1), (2, 2, 1), (2, 2, 1), (3, 2, 1), (4, 2, 1), (3, 2, 1), (2, 2, 1), (4, 2, 1), (6, 2, 1), (4, 2, 1), (6, 2, 1), (5, 2, 1), (3, 2, 1), (5, 2, 1), (4, 2, 1), (4, 2, 1), (9, 2, 2), (5, 2, 1), (6, 2, 0), (6, 2, 1), (7, 2, 0), (1, 3, 0), (1, 3, 0), (4, 3, 0), (3, 3, 2), (3, 4, 0), (2, 4, 1), (3, 4, 0), (3, 4, 0), (2, 5, 0), (1, 5, 1), (1, 5, 1), (1, 5, 1), (1, 5, 1), (4, 5, 0), (1, 5, 2), (4, 5, 1), (4, 5, 1), (4, 5, 1), (4, 5, 1), (5, 5, 1), (12, 5, 0), (4, 5, 1), (5, 5, 1), (5, 6, 0), (1, 6, 2), (2, 6, 1), (1, 6, 1), (3, 6, 1), (1, 6, 1), (2, 6, 1), (4, 6, 1), (2, 6, 1), (4, 6, 1), (2, 6, 1), (7, 6, 1), (3, 6, 1), (4, 7, 0), (1, 7, 1), (2, 7, 2), (5, 7, 1), (2, 7, 1), (2, 7, 1), (2, 7, 1), (3, 7, 1), (3, 7, 2), (4, 7, 2), (4, 7, 1), (5, 7, 1), (4, 7, 1), (2, 7, 1), (2, 7, 1), (5, 7, 1), (5, 7, 0), (7, 7, 1), (6, 7, 1), (4, 7, 1), (5, 7, 1), (4, 7, 1), (8, 7, 1), (2, 7, 2), (2, 7, 0), (3, 7, 1), (2, 7, 1), (2, 7, 1), (2, 7, 1), (2, 7, 1), (3, 7, 1), (3, 7, 1), (2, 7, 0), (3, 7, 0), (2, 7, 1), (1, 8, 0), (2, 8, 1), (1, 8, 1), (2, 8, 0), (2, 8, 1), (2, 8, 1), (1, 8, 0), (2, 8, 0), (1, 8, 1), (1, 8, 0), (1, 8, 0), (1, 8, 1), (1, 9, 0), (3, 9, 1), (2, 9, 1), (3, 9, 1), (4, 9, 1), (5, 9, 1), (4, 9, 1), (6, 9, 1), (5, 9, 1), (5, 9, 1), (9, 9, 1), (1, 9, 1), (4, 9, 1), (3, 9, 1), (3, 9, 1), (3, 9, 1), (2, 9, 1), (3, 9, 1), (3, 9, 1), (7, 9, 1), (4, 9, 1), (5, 9, 1), (2, 9, 1), (5, 9, 1), (4, 9, 1), (8, 9, 1), (7, 9, 1), (12, 9, 1), (4, 9, 1), (4, 9, 1), (8, 9, 1), (2, 9, 1), (3, 9, 1), (4, 9, 1), (7, 9, 1), (4, 9, 1), (2, 9, 1), (2, 9, 1), (3, 9, 1), (4, 9, 1), (3, 9, 1), (2, 9, 1), (2, 9, 1), (1, 9, 1), (2, 9, 1), (3, 9, 1), (2, 9, 1), (1, 9, 1), (3, 9, 1), (2, 9, 1), (1, 9, 1), (2, 9, 1), (2, 9, 1), (3, 9, 1), (3, 9, 2), (1, 9, 2), (1, 10, 0), (3, 10, 2), (4, 10, 0), (4, 10, 0), (2, 10, 0), (1, 10, 0), (1, 10, 2), (2, 10, 1), (1, 10, 1), (2, 10, 2), (3, 10, 2), (2, 10, 1), (4, 10, 1), (2, 10, 1), (3, 10, 1), (6, 10, 1), (3, 10, 1), (6, 10, 1), (8, 10, 1), (6, 10, 1), (8, 10, 1), (7, 10, 1), (7, 10, 1), (3, 10, 1), (12, 10, 1), (1, 10, 1), (8, 10, 1), (8, 10, 1), (2, 10, 2), (7, 10, 1), (3, 10, 1), (4, 10, 1), (2, 10, 1), (3, 10, 1), (2, 10, 0), (6, 10, 1), (3, 10, 1), (2, 10, 0), (5, 10, 0), (3, 10, 1), (6, 10, 0), (10, 10, 0), (9, 10, 2), (4, 10, 2), (5, 10, 1), (3, 10, 1), (1, 10, 1), (1, 10, 1), (1, 10, 1), (1, 10, 1), (2, 10, 1), (8, 10, 1), (5, 10, 1), (2, 10, 2), (3, 10, 1), (4, 10, 1), (7, 10, 1), (4, 10, 1), (5, 10, 1), (8, 10, 1), (8, 10, 1), (4, 10, 1), (15, 10, 1), (4, 10, 0), (5, 10, 1), (7, 10, 1), (7, 10, 1), (4, 10, 1), (5, 10, 1), (5, 10, 1), (11, 10, 1), (8, 10, 1), (2, 10, 2), (3, 10, 1), (3, 10, 1), (5, 10, 1), (6, 10, 1), (4, 10, 1), (2, 10, 1), (2, 10, 1), (5, 10, 1), (4, 10, 1), (3, 10, 1), (3, 10, 1), (3, 10, 1), (2, 10, 1), (1, 10, 1), (2, 10, 1), (7, 10, 1), (4, 10, 1), (4, 10, 0), (5, 10, 1), (2, 10, 1), (2, 10, 1), (3, 10, 1), (3, 10, 1), (2, 10, 1), (2, 10, 1), (3, 10, 1), (3, 11, 1), (2, 11, 1), (2, 11, 1), (4, 12, 2)]
def am_Mi (M : Nat) : Nat × Nat × Nat := am_Mis.getD M (0, 0, 0)
end
section
/-! printed by wip/gen/tables.py: code -/
def am_c0_0 : AmCd := (0, .aload_n 0, 0, 0, 0) :: (1, .invokespecial 3, 0, 0, 4) :: (4, .aload_n 0, 0, 0, 0) :: (5, .aload_n 2, 0, 0, 0) :: (6, .putfield 9, 0, 0, 1) :: (9, .aload_n 0, 0, 0, 0) :: (10, .aload_n 3, 0, 0, 0) :: (11, .putfield 15, 0, 1, 1) :: (14, .aload_n 0, 0, 0, 0) :: (15, .new 19, 4, 0, 0) :: (18, .dup, 0, 0, 0) :: (19, .aload_n 1, 0, 0, 0) :: (20, .iconst 1, 0, 0, 0) :: (21, .invokespecial 21, 61, 3, 2) :: (24, .putfield 24, 0, 2, 1) :: (27, .aload_n 0, 0, 0, 0) :: (28, .new 19, 4, 0, 0) :: (31, .dup, 0, 0, 0) :: (32, .aload_n 1, 0, 0, 0) :: (33, .iconst 4, 0, 0, 0) :: (34, .invokespecial 21, 61, 3, 2) :: (37, .putfield 28, 0, 3, 1) :: (40, .aload_n 0, 0, 0, 0) :: (41, .new 19, 4, 0, 0) :: (44, .dup, 0, 0, 0) :: (45, .aload_n 1, 0, 0, 0) :: (46, .iconst 4, 0, 0, 0) :: (47, .invokespecial 21, 61, 3, 2) :: (50, .putfield 31, 0, 4, 1) :: (53, .aload_n 0, 0, 0, 0) :: (54, .new 19, 4, 0, 0) :: (57, .dup, 0, 0, 0) :: (58, .aload_n 1, 0, 0, 0) :: (59, .bipush 16, 0, 0, 0) :: (61, .invokespecial 21, 61, 3, 2) :: (64, .putfield 34, 0, 5, 1) :: (67, .aload_n 0, 0, 0, 0) :: (68, .new 19, 4, 0, 0) :: (71, .dup, 0, 0, 0) :: (72, .aload_n 1, 0, 0, 0) :: (73, .iconst 4, 0, 0, 0) :: (74, .invokespecial 21, 61, 3, 2) :: (77, .putfield 37, 0, 6, 1) :: (80, .aload_n 0, 0, 0, 0) :: (81, .new 19, 4, 0, 0) :: (84, .dup, 0, 0, 0) :: (85, .aload_n 1, 0, 0, 0) :: (86, .iconst 1, 0, 0, 0) :: (87, .invokespecial 21, 61, 3, 2) :: (90, .putfield 40, 0, 7, 1) :: (93, .aload_n 0, 0, 0, 0) :: (94, .new 19, 4, 0, 0) :: (97, .dup, 0, 0, 0) :: (98, .aload_n 1, 0, 0, 0) :: (99, .iconst 4, 0, 0, 0) :: (100, .invokespecial 21, 61, 3, 2) :: (103, .putfield 43, 0, 8, 1) :: (106, .aload_n 0, 0, 0, 0) :: (107, .new 19, 4, 0, 0) :: (110, .dup, 0, 0, 0) :: (111, .aload_n 1, 0, 0, 0) :: (112, .iconst 1, 0, 0, 0) :: (113, .invokespecial 21, 61, 3, 2) :: (116, .putfield 46, 0, 9, 1) :: (119, .aload_n 0, 0, 0, 0) :: (120, .getfield 46, 0, 9, 1) :: (123, .iconst 0, 0, 0, 0) :: (124, .iconst (-1), 0, 0, 0) :: (125, .invokevirtual 49, 64, 3, 0) :: (128, .return_, 0, 0, 0) :: []
def am_c1_0 : AmCd := (0, .aload_n 0, 0, 0, 0) :: (1, .getfield 24, 0, 2, 1) :: (4, .iconst 0, 0, 0, 0) :: (5, .invokevirtual 53, 62, 2, 0) :: (8, .ireturn, 0, 0, 0) :: []
def am_c2_21 : AmCd := (21, .ireturn, 0, 0, 0) :: []
def am_c2_20 : AmCd := (20, .iconst 0, 0, 0, 0) :: am_c2_21
def am_c2_0 : AmCd := (0, .iload_n 1, 0, 0, 0) :: (1, .ifCond .lt 19, 0, 0, 0) :: (4, .iload_n 1, 0, 0, 0) :: (5, .aload_n 0, 0, 0, 0) :: (6, .getfield 24, 0, 2, 1) :: (9, .iconst 0, 0, 0, 0) :: (10, .invokevirtual 53, 62, 2, 0) :: (13, .if_icmp .ge 7, 0, 0, 0) :: (16, .iconst 1, 0, 0, 0) :: (17, .goto 4, 0, 0, 0) :: am_c2_20
def am_c3_0 : AmCd := (0, .aload_n 0, 0, 0, 0) :: (1, .getfield 24, 0, 2, 1) :: (4, .iconst 0, 0, 0, 0) :: (5, .invokevirtual 53, 62, 2, 0) :: (8, .istore_n 2, 0, 0, 0) :: (9, .aload_n 0, 0, 0, 0) :: (10, .getfield 28, 0, 3, 1) :: (13, .iload_n 2, 0, 0, 0) :: (14, .iload_n 1, 0, 0, 0) :: (15, .invokevirtual 57, 63, 3, 0) :: (18, .aload_n 0, 0, 0, 0) :: (19, .getfield 24, 0, 2, 1) :: (22, .iconst 0, 0, 0, 0) :: (23, .iload_n 2, 0, 0, 0) :: (24, .iconst 1, 0, 0, 0) :: (25, .iadd, 0, 0, 0) :: (26, .invokevirtual 57, 63, 3, 0) :: (29, .iload_n 2, 0, 0, 0) :: (30, .ireturn, 0, 0, 0) :: []
def am_c4_0 : AmCd := (0, .aload_n 0, 0, 0, 0) :: (1, .getfield 31, 0, 4, 1) :: (4, .iload_n 1, 0, 0, 0) :: (5, .invokevirtual 53, 62, 2, 0) :: (8, .ireturn, 0, 0, 0) :: []
def am_c5_17 : AmCd := (17, .ireturn, 0, 0, 0) :: []
def am_c5_16 : AmCd := (16, .iconst 0, 0, 0, 0) :: am_c5_17
def am_c5_0 : AmCd := (0, .aload_n 0, 0, 0, 0) :: (1, .getfield 28, 0, 3, 1) :: (4, .iload_n 1, 0, 0, 0) :: (5, .invokevirtual 53, 62, 2, 0) :: (8, .iconst 1, 0, 0, 0) :: (9, .if_icmp .ne 7, 0, 0, 0) :: (12, .iconst 1, 0, 0, 0) :: (13, .goto 4, 0, 0, 0) :: am_c5_16
def am_c6_0 : AmCd := (0, .aload_n 0, 0, 0, 0) :: (1, .getfield 31, 0, 4, 1) :: (4, .iload_n 1, 0, 0, 0) :: (5, .invokevirtual 53, 62, 2, 0) :: (8, .istore_n 3, 0, 0, 0) :: (9, .aload_n 0, 0, 0, 0) :: (10, .getfield 34, 0, 5, 1) :: (13, .iload_n 1, 0, 0, 0) :: (14, .iconst 4, 0, 0, 0) :: (15, .imul, 0, 0, 0) :: (16, .iload_n 3, 0, 0, 0) :: (17, .iadd, 0, 0, 0) :: (18, .iload_n 2, 0, 0, 0) :: (19, .invokevirtual 57, 63, 3, 0) :: (22, .aload_n 0, 0, 0, 0) :: (23, .getfield 31, 0, 4, 1) :: (26, .iload_n 1, 0, 0, 0) :: (27, .iload_n 3, 0, 0, 0) :: (28, .iconst 1, 0, 0, 0) :: (29, .iadd, 0, 0, 0) :: (30, .invokevirtual 57, 63, 3, 0) :: (33, .aload_n 0, 0, 0, 0) :: (34, .getfield 15, 0, 1, 1) :: (37, .iload_n 2, 0, 0, 0) :: (38, .invokevirtual 60, 117, 2, 0) :: (41, .iload_n 3, 0, 0, 0) :: (42, .iconst 1, 0, 0, 0) :: (43, .iadd, 0, 0, 0) :: (44, .ireturn, 0, 0, 0) :: []
def am_c7_0 : AmCd := (0, .aload_n 0, 0, 0, 0) :: (1, .getfield 34, 0, 5, 1) :: (4, .iload_n 1, 0, 0, 0) :: (5, .iconst 4, 0, 0, 0) :: (6, .imul, 0, 0, 0) :: (7, .iload_n 2, 0, 0, 0) :: (8, .iadd, 0, 0, 0) :: (9, .invokevirtual 53, 62, 2, 0) :: (12, .ireturn, 0, 0, 0) :: []
def am_c8_76 : AmCd := (76, .iload_n 3, 0, 0, 0) :: (77, .ireturn, 0, 0, 0) :: []
def am_c8_65 : AmCd := (65, .iload_n 3, 0, 0, 0) :: (66, .iload 6, 0, 0, 0) :: (68, .iadd, 0, 0, 0) :: (69, .istore_n 3, 0, 0, 0) :: (70, .iinc 4 1, 0, 0, 0) :: (73, .goto (-68), 0, 0, 0) :: am_c8_76
def am_c8_5 : AmCd := (5, .iload 4, 0, 0, 0) :: (7, .aload_n 0, 0, 0, 0) :: (8, .getfield 31, 0, 4, 1) :: (11, .iload_n 1, 0, 0, 0) :: (12, .invokevirtual 53, 62, 2, 0) :: (15, .if_icmp .ge 61, 0, 0, 0) :: (18, .aload_n 0, 0, 0, 0) :: (19, .iload_n 1, 0, 0, 0) :: (20, .iload 4, 0, 0, 0) :: (22, .invokevirtual 66, 7, 3, 0) :: (25, .istore 5, 0, 0, 0) :: (27, .aload_n 0, 0, 0, 0) :: (28, .getfield 9, 0, 0, 1) :: (31, .iload_n 2, 0, 0, 0) :: (32, .aload_n 0, 0, 0, 0) :: (33, .getfield 15, 0, 1, 1) :: (36, .iload 5, 0, 0, 0) :: (38, .invokevirtual 70, 97, 2, 0) :: (41, .aload_n 0, 0, 0, 0) :: (42, .getfield 15, 0, 1, 1) :: (45, .iload 5, 0, 0, 0) :: (47, .invokevirtual 73, 98, 2, 0) :: (50, .iload 5, 0, 0, 0) :: (52, .invokevirtual 76, 29, 5, 0) :: (55, .istore 6, 0, 0, 0) :: (57, .iload 6, 0, 0, 0) :: (59, .ifCond .ge 6, 0, 0, 0) :: (62, .iload 6, 0, 0, 0) :: (64, .ireturn, 0, 0, 0) :: am_c8_65
def am_c8_0 : AmCd := (0, .iconst 0, 0, 0, 0) :: (1, .istore_n 3, 0, 0, 0) :: (2, .iconst 0, 0, 0, 0) :: (3, .istore 4, 0, 0, 0) :: am_c8_5
def am_c9_172 : AmCd := (172, .bipush (-12), 0, 0, 0) :: (174, .ireturn, 0, 0, 0) :: []
def am_c9_159 : AmCd := (159, .iload 5, 0, 0, 0) :: (161, .iload 8, 0, 0, 0) :: (163, .isub, 0, 0, 0) :: (164, .istore 5, 0, 0, 0) :: (166, .iinc 6 (-1), 0, 0, 0) :: (169, .goto (-59), 0, 0, 0) :: am_c9_172
def am_c9_110 : AmCd := (110, .iload_n 3, 0, 0, 0) :: (111, .ifCond .eq 61, 0, 0, 0) :: (114, .iload 6, 0, 0, 0) :: (116, .ifCond .lt 56, 0, 0, 0) :: (119, .aload_n 0, 0, 0, 0) :: (120, .iload_n 1, 0, 0, 0) :: (121, .iload 6, 0, 0, 0) :: (123, .invokevirtual 66, 7, 3, 0) :: (126, .istore 7, 0, 0, 0) :: (128, .aload_n 0, 0, 0, 0) :: (129, .getfield 15, 0, 1, 1) :: (132, .iload 7, 0, 0, 0) :: (134, .invokevirtual 86, 99, 2, 0) :: (137, .istore 8, 0, 0, 0) :: (139, .iload 5, 0, 0, 0) :: (141, .iload 8, 0, 0, 0) :: (143, .if_icmp .ge 16, 0, 0, 0) :: (146, .iload 7, 0, 0, 0) :: (148, .sipush 128, 0, 0, 0) :: (151, .imul, 0, 0, 0) :: (152, .iload 8, 0, 0, 0) :: (154, .iadd, 0, 0, 0) :: (155, .iload 5, 0, 0, 0) :: (157, .iadd, 0, 0, 0) :: (158, .ireturn, 0, 0, 0) :: am_c9_159
def am_c9_104 : AmCd := (104, .iload 4, 0, 0, 0) :: (106, .iconst 1, 0, 0, 0) :: (107, .isub, 0, 0, 0) :: (108, .istore 6, 0, 0, 0) :: am_c9_110
def am_c9_91 : AmCd := (91, .iload 5, 0, 0, 0) :: (93, .iload 8, 0, 0, 0) :: (95, .isub, 0, 0, 0) :: (96, .istore 5, 0, 0, 0) :: (98, .iinc 6 1, 0, 0, 0) :: (101, .goto (-72), 0, 0, 0) :: am_c9_104
def am_c9_72 : AmCd := (72, .istore 8, 0, 0, 0) :: (74, .iload 5, 0, 0, 0) :: (76, .iload 8, 0, 0, 0) :: (78, .if_icmp .ge 13, 0, 0, 0) :: (81, .iload 7, 0, 0, 0) :: (83, .sipush 128, 0, 0, 0) :: (86, .imul, 0, 0, 0) :: (87, .iload 5, 0, 0, 0) :: (89, .iadd, 0, 0, 0) :: (90, .ireturn, 0, 0, 0) :: am_c9_91
def am_c9_61 : AmCd := (61, .iconst 2, 0, 0, 0) :: (62, .aload_n 0, 0, 0, 0) :: (63, .getfield 15, 0, 1, 1) :: (66, .iload 7, 0, 0, 0) :: (68, .invokevirtual 86, 99, 2, 0) :: (71, .imul, 0, 0, 0) :: am_c9_72
def am_c9_29 : AmCd := (29, .iload 6, 0, 0, 0) :: (31, .iload 4, 0, 0, 0) :: (33, .if_icmp .ge 71, 0, 0, 0) :: (36, .aload_n 0, 0, 0, 0) :: (37, .iload_n 1, 0, 0, 0) :: (38, .iload 6, 0, 0, 0) :: (40, .invokevirtual 66, 7, 3, 0) :: (43, .istore 7, 0, 0, 0) :: (45, .iload_n 3, 0, 0, 0) :: (46, .ifCond .eq 15, 0, 0, 0) :: (49, .aload_n 0, 0, 0, 0) :: (50, .getfield 15, 0, 1, 1) :: (53, .iload 7, 0, 0, 0) :: (55, .invokevirtual 86, 99, 2, 0) :: (58, .goto 14, 0, 0, 0) :: am_c9_61
def am_c9_7 : AmCd := (7, .aload_n 0, 0, 0, 0) :: (8, .iload_n 1, 0, 0, 0) :: (9, .invokevirtual 82, 5, 2, 0) :: (12, .istore_n 3, 0, 0, 0) :: (13, .aload_n 0, 0, 0, 0) :: (14, .getfield 31, 0, 4, 1) :: (17, .iload_n 1, 0, 0, 0) :: (18, .invokevirtual 53, 62, 2, 0) :: (21, .istore 4, 0, 0, 0) :: (23, .iload_n 2, 0, 0, 0) :: (24, .istore 5, 0, 0, 0) :: (26, .iconst 0, 0, 0, 0) :: (27, .istore 6, 0, 0, 0) :: am_c9_29
def am_c9_0 : AmCd := (0, .iload_n 2, 0, 0, 0) :: (1, .ifCond .ge 6, 0, 0, 0) :: (4, .bipush (-12), 0, 0, 0) :: (6, .ireturn, 0, 0, 0) :: am_c9_7
def am_c10_76 : AmCd := (76, .iload 4, 0, 0, 0) :: (78, .ireturn, 0, 0, 0) :: []
def am_c10_70 : AmCd := (70, .iinc 5 1, 0, 0, 0) :: (73, .goto (-62), 0, 0, 0) :: am_c10_76
def am_c10_60 : AmCd := (60, .istore 7, 0, 0, 0) :: (62, .iload 7, 0, 0, 0) :: (64, .ifCond .ge 6, 0, 0, 0) :: (67, .iload 7, 0, 0, 0) :: (69, .ireturn, 0, 0, 0) :: am_c10_70
def am_c10_37 : AmCd := (37, .aload_n 0, 0, 0, 0) :: (38, .getfield 15, 0, 1, 1) :: (41, .iload 6, 0, 0, 0) :: (43, .sipush 128, 0, 0, 0) :: (46, .idiv, 0, 0, 0) :: (47, .iload 6, 0, 0, 0) :: (49, .sipush 128, 0, 0, 0) :: (52, .irem, 0, 0, 0) :: (53, .iload_n 3, 0, 0, 0) :: (54, .iload 5, 0, 0, 0) :: (56, .iadd, 0, 0, 0) :: (57, .invokevirtual 95, 111, 4, 0) :: am_c10_60
def am_c10_11 : AmCd := (11, .iload 5, 0, 0, 0) :: (13, .iload 4, 0, 0, 0) :: (15, .if_icmp .ge 61, 0, 0, 0) :: (18, .aload_n 0, 0, 0, 0) :: (19, .iload_n 1, 0, 0, 0) :: (20, .iload 5, 0, 0, 0) :: (22, .invokevirtual 92, 9, 3, 0) :: (25, .istore 6, 0, 0, 0) :: (27, .iload 6, 0, 0, 0) :: (29, .ifCond .ge 8, 0, 0, 0) :: (32, .iload 6, 0, 0, 0) :: (34, .goto 26, 0, 0, 0) :: am_c10_37
def am_c10_0 : AmCd := (0, .aload_n 0, 0, 0, 0) :: (1, .iload_n 1, 0, 0, 0) :: (2, .iload_n 2, 0, 0, 0) :: (3, .invokevirtual 89, 8, 3, 0) :: (6, .istore 4, 0, 0, 0) :: (8, .iconst 0, 0, 0, 0) :: (9, .istore 5, 0, 0, 0) :: am_c10_11
def am_c11_16 : AmCd := (16, .ireturn, 0, 0, 0) :: []
def am_c11_15 : AmCd := (15, .iconst 0, 0, 0, 0) :: am_c11_16
def am_c11_0 : AmCd := (0, .aload_n 0, 0, 0, 0) :: (1, .getfield 37, 0, 6, 1) :: (4, .iload_n 1, 0, 0, 0) :: (5, .invokevirtual 53, 62, 2, 0) :: (8, .ifCond .eq 7, 0, 0, 0) :: (11, .iconst 1, 0, 0, 0) :: (12, .goto 4, 0, 0, 0) :: am_c11_15
def am_c12_0 : AmCd := (0, .aload_n 0, 0, 0, 0) :: (1, .getfield 40, 0, 7, 1) :: (4, .iconst 0, 0, 0, 0) :: (5, .invokevirtual 53, 62, 2, 0) :: (8, .ireturn, 0, 0, 0) :: []
def am_c13_0 : AmCd := (0, .aload_n 0, 0, 0, 0) :: (1, .getfield 40, 0, 7, 1) :: (4, .iconst 0, 0, 0, 0) :: (5, .invokevirtual 53, 62, 2, 0) :: (8, .istore_n 2, 0, 0, 0) :: (9, .aload_n 0, 0, 0, 0) :: (10, .getfield 43, 0, 8, 1) :: (13, .iload_n 2, 0, 0, 0) :: (14, .iload_n 1, 0, 0, 0) :: (15, .invokevirtual 57, 63, 3, 0) :: (18, .aload_n 0, 0, 0, 0) :: (19, .getfield 37, 0, 6, 1) :: (22, .iload_n 1, 0, 0, 0) :: (23, .iconst 1, 0, 0, 0) :: (24, .invokevirtual 57, 63, 3, 0) :: (27, .aload_n 0, 0, 0, 0) :: (28, .getfield 40, 0, 7, 1) :: (31, .iconst 0, 0, 0, 0) :: (32, .iload_n 2, 0, 0, 0) :: (33, .iconst 1, 0, 0, 0) :: (34, .iadd, 0, 0, 0) :: (35, .invokevirtual 57, 63, 3, 0) :: (38, .iload_n 2, 0, 0, 0) :: (39, .iconst 1, 0, 0, 0) :: (40, .iadd, 0, 0, 0) :: (41, .ireturn, 0, 0, 0) :: []
def am_c14_124 : AmCd := (124, .bipush (-12), 0, 0, 0) :: (126, .ireturn, 0, 0, 0) :: []
def am_c14_102 : AmCd := (102, .iload_n 3, 0, 0, 0) :: (103, .aload_n 0, 0, 0, 0) :: (104, .aload_n 0, 0, 0, 0) :: (105, .getfield 43, 0, 8, 1) :: (108, .iload 4, 0, 0, 0) :: (110, .invokevirtual 53, 62, 2, 0) :: (113, .invokevirtual 102, 15, 2, 0) :: (116, .isub, 0, 0, 0) :: (117, .istore_n 3, 0, 0, 0) :: (118, .iinc 4 1, 0, 0, 0) :: (121, .goto (-73), 0, 0, 0) :: am_c14_124
def am_c14_48 : AmCd := (48, .iload 4, 0, 0, 0) :: (50, .aload_n 0, 0, 0, 0) :: (51, .getfield 40, 0, 7, 1) :: (54, .iconst 0, 0, 0, 0) :: (55, .invokevirtual 53, 62, 2, 0) :: (58, .if_icmp .ge 66, 0, 0, 0) :: (61, .aload_n 0, 0, 0, 0) :: (62, .aload_n 0, 0, 0, 0) :: (63, .getfield 43, 0, 8, 1) :: (66, .iload 4, 0, 0, 0) :: (68, .invokevirtual 53, 62, 2, 0) :: (71, .iload_n 3, 0, 0, 0) :: (72, .invokevirtual 92, 9, 3, 0) :: (75, .istore 5, 0, 0, 0) :: (77, .iload 5, 0, 0, 0) :: (79, .ifCond .lt 23, 0, 0, 0) :: (82, .aload_n 0, 0, 0, 0) :: (83, .getfield 15, 0, 1, 1) :: (86, .iload 5, 0, 0, 0) :: (88, .sipush 128, 0, 0, 0) :: (91, .idiv, 0, 0, 0) :: (92, .iload 5, 0, 0, 0) :: (94, .sipush 128, 0, 0, 0) :: (97, .irem, 0, 0, 0) :: (98, .invokevirtual 99, 114, 3, 0) :: (101, .ireturn, 0, 0, 0) :: am_c14_102
def am_c14_43 : AmCd := (43, .iload_n 2, 0, 0, 0) :: (44, .istore_n 3, 0, 0, 0) :: (45, .iconst 0, 0, 0, 0) :: (46, .istore 4, 0, 0, 0) :: am_c14_48
def am_c14_37 : AmCd := (37, .iinc 3 1, 0, 0, 0) :: (40, .goto (-38), 0, 0, 0) :: am_c14_43
def am_c14_2 : AmCd := (2, .iload_n 3, 0, 0, 0) :: (3, .aload_n 0, 0, 0, 0) :: (4, .getfield 40, 0, 7, 1) :: (7, .iconst 0, 0, 0, 0) :: (8, .invokevirtual 53, 62, 2, 0) :: (11, .if_icmp .ge 32, 0, 0, 0) :: (14, .aload_n 0, 0, 0, 0) :: (15, .aload_n 0, 0, 0, 0) :: (16, .getfield 43, 0, 8, 1) :: (19, .iload_n 3, 0, 0, 0) :: (20, .invokevirtual 53, 62, 2, 0) :: (23, .iload_n 1, 0, 0, 0) :: (24, .invokevirtual 89, 8, 3, 0) :: (27, .istore 4, 0, 0, 0) :: (29, .iload 4, 0, 0, 0) :: (31, .ifCond .ge 6, 0, 0, 0) :: (34, .iload 4, 0, 0, 0) :: (36, .ireturn, 0, 0, 0) :: am_c14_37
def am_c14_0 : AmCd := (0, .iconst 0, 0, 0, 0) :: (1, .istore_n 3, 0, 0, 0) :: am_c14_2
def am_c15_40 : AmCd := (40, .iload_n 2, 0, 0, 0) :: (41, .ireturn, 0, 0, 0) :: []
def am_c15_4 : AmCd := (4, .iload_n 3, 0, 0, 0) :: (5, .aload_n 0, 0, 0, 0) :: (6, .getfield 31, 0, 4, 1) :: (9, .iload_n 1, 0, 0, 0) :: (10, .invokevirtual 53, 62, 2, 0) :: (13, .if_icmp .ge 27, 0, 0, 0) :: (16, .iload_n 2, 0, 0, 0) :: (17, .iconst 2, 0, 0, 0) :: (18, .aload_n 0, 0, 0, 0) :: (19, .getfield 15, 0, 1, 1) :: (22, .aload_n 0, 0, 0, 0) :: (23, .iload_n 1, 0, 0, 0) :: (24, .iload_n 3, 0, 0, 0) :: (25, .invokevirtual 66, 7, 3, 0) :: (28, .invokevirtual 86, 99, 2, 0) :: (31, .imul, 0, 0, 0) :: (32, .iadd, 0, 0, 0) :: (33, .istore_n 2, 0, 0, 0) :: (34, .iinc 3 1, 0, 0, 0) :: (37, .goto (-33), 0, 0, 0) :: am_c15_40
def am_c15_0 : AmCd := (0, .iconst 0, 0, 0, 0) :: (1, .istore_n 2, 0, 0, 0) :: (2, .iconst 0, 0, 0, 0) :: (3, .istore_n 3, 0, 0, 0) :: am_c15_4
def am_c16_0 : AmCd := (0, .aload_n 0, 0, 0, 0) :: (1, .getfield 46, 0, 9, 1) :: (4, .iconst 0, 0, 0, 0) :: (5, .iload_n 1, 0, 0, 0) :: (6, .invokevirtual 57, 63, 3, 0) :: (9, .iconst 1, 0, 0, 0) :: (10, .ireturn, 0, 0, 0) :: []
def am_c17_0 : AmCd := (0, .aload_n 0, 0, 0, 0) :: (1, .getfield 46, 0, 9, 1) :: (4, .iconst 0, 0, 0, 0) :: (5, .invokevirtual 53, 62, 2, 0) :: (8, .ireturn, 0, 0, 0) :: []
def am_c18_39 : AmCd := (39, .iload_n 3, 0, 0, 0) :: (40, .ireturn, 0, 0, 0) :: []
def am_c18_11 : AmCd := (11, .iload_n 3, 0, 0, 0) :: (12, .iload_n 2, 0, 0, 0) :: (13, .if_icmp .ge 26, 0, 0, 0) :: (16, .aload_n 0, 0, 0, 0) :: (17, .getfield 15, 0, 1, 1) :: (20, .aload_n 0, 0, 0, 0) :: (21, .iload_n 1, 0, 0, 0) :: (22, .iload_n 3, 0, 0, 0) :: (23, .invokevirtual 66, 7, 3, 0) :: (26, .invokevirtual 105, 120, 2, 0) :: (29, .iconst 5, 0, 0, 0) :: (30, .if_icmp .ne 9, 0, 0, 0) :: (33, .iinc 3 1, 0, 0, 0) :: (36, .goto (-25), 0, 0, 0) :: am_c18_39
def am_c18_0 : AmCd := (0, .aload_n 0, 0, 0, 0) :: (1, .getfield 31, 0, 4, 1) :: (4, .iload_n 1, 0, 0, 0) :: (5, .invokevirtual 53, 62, 2, 0) :: (8, .istore_n 2, 0, 0, 0) :: (9, .iconst 0, 0, 0, 0) :: (10, .istore_n 3, 0, 0, 0) :: am_c18_11
def am_c19_0 : AmCd := (0, .aload_n 0, 0, 0, 0) :: (1, .invokespecial 3, 0, 0, 4) :: (4, .aload_n 0, 0, 0, 0) :: (5, .sipush 512, 0, 0, 0) :: (8, .newarray .int, 0, 0, 0) :: (10, .putfield 9, 1, 2, 1) :: (13, .aload_n 0, 0, 0, 0) :: (14, .aload_n 2, 0, 0, 0) :: (15, .putfield 15, 1, 0, 1) :: (18, .aload_n 0, 0, 0, 0) :: (19, .new 19, 5, 0, 0) :: (22, .dup, 0, 0, 0) :: (23, .aload_n 2, 0, 0, 0) :: (24, .invokespecial 21, 65, 2, 2) :: (27, .putfield 24, 1, 1, 1) :: (30, .aload_n 0, 0, 0, 0) :: (31, .new 28, 4, 0, 0) :: (34, .dup, 0, 0, 0) :: (35, .aload_n 1, 0, 0, 0) :: (36, .iconst 1, 0, 0, 0) :: (37, .invokespecial 30, 61, 3, 2) :: (40, .putfield 33, 1, 3, 1) :: (43, .aload_n 0, 0, 0, 0) :: (44, .new 28, 4, 0, 0) :: (47, .dup, 0, 0, 0) :: (48, .aload_n 1, 0, 0, 0) :: (49, .bipush 16, 0, 0, 0) :: (51, .invokespecial 30, 61, 3, 2) :: (54, .putfield 37, 1, 4, 1) :: (57, .aload_n 0, 0, 0, 0) :: (58, .new 28, 4, 0, 0) :: (61, .dup, 0, 0, 0) :: (62, .aload_n 1, 0, 0, 0) :: (63, .bipush 16, 0, 0, 0) :: (65, .invokespecial 30, 61, 3, 2) :: (68, .putfield 40, 1, 5, 1) :: (71, .aload_n 0, 0, 0, 0) :: (72, .new 28, 4, 0, 0) :: (75, .dup, 0, 0, 0) :: (76, .aload_n 1, 0, 0, 0) :: (77, .bipush 16, 0, 0, 0) :: (79, .invokespecial 30, 61, 3, 2) :: (82, .putfield 43, 1, 6, 1) :: (85, .aload_n 0, 0, 0, 0) :: (86, .new 28, 4, 0, 0) :: (89, .dup, 0, 0, 0) :: (90, .aload_n 1, 0, 0, 0) :: (91, .bipush 16, 0, 0, 0) :: (93, .invokespecial 30, 61, 3, 2) :: (96, .putfield 46, 1, 7, 1) :: (99, .aload_n 0, 0, 0, 0) :: (100, .new 28, 4, 0, 0) :: (103, .dup, 0, 0, 0) :: (104, .aload_n 1, 0, 0, 0) :: (105, .bipush 16, 0, 0, 0) :: (107, .invokespecial 30, 61, 3, 2) :: (110, .putfield 49, 1, 8, 1) :: (113, .aload_n 0, 0, 0, 0) :: (114, .new 28, 4, 0, 0) :: (117, .dup, 0, 0, 0) :: (118, .aload_n 1, 0, 0, 0) :: (119, .bipush 16, 0, 0, 0) :: (121, .invokespecial 30, 61, 3, 2) :: (124, .putfield 52, 1, 9, 1) :: (127, .aload_n 0, 0, 0, 0) :: (128, .new 28, 4, 0, 0) :: (131, .dup, 0, 0, 0) :: (132, .aload_n 1, 0, 0, 0) :: (133, .bipush 16, 0, 0, 0) :: (135, .invokespecial 30, 61, 3, 2) :: (138, .putfield 55, 1, 10, 1) :: (141, .return_, 0, 0, 0) :: []
def am_c20_0 : AmCd := (0, .aload_n 0, 0, 0, 0) :: (1, .getfield 33, 1, 3, 1) :: (4, .iconst 0, 0, 0, 0) :: (5, .invokevirtual 58, 62, 2, 0) :: (8, .ireturn, 0, 0, 0) :: []
def am_c21_21 : AmCd := (21, .ireturn, 0, 0, 0) :: []
def am_c21_20 : AmCd := (20, .iconst 0, 0, 0, 0) :: am_c21_21
def am_c21_0 : AmCd := (0, .iload_n 1, 0, 0, 0) :: (1, .ifCond .lt 19, 0, 0, 0) :: (4, .iload_n 1, 0, 0, 0) :: (5, .aload_n 0, 0, 0, 0) :: (6, .getfield 33, 1, 3, 1) :: (9, .iconst 0, 0, 0, 0) :: (10, .invokevirtual 58, 62, 2, 0) :: (13, .if_icmp .ge 7, 0, 0, 0) :: (16, .iconst 1, 0, 0, 0) :: (17, .goto 4, 0, 0, 0) :: am_c21_20
def am_c22_0 : AmCd := (0, .aload_n 0, 0, 0, 0) :: (1, .getfield 49, 1, 8, 1) :: (4, .iload_n 1, 0, 0, 0) :: (5, .invokevirtual 58, 62, 2, 0) :: (8, .ireturn, 0, 0, 0) :: []
def am_c23_0 : AmCd := (0, .aload_n 0, 0, 0, 0) :: (1, .getfield 52, 1, 9, 1) :: (4, .iload_n 1, 0, 0, 0) :: (5, .invokevirtual 58, 62, 2, 0) :: (8, .ireturn, 0, 0, 0) :: []
def am_c24_0 : AmCd := (0, .aload_n 0, 0, 0, 0) :: (1, .getfield 55, 1, 10, 1) :: (4, .iload_n 1, 0, 0, 0) :: (5, .invokevirtual 58, 62, 2, 0) :: (8, .ireturn, 0, 0, 0) :: []
def am_c25_40 : AmCd := (40, .bipush (-16), 0, 0, 0) :: (42, .ireturn, 0, 0, 0) :: []
def am_c25_38 : AmCd := (38, .iconst 3, 0, 0, 0) :: (39, .ireturn, 0, 0, 0) :: am_c25_40
def am_c25_36 : AmCd := (36, .iconst 2, 0, 0, 0) :: (37, .ireturn, 0, 0, 0) :: am_c25_38
def am_c25_0 : AmCd := (0, .aload_n 0, 0, 0, 0) :: (1, .getfield 37, 1, 4, 1) :: (4, .iload_n 1, 0, 0, 0) :: (5, .invokevirtual 58, 62, 2, 0) :: (8, .lookupswitch 32 #[(3, 28), (4, 30)], 0, 0, 0) :: am_c25_36
def am_c26_38 : AmCd := (38, .ireturn, 0, 0, 0) :: []
def am_c26_30 : AmCd := (30, .aload_n 0, 0, 0, 0) :: (31, .getfield 46, 1, 7, 1) :: (34, .iload_n 1, 0, 0, 0) :: (35, .invokevirtual 58, 62, 2, 0) :: am_c26_38
def am_c26_15 : AmCd := (15, .iload_n 2, 0, 0, 0) :: (16, .ifCond .ne 14, 0, 0, 0) :: (19, .aload_n 0, 0, 0, 0) :: (20, .getfield 43, 1, 6, 1) :: (23, .iload_n 1, 0, 0, 0) :: (24, .invokevirtual 58, 62, 2, 0) :: (27, .goto 11, 0, 0, 0) :: am_c26_30
def am_c26_0 : AmCd := (0, .aload_n 0, 0, 0, 0) :: (1, .getfield 37, 1, 4, 1) :: (4, .iload_n 1, 0, 0, 0) :: (5, .invokevirtual 58, 62, 2, 0) :: (8, .iconst 5, 0, 0, 0) :: (9, .if_icmp .eq 6, 0, 0, 0) :: (12, .bipush (-16), 0, 0, 0) :: (14, .ireturn, 0, 0, 0) :: am_c26_15
def am_c27_82 : AmCd := (82, .aload_n 0, 0, 0, 0) :: (83, .getfield 33, 1, 3, 1) :: (86, .iconst 0, 0, 0, 0) :: (87, .iload_n 3, 0, 0, 0) :: (88, .iconst 1, 0, 0, 0) :: (89, .iadd, 0, 0, 0) :: (90, .invokevirtual 62, 63, 3, 0) :: (93, .iload_n 3, 0, 0, 0) :: (94, .ireturn, 0, 0, 0) :: []
def am_c27_0 : AmCd := (0, .aload_n 0, 0, 0, 0) :: (1, .getfield 33, 1, 3, 1) :: (4, .iconst 0, 0, 0, 0) :: (5, .invokevirtual 58, 62, 2, 0) :: (8, .istore_n 3, 0, 0, 0) :: (9, .aload_n 0, 0, 0, 0) :: (10, .getfield 37, 1, 4, 1) :: (13, .iload_n 3, 0, 0, 0) :: (14, .iload_n 1, 0, 0, 0) :: (15, .invokevirtual 62, 63, 3, 0) :: (18, .aload_n 0, 0, 0, 0) :: (19, .getfield 40, 1, 5, 1) :: (22, .iload_n 3, 0, 0, 0) :: (23, .iload_n 2, 0, 0, 0) :: (24, .invokevirtual 62, 63, 3, 0) :: (27, .aload_n 0, 0, 0, 0) :: (28, .getfield 49, 1, 8, 1) :: (31, .iload_n 3, 0, 0, 0) :: (32, .iconst 1, 0, 0, 0) :: (33, .invokevirtual 62, 63, 3, 0) :: (36, .iload_n 1, 0, 0, 0) :: (37, .ifCond .lt 45, 0, 0, 0) :: (40, .iload_n 1, 0, 0, 0) :: (41, .getstatic 66, 1, 0, 0) :: (44, .arraylength, 0, 0, 0) :: (45, .if_icmp .ge 37, 0, 0, 0) :: (48, .iload_n 1, 0, 0, 0) :: (49, .getstatic 69, 2, 0, 0) :: (52, .arraylength, 0, 0, 0) :: (53, .if_icmp .ge 29, 0, 0, 0) :: (56, .aload_n 0, 0, 0, 0) :: (57, .getfield 52, 1, 9, 1) :: (60, .iload_n 3, 0, 0, 0) :: (61, .getstatic 66, 1, 0, 0) :: (64, .iload_n 1, 0, 0, 0) :: (65, .iaload, 0, 0, 0) :: (66, .invokevirtual 62, 63, 3, 0) :: (69, .aload_n 0, 0, 0, 0) :: (70, .getfield 55, 1, 10, 1) :: (73, .iload_n 3, 0, 0, 0) :: (74, .getstatic 69, 2, 0, 0) :: (77, .iload_n 1, 0, 0, 0) :: (78, .iaload, 0, 0, 0) :: (79, .invokevirtual 62, 63, 3, 0) :: am_c27_82
def am_c28_0 : AmCd := (0, .aload_n 0, 0, 0, 0) :: (1, .getfield 33, 1, 3, 1) :: (4, .iconst 0, 0, 0, 0) :: (5, .invokevirtual 58, 62, 2, 0) :: (8, .istore_n 3, 0, 0, 0) :: (9, .aload_n 0, 0, 0, 0) :: (10, .getfield 37, 1, 4, 1) :: (13, .iload_n 3, 0, 0, 0) :: (14, .iconst 5, 0, 0, 0) :: (15, .invokevirtual 62, 63, 3, 0) :: (18, .aload_n 0, 0, 0, 0) :: (19, .getfield 43, 1, 6, 1) :: (22, .iload_n 3, 0, 0, 0) :: (23, .iload_n 1, 0, 0, 0) :: (24, .invokevirtual 62, 63, 3, 0) :: (27, .aload_n 0, 0, 0, 0) :: (28, .getfield 46, 1, 7, 1) :: (31, .iload_n 3, 0, 0, 0) :: (32, .iload_n 2, 0, 0, 0) :: (33, .invokevirtual 62, 63, 3, 0) :: (36, .aload_n 0, 0, 0, 0) :: (37, .getfield 49, 1, 8, 1) :: (40, .iload_n 3, 0, 0, 0) :: (41, .aload_n 0, 0, 0, 0) :: (42, .getfield 49, 1, 8, 1) :: (45, .iload_n 1, 0, 0, 0) :: (46, .invokevirtual 58, 62, 2, 0) :: (49, .aload_n 0, 0, 0, 0) :: (50, .getfield 49, 1, 8, 1) :: (53, .iload_n 2, 0, 0, 0) :: (54, .invokevirtual 58, 62, 2, 0) :: (57, .iadd, 0, 0, 0) :: (58, .invokevirtual 62, 63, 3, 0) :: (61, .aload_n 0, 0, 0, 0) :: (62, .getfield 52, 1, 9, 1) :: (65, .iload_n 3, 0, 0, 0) :: (66, .aload_n 0, 0, 0, 0) :: (67, .getfield 52, 1, 9, 1) :: (70, .iload_n 1, 0, 0, 0) :: (71, .invokevirtual 58, 62, 2, 0) :: (74, .aload_n 0, 0, 0, 0) :: (75, .getfield 52, 1, 9, 1) :: (78, .iload_n 2, 0, 0, 0) :: (79, .invokevirtual 58, 62, 2, 0) :: (82, .imul, 0, 0, 0) :: (83, .invokevirtual 62, 63, 3, 0) :: (86, .aload_n 0, 0, 0, 0) :: (87, .getfield 55, 1, 10, 1) :: (90, .iload_n 3, 0, 0, 0) :: (91, .aload_n 0, 0, 0, 0) :: (92, .getfield 55, 1, 10, 1) :: (95, .iload_n 1, 0, 0, 0) :: (96, .invokevirtual 58, 62, 2, 0) :: (99, .aload_n 0, 0, 0, 0) :: (100, .getfield 55, 1, 10, 1) :: (103, .iload_n 2, 0, 0, 0) :: (104, .invokevirtual 58, 62, 2, 0) :: (107, .iadd, 0, 0, 0) :: (108, .invokevirtual 62, 63, 3, 0) :: (111, .aload_n 0, 0, 0, 0) :: (112, .getfield 33, 1, 3, 1) :: (115, .iconst 0, 0, 0, 0) :: (116, .iload_n 3, 0, 0, 0) :: (117, .iconst 1, 0, 0, 0) :: (118, .iadd, 0, 0, 0) :: (119, .invokevirtual 62, 63, 3, 0) :: (122, .iload_n 3, 0, 0, 0) :: (123, .ireturn, 0, 0, 0) :: []
def am_c29_38 : AmCd := (38, .iconst 2, 0, 0, 0) :: (39, .aload_n 0, 0, 0, 0) :: (40, .getfield 24, 1, 1, 1) :: (43, .aload_n 0, 0, 0, 0) :: (44, .getfield 9, 1, 2, 1) :: (47, .iload 4, 0, 0, 0) :: (49, .bipush 64, 0, 0, 0) :: (51, .imul, 0, 0, 0) :: (52, .invokevirtual 83, 79, 3, 0) :: (55, .imul, 0, 0, 0) :: (56, .ireturn, 0, 0, 0) :: []
def am_c29_25 : AmCd := (25, .aload_n 0, 0, 0, 0) :: (26, .getfield 24, 1, 1, 1) :: (29, .invokevirtual 79, 71, 1, 0) :: (32, .ifCond .ne 6, 0, 0, 0) :: (35, .bipush (-18), 0, 0, 0) :: (37, .ireturn, 0, 0, 0) :: am_c29_38
def am_c29_0 : AmCd := (0, .aload_n 0, 0, 0, 0) :: (1, .getfield 24, 1, 1, 1) :: (4, .iload_n 2, 0, 0, 0) :: (5, .iload_n 3, 0, 0, 0) :: (6, .invokevirtual 72, 70, 3, 0) :: (9, .aload_n 0, 0, 0, 0) :: (10, .iload_n 1, 0, 0, 0) :: (11, .iconst 0, 0, 0, 0) :: (12, .invokevirtual 75, 30, 3, 0) :: (15, .istore 5, 0, 0, 0) :: (17, .iload 5, 0, 0, 0) :: (19, .ifCond .ge 6, 0, 0, 0) :: (22, .iload 5, 0, 0, 0) :: (24, .ireturn, 0, 0, 0) :: am_c29_25
def am_c30_200 : AmCd := (200, .aload_n 0, 0, 0, 0) :: (201, .getfield 15, 1, 0, 1) :: (204, .iconst 1, 0, 0, 0) :: (205, .invokevirtual 96, 131, 2, 0) :: (208, .iconst 1, 0, 0, 0) :: (209, .ireturn, 0, 0, 0) :: []
def am_c30_199 : AmCd := (199, .ireturn, 0, 0, 0) :: am_c30_200
def am_c30_184 : AmCd := (184, .aload_n 0, 0, 0, 0) :: (185, .aload_n 0, 0, 0, 0) :: (186, .getfield 46, 1, 7, 1) :: (189, .iload_n 1, 0, 0, 0) :: (190, .invokevirtual 58, 62, 2, 0) :: (193, .iload_n 2, 0, 0, 0) :: (194, .iconst 1, 0, 0, 0) :: (195, .iadd, 0, 0, 0) :: (196, .invokevirtual 75, 30, 3, 0) :: am_c30_199
def am_c30_148 : AmCd := (148, .aload_n 0, 0, 0, 0) :: (149, .getfield 15, 1, 0, 1) :: (152, .bipush 6, 0, 0, 0) :: (154, .invokevirtual 96, 131, 2, 0) :: (157, .aload_n 0, 0, 0, 0) :: (158, .aload_n 0, 0, 0, 0) :: (159, .getfield 43, 1, 6, 1) :: (162, .iload_n 1, 0, 0, 0) :: (163, .invokevirtual 58, 62, 2, 0) :: (166, .iload_n 2, 0, 0, 0) :: (167, .iconst 1, 0, 0, 0) :: (168, .iadd, 0, 0, 0) :: (169, .invokevirtual 75, 30, 3, 0) :: (172, .istore 4, 0, 0, 0) :: (174, .iload 4, 0, 0, 0) :: (176, .ifCond .ge 8, 0, 0, 0) :: (179, .iload 4, 0, 0, 0) :: (181, .goto 18, 0, 0, 0) :: am_c30_184
def am_c30_147 : AmCd := (147, .ireturn, 0, 0, 0) :: am_c30_148
def am_c30_132 : AmCd := (132, .aload_n 0, 0, 0, 0) :: (133, .getfield 24, 1, 1, 1) :: (136, .aload_n 0, 0, 0, 0) :: (137, .getfield 40, 1, 5, 1) :: (140, .iload_n 1, 0, 0, 0) :: (141, .invokevirtual 58, 62, 2, 0) :: (144, .invokevirtual 87, 72, 2, 0) :: am_c30_147
def am_c30_100 : AmCd := (100, .aload_n 0, 0, 0, 0) :: (101, .getfield 15, 1, 0, 1) :: (104, .iconst 5, 0, 0, 0) :: (105, .invokevirtual 96, 131, 2, 0) :: (108, .aload_n 0, 0, 0, 0) :: (109, .getfield 24, 1, 1, 1) :: (112, .aload_n 0, 0, 0, 0) :: (113, .getfield 40, 1, 5, 1) :: (116, .iload_n 1, 0, 0, 0) :: (117, .invokevirtual 58, 62, 2, 0) :: (120, .invokevirtual 93, 74, 2, 0) :: (123, .istore_n 3, 0, 0, 0) :: (124, .iload_n 3, 0, 0, 0) :: (125, .ifCond .ge 7, 0, 0, 0) :: (128, .iload_n 3, 0, 0, 0) :: (129, .goto 18, 0, 0, 0) :: am_c30_132
def am_c30_84 : AmCd := (84, .aload_n 0, 0, 0, 0) :: (85, .getfield 24, 1, 1, 1) :: (88, .aload_n 0, 0, 0, 0) :: (89, .getfield 40, 1, 5, 1) :: (92, .iload_n 1, 0, 0, 0) :: (93, .invokevirtual 58, 62, 2, 0) :: (96, .invokevirtual 93, 74, 2, 0) :: (99, .ireturn, 0, 0, 0) :: am_c30_100
def am_c30_68 : AmCd := (68, .aload_n 0, 0, 0, 0) :: (69, .getfield 24, 1, 1, 1) :: (72, .aload_n 0, 0, 0, 0) :: (73, .getfield 40, 1, 5, 1) :: (76, .iload_n 1, 0, 0, 0) :: (77, .invokevirtual 58, 62, 2, 0) :: (80, .invokevirtual 90, 73, 2, 0) :: (83, .ireturn, 0, 0, 0) :: am_c30_84
def am_c30_52 : AmCd := (52, .aload_n 0, 0, 0, 0) :: (53, .getfield 24, 1, 1, 1) :: (56, .aload_n 0, 0, 0, 0) :: (57, .getfield 40, 1, 5, 1) :: (60, .iload_n 1, 0, 0, 0) :: (61, .invokevirtual 58, 62, 2, 0) :: (64, .invokevirtual 87, 72, 2, 0) :: (67, .ireturn, 0, 0, 0) :: am_c30_68
def am_c30_9 : AmCd := (9, .aload_n 0, 0, 0, 0) :: (10, .getfield 37, 1, 4, 1) :: (13, .iload_n 1, 0, 0, 0) :: (14, .invokevirtual 58, 62, 2, 0) :: (17, .tableswitch 183 1 5 #[35, 51, 67, 83, 131], 0, 0, 0) :: am_c30_52
def am_c30_0 : AmCd := (0, .iload_n 2, 0, 0, 0) :: (1, .bipush 8, 0, 0, 0) :: (3, .if_icmp .le 6, 0, 0, 0) :: (6, .bipush (-17), 0, 0, 0) :: (8, .ireturn, 0, 0, 0) :: am_c30_9
def am_c31_90 : AmCd := (90, .iload 5, 0, 0, 0) :: (92, .invokestatic 111, 67, 1, 1) :: (95, .ireturn, 0, 0, 0) :: []
def am_c31_84 : AmCd := (84, .iload 5, 0, 0, 0) :: (86, .invokestatic 108, 69, 1, 1) :: (89, .ireturn, 0, 0, 0) :: am_c31_90
def am_c31_78 : AmCd := (78, .iload 5, 0, 0, 0) :: (80, .invokestatic 105, 68, 1, 1) :: (83, .ireturn, 0, 0, 0) :: am_c31_84
def am_c31_68 : AmCd := (68, .iload 5, 0, 0, 0) :: (70, .invokestatic 102, 66, 1, 1) :: (73, .iload_n 2, 0, 0, 0) :: (74, .iconst 2, 0, 0, 0) :: (75, .irem, 0, 0, 0) :: (76, .ixor, 0, 0, 0) :: (77, .ireturn, 0, 0, 0) :: am_c31_78
def am_c31_31 : AmCd := (31, .aload_n 0, 0, 0, 0) :: (32, .getfield 9, 1, 2, 1) :: (35, .iload 4, 0, 0, 0) :: (37, .iaload, 0, 0, 0) :: (38, .istore 5, 0, 0, 0) :: (40, .iload_n 3, 0, 0, 0) :: (41, .tableswitch 49 0 2 #[27, 37, 43], 0, 0, 0) :: am_c31_68
def am_c31_29 : AmCd := (29, .iconst 0, 0, 0, 0) :: (30, .ireturn, 0, 0, 0) :: am_c31_31
def am_c31_0 : AmCd := (0, .iload_n 1, 0, 0, 0) :: (1, .bipush 64, 0, 0, 0) :: (3, .imul, 0, 0, 0) :: (4, .iload_n 2, 0, 0, 0) :: (5, .iconst 2, 0, 0, 0) :: (6, .idiv, 0, 0, 0) :: (7, .iadd, 0, 0, 0) :: (8, .istore 4, 0, 0, 0) :: (10, .iload_n 2, 0, 0, 0) :: (11, .ifCond .lt 18, 0, 0, 0) :: (14, .iload 4, 0, 0, 0) :: (16, .ifCond .lt 13, 0, 0, 0) :: (19, .iload 4, 0, 0, 0) :: (21, .aload_n 0, 0, 0, 0) :: (22, .getfield 9, 1, 2, 1) :: (25, .arraylength, 0, 0, 0) :: (26, .if_icmp .lt 5, 0, 0, 0) :: am_c31_29
def am_c32_0 : AmCd := (0, .aload_n 0, 0, 0, 0) :: (1, .invokespecial 3, 0, 0, 4) :: (4, .bipush 72, 0, 0, 0) :: (6, .istore_n 2, 0, 0, 0) :: (7, .aload_n 0, 0, 0, 0) :: (8, .new 9, 4, 0, 0) :: (11, .dup, 0, 0, 0) :: (12, .aload_n 1, 0, 0, 0) :: (13, .iconst 1, 0, 0, 0) :: (14, .invokespecial 11, 61, 3, 2) :: (17, .putfield 14, 2, 0, 1) :: (20, .aload_n 0, 0, 0, 0) :: (21, .new 9, 4, 0, 0) :: (24, .dup, 0, 0, 0) :: (25, .aload_n 1, 0, 0, 0) :: (26, .iconst 3, 0, 0, 0) :: (27, .invokespecial 11, 61, 3, 2) :: (30, .putfield 20, 2, 1, 1) :: (33, .aload_n 0, 0, 0, 0) :: (34, .new 9, 4, 0, 0) :: (37, .dup, 0, 0, 0) :: (38, .aload_n 1, 0, 0, 0) :: (39, .iconst 3, 0, 0, 0) :: (40, .invokespecial 11, 61, 3, 2) :: (43, .putfield 23, 2, 2, 1) :: (46, .aload_n 0, 0, 0, 0) :: (47, .new 9, 4, 0, 0) :: (50, .dup, 0, 0, 0) :: (51, .aload_n 1, 0, 0, 0) :: (52, .iconst 3, 0, 0, 0) :: (53, .invokespecial 11, 61, 3, 2) :: (56, .putfield 26, 2, 3, 1) :: (59, .aload_n 0, 0, 0, 0) :: (60, .new 9, 4, 0, 0) :: (63, .dup, 0, 0, 0) :: (64, .aload_n 1, 0, 0, 0) :: (65, .iload_n 2, 0, 0, 0) :: (66, .invokespecial 11, 61, 3, 2) :: (69, .putfield 29, 2, 4, 1) :: (72, .aload_n 0, 0, 0, 0) :: (73, .new 9, 4, 0, 0) :: (76, .dup, 0, 0, 0) :: (77, .aload_n 1, 0, 0, 0) :: (78, .iload_n 2, 0, 0, 0) :: (79, .bipush 8, 0, 0, 0) :: (81, .imul, 0, 0, 0) :: (82, .invokespecial 11, 61, 3, 2) :: (85, .putfield 32, 2, 5, 1) :: (88, .aload_n 0, 0, 0, 0) :: (89, .new 9, 4, 0, 0) :: (92, .dup, 0, 0, 0) :: (93, .aload_n 1, 0, 0, 0) :: (94, .iload_n 2, 0, 0, 0) :: (95, .bipush 8, 0, 0, 0) :: (97, .imul, 0, 0, 0) :: (98, .bipush 10, 0, 0, 0) :: (100, .imul, 0, 0, 0) :: (101, .invokespecial 11, 61, 3, 2) :: (104, .putfield 35, 2, 6, 1) :: (107, .return_, 0, 0, 0) :: []
def am_c33_0 : AmCd := (0, .aload_n 0, 0, 0, 0) :: (1, .getfield 14, 2, 0, 1) :: (4, .iconst 0, 0, 0, 0) :: (5, .invokevirtual 38, 62, 2, 0) :: (8, .ireturn, 0, 0, 0) :: []
def am_c34_21 : AmCd := (21, .ireturn, 0, 0, 0) :: []
def am_c34_20 : AmCd := (20, .iconst 0, 0, 0, 0) :: am_c34_21
def am_c34_0 : AmCd := (0, .iload_n 1, 0, 0, 0) :: (1, .ifCond .lt 19, 0, 0, 0) :: (4, .iload_n 1, 0, 0, 0) :: (5, .aload_n 0, 0, 0, 0) :: (6, .getfield 14, 2, 0, 1) :: (9, .iconst 0, 0, 0, 0) :: (10, .invokevirtual 38, 62, 2, 0) :: (13, .if_icmp .ge 7, 0, 0, 0) :: (16, .iconst 1, 0, 0, 0) :: (17, .goto 4, 0, 0, 0) :: am_c34_20
def am_c35_30 : AmCd := (30, .ireturn, 0, 0, 0) :: []
def am_c35_29 : AmCd := (29, .iconst 0, 0, 0, 0) :: am_c35_30
def am_c35_0 : AmCd := (0, .aload_n 0, 0, 0, 0) :: (1, .iload_n 1, 0, 0, 0) :: (2, .invokevirtual 42, 34, 2, 0) :: (5, .ifCond .eq 24, 0, 0, 0) :: (8, .iload_n 2, 0, 0, 0) :: (9, .iconst 1, 0, 0, 0) :: (10, .if_icmp .lt 19, 0, 0, 0) :: (13, .iload_n 2, 0, 0, 0) :: (14, .aload_n 0, 0, 0, 0) :: (15, .getfield 26, 2, 3, 1) :: (18, .iload_n 1, 0, 0, 0) :: (19, .invokevirtual 38, 62, 2, 0) :: (22, .if_icmp .gt 7, 0, 0, 0) :: (25, .iconst 1, 0, 0, 0) :: (26, .goto 4, 0, 0, 0) :: am_c35_29
def am_c36_0 : AmCd := (0, .aload_n 0, 0, 0, 0) :: (1, .getfield 26, 2, 3, 1) :: (4, .iload_n 1, 0, 0, 0) :: (5, .invokevirtual 38, 62, 2, 0) :: (8, .ireturn, 0, 0, 0) :: []
def am_c37_0 : AmCd := (0, .aload_n 0, 0, 0, 0) :: (1, .getfield 20, 2, 1, 1) :: (4, .iload_n 1, 0, 0, 0) :: (5, .invokevirtual 38, 62, 2, 0) :: (8, .ireturn, 0, 0, 0) :: []
def am_c38_0 : AmCd := (0, .aload_n 0, 0, 0, 0) :: (1, .getfield 23, 2, 2, 1) :: (4, .iload_n 1, 0, 0, 0) :: (5, .invokevirtual 38, 62, 2, 0) :: (8, .ireturn, 0, 0, 0) :: []
def am_c39_0 : AmCd := (0, .iload_n 1, 0, 0, 0) :: (1, .bipush 24, 0, 0, 0) :: (3, .imul, 0, 0, 0) :: (4, .iload_n 2, 0, 0, 0) :: (5, .iadd, 0, 0, 0) :: (6, .iconst 1, 0, 0, 0) :: (7, .isub, 0, 0, 0) :: (8, .ireturn, 0, 0, 0) :: []
def am_c40_0 : AmCd := (0, .aload_n 0, 0, 0, 0) :: (1, .getfield 14, 2, 0, 1) :: (4, .iconst 0, 0, 0, 0) :: (5, .invokevirtual 38, 62, 2, 0) :: (8, .istore_n 3, 0, 0, 0) :: (9, .aload_n 0, 0, 0, 0) :: (10, .getfield 20, 2, 1, 1) :: (13, .iload_n 3, 0, 0, 0) :: (14, .iload_n 1, 0, 0, 0) :: (15, .invokevirtual 46, 63, 3, 0) :: (18, .aload_n 0, 0, 0, 0) :: (19, .getfield 23, 2, 2, 1) :: (22, .iload_n 3, 0, 0, 0) :: (23, .iload_n 2, 0, 0, 0) :: (24, .invokevirtual 46, 63, 3, 0) :: (27, .aload_n 0, 0, 0, 0) :: (28, .getfield 14, 2, 0, 1) :: (31, .iconst 0, 0, 0, 0) :: (32, .iload_n 3, 0, 0, 0) :: (33, .iconst 1, 0, 0, 0) :: (34, .iadd, 0, 0, 0) :: (35, .invokevirtual 46, 63, 3, 0) :: (38, .iload_n 3, 0, 0, 0) :: (39, .ireturn, 0, 0, 0) :: []
def am_c41_0 : AmCd := (0, .aload_n 0, 0, 0, 0) :: (1, .getfield 26, 2, 3, 1) :: (4, .iload_n 1, 0, 0, 0) :: (5, .invokevirtual 38, 62, 2, 0) :: (8, .iconst 1, 0, 0, 0) :: (9, .iadd, 0, 0, 0) :: (10, .istore_n 2, 0, 0, 0) :: (11, .aload_n 0, 0, 0, 0) :: (12, .getfield 29, 2, 4, 1) :: (15, .aload_n 0, 0, 0, 0) :: (16, .iload_n 1, 0, 0, 0) :: (17, .iload_n 2, 0, 0, 0) :: (18, .invokevirtual 50, 39, 3, 0) :: (21, .iconst (-1), 0, 0, 0) :: (22, .invokevirtual 46, 63, 3, 0) :: (25, .aload_n 0, 0, 0, 0) :: (26, .getfield 26, 2, 3, 1) :: (29, .iload_n 1, 0, 0, 0) :: (30, .iload_n 2, 0, 0, 0) :: (31, .invokevirtual 46, 63, 3, 0) :: (34, .iload_n 2, 0, 0, 0) :: (35, .ireturn, 0, 0, 0) :: []
def am_c42_0 : AmCd := (0, .aload_n 0, 0, 0, 0) :: (1, .getfield 29, 2, 4, 1) :: (4, .iload_n 1, 0, 0, 0) :: (5, .iconst (-1), 0, 0, 0) :: (6, .invokevirtual 46, 63, 3, 0) :: (9, .iconst 1, 0, 0, 0) :: (10, .ireturn, 0, 0, 0) :: []
def am_c43_52 : AmCd := (52, .iconst 1, 0, 0, 0) :: (53, .ireturn, 0, 0, 0) :: []
def am_c43_27 : AmCd := (27, .iload_n 3, 0, 0, 0) :: (28, .iload_n 2, 0, 0, 0) :: (29, .if_icmp .ge 23, 0, 0, 0) :: (32, .aload_n 0, 0, 0, 0) :: (33, .getfield 32, 2, 5, 1) :: (36, .iload_n 1, 0, 0, 0) :: (37, .bipush 8, 0, 0, 0) :: (39, .imul, 0, 0, 0) :: (40, .iload_n 3, 0, 0, 0) :: (41, .iadd, 0, 0, 0) :: (42, .iconst (-1), 0, 0, 0) :: (43, .invokevirtual 46, 63, 3, 0) :: (46, .iinc 3 1, 0, 0, 0) :: (49, .goto (-22), 0, 0, 0) :: am_c43_52
def am_c43_16 : AmCd := (16, .aload_n 0, 0, 0, 0) :: (17, .getfield 29, 2, 4, 1) :: (20, .iload_n 1, 0, 0, 0) :: (21, .iload_n 2, 0, 0, 0) :: (22, .invokevirtual 46, 63, 3, 0) :: (25, .iconst 0, 0, 0, 0) :: (26, .istore_n 3, 0, 0, 0) :: am_c43_27
def am_c43_9 : AmCd := (9, .iload_n 2, 0, 0, 0) :: (10, .ifCond .ge 6, 0, 0, 0) :: (13, .bipush (-13), 0, 0, 0) :: (15, .ireturn, 0, 0, 0) :: am_c43_16
def am_c43_0 : AmCd := (0, .iload_n 2, 0, 0, 0) :: (1, .bipush 8, 0, 0, 0) :: (3, .if_icmp .le 6, 0, 0, 0) :: (6, .bipush (-14), 0, 0, 0) :: (8, .ireturn, 0, 0, 0) :: am_c43_9
def am_c44_74 : AmCd := (74, .iconst 1, 0, 0, 0) :: (75, .ireturn, 0, 0, 0) :: []
def am_c44_45 : AmCd := (45, .iload 5, 0, 0, 0) :: (47, .iload_n 3, 0, 0, 0) :: (48, .if_icmp .ge 26, 0, 0, 0) :: (51, .aload_n 0, 0, 0, 0) :: (52, .getfield 35, 2, 6, 1) :: (55, .iload 4, 0, 0, 0) :: (57, .bipush 10, 0, 0, 0) :: (59, .imul, 0, 0, 0) :: (60, .iload 5, 0, 0, 0) :: (62, .iadd, 0, 0, 0) :: (63, .bipush 32, 0, 0, 0) :: (65, .invokevirtual 46, 63, 3, 0) :: (68, .iinc 5 1, 0, 0, 0) :: (71, .goto (-26), 0, 0, 0) :: am_c44_74
def am_c44_32 : AmCd := (32, .aload_n 0, 0, 0, 0) :: (33, .getfield 32, 2, 5, 1) :: (36, .iload 4, 0, 0, 0) :: (38, .iload_n 3, 0, 0, 0) :: (39, .invokevirtual 46, 63, 3, 0) :: (42, .iconst 0, 0, 0, 0) :: (43, .istore 5, 0, 0, 0) :: am_c44_45
def am_c44_16 : AmCd := (16, .aload_n 0, 0, 0, 0) :: (17, .iload_n 1, 0, 0, 0) :: (18, .iload_n 2, 0, 0, 0) :: (19, .invokevirtual 54, 50, 3, 0) :: (22, .istore 4, 0, 0, 0) :: (24, .iload 4, 0, 0, 0) :: (26, .ifCond .ge 6, 0, 0, 0) :: (29, .iload 4, 0, 0, 0) :: (31, .ireturn, 0, 0, 0) :: am_c44_32
def am_c44_9 : AmCd := (9, .iload_n 3, 0, 0, 0) :: (10, .ifCond .ge 6, 0, 0, 0) :: (13, .bipush (-13), 0, 0, 0) :: (15, .ireturn, 0, 0, 0) :: am_c44_16
def am_c44_0 : AmCd := (0, .iload_n 3, 0, 0, 0) :: (1, .bipush 10, 0, 0, 0) :: (3, .if_icmp .le 6, 0, 0, 0) :: (6, .bipush (-14), 0, 0, 0) :: (8, .ireturn, 0, 0, 0) :: am_c44_9
def am_c45_13 : AmCd := (13, .aload_n 0, 0, 0, 0) :: (14, .getfield 32, 2, 5, 1) :: (17, .iload_n 3, 0, 0, 0) :: (18, .iconst (-1), 0, 0, 0) :: (19, .invokevirtual 46, 63, 3, 0) :: (22, .iconst 1, 0, 0, 0) :: (23, .ireturn, 0, 0, 0) :: []
def am_c45_0 : AmCd := (0, .aload_n 0, 0, 0, 0) :: (1, .iload_n 1, 0, 0, 0) :: (2, .iload_n 2, 0, 0, 0) :: (3, .invokevirtual 54, 50, 3, 0) :: (6, .istore_n 3, 0, 0, 0) :: (7, .iload_n 3, 0, 0, 0) :: (8, .ifCond .ge 5, 0, 0, 0) :: (11, .iload_n 3, 0, 0, 0) :: (12, .ireturn, 0, 0, 0) :: am_c45_13
def am_c46_21 : AmCd := (21, .aload_n 0, 0, 0, 0) :: (22, .getfield 35, 2, 6, 1) :: (25, .iload 5, 0, 0, 0) :: (27, .iload 4, 0, 0, 0) :: (29, .invokevirtual 46, 63, 3, 0) :: (32, .iconst 1, 0, 0, 0) :: (33, .ireturn, 0, 0, 0) :: []
def am_c46_0 : AmCd := (0, .aload_n 0, 0, 0, 0) :: (1, .aload_n 0, 0, 0, 0) :: (2, .iload_n 1, 0, 0, 0) :: (3, .iload_n 2, 0, 0, 0) :: (4, .invokevirtual 54, 50, 3, 0) :: (7, .iload_n 3, 0, 0, 0) :: (8, .invokevirtual 57, 51, 3, 0) :: (11, .istore 5, 0, 0, 0) :: (13, .iload 5, 0, 0, 0) :: (15, .ifCond .ge 6, 0, 0, 0) :: (18, .iload 5, 0, 0, 0) :: (20, .ireturn, 0, 0, 0) :: am_c46_21
def am_c47_32 : AmCd := (32, .ireturn, 0, 0, 0) :: []
def am_c47_23 : AmCd := (23, .aload_n 0, 0, 0, 0) :: (24, .getfield 35, 2, 6, 1) :: (27, .iload 4, 0, 0, 0) :: (29, .invokevirtual 38, 62, 2, 0) :: am_c47_32
def am_c47_0 : AmCd := (0, .aload_n 0, 0, 0, 0) :: (1, .aload_n 0, 0, 0, 0) :: (2, .iload_n 1, 0, 0, 0) :: (3, .iload_n 2, 0, 0, 0) :: (4, .invokevirtual 54, 50, 3, 0) :: (7, .iload_n 3, 0, 0, 0) :: (8, .invokevirtual 57, 51, 3, 0) :: (11, .istore 4, 0, 0, 0) :: (13, .iload 4, 0, 0, 0) :: (15, .ifCond .ge 8, 0, 0, 0) :: (18, .iload 4, 0, 0, 0) :: (20, .goto 12, 0, 0, 0) :: am_c47_23
def am_c48_20 : AmCd := (20, .ireturn, 0, 0, 0) :: []
def am_c48_19 : AmCd := (19, .iload_n 2, 0, 0, 0) :: am_c48_20
def am_c48_0 : AmCd := (0, .aload_n 0, 0, 0, 0) :: (1, .getfield 29, 2, 4, 1) :: (4, .iload_n 1, 0, 0, 0) :: (5, .invokevirtual 38, 62, 2, 0) :: (8, .istore_n 2, 0, 0, 0) :: (9, .iload_n 2, 0, 0, 0) :: (10, .iconst (-1), 0, 0, 0) :: (11, .if_icmp .ne 8, 0, 0, 0) :: (14, .bipush (-11), 0, 0, 0) :: (16, .goto 4, 0, 0, 0) :: am_c48_19
def am_c49_36 : AmCd := (36, .ireturn, 0, 0, 0) :: []
def am_c49_34 : AmCd := (34, .iload 4, 0, 0, 0) :: am_c49_36
def am_c49_13 : AmCd := (13, .aload_n 0, 0, 0, 0) :: (14, .getfield 32, 2, 5, 1) :: (17, .iload_n 3, 0, 0, 0) :: (18, .invokevirtual 38, 62, 2, 0) :: (21, .istore 4, 0, 0, 0) :: (23, .iload 4, 0, 0, 0) :: (25, .iconst (-1), 0, 0, 0) :: (26, .if_icmp .ne 8, 0, 0, 0) :: (29, .bipush (-11), 0, 0, 0) :: (31, .goto 5, 0, 0, 0) :: am_c49_34
def am_c49_0 : AmCd := (0, .aload_n 0, 0, 0, 0) :: (1, .iload_n 1, 0, 0, 0) :: (2, .iload_n 2, 0, 0, 0) :: (3, .invokevirtual 54, 50, 3, 0) :: (6, .istore_n 3, 0, 0, 0) :: (7, .iload_n 3, 0, 0, 0) :: (8, .ifCond .ge 5, 0, 0, 0) :: (11, .iload_n 3, 0, 0, 0) :: (12, .ireturn, 0, 0, 0) :: am_c49_13
def am_c50_37 : AmCd := (37, .ireturn, 0, 0, 0) :: []
def am_c50_31 : AmCd := (31, .iload_n 1, 0, 0, 0) :: (32, .bipush 8, 0, 0, 0) :: (34, .imul, 0, 0, 0) :: (35, .iload_n 2, 0, 0, 0) :: (36, .iadd, 0, 0, 0) :: am_c50_37
def am_c50_26 : AmCd := (26, .bipush (-12), 0, 0, 0) :: (28, .goto 9, 0, 0, 0) :: am_c50_31
def am_c50_17 : AmCd := (17, .iload_n 2, 0, 0, 0) :: (18, .ifCond .lt 8, 0, 0, 0) :: (21, .iload_n 2, 0, 0, 0) :: (22, .iload_n 3, 0, 0, 0) :: (23, .if_icmp .lt 8, 0, 0, 0) :: am_c50_26
def am_c50_0 : AmCd := (0, .aload_n 0, 0, 0, 0) :: (1, .getfield 29, 2, 4, 1) :: (4, .iload_n 1, 0, 0, 0) :: (5, .invokevirtual 38, 62, 2, 0) :: (8, .istore_n 3, 0, 0, 0) :: (9, .iload_n 3, 0, 0, 0) :: (10, .iconst (-1), 0, 0, 0) :: (11, .if_icmp .ne 6, 0, 0, 0) :: (14, .bipush (-11), 0, 0, 0) :: (16, .ireturn, 0, 0, 0) :: am_c50_17
def am_c51_43 : AmCd := (43, .ireturn, 0, 0, 0) :: []
def am_c51_37 : AmCd := (37, .iload_n 1, 0, 0, 0) :: (38, .bipush 10, 0, 0, 0) :: (40, .imul, 0, 0, 0) :: (41, .iload_n 2, 0, 0, 0) :: (42, .iadd, 0, 0, 0) :: am_c51_43
def am_c51_32 : AmCd := (32, .bipush (-12), 0, 0, 0) :: (34, .goto 9, 0, 0, 0) :: am_c51_37
def am_c51_23 : AmCd := (23, .iload_n 2, 0, 0, 0) :: (24, .ifCond .lt 8, 0, 0, 0) :: (27, .iload_n 2, 0, 0, 0) :: (28, .iload_n 3, 0, 0, 0) :: (29, .if_icmp .lt 8, 0, 0, 0) :: am_c51_32
def am_c51_6 : AmCd := (6, .aload_n 0, 0, 0, 0) :: (7, .getfield 32, 2, 5, 1) :: (10, .iload_n 1, 0, 0, 0) :: (11, .invokevirtual 38, 62, 2, 0) :: (14, .istore_n 3, 0, 0, 0) :: (15, .iload_n 3, 0, 0, 0) :: (16, .iconst (-1), 0, 0, 0) :: (17, .if_icmp .ne 6, 0, 0, 0) :: (20, .bipush (-11), 0, 0, 0) :: (22, .ireturn, 0, 0, 0) :: am_c51_23
def am_c51_0 : AmCd := (0, .iload_n 1, 0, 0, 0) :: (1, .ifCond .ge 5, 0, 0, 0) :: (4, .iload_n 1, 0, 0, 0) :: (5, .ireturn, 0, 0, 0) :: am_c51_6
def am_c52_108 : AmCd := (108, .iconst 1, 0, 0, 0) :: (109, .ireturn, 0, 0, 0) :: []
def am_c52_65 : AmCd := (65, .iload 8, 0, 0, 0) :: (67, .iload 5, 0, 0, 0) :: (69, .if_icmp .ge 39, 0, 0, 0) :: (72, .aload_n 0, 0, 0, 0) :: (73, .getfield 35, 2, 6, 1) :: (76, .iload 7, 0, 0, 0) :: (78, .bipush 10, 0, 0, 0) :: (80, .imul, 0, 0, 0) :: (81, .iload 8, 0, 0, 0) :: (83, .iadd, 0, 0, 0) :: (84, .aload_n 0, 0, 0, 0) :: (85, .getfield 35, 2, 6, 1) :: (88, .iload 6, 0, 0, 0) :: (90, .bipush 10, 0, 0, 0) :: (92, .imul, 0, 0, 0) :: (93, .iload 8, 0, 0, 0) :: (95, .iadd, 0, 0, 0) :: (96, .invokevirtual 38, 62, 2, 0) :: (99, .invokevirtual 46, 63, 3, 0) :: (102, .iinc 8 1, 0, 0, 0) :: (105, .goto (-40), 0, 0, 0) :: am_c52_108
def am_c52_62 : AmCd := (62, .iconst 0, 0, 0, 0) :: (63, .istore 8, 0, 0, 0) :: am_c52_65
def am_c52_60 : AmCd := (60, .iconst 0, 0, 0, 0) :: (61, .ireturn, 0, 0, 0) :: am_c52_62
def am_c52_0 : AmCd := (0, .aload_n 0, 0, 0, 0) :: (1, .iload_n 1, 0, 0, 0) :: (2, .iload_n 2, 0, 0, 0) :: (3, .invokevirtual 54, 50, 3, 0) :: (6, .istore 6, 0, 0, 0) :: (8, .aload_n 0, 0, 0, 0) :: (9, .iload_n 3, 0, 0, 0) :: (10, .iload 4, 0, 0, 0) :: (12, .invokevirtual 54, 50, 3, 0) :: (15, .istore 7, 0, 0, 0) :: (17, .iload 5, 0, 0, 0) :: (19, .ifCond .lt 41, 0, 0, 0) :: (22, .iload 6, 0, 0, 0) :: (24, .ifCond .lt 36, 0, 0, 0) :: (27, .iload 7, 0, 0, 0) :: (29, .ifCond .lt 31, 0, 0, 0) :: (32, .aload_n 0, 0, 0, 0) :: (33, .getfield 32, 2, 5, 1) :: (36, .iload 6, 0, 0, 0) :: (38, .invokevirtual 38, 62, 2, 0) :: (41, .iload 5, 0, 0, 0) :: (43, .if_icmp .lt 17, 0, 0, 0) :: (46, .aload_n 0, 0, 0, 0) :: (47, .getfield 32, 2, 5, 1) :: (50, .iload 7, 0, 0, 0) :: (52, .invokevirtual 38, 62, 2, 0) :: (55, .iload 5, 0, 0, 0) :: (57, .if_icmp .ge 5, 0, 0, 0) :: am_c52_60
def am_c53_79 : AmCd := (79, .iconst 1, 0, 0, 0) :: (80, .ireturn, 0, 0, 0) :: []
def am_c53_47 : AmCd := (47, .iload 4, 0, 0, 0) :: (49, .aload_n 0, 0, 0, 0) :: (50, .getfield 26, 2, 3, 1) :: (53, .iload_n 1, 0, 0, 0) :: (54, .invokevirtual 38, 62, 2, 0) :: (57, .if_icmp .gt 22, 0, 0, 0) :: (60, .aload_n 0, 0, 0, 0) :: (61, .aload_n 0, 0, 0, 0) :: (62, .iload_n 1, 0, 0, 0) :: (63, .iload 4, 0, 0, 0) :: (65, .invokevirtual 50, 39, 3, 0) :: (68, .iload_n 2, 0, 0, 0) :: (69, .iload_n 3, 0, 0, 0) :: (70, .invokevirtual 60, 54, 4, 0) :: (73, .iinc 4 1, 0, 0, 0) :: (76, .goto (-29), 0, 0, 0) :: am_c53_79
def am_c53_26 : AmCd := (26, .aload_n 0, 0, 0, 0) :: (27, .getfield 20, 2, 1, 1) :: (30, .iload_n 1, 0, 0, 0) :: (31, .iload_n 2, 0, 0, 0) :: (32, .invokevirtual 46, 63, 3, 0) :: (35, .aload_n 0, 0, 0, 0) :: (36, .getfield 23, 2, 2, 1) :: (39, .iload_n 1, 0, 0, 0) :: (40, .iload_n 3, 0, 0, 0) :: (41, .invokevirtual 46, 63, 3, 0) :: (44, .iconst 1, 0, 0, 0) :: (45, .istore 4, 0, 0, 0) :: am_c53_47
def am_c53_23 : AmCd := (23, .bipush (-13), 0, 0, 0) :: (25, .ireturn, 0, 0, 0) :: am_c53_26
def am_c53_15 : AmCd := (15, .iload_n 2, 0, 0, 0) :: (16, .ifCond .lt 7, 0, 0, 0) :: (19, .iload_n 3, 0, 0, 0) :: (20, .ifCond .ge 6, 0, 0, 0) :: am_c53_23
def am_c53_12 : AmCd := (12, .bipush (-14), 0, 0, 0) :: (14, .ireturn, 0, 0, 0) :: am_c53_15
def am_c53_0 : AmCd := (0, .iload_n 2, 0, 0, 0) :: (1, .bipush 8, 0, 0, 0) :: (3, .if_icmp .gt 9, 0, 0, 0) :: (6, .iload_n 3, 0, 0, 0) :: (7, .bipush 10, 0, 0, 0) :: (9, .if_icmp .le 6, 0, 0, 0) :: am_c53_12
def am_c54_73 : AmCd := (73, .return_, 0, 0, 0) :: []
def am_c54_23 : AmCd := (23, .iload 4, 0, 0, 0) :: (25, .aload_n 0, 0, 0, 0) :: (26, .getfield 29, 2, 4, 1) :: (29, .iload_n 1, 0, 0, 0) :: (30, .invokevirtual 38, 62, 2, 0) :: (33, .if_icmp .ge 40, 0, 0, 0) :: (36, .iload_n 1, 0, 0, 0) :: (37, .bipush 8, 0, 0, 0) :: (39, .imul, 0, 0, 0) :: (40, .iload 4, 0, 0, 0) :: (42, .iadd, 0, 0, 0) :: (43, .istore 5, 0, 0, 0) :: (45, .aload_n 0, 0, 0, 0) :: (46, .getfield 32, 2, 5, 1) :: (49, .iload 5, 0, 0, 0) :: (51, .aload_n 0, 0, 0, 0) :: (52, .getfield 32, 2, 5, 1) :: (55, .iload 5, 0, 0, 0) :: (57, .invokevirtual 38, 62, 2, 0) :: (60, .iload_n 3, 0, 0, 0) :: (61, .invokestatic 64, 297, 2, 1) :: (64, .invokevirtual 46, 63, 3, 0) :: (67, .iinc 4 1, 0, 0, 0) :: (70, .goto (-47), 0, 0, 0) :: am_c54_73
def am_c54_0 : AmCd := (0, .aload_n 0, 0, 0, 0) :: (1, .getfield 29, 2, 4, 1) :: (4, .iload_n 1, 0, 0, 0) :: (5, .aload_n 0, 0, 0, 0) :: (6, .getfield 29, 2, 4, 1) :: (9, .iload_n 1, 0, 0, 0) :: (10, .invokevirtual 38, 62, 2, 0) :: (13, .iload_n 2, 0, 0, 0) :: (14, .invokestatic 64, 297, 2, 1) :: (17, .invokevirtual 46, 63, 3, 0) :: (20, .iconst 0, 0, 0, 0) :: (21, .istore 4, 0, 0, 0) :: am_c54_23
def am_c55_55 : AmCd := (55, .aload_n 0, 0, 0, 0) :: (56, .getfield 26, 2, 3, 1) :: (59, .iload_n 1, 0, 0, 0) :: (60, .iload_n 3, 0, 0, 0) :: (61, .iload 4, 0, 0, 0) :: (63, .iadd, 0, 0, 0) :: (64, .invokevirtual 46, 63, 3, 0) :: (67, .iload_n 3, 0, 0, 0) :: (68, .iload 4, 0, 0, 0) :: (70, .iadd, 0, 0, 0) :: (71, .ireturn, 0, 0, 0) :: []
def am_c55_22 : AmCd := (22, .iload 5, 0, 0, 0) :: (24, .iload 4, 0, 0, 0) :: (26, .if_icmp .gt 29, 0, 0, 0) :: (29, .aload_n 0, 0, 0, 0) :: (30, .aload_n 0, 0, 0, 0) :: (31, .iload_n 2, 0, 0, 0) :: (32, .iload 5, 0, 0, 0) :: (34, .invokevirtual 50, 39, 3, 0) :: (37, .aload_n 0, 0, 0, 0) :: (38, .iload_n 1, 0, 0, 0) :: (39, .iload_n 3, 0, 0, 0) :: (40, .iload 5, 0, 0, 0) :: (42, .iadd, 0, 0, 0) :: (43, .invokevirtual 50, 39, 3, 0) :: (46, .invokevirtual 69, 56, 3, 0) :: (49, .iinc 5 1, 0, 0, 0) :: (52, .goto (-30), 0, 0, 0) :: am_c55_55
def am_c55_0 : AmCd := (0, .aload_n 0, 0, 0, 0) :: (1, .getfield 26, 2, 3, 1) :: (4, .iload_n 1, 0, 0, 0) :: (5, .invokevirtual 38, 62, 2, 0) :: (8, .istore_n 3, 0, 0, 0) :: (9, .aload_n 0, 0, 0, 0) :: (10, .getfield 26, 2, 3, 1) :: (13, .iload_n 2, 0, 0, 0) :: (14, .invokevirtual 38, 62, 2, 0) :: (17, .istore 4, 0, 0, 0) :: (19, .iconst 1, 0, 0, 0) :: (20, .istore 5, 0, 0, 0) :: am_c55_22
def am_c56_123 : AmCd := (123, .return_, 0, 0, 0) :: []
def am_c56_117 : AmCd := (117, .iinc 3 1, 0, 0, 0) :: (120, .goto (-102), 0, 0, 0) :: am_c56_123
def am_c56_67 : AmCd := (67, .iload 6, 0, 0, 0) :: (69, .aload_n 0, 0, 0, 0) :: (70, .getfield 32, 2, 5, 1) :: (73, .iload 4, 0, 0, 0) :: (75, .invokevirtual 38, 62, 2, 0) :: (78, .if_icmp .ge 39, 0, 0, 0) :: (81, .aload_n 0, 0, 0, 0) :: (82, .getfield 35, 2, 6, 1) :: (85, .iload 5, 0, 0, 0) :: (87, .bipush 10, 0, 0, 0) :: (89, .imul, 0, 0, 0) :: (90, .iload 6, 0, 0, 0) :: (92, .iadd, 0, 0, 0) :: (93, .aload_n 0, 0, 0, 0) :: (94, .getfield 35, 2, 6, 1) :: (97, .iload 4, 0, 0, 0) :: (99, .bipush 10, 0, 0, 0) :: (101, .imul, 0, 0, 0) :: (102, .iload 6, 0, 0, 0) :: (104, .iadd, 0, 0, 0) :: (105, .invokevirtual 38, 62, 2, 0) :: (108, .invokevirtual 72, 64, 3, 0) :: (111, .iinc 6 1, 0, 0, 0) :: (114, .goto (-47), 0, 0, 0) :: am_c56_117
def am_c56_18 : AmCd := (18, .iload_n 3, 0, 0, 0) :: (19, .aload_n 0, 0, 0, 0) :: (20, .getfield 29, 2, 4, 1) :: (23, .iload_n 1, 0, 0, 0) :: (24, .invokevirtual 38, 62, 2, 0) :: (27, .if_icmp .ge 96, 0, 0, 0) :: (30, .iload_n 1, 0, 0, 0) :: (31, .bipush 8, 0, 0, 0) :: (33, .imul, 0, 0, 0) :: (34, .iload_n 3, 0, 0, 0) :: (35, .iadd, 0, 0, 0) :: (36, .istore 4, 0, 0, 0) :: (38, .iload_n 2, 0, 0, 0) :: (39, .bipush 8, 0, 0, 0) :: (41, .imul, 0, 0, 0) :: (42, .iload_n 3, 0, 0, 0) :: (43, .iadd, 0, 0, 0) :: (44, .istore 5, 0, 0, 0) :: (46, .aload_n 0, 0, 0, 0) :: (47, .getfield 32, 2, 5, 1) :: (50, .iload 5, 0, 0, 0) :: (52, .aload_n 0, 0, 0, 0) :: (53, .getfield 32, 2, 5, 1) :: (56, .iload 4, 0, 0, 0) :: (58, .invokevirtual 38, 62, 2, 0) :: (61, .invokevirtual 72, 64, 3, 0) :: (64, .iconst 0, 0, 0, 0) :: (65, .istore 6, 0, 0, 0) :: am_c56_67
def am_c56_0 : AmCd := (0, .aload_n 0, 0, 0, 0) :: (1, .getfield 29, 2, 4, 1) :: (4, .iload_n 2, 0, 0, 0) :: (5, .aload_n 0, 0, 0, 0) :: (6, .getfield 29, 2, 4, 1) :: (9, .iload_n 1, 0, 0, 0) :: (10, .invokevirtual 38, 62, 2, 0) :: (13, .invokevirtual 72, 64, 3, 0) :: (16, .iconst 0, 0, 0, 0) :: (17, .istore_n 3, 0, 0, 0) :: am_c56_18
def am_c57_0 : AmCd := (0, .aload_n 0, 0, 0, 0) :: (1, .invokespecial 1, 0, 0, 4) :: (4, .aload_n 0, 0, 0, 0) :: (5, .sipush 640, 0, 0, 0) :: (8, .anewarray 9, 4, 0, 0) :: (11, .putfield 11, 3, 0, 1) :: (14, .aload_n 0, 0, 0, 0) :: (15, .sipush 640, 0, 0, 0) :: (18, .newarray .int, 0, 0, 0) :: (20, .putfield 15, 3, 1, 1) :: (23, .aload_n 0, 0, 0, 0) :: (24, .sipush 640, 0, 0, 0) :: (27, .newarray .int, 0, 0, 0) :: (29, .putfield 19, 3, 2, 1) :: (32, .aload_n 0, 0, 0, 0) :: (33, .iconst 0, 0, 0, 0) :: (34, .putfield 22, 3, 3, 0) :: (37, .aload_n 0, 0, 0, 0) :: (38, .iconst 0, 0, 0, 0) :: (39, .putfield 26, 3, 4, 2) :: (42, .return_, 0, 0, 0) :: []
def am_c58_0 : AmCd := (0, .aload_n 0, 0, 0, 0) :: (1, .iconst 0, 0, 0, 0) :: (2, .putfield 22, 3, 3, 0) :: (5, .aload_n 0, 0, 0, 0) :: (6, .iconst 1, 0, 0, 0) :: (7, .putfield 26, 3, 4, 2) :: (10, .return_, 0, 0, 0) :: []
def am_c59_50 : AmCd := (50, .return_, 0, 0, 0) :: []
def am_c59_0 : AmCd := (0, .aload_n 0, 0, 0, 0) :: (1, .getfield 22, 3, 3, 0) :: (4, .sipush 640, 0, 0, 0) :: (7, .if_icmp .ge 43, 0, 0, 0) :: (10, .aload_n 0, 0, 0, 0) :: (11, .getfield 11, 3, 0, 1) :: (14, .aload_n 0, 0, 0, 0) :: (15, .getfield 22, 3, 3, 0) :: (18, .aload_n 1, 0, 0, 0) :: (19, .aastore, 4, 0, 0) :: (20, .aload_n 0, 0, 0, 0) :: (21, .getfield 15, 3, 1, 1) :: (24, .aload_n 0, 0, 0, 0) :: (25, .getfield 22, 3, 3, 0) :: (28, .iload_n 2, 0, 0, 0) :: (29, .iastore, 0, 0, 0) :: (30, .aload_n 0, 0, 0, 0) :: (31, .getfield 19, 3, 2, 1) :: (34, .aload_n 0, 0, 0, 0) :: (35, .getfield 22, 3, 3, 0) :: (38, .iload_n 3, 0, 0, 0) :: (39, .iastore, 0, 0, 0) :: (40, .aload_n 0, 0, 0, 0) :: (41, .dup, 0, 0, 0) :: (42, .getfield 22, 3, 3, 0) :: (45, .iconst 1, 0, 0, 0) :: (46, .iadd, 0, 0, 0) :: (47, .putfield 22, 3, 3, 0) :: am_c59_50
def am_c60_59 : AmCd := (59, .aload_n 0, 0, 0, 0) :: (60, .iconst 0, 0, 0, 0) :: (61, .putfield 22, 3, 3, 0) :: (64, .aload_n 0, 0, 0, 0) :: (65, .iconst 0, 0, 0, 0) :: (66, .putfield 26, 3, 4, 2) :: (69, .iconst 1, 0, 0, 0) :: (70, .ireturn, 0, 0, 0) :: []
def am_c60_53 : AmCd := (53, .iinc 1 (-1), 0, 0, 0) :: (56, .goto (-34), 0, 0, 0) :: am_c60_59
def am_c60_22 : AmCd := (22, .iload_n 1, 0, 0, 0) :: (23, .ifCond .lt 36, 0, 0, 0) :: (26, .aload_n 0, 0, 0, 0) :: (27, .getfield 11, 3, 0, 1) :: (30, .iload_n 1, 0, 0, 0) :: (31, .aaload, 0, 0, 0) :: (32, .astore_n 2, 0, 0, 0) :: (33, .aload_n 2, 0, 0, 0) :: (34, .ifnull 19, 0, 0, 0) :: (37, .aload_n 2, 0, 0, 0) :: (38, .aload_n 0, 0, 0, 0) :: (39, .getfield 15, 3, 1, 1) :: (42, .iload_n 1, 0, 0, 0) :: (43, .iaload, 0, 0, 0) :: (44, .aload_n 0, 0, 0, 0) :: (45, .getfield 19, 3, 2, 1) :: (48, .iload_n 1, 0, 0, 0) :: (49, .iaload, 0, 0, 0) :: (50, .invokevirtual 36, 64, 3, 0) :: am_c60_53
def am_c60_9 : AmCd := (9, .aload_n 0, 0, 0, 0) :: (10, .getfield 22, 3, 3, 0) :: (13, .sipush 640, 0, 0, 0) :: (16, .invokestatic 30, 297, 2, 1) :: (19, .iconst 1, 0, 0, 0) :: (20, .isub, 0, 0, 0) :: (21, .istore_n 1, 0, 0, 0) :: am_c60_22
def am_c60_0 : AmCd := (0, .aload_n 0, 0, 0, 0) :: (1, .getfield 26, 3, 4, 2) :: (4, .ifCond .ne 5, 0, 0, 0) :: (7, .iconst 0, 0, 0, 0) :: (8, .ireturn, 0, 0, 0) :: am_c60_9
def am_c61_0 : AmCd := (0, .aload_n 0, 0, 0, 0) :: (1, .invokespecial 1, 0, 0, 4) :: (4, .aload_n 0, 0, 0, 0) :: (5, .aload_n 1, 0, 0, 0) :: (6, .putfield 7, 4, 0, 1) :: (9, .aload_n 0, 0, 0, 0) :: (10, .iload_n 2, 0, 0, 0) :: (11, .iconst 0, 0, 0, 0) :: (12, .invokestatic 13, 296, 2, 1) :: (15, .newarray .int, 0, 0, 0) :: (17, .putfield 19, 4, 1, 1) :: (20, .return_, 0, 0, 0) :: []
def am_c62_23 : AmCd := (23, .ireturn, 0, 0, 0) :: []
def am_c62_22 : AmCd := (22, .iconst 0, 0, 0, 0) :: am_c62_23
def am_c62_0 : AmCd := (0, .iload_n 1, 0, 0, 0) :: (1, .ifCond .lt 21, 0, 0, 0) :: (4, .iload_n 1, 0, 0, 0) :: (5, .aload_n 0, 0, 0, 0) :: (6, .getfield 19, 4, 1, 1) :: (9, .arraylength, 0, 0, 0) :: (10, .if_icmp .ge 12, 0, 0, 0) :: (13, .aload_n 0, 0, 0, 0) :: (14, .getfield 19, 4, 1, 1) :: (17, .iload_n 1, 0, 0, 0) :: (18, .iaload, 0, 0, 0) :: (19, .goto 4, 0, 0, 0) :: am_c62_22
def am_c63_45 : AmCd := (45, .return_, 0, 0, 0) :: []
def am_c63_0 : AmCd := (0, .iload_n 1, 0, 0, 0) :: (1, .ifCond .lt 44, 0, 0, 0) :: (4, .iload_n 1, 0, 0, 0) :: (5, .aload_n 0, 0, 0, 0) :: (6, .getfield 19, 4, 1, 1) :: (9, .arraylength, 0, 0, 0) :: (10, .if_icmp .ge 35, 0, 0, 0) :: (13, .aload_n 0, 0, 0, 0) :: (14, .getfield 19, 4, 1, 1) :: (17, .iload_n 1, 0, 0, 0) :: (18, .iaload, 0, 0, 0) :: (19, .iload_n 2, 0, 0, 0) :: (20, .if_icmp .eq 25, 0, 0, 0) :: (23, .aload_n 0, 0, 0, 0) :: (24, .getfield 7, 4, 0, 1) :: (27, .aload_n 0, 0, 0, 0) :: (28, .iload_n 1, 0, 0, 0) :: (29, .aload_n 0, 0, 0, 0) :: (30, .getfield 19, 4, 1, 1) :: (33, .iload_n 1, 0, 0, 0) :: (34, .iaload, 0, 0, 0) :: (35, .invokevirtual 23, 59, 4, 0) :: (38, .aload_n 0, 0, 0, 0) :: (39, .getfield 19, 4, 1, 1) :: (42, .iload_n 1, 0, 0, 0) :: (43, .iload_n 2, 0, 0, 0) :: (44, .iastore, 0, 0, 0) :: am_c63_45
def am_c64_20 : AmCd := (20, .return_, 0, 0, 0) :: []
def am_c64_0 : AmCd := (0, .iload_n 1, 0, 0, 0) :: (1, .ifCond .lt 19, 0, 0, 0) :: (4, .iload_n 1, 0, 0, 0) :: (5, .aload_n 0, 0, 0, 0) :: (6, .getfield 19, 4, 1, 1) :: (9, .arraylength, 0, 0, 0) :: (10, .if_icmp .ge 10, 0, 0, 0) :: (13, .aload_n 0, 0, 0, 0) :: (14, .getfield 19, 4, 1, 1) :: (17, .iload_n 1, 0, 0, 0) :: (18, .iload_n 2, 0, 0, 0) :: (19, .iastore, 0, 0, 0) :: am_c64_20
def am_c65_0 : AmCd := (0, .aload_n 0, 0, 0, 0) :: (1, .invokespecial 3, 0, 0, 4) :: (4, .aload_n 0, 0, 0, 0) :: (5, .iconst 2, 0, 0, 0) :: (6, .newarray .int, 0, 0, 0) :: (8, .putfield 9, 5, 1, 1) :: (11, .aload_n 0, 0, 0, 0) :: (12, .iconst 2, 0, 0, 0) :: (13, .newarray .int, 0, 0, 0) :: (15, .putfield 15, 5, 2, 1) :: (18, .aload_n 0, 0, 0, 0) :: (19, .bipush 64, 0, 0, 0) :: (21, .newarray .int, 0, 0, 0) :: (23, .putfield 18, 5, 3, 1) :: (26, .aload_n 0, 0, 0, 0) :: (27, .bipush 64, 0, 0, 0) :: (29, .newarray .int, 0, 0, 0) :: (31, .putfield 21, 5, 4, 1) :: (34, .aload_n 0, 0, 0, 0) :: (35, .bipush 64, 0, 0, 0) :: (37, .newarray .int, 0, 0, 0) :: (39, .putfield 24, 5, 5, 1) :: (42, .aload_n 0, 0, 0, 0) :: (43, .aload_n 1, 0, 0, 0) :: (44, .putfield 27, 5, 0, 1) :: (47, .return_, 0, 0, 0) :: []
def am_c66_0 : AmCd := (0, .iload_n 0, 0, 0, 0) :: (1, .iconst 2, 0, 0, 0) :: (2, .iand, 0, 0, 0) :: (3, .iconst 2, 0, 0, 0) :: (4, .idiv, 0, 0, 0) :: (5, .ireturn, 0, 0, 0) :: []
def am_c67_0 : AmCd := (0, .iload_n 0, 0, 0, 0) :: (1, .iconst 1, 0, 0, 0) :: (2, .iand, 0, 0, 0) :: (3, .ireturn, 0, 0, 0) :: []
def am_c68_0 : AmCd := (0, .iload_n 0, 0, 0, 0) :: (1, .iconst 4, 0, 0, 0) :: (2, .idiv, 0, 0, 0) :: (3, .bipush 8, 0, 0, 0) :: (5, .idiv, 0, 0, 0) :: (6, .ireturn, 0, 0, 0) :: []
def am_c69_0 : AmCd := (0, .iload_n 0, 0, 0, 0) :: (1, .iconst 4, 0, 0, 0) :: (2, .idiv, 0, 0, 0) :: (3, .bipush 8, 0, 0, 0) :: (5, .irem, 0, 0, 0) :: (6, .ireturn, 0, 0, 0) :: []
def am_c70_63 : AmCd := (63, .return_, 0, 0, 0) :: []
def am_c70_30 : AmCd := (30, .iload_n 3, 0, 0, 0) :: (31, .bipush 64, 0, 0, 0) :: (33, .if_icmp .ge 30, 0, 0, 0) :: (36, .aload_n 0, 0, 0, 0) :: (37, .getfield 18, 5, 3, 1) :: (40, .iload_n 3, 0, 0, 0) :: (41, .iload_n 3, 0, 0, 0) :: (42, .iastore, 0, 0, 0) :: (43, .aload_n 0, 0, 0, 0) :: (44, .getfield 21, 5, 4, 1) :: (47, .iload_n 3, 0, 0, 0) :: (48, .iconst (-1), 0, 0, 0) :: (49, .iastore, 0, 0, 0) :: (50, .aload_n 0, 0, 0, 0) :: (51, .getfield 24, 5, 5, 1) :: (54, .iload_n 3, 0, 0, 0) :: (55, .iconst 0, 0, 0, 0) :: (56, .iastore, 0, 0, 0) :: (57, .iinc 3 1, 0, 0, 0) :: (60, .goto (-30), 0, 0, 0) :: am_c70_63
def am_c70_0 : AmCd := (0, .aload_n 0, 0, 0, 0) :: (1, .getfield 9, 5, 1, 1) :: (4, .iconst 0, 0, 0, 0) :: (5, .iconst 0, 0, 0, 0) :: (6, .iastore, 0, 0, 0) :: (7, .aload_n 0, 0, 0, 0) :: (8, .getfield 9, 5, 1, 1) :: (11, .iconst 1, 0, 0, 0) :: (12, .iconst 0, 0, 0, 0) :: (13, .iastore, 0, 0, 0) :: (14, .aload_n 0, 0, 0, 0) :: (15, .getfield 15, 5, 2, 1) :: (18, .iconst 0, 0, 0, 0) :: (19, .iload_n 1, 0, 0, 0) :: (20, .iastore, 0, 0, 0) :: (21, .aload_n 0, 0, 0, 0) :: (22, .getfield 15, 5, 2, 1) :: (25, .iconst 1, 0, 0, 0) :: (26, .iload_n 2, 0, 0, 0) :: (27, .iastore, 0, 0, 0) :: (28, .iconst 0, 0, 0, 0) :: (29, .istore_n 3, 0, 0, 0) :: am_c70_30
def am_c71_25 : AmCd := (25, .ireturn, 0, 0, 0) :: []
def am_c71_24 : AmCd := (24, .iconst 0, 0, 0, 0) :: am_c71_25
def am_c71_0 : AmCd := (0, .aload_n 0, 0, 0, 0) :: (1, .getfield 15, 5, 2, 1) :: (4, .iconst 0, 0, 0, 0) :: (5, .iaload, 0, 0, 0) :: (6, .iconst 1, 0, 0, 0) :: (7, .if_icmp .ne 17, 0, 0, 0) :: (10, .aload_n 0, 0, 0, 0) :: (11, .getfield 15, 5, 2, 1) :: (14, .iconst 1, 0, 0, 0) :: (15, .iaload, 0, 0, 0) :: (16, .iconst 1, 0, 0, 0) :: (17, .if_icmp .ne 7, 0, 0, 0) :: (20, .iconst 1, 0, 0, 0) :: (21, .goto 4, 0, 0, 0) :: am_c71_24
def am_c72_48 : AmCd := (48, .aload_n 0, 0, 0, 0) :: (49, .iload_n 1, 0, 0, 0) :: (50, .iconst 0, 0, 0, 0) :: (51, .iload_n 2, 0, 0, 0) :: (52, .invokevirtual 45, 76, 4, 0) :: (55, .ireturn, 0, 0, 0) :: []
def am_c72_24 : AmCd := (24, .iload_n 3, 0, 0, 0) :: (25, .iload_n 2, 0, 0, 0) :: (26, .if_icmp .ge 22, 0, 0, 0) :: (29, .aload_n 0, 0, 0, 0) :: (30, .iload_n 1, 0, 0, 0) :: (31, .iload_n 2, 0, 0, 0) :: (32, .iload_n 3, 0, 0, 0) :: (33, .iadd, 0, 0, 0) :: (34, .iload_n 2, 0, 0, 0) :: (35, .iconst 1, 0, 0, 0) :: (36, .isub, 0, 0, 0) :: (37, .iload_n 3, 0, 0, 0) :: (38, .isub, 0, 0, 0) :: (39, .invokevirtual 41, 77, 4, 0) :: (42, .iinc 3 1, 0, 0, 0) :: (45, .goto (-21), 0, 0, 0) :: am_c72_48
def am_c72_22 : AmCd := (22, .iconst 0, 0, 0, 0) :: (23, .istore_n 3, 0, 0, 0) :: am_c72_24
def am_c72_0 : AmCd := (0, .aload_n 0, 0, 0, 0) :: (1, .getfield 27, 5, 0, 1) :: (4, .iconst 2, 0, 0, 0) :: (5, .invokevirtual 31, 131, 2, 0) :: (8, .aload_n 0, 0, 0, 0) :: (9, .iload_n 1, 0, 0, 0) :: (10, .iconst 2, 0, 0, 0) :: (11, .invokevirtual 37, 75, 3, 0) :: (14, .istore_n 2, 0, 0, 0) :: (15, .iload_n 2, 0, 0, 0) :: (16, .ifCond .ge 6, 0, 0, 0) :: (19, .bipush (-17), 0, 0, 0) :: (21, .ireturn, 0, 0, 0) :: am_c72_22
def am_c73_78 : AmCd := (78, .aload_n 0, 0, 0, 0) :: (79, .iload_n 1, 0, 0, 0) :: (80, .iload_n 2, 0, 0, 0) :: (81, .iload_n 2, 0, 0, 0) :: (82, .invokevirtual 45, 76, 4, 0) :: (85, .ireturn, 0, 0, 0) :: []
def am_c73_54 : AmCd := (54, .iload_n 3, 0, 0, 0) :: (55, .iload_n 2, 0, 0, 0) :: (56, .if_icmp .ge 22, 0, 0, 0) :: (59, .aload_n 0, 0, 0, 0) :: (60, .iload_n 1, 0, 0, 0) :: (61, .iload_n 2, 0, 0, 0) :: (62, .iconst 1, 0, 0, 0) :: (63, .isub, 0, 0, 0) :: (64, .iload_n 3, 0, 0, 0) :: (65, .isub, 0, 0, 0) :: (66, .iload_n 2, 0, 0, 0) :: (67, .iload_n 3, 0, 0, 0) :: (68, .iadd, 0, 0, 0) :: (69, .invokevirtual 41, 77, 4, 0) :: (72, .iinc 3 1, 0, 0, 0) :: (75, .goto (-21), 0, 0, 0) :: am_c73_78
def am_c73_52 : AmCd := (52, .iconst 0, 0, 0, 0) :: (53, .istore_n 3, 0, 0, 0) :: am_c73_54
def am_c73_24 : AmCd := (24, .iload_n 3, 0, 0, 0) :: (25, .iload_n 2, 0, 0, 0) :: (26, .if_icmp .ge 26, 0, 0, 0) :: (29, .aload_n 0, 0, 0, 0) :: (30, .iload_n 1, 0, 0, 0) :: (31, .iconst 2, 0, 0, 0) :: (32, .iload_n 2, 0, 0, 0) :: (33, .imul, 0, 0, 0) :: (34, .iload_n 3, 0, 0, 0) :: (35, .iadd, 0, 0, 0) :: (36, .iconst 2, 0, 0, 0) :: (37, .iload_n 2, 0, 0, 0) :: (38, .imul, 0, 0, 0) :: (39, .iconst 1, 0, 0, 0) :: (40, .isub, 0, 0, 0) :: (41, .iload_n 3, 0, 0, 0) :: (42, .isub, 0, 0, 0) :: (43, .invokevirtual 41, 77, 4, 0) :: (46, .iinc 3 1, 0, 0, 0) :: (49, .goto (-25), 0, 0, 0) :: am_c73_52
def am_c73_22 : AmCd := (22, .iconst 0, 0, 0, 0) :: (23, .istore_n 3, 0, 0, 0) :: am_c73_24
def am_c73_0 : AmCd := (0, .aload_n 0, 0, 0, 0) :: (1, .getfield 27, 5, 0, 1) :: (4, .iconst 3, 0, 0, 0) :: (5, .invokevirtual 31, 131, 2, 0) :: (8, .aload_n 0, 0, 0, 0) :: (9, .iload_n 1, 0, 0, 0) :: (10, .iconst 3, 0, 0, 0) :: (11, .invokevirtual 37, 75, 3, 0) :: (14, .istore_n 2, 0, 0, 0) :: (15, .iload_n 2, 0, 0, 0) :: (16, .ifCond .ge 6, 0, 0, 0) :: (19, .bipush (-17), 0, 0, 0) :: (21, .ireturn, 0, 0, 0) :: am_c73_22
def am_c74_65 : AmCd := (65, .aload_n 0, 0, 0, 0) :: (66, .iload_n 1, 0, 0, 0) :: (67, .iload_n 2, 0, 0, 0) :: (68, .iconst 2, 0, 0, 0) :: (69, .iload_n 2, 0, 0, 0) :: (70, .imul, 0, 0, 0) :: (71, .invokevirtual 45, 76, 4, 0) :: (74, .ireturn, 0, 0, 0) :: []
def am_c74_24 : AmCd := (24, .iload_n 3, 0, 0, 0) :: (25, .iload_n 2, 0, 0, 0) :: (26, .if_icmp .ge 39, 0, 0, 0) :: (29, .aload_n 0, 0, 0, 0) :: (30, .iload_n 1, 0, 0, 0) :: (31, .iload_n 2, 0, 0, 0) :: (32, .iconst 1, 0, 0, 0) :: (33, .isub, 0, 0, 0) :: (34, .iload_n 3, 0, 0, 0) :: (35, .isub, 0, 0, 0) :: (36, .iload_n 2, 0, 0, 0) :: (37, .iload_n 3, 0, 0, 0) :: (38, .iadd, 0, 0, 0) :: (39, .invokevirtual 41, 77, 4, 0) :: (42, .aload_n 0, 0, 0, 0) :: (43, .iload_n 1, 0, 0, 0) :: (44, .iconst 3, 0, 0, 0) :: (45, .iload_n 2, 0, 0, 0) :: (46, .imul, 0, 0, 0) :: (47, .iload_n 3, 0, 0, 0) :: (48, .iadd, 0, 0, 0) :: (49, .iconst 3, 0, 0, 0) :: (50, .iload_n 2, 0, 0, 0) :: (51, .imul, 0, 0, 0) :: (52, .iconst 1, 0, 0, 0) :: (53, .isub, 0, 0, 0) :: (54, .iload_n 3, 0, 0, 0) :: (55, .isub, 0, 0, 0) :: (56, .invokevirtual 41, 77, 4, 0) :: (59, .iinc 3 1, 0, 0, 0) :: (62, .goto (-38), 0, 0, 0) :: am_c74_65
def am_c74_22 : AmCd := (22, .iconst 0, 0, 0, 0) :: (23, .istore_n 3, 0, 0, 0) :: am_c74_24
def am_c74_0 : AmCd := (0, .aload_n 0, 0, 0, 0) :: (1, .getfield 27, 5, 0, 1) :: (4, .iconst 4, 0, 0, 0) :: (5, .invokevirtual 31, 131, 2, 0) :: (8, .aload_n 0, 0, 0, 0) :: (9, .iload_n 1, 0, 0, 0) :: (10, .iconst 4, 0, 0, 0) :: (11, .invokevirtual 37, 75, 3, 0) :: (14, .istore_n 2, 0, 0, 0) :: (15, .iload_n 2, 0, 0, 0) :: (16, .ifCond .ge 6, 0, 0, 0) :: (19, .bipush (-17), 0, 0, 0) :: (21, .ireturn, 0, 0, 0) :: am_c74_22
def am_c75_34 : AmCd := (34, .ireturn, 0, 0, 0) :: []
def am_c75_31 : AmCd := (31, .iload_n 3, 0, 0, 0) :: (32, .iload_n 2, 0, 0, 0) :: (33, .idiv, 0, 0, 0) :: am_c75_34
def am_c75_26 : AmCd := (26, .bipush (-17), 0, 0, 0) :: (28, .goto 6, 0, 0, 0) :: am_c75_31
def am_c75_13 : AmCd := (13, .iaload, 0, 0, 0) :: (14, .istore_n 3, 0, 0, 0) :: (15, .iload_n 2, 0, 0, 0) :: (16, .iconst 1, 0, 0, 0) :: (17, .if_icmp .lt 9, 0, 0, 0) :: (20, .iload_n 3, 0, 0, 0) :: (21, .iload_n 2, 0, 0, 0) :: (22, .irem, 0, 0, 0) :: (23, .ifCond .eq 8, 0, 0, 0) :: am_c75_26
def am_c75_12 : AmCd := (12, .iconst 1, 0, 0, 0) :: am_c75_13
def am_c75_0 : AmCd := (0, .aload_n 0, 0, 0, 0) :: (1, .getfield 15, 5, 2, 1) :: (4, .iload_n 1, 0, 0, 0) :: (5, .ifCond .ne 7, 0, 0, 0) :: (8, .iconst 0, 0, 0, 0) :: (9, .goto 4, 0, 0, 0) :: am_c75_12
def am_c76_9 : AmCd := (9, .istore 4, 0, 0, 0) :: (11, .aload_n 0, 0, 0, 0) :: (12, .getfield 9, 5, 1, 1) :: (15, .iload 4, 0, 0, 0) :: (17, .dup2, 0, 0, 0) :: (18, .iaload, 0, 0, 0) :: (19, .iload_n 2, 0, 0, 0) :: (20, .iadd, 0, 0, 0) :: (21, .iastore, 0, 0, 0) :: (22, .aload_n 0, 0, 0, 0) :: (23, .getfield 15, 5, 2, 1) :: (26, .iload 4, 0, 0, 0) :: (28, .iload_n 3, 0, 0, 0) :: (29, .iastore, 0, 0, 0) :: (30, .iconst 1, 0, 0, 0) :: (31, .ireturn, 0, 0, 0) :: []
def am_c76_8 : AmCd := (8, .iconst 1, 0, 0, 0) :: am_c76_9
def am_c76_0 : AmCd := (0, .iload_n 1, 0, 0, 0) :: (1, .ifCond .ne 7, 0, 0, 0) :: (4, .iconst 0, 0, 0, 0) :: (5, .goto 4, 0, 0, 0) :: am_c76_8
def am_c77_189 : AmCd := (189, .return_, 0, 0, 0) :: []
def am_c77_183 : AmCd := (183, .iinc 7 1, 0, 0, 0) :: (186, .goto (-143), 0, 0, 0) :: am_c77_189
def am_c77_101 : AmCd := (101, .iload 10, 0, 0, 0) :: (103, .bipush 64, 0, 0, 0) :: (105, .if_icmp .ge 78, 0, 0, 0) :: (108, .aload_n 0, 0, 0, 0) :: (109, .getfield 18, 5, 3, 1) :: (112, .iload 8, 0, 0, 0) :: (114, .iaload, 0, 0, 0) :: (115, .iconst (-1), 0, 0, 0) :: (116, .if_icmp .eq 67, 0, 0, 0) :: (119, .aload_n 0, 0, 0, 0) :: (120, .getfield 18, 5, 3, 1) :: (123, .iload 8, 0, 0, 0) :: (125, .iaload, 0, 0, 0) :: (126, .istore 11, 0, 0, 0) :: (128, .aload_n 0, 0, 0, 0) :: (129, .getfield 18, 5, 3, 1) :: (132, .iload 8, 0, 0, 0) :: (134, .aload_n 0, 0, 0, 0) :: (135, .getfield 21, 5, 4, 1) :: (138, .iload 11, 0, 0, 0) :: (140, .iaload, 0, 0, 0) :: (141, .iastore, 0, 0, 0) :: (142, .aload_n 0, 0, 0, 0) :: (143, .getfield 21, 5, 4, 1) :: (146, .iload 11, 0, 0, 0) :: (148, .aload_n 0, 0, 0, 0) :: (149, .getfield 18, 5, 3, 1) :: (152, .iload 9, 0, 0, 0) :: (154, .iaload, 0, 0, 0) :: (155, .iastore, 0, 0, 0) :: (156, .aload_n 0, 0, 0, 0) :: (157, .getfield 18, 5, 3, 1) :: (160, .iload 9, 0, 0, 0) :: (162, .iload 11, 0, 0, 0) :: (164, .iastore, 0, 0, 0) :: (165, .aload_n 0, 0, 0, 0) :: (166, .getfield 24, 5, 5, 1) :: (169, .iload 11, 0, 0, 0) :: (171, .dup2, 0, 0, 0) :: (172, .iaload, 0, 0, 0) :: (173, .iload 6, 0, 0, 0) :: (175, .ixor, 0, 0, 0) :: (176, .iastore, 0, 0, 0) :: (177, .iinc 10 1, 0, 0, 0) :: (180, .goto (-79), 0, 0, 0) :: am_c77_183
def am_c77_96 : AmCd := (96, .istore 9, 0, 0, 0) :: (98, .iconst 0, 0, 0, 0) :: (99, .istore 10, 0, 0, 0) :: am_c77_101
def am_c77_89 : AmCd := (89, .aload_n 0, 0, 0, 0) :: (90, .iload 7, 0, 0, 0) :: (92, .iload_n 3, 0, 0, 0) :: (93, .invokevirtual 49, 78, 3, 0) :: am_c77_96
def am_c77_72 : AmCd := (72, .istore 8, 0, 0, 0) :: (74, .iload 4, 0, 0, 0) :: (76, .ifCond .eq 13, 0, 0, 0) :: (79, .aload_n 0, 0, 0, 0) :: (80, .iload_n 3, 0, 0, 0) :: (81, .iload 7, 0, 0, 0) :: (83, .invokevirtual 49, 78, 3, 0) :: (86, .goto 10, 0, 0, 0) :: am_c77_89
def am_c77_65 : AmCd := (65, .aload_n 0, 0, 0, 0) :: (66, .iload 7, 0, 0, 0) :: (68, .iload_n 2, 0, 0, 0) :: (69, .invokevirtual 49, 78, 3, 0) :: am_c77_72
def am_c77_43 : AmCd := (43, .iload 7, 0, 0, 0) :: (45, .iload 5, 0, 0, 0) :: (47, .if_icmp .ge 142, 0, 0, 0) :: (50, .iload 4, 0, 0, 0) :: (52, .ifCond .eq 13, 0, 0, 0) :: (55, .aload_n 0, 0, 0, 0) :: (56, .iload_n 2, 0, 0, 0) :: (57, .iload 7, 0, 0, 0) :: (59, .invokevirtual 49, 78, 3, 0) :: (62, .goto 10, 0, 0, 0) :: am_c77_65
def am_c77_38 : AmCd := (38, .istore 6, 0, 0, 0) :: (40, .iconst 0, 0, 0, 0) :: (41, .istore 7, 0, 0, 0) :: am_c77_43
def am_c77_37 : AmCd := (37, .iconst 2, 0, 0, 0) :: am_c77_38
def am_c77_25 : AmCd := (25, .iaload, 0, 0, 0) :: (26, .istore 5, 0, 0, 0) :: (28, .iload 4, 0, 0, 0) :: (30, .ifCond .eq 7, 0, 0, 0) :: (33, .iconst 3, 0, 0, 0) :: (34, .goto 4, 0, 0, 0) :: am_c77_37
def am_c77_24 : AmCd := (24, .iconst 0, 0, 0, 0) :: am_c77_25
def am_c77_9 : AmCd := (9, .istore 4, 0, 0, 0) :: (11, .aload_n 0, 0, 0, 0) :: (12, .getfield 15, 5, 2, 1) :: (15, .iload 4, 0, 0, 0) :: (17, .ifCond .eq 7, 0, 0, 0) :: (20, .iconst 1, 0, 0, 0) :: (21, .goto 4, 0, 0, 0) :: am_c77_24
def am_c77_8 : AmCd := (8, .iconst 0, 0, 0, 0) :: am_c77_9
def am_c77_0 : AmCd := (0, .iload_n 1, 0, 0, 0) :: (1, .ifCond .ne 7, 0, 0, 0) :: (4, .iconst 1, 0, 0, 0) :: (5, .goto 4, 0, 0, 0) :: am_c77_8
def am_c78_36 : AmCd := (36, .ireturn, 0, 0, 0) :: []
def am_c78_35 : AmCd := (35, .iload_n 3, 0, 0, 0) :: am_c78_36
def am_c78_31 : AmCd := (31, .iconst 0, 0, 0, 0) :: (32, .goto 4, 0, 0, 0) :: am_c78_35
def am_c78_0 : AmCd := (0, .aload_n 0, 0, 0, 0) :: (1, .getfield 9, 5, 1, 1) :: (4, .iconst 0, 0, 0, 0) :: (5, .iaload, 0, 0, 0) :: (6, .iload_n 1, 0, 0, 0) :: (7, .iadd, 0, 0, 0) :: (8, .bipush 8, 0, 0, 0) :: (10, .imul, 0, 0, 0) :: (11, .aload_n 0, 0, 0, 0) :: (12, .getfield 9, 5, 1, 1) :: (15, .iconst 1, 0, 0, 0) :: (16, .iaload, 0, 0, 0) :: (17, .iadd, 0, 0, 0) :: (18, .iload_n 2, 0, 0, 0) :: (19, .iadd, 0, 0, 0) :: (20, .istore_n 3, 0, 0, 0) :: (21, .iload_n 3, 0, 0, 0) :: (22, .ifCond .lt 9, 0, 0, 0) :: (25, .iload_n 3, 0, 0, 0) :: (26, .bipush 64, 0, 0, 0) :: (28, .if_icmp .lt 7, 0, 0, 0) :: am_c78_31
def am_c79_69 : AmCd := (69, .iload 4, 0, 0, 0) :: (71, .ireturn, 0, 0, 0) :: []
def am_c79_15 : AmCd := (15, .iload_n 3, 0, 0, 0) :: (16, .iconst (-1), 0, 0, 0) :: (17, .if_icmp .eq 52, 0, 0, 0) :: (20, .iload 4, 0, 0, 0) :: (22, .bipush 64, 0, 0, 0) :: (24, .if_icmp .ge 45, 0, 0, 0) :: (27, .iload_n 2, 0, 0, 0) :: (28, .ifCond .lt 41, 0, 0, 0) :: (31, .iload_n 2, 0, 0, 0) :: (32, .iload 4, 0, 0, 0) :: (34, .iadd, 0, 0, 0) :: (35, .aload_n 1, 0, 0, 0) :: (36, .arraylength, 0, 0, 0) :: (37, .if_icmp .ge 32, 0, 0, 0) :: (40, .aload_n 1, 0, 0, 0) :: (41, .iload_n 2, 0, 0, 0) :: (42, .iload 4, 0, 0, 0) :: (44, .iadd, 0, 0, 0) :: (45, .iload_n 3, 0, 0, 0) :: (46, .iconst 4, 0, 0, 0) :: (47, .imul, 0, 0, 0) :: (48, .aload_n 0, 0, 0, 0) :: (49, .getfield 24, 5, 5, 1) :: (52, .iload_n 3, 0, 0, 0) :: (53, .iaload, 0, 0, 0) :: (54, .iadd, 0, 0, 0) :: (55, .iastore, 0, 0, 0) :: (56, .aload_n 0, 0, 0, 0) :: (57, .getfield 21, 5, 4, 1) :: (60, .iload_n 3, 0, 0, 0) :: (61, .iaload, 0, 0, 0) :: (62, .istore_n 3, 0, 0, 0) :: (63, .iinc 4 1, 0, 0, 0) :: (66, .goto (-51), 0, 0, 0) :: am_c79_69
def am_c79_0 : AmCd := (0, .aload_n 0, 0, 0, 0) :: (1, .getfield 18, 5, 3, 1) :: (4, .aload_n 0, 0, 0, 0) :: (5, .iconst 0, 0, 0, 0) :: (6, .iconst 0, 0, 0, 0) :: (7, .invokevirtual 49, 78, 3, 0) :: (10, .iaload, 0, 0, 0) :: (11, .istore_n 3, 0, 0, 0) :: (12, .iconst 0, 0, 0, 0) :: (13, .istore 4, 0, 0, 0) :: am_c79_15
def am_c80_0 : AmCd := (0, .aload_n 0, 0, 0, 0) :: (1, .invokespecial 3, 0, 0, 4) :: (4, .aload_n 0, 0, 0, 0) :: (5, .aload_n 2, 0, 0, 0) :: (6, .putfield 9, 6, 0, 1) :: (9, .aload_n 0, 0, 0, 0) :: (10, .aload_n 3, 0, 0, 0) :: (11, .putfield 15, 6, 1, 1) :: (14, .aload_n 0, 0, 0, 0) :: (15, .aload 4, 0, 0, 0) :: (17, .putfield 19, 6, 2, 1) :: (20, .aload_n 0, 0, 0, 0) :: (21, .new 23, 4, 0, 0) :: (24, .dup, 0, 0, 0) :: (25, .aload_n 1, 0, 0, 0) :: (26, .iconst 5, 0, 0, 0) :: (27, .invokespecial 25, 61, 3, 2) :: (30, .putfield 28, 6, 3, 1) :: (33, .aload_n 0, 0, 0, 0) :: (34, .new 23, 4, 0, 0) :: (37, .dup, 0, 0, 0) :: (38, .aload_n 1, 0, 0, 0) :: (39, .iconst 1, 0, 0, 0) :: (40, .invokespecial 25, 61, 3, 2) :: (43, .putfield 32, 6, 4, 1) :: (46, .aload_n 0, 0, 0, 0) :: (47, .new 23, 4, 0, 0) :: (50, .dup, 0, 0, 0) :: (51, .aload_n 1, 0, 0, 0) :: (52, .iconst 1, 0, 0, 0) :: (53, .invokespecial 25, 61, 3, 2) :: (56, .putfield 35, 6, 5, 1) :: (59, .aload_n 0, 0, 0, 0) :: (60, .new 23, 4, 0, 0) :: (63, .dup, 0, 0, 0) :: (64, .aload_n 1, 0, 0, 0) :: (65, .iconst 1, 0, 0, 0) :: (66, .invokespecial 25, 61, 3, 2) :: (69, .putfield 38, 6, 6, 1) :: (72, .aload_n 0, 0, 0, 0) :: (73, .getfield 38, 6, 6, 1) :: (76, .iconst 0, 0, 0, 0) :: (77, .iconst 3, 0, 0, 0) :: (78, .invokevirtual 41, 64, 3, 0) :: (81, .return_, 0, 0, 0) :: []
def am_c81_16 : AmCd := (16, .ireturn, 0, 0, 0) :: []
def am_c81_15 : AmCd := (15, .iconst 0, 0, 0, 0) :: am_c81_16
def am_c81_0 : AmCd := (0, .aload_n 0, 0, 0, 0) :: (1, .getfield 35, 6, 5, 1) :: (4, .iconst 0, 0, 0, 0) :: (5, .invokevirtual 45, 62, 2, 0) :: (8, .ifCond .eq 7, 0, 0, 0) :: (11, .iconst 1, 0, 0, 0) :: (12, .goto 4, 0, 0, 0) :: am_c81_15
def am_c82_0 : AmCd := (0, .aload_n 0, 0, 0, 0) :: (1, .getfield 35, 6, 5, 1) :: (4, .iconst 0, 0, 0, 0) :: (5, .invokevirtual 45, 62, 2, 0) :: (8, .istore_n 1, 0, 0, 0) :: (9, .aload_n 0, 0, 0, 0) :: (10, .getfield 35, 6, 5, 1) :: (13, .iconst 0, 0, 0, 0) :: (14, .iconst 0, 0, 0, 0) :: (15, .invokevirtual 49, 63, 3, 0) :: (18, .iload_n 1, 0, 0, 0) :: (19, .ireturn, 0, 0, 0) :: []
def am_c83_0 : AmCd := (0, .aload_n 0, 0, 0, 0) :: (1, .getfield 38, 6, 6, 1) :: (4, .iconst 0, 0, 0, 0) :: (5, .invokevirtual 45, 62, 2, 0) :: (8, .ireturn, 0, 0, 0) :: []
def am_c84_0 : AmCd := (0, .aload_n 0, 0, 0, 0) :: (1, .getfield 38, 6, 6, 1) :: (4, .iconst 0, 0, 0, 0) :: (5, .invokevirtual 45, 62, 2, 0) :: (8, .istore_n 2, 0, 0, 0) :: (9, .aload_n 0, 0, 0, 0) :: (10, .getfield 38, 6, 6, 1) :: (13, .iconst 0, 0, 0, 0) :: (14, .iload_n 1, 0, 0, 0) :: (15, .invokevirtual 49, 63, 3, 0) :: (18, .iload_n 2, 0, 0, 0) :: (19, .ireturn, 0, 0, 0) :: []
def am_c85_0 : AmCd := (0, .aload_n 0, 0, 0, 0) :: (1, .getfield 32, 6, 4, 1) :: (4, .iconst 0, 0, 0, 0) :: (5, .iconst 1, 0, 0, 0) :: (6, .invokevirtual 49, 63, 3, 0) :: (9, .iconst 1, 0, 0, 0) :: (10, .ireturn, 0, 0, 0) :: []
def am_c86_0 : AmCd := (0, .aload_n 0, 0, 0, 0) :: (1, .getfield 28, 6, 3, 1) :: (4, .iload_n 1, 0, 0, 0) :: (5, .iconst 1, 0, 0, 0) :: (6, .invokevirtual 49, 63, 3, 0) :: (9, .iconst 1, 0, 0, 0) :: (10, .ireturn, 0, 0, 0) :: []
def am_c87_73 : AmCd := (73, .aload_n 0, 0, 0, 0) :: (74, .getfield 19, 6, 2, 1) :: (77, .iload_n 2, 0, 0, 0) :: (78, .invokevirtual 78, 125, 2, 0) :: (81, .iconst 1, 0, 0, 0) :: (82, .ireturn, 0, 0, 0) :: []
def am_c87_47 : AmCd := (47, .istore_n 3, 0, 0, 0) :: (48, .iload_n 3, 0, 0, 0) :: (49, .ifCond .ge 24, 0, 0, 0) :: (52, .aload_n 0, 0, 0, 0) :: (53, .getfield 19, 6, 2, 1) :: (56, .iload_n 2, 0, 0, 0) :: (57, .aload_n 0, 0, 0, 0) :: (58, .getfield 9, 6, 0, 1) :: (61, .iload_n 3, 0, 0, 0) :: (62, .invokevirtual 69, 129, 2, 0) :: (65, .invokestatic 72, 130, 1, 1) :: (68, .invokevirtual 75, 126, 3, 0) :: (71, .iconst 0, 0, 0, 0) :: (72, .ireturn, 0, 0, 0) :: am_c87_73
def am_c87_41 : AmCd := (41, .aload_n 0, 0, 0, 0) :: (42, .iload_n 2, 0, 0, 0) :: (43, .iload_n 1, 0, 0, 0) :: (44, .invokevirtual 65, 89, 3, 0) :: am_c87_47
def am_c87_15 : AmCd := (15, .aload_n 0, 0, 0, 0) :: (16, .getfield 9, 6, 0, 1) :: (19, .invokevirtual 57, 134, 1, 0) :: (22, .aload_n 0, 0, 0, 0) :: (23, .getfield 28, 6, 3, 1) :: (26, .iload_n 1, 0, 0, 0) :: (27, .invokevirtual 45, 62, 2, 0) :: (30, .ifCond .eq 11, 0, 0, 0) :: (33, .aload_n 0, 0, 0, 0) :: (34, .iload_n 1, 0, 0, 0) :: (35, .invokevirtual 62, 88, 2, 0) :: (38, .goto 9, 0, 0, 0) :: am_c87_41
def am_c87_0 : AmCd := (0, .aload_n 0, 0, 0, 0) :: (1, .getfield 19, 6, 2, 1) :: (4, .iload_n 1, 0, 0, 0) :: (5, .invokevirtual 52, 123, 2, 0) :: (8, .istore_n 2, 0, 0, 0) :: (9, .iload_n 2, 0, 0, 0) :: (10, .ifCond .ge 5, 0, 0, 0) :: (13, .iconst 0, 0, 0, 0) :: (14, .ireturn, 0, 0, 0) :: am_c87_15
def am_c88_0 : AmCd := (0, .aload_n 0, 0, 0, 0) :: (1, .getfield 28, 6, 3, 1) :: (4, .iload_n 1, 0, 0, 0) :: (5, .iconst 0, 0, 0, 0) :: (6, .invokevirtual 49, 63, 3, 0) :: (9, .aload_n 0, 0, 0, 0) :: (10, .getfield 35, 6, 5, 1) :: (13, .iconst 0, 0, 0, 0) :: (14, .iconst 1, 0, 0, 0) :: (15, .invokevirtual 49, 63, 3, 0) :: (18, .bipush (-20), 0, 0, 0) :: (20, .ireturn, 0, 0, 0) :: []
def am_c89_100 : AmCd := (100, .aload_n 0, 0, 0, 0) :: (101, .iload_n 1, 0, 0, 0) :: (102, .invokevirtual 108, 92, 2, 0) :: (105, .ireturn, 0, 0, 0) :: []
def am_c89_74 : AmCd := (74, .aload_n 0, 0, 0, 0) :: (75, .getfield 15, 6, 1, 1) :: (78, .iload_n 3, 0, 0, 0) :: (79, .aload_n 0, 0, 0, 0) :: (80, .getfield 19, 6, 2, 1) :: (83, .iload_n 1, 0, 0, 0) :: (84, .invokevirtual 98, 97, 2, 0) :: (87, .aload_n 0, 0, 0, 0) :: (88, .getfield 19, 6, 2, 1) :: (91, .iload_n 1, 0, 0, 0) :: (92, .invokevirtual 101, 98, 2, 0) :: (95, .iload_n 1, 0, 0, 0) :: (96, .invokevirtual 104, 29, 5, 0) :: (99, .ireturn, 0, 0, 0) :: am_c89_100
def am_c89_51 : AmCd := (51, .aload_n 0, 0, 0, 0) :: (52, .getfield 19, 6, 2, 1) :: (55, .iload_n 1, 0, 0, 0) :: (56, .invokevirtual 89, 119, 2, 0) :: (59, .istore_n 3, 0, 0, 0) :: (60, .aload_n 0, 0, 0, 0) :: (61, .getfield 15, 6, 1, 1) :: (64, .iload_n 3, 0, 0, 0) :: (65, .invokevirtual 92, 21, 2, 0) :: (68, .ifCond .ne 6, 0, 0, 0) :: (71, .bipush (-11), 0, 0, 0) :: (73, .ireturn, 0, 0, 0) :: am_c89_74
def am_c89_44 : AmCd := (44, .aload_n 0, 0, 0, 0) :: (45, .iload_n 1, 0, 0, 0) :: (46, .iconst 1, 0, 0, 0) :: (47, .invokevirtual 86, 91, 3, 0) :: (50, .ireturn, 0, 0, 0) :: am_c89_51
def am_c89_37 : AmCd := (37, .aload_n 0, 0, 0, 0) :: (38, .iload_n 1, 0, 0, 0) :: (39, .iconst 0, 0, 0, 0) :: (40, .invokevirtual 86, 91, 3, 0) :: (43, .ireturn, 0, 0, 0) :: am_c89_44
def am_c89_32 : AmCd := (32, .aload_n 0, 0, 0, 0) :: (33, .invokevirtual 82, 90, 1, 0) :: (36, .ireturn, 0, 0, 0) :: am_c89_37
def am_c89_0 : AmCd := (0, .iload_n 2, 0, 0, 0) :: (1, .tableswitch 99 0 3 #[31, 36, 43, 50], 0, 0, 0) :: am_c89_32
def am_c90_36 : AmCd := (36, .ireturn, 0, 0, 0) :: []
def am_c90_35 : AmCd := (35, .iconst 1, 0, 0, 0) :: am_c90_36
def am_c90_16 : AmCd := (16, .istore_n 1, 0, 0, 0) :: (17, .aload_n 0, 0, 0, 0) :: (18, .getfield 32, 6, 4, 1) :: (21, .iconst 0, 0, 0, 0) :: (22, .iconst 0, 0, 0, 0) :: (23, .invokevirtual 49, 63, 3, 0) :: (26, .iload_n 1, 0, 0, 0) :: (27, .ifCond .eq 8, 0, 0, 0) :: (30, .bipush (-19), 0, 0, 0) :: (32, .goto 4, 0, 0, 0) :: am_c90_35
def am_c90_15 : AmCd := (15, .iconst 0, 0, 0, 0) :: am_c90_16
def am_c90_0 : AmCd := (0, .aload_n 0, 0, 0, 0) :: (1, .getfield 32, 6, 4, 1) :: (4, .iconst 0, 0, 0, 0) :: (5, .invokevirtual 45, 62, 2, 0) :: (8, .ifCond .eq 7, 0, 0, 0) :: (11, .iconst 1, 0, 0, 0) :: (12, .goto 4, 0, 0, 0) :: am_c90_15
def am_c91_119 : AmCd := (119, .iconst 1, 0, 0, 0) :: (120, .ireturn, 0, 0, 0) :: []
def am_c91_113 : AmCd := (113, .iinc 3 1, 0, 0, 0) :: (116, .goto (-114), 0, 0, 0) :: am_c91_119
def am_c91_98 : AmCd := (98, .aload_n 0, 0, 0, 0) :: (99, .getfield 9, 6, 0, 1) :: (102, .iload 6, 0, 0, 0) :: (104, .invokevirtual 124, 135, 2, 0) :: (107, .iinc 4 1, 0, 0, 0) :: (110, .goto (-77), 0, 0, 0) :: am_c91_113
def am_c91_88 : AmCd := (88, .istore 6, 0, 0, 0) :: (90, .iload 6, 0, 0, 0) :: (92, .ifCond .ge 6, 0, 0, 0) :: (95, .iload 6, 0, 0, 0) :: (97, .ireturn, 0, 0, 0) :: am_c91_98
def am_c91_76 : AmCd := (76, .aload_n 0, 0, 0, 0) :: (77, .getfield 19, 6, 2, 1) :: (80, .iload_n 1, 0, 0, 0) :: (81, .iload 5, 0, 0, 0) :: (83, .iconst 0, 0, 0, 0) :: (84, .iconst 0, 0, 0, 0) :: (85, .invokevirtual 121, 115, 5, 0) :: am_c91_88
def am_c91_33 : AmCd := (33, .iload 4, 0, 0, 0) :: (35, .aload_n 0, 0, 0, 0) :: (36, .getfield 19, 6, 2, 1) :: (39, .iload_n 1, 0, 0, 0) :: (40, .invokevirtual 101, 98, 2, 0) :: (43, .if_icmp .ge 70, 0, 0, 0) :: (46, .aload_n 0, 0, 0, 0) :: (47, .getfield 19, 6, 2, 1) :: (50, .iload_n 1, 0, 0, 0) :: (51, .iload_n 2, 0, 0, 0) :: (52, .iload_n 3, 0, 0, 0) :: (53, .iload 4, 0, 0, 0) :: (55, .invokevirtual 115, 104, 5, 0) :: (58, .istore 5, 0, 0, 0) :: (60, .aload_n 0, 0, 0, 0) :: (61, .getfield 19, 6, 2, 1) :: (64, .iload 5, 0, 0, 0) :: (66, .invokevirtual 118, 106, 2, 0) :: (69, .ifCond .ne 7, 0, 0, 0) :: (72, .iconst 0, 0, 0, 0) :: (73, .goto 15, 0, 0, 0) :: am_c91_76
def am_c91_30 : AmCd := (30, .iconst 0, 0, 0, 0) :: (31, .istore 4, 0, 0, 0) :: am_c91_33
def am_c91_2 : AmCd := (2, .iload_n 3, 0, 0, 0) :: (3, .aload_n 0, 0, 0, 0) :: (4, .getfield 19, 6, 2, 1) :: (7, .iload_n 1, 0, 0, 0) :: (8, .invokevirtual 98, 97, 2, 0) :: (11, .if_icmp .ge 108, 0, 0, 0) :: (14, .aload_n 0, 0, 0, 0) :: (15, .getfield 19, 6, 2, 1) :: (18, .iload_n 1, 0, 0, 0) :: (19, .iload_n 2, 0, 0, 0) :: (20, .iload_n 3, 0, 0, 0) :: (21, .invokevirtual 111, 102, 4, 0) :: (24, .ifCond .eq 6, 0, 0, 0) :: (27, .bipush (-11), 0, 0, 0) :: (29, .ireturn, 0, 0, 0) :: am_c91_30
def am_c91_0 : AmCd := (0, .iconst 0, 0, 0, 0) :: (1, .istore_n 3, 0, 0, 0) :: am_c91_2
def am_c92_48 : AmCd := (48, .ireturn, 0, 0, 0) :: []
def am_c92_47 : AmCd := (47, .iconst 1, 0, 0, 0) :: am_c92_48
def am_c92_23 : AmCd := (23, .aload_n 0, 0, 0, 0) :: (24, .getfield 38, 6, 6, 1) :: (27, .iconst 0, 0, 0, 0) :: (28, .invokevirtual 45, 62, 2, 0) :: (31, .aload_n 0, 0, 0, 0) :: (32, .getfield 15, 6, 1, 1) :: (35, .iload_n 2, 0, 0, 0) :: (36, .invokevirtual 127, 24, 2, 0) :: (39, .if_icmp .ge 8, 0, 0, 0) :: (42, .bipush (-13), 0, 0, 0) :: (44, .goto 4, 0, 0, 0) :: am_c92_47
def am_c92_0 : AmCd := (0, .aload_n 0, 0, 0, 0) :: (1, .getfield 19, 6, 2, 1) :: (4, .iload_n 1, 0, 0, 0) :: (5, .invokevirtual 89, 119, 2, 0) :: (8, .istore_n 2, 0, 0, 0) :: (9, .aload_n 0, 0, 0, 0) :: (10, .getfield 15, 6, 1, 1) :: (13, .iload_n 2, 0, 0, 0) :: (14, .invokevirtual 92, 21, 2, 0) :: (17, .ifCond .ne 6, 0, 0, 0) :: (20, .bipush (-11), 0, 0, 0) :: (22, .ireturn, 0, 0, 0) :: am_c92_23
def am_c93_0 : AmCd := (0, .aload_n 0, 0, 0, 0) :: (1, .invokespecial 3, 0, 0, 4) :: (4, .aload_n 0, 0, 0, 0) :: (5, .aload_n 2, 0, 0, 0) :: (6, .putfield 9, 7, 0, 1) :: (9, .aload_n 0, 0, 0, 0) :: (10, .aload_n 3, 0, 0, 0) :: (11, .putfield 15, 7, 1, 1) :: (14, .aload_n 0, 0, 0, 0) :: (15, .new 19, 4, 0, 0) :: (18, .dup, 0, 0, 0) :: (19, .aload_n 1, 0, 0, 0) :: (20, .iconst 1, 0, 0, 0) :: (21, .invokespecial 21, 61, 3, 2) :: (24, .putfield 24, 7, 2, 1) :: (27, .aload_n 0, 0, 0, 0) :: (28, .new 19, 4, 0, 0) :: (31, .dup, 0, 0, 0) :: (32, .aload_n 1, 0, 0, 0) :: (33, .bipush 8, 0, 0, 0) :: (35, .invokespecial 21, 61, 3, 2) :: (38, .putfield 28, 7, 3, 1) :: (41, .aload_n 0, 0, 0, 0) :: (42, .new 19, 4, 0, 0) :: (45, .dup, 0, 0, 0) :: (46, .aload_n 1, 0, 0, 0) :: (47, .bipush 8, 0, 0, 0) :: (49, .invokespecial 21, 61, 3, 2) :: (52, .putfield 31, 7, 4, 1) :: (55, .aload_n 0, 0, 0, 0) :: (56, .new 19, 4, 0, 0) :: (59, .dup, 0, 0, 0) :: (60, .aload_n 1, 0, 0, 0) :: (61, .bipush 8, 0, 0, 0) :: (63, .invokespecial 21, 61, 3, 2) :: (66, .putfield 34, 7, 5, 1) :: (69, .aload_n 0, 0, 0, 0) :: (70, .new 19, 4, 0, 0) :: (73, .dup, 0, 0, 0) :: (74, .aload_n 1, 0, 0, 0) :: (75, .sipush 128, 0, 0, 0) :: (78, .invokespecial 21, 61, 3, 2) :: (81, .putfield 37, 7, 6, 1) :: (84, .aload_n 0, 0, 0, 0) :: (85, .new 19, 4, 0, 0) :: (88, .dup, 0, 0, 0) :: (89, .aload_n 1, 0, 0, 0) :: (90, .sipush 1024, 0, 0, 0) :: (93, .invokespecial 21, 61, 3, 2) :: (96, .putfield 40, 7, 7, 1) :: (99, .aload_n 0, 0, 0, 0) :: (100, .new 19, 4, 0, 0) :: (103, .dup, 0, 0, 0) :: (104, .aload_n 1, 0, 0, 0) :: (105, .bipush 8, 0, 0, 0) :: (107, .invokespecial 21, 61, 3, 2) :: (110, .putfield 43, 7, 8, 1) :: (113, .aload_n 0, 0, 0, 0) :: (114, .new 19, 4, 0, 0) :: (117, .dup, 0, 0, 0) :: (118, .aload_n 1, 0, 0, 0) :: (119, .bipush 8, 0, 0, 0) :: (121, .invokespecial 21, 61, 3, 2) :: (124, .putfield 46, 7, 9, 1) :: (127, .aload_n 0, 0, 0, 0) :: (128, .new 19, 4, 0, 0) :: (131, .dup, 0, 0, 0) :: (132, .aload_n 1, 0, 0, 0) :: (133, .bipush 8, 0, 0, 0) :: (135, .invokespecial 21, 61, 3, 2) :: (138, .putfield 49, 7, 10, 1) :: (141, .aload_n 0, 0, 0, 0) :: (142, .new 19, 4, 0, 0) :: (145, .dup, 0, 0, 0) :: (146, .aload_n 1, 0, 0, 0) :: (147, .bipush 8, 0, 0, 0) :: (149, .invokespecial 21, 61, 3, 2) :: (152, .putfield 52, 7, 11, 1) :: (155, .aload_n 0, 0, 0, 0) :: (156, .new 19, 4, 0, 0) :: (159, .dup, 0, 0, 0) :: (160, .aload_n 1, 0, 0, 0) :: (161, .bipush 8, 0, 0, 0) :: (163, .invokespecial 21, 61, 3, 2) :: (166, .putfield 55, 7, 12, 1) :: (169, .return_, 0, 0, 0) :: []
def am_c94_0 : AmCd := (0, .aload_n 0, 0, 0, 0) :: (1, .getfield 24, 7, 2, 1) :: (4, .iconst 0, 0, 0, 0) :: (5, .invokevirtual 58, 62, 2, 0) :: (8, .ireturn, 0, 0, 0) :: []
def am_c95_21 : AmCd := (21, .ireturn, 0, 0, 0) :: []
def am_c95_20 : AmCd := (20, .iconst 0, 0, 0, 0) :: am_c95_21
def am_c95_0 : AmCd := (0, .iload_n 1, 0, 0, 0) :: (1, .ifCond .lt 19, 0, 0, 0) :: (4, .iload_n 1, 0, 0, 0) :: (5, .aload_n 0, 0, 0, 0) :: (6, .getfield 24, 7, 2, 1) :: (9, .iconst 0, 0, 0, 0) :: (10, .invokevirtual 58, 62, 2, 0) :: (13, .if_icmp .ge 7, 0, 0, 0) :: (16, .iconst 1, 0, 0, 0) :: (17, .goto 4, 0, 0, 0) :: am_c95_20
def am_c96_0 : AmCd := (0, .aload_n 0, 0, 0, 0) :: (1, .getfield 24, 7, 2, 1) :: (4, .iconst 0, 0, 0, 0) :: (5, .invokevirtual 58, 62, 2, 0) :: (8, .istore 4, 0, 0, 0) :: (10, .aload_n 0, 0, 0, 0) :: (11, .getfield 28, 7, 3, 1) :: (14, .iload 4, 0, 0, 0) :: (16, .iload_n 1, 0, 0, 0) :: (17, .invokevirtual 62, 63, 3, 0) :: (20, .aload_n 0, 0, 0, 0) :: (21, .getfield 31, 7, 4, 1) :: (24, .iload 4, 0, 0, 0) :: (26, .iload_n 2, 0, 0, 0) :: (27, .invokevirtual 62, 63, 3, 0) :: (30, .aload_n 0, 0, 0, 0) :: (31, .getfield 34, 7, 5, 1) :: (34, .iload 4, 0, 0, 0) :: (36, .iload_n 3, 0, 0, 0) :: (37, .invokevirtual 62, 63, 3, 0) :: (40, .aload_n 0, 0, 0, 0) :: (41, .getfield 46, 7, 9, 1) :: (44, .iload 4, 0, 0, 0) :: (46, .iconst (-1), 0, 0, 0) :: (47, .invokevirtual 62, 63, 3, 0) :: (50, .aload_n 0, 0, 0, 0) :: (51, .getfield 49, 7, 10, 1) :: (54, .iload 4, 0, 0, 0) :: (56, .iconst (-1), 0, 0, 0) :: (57, .invokevirtual 62, 63, 3, 0) :: (60, .aload_n 0, 0, 0, 0) :: (61, .getfield 52, 7, 11, 1) :: (64, .iload 4, 0, 0, 0) :: (66, .iconst (-1), 0, 0, 0) :: (67, .invokevirtual 62, 63, 3, 0) :: (70, .aload_n 0, 0, 0, 0) :: (71, .getfield 24, 7, 2, 1) :: (74, .iconst 0, 0, 0, 0) :: (75, .iload 4, 0, 0, 0) :: (77, .iconst 1, 0, 0, 0) :: (78, .iadd, 0, 0, 0) :: (79, .invokevirtual 62, 63, 3, 0) :: (82, .iload 4, 0, 0, 0) :: (84, .ireturn, 0, 0, 0) :: []
def am_c97_0 : AmCd := (0, .aload_n 0, 0, 0, 0) :: (1, .getfield 31, 7, 4, 1) :: (4, .iload_n 1, 0, 0, 0) :: (5, .invokevirtual 58, 62, 2, 0) :: (8, .ireturn, 0, 0, 0) :: []
def am_c98_0 : AmCd := (0, .aload_n 0, 0, 0, 0) :: (1, .getfield 34, 7, 5, 1) :: (4, .iload_n 1, 0, 0, 0) :: (5, .invokevirtual 58, 62, 2, 0) :: (8, .ireturn, 0, 0, 0) :: []
def am_c99_0 : AmCd := (0, .aload_n 0, 0, 0, 0) :: (1, .getfield 31, 7, 4, 1) :: (4, .iload_n 1, 0, 0, 0) :: (5, .invokevirtual 58, 62, 2, 0) :: (8, .aload_n 0, 0, 0, 0) :: (9, .getfield 34, 7, 5, 1) :: (12, .iload_n 1, 0, 0, 0) :: (13, .invokevirtual 58, 62, 2, 0) :: (16, .imul, 0, 0, 0) :: (17, .ireturn, 0, 0, 0) :: []
def am_c100_0 : AmCd := (0, .iload_n 0, 0, 0, 0) :: (1, .iconst 2, 0, 0, 0) :: (2, .imul, 0, 0, 0) :: (3, .iload_n 1, 0, 0, 0) :: (4, .iadd, 0, 0, 0) :: (5, .bipush 8, 0, 0, 0) :: (7, .imul, 0, 0, 0) :: (8, .iload_n 2, 0, 0, 0) :: (9, .iadd, 0, 0, 0) :: (10, .ireturn, 0, 0, 0) :: []
def am_c101_21 : AmCd := (21, .ireturn, 0, 0, 0) :: []
def am_c101_20 : AmCd := (20, .iconst 0, 0, 0, 0) :: am_c101_21
def am_c101_0 : AmCd := (0, .iload_n 2, 0, 0, 0) :: (1, .ifCond .lt 19, 0, 0, 0) :: (4, .iload_n 2, 0, 0, 0) :: (5, .aload_n 0, 0, 0, 0) :: (6, .getfield 31, 7, 4, 1) :: (9, .iload_n 1, 0, 0, 0) :: (10, .invokevirtual 58, 62, 2, 0) :: (13, .if_icmp .ge 7, 0, 0, 0) :: (16, .iconst 1, 0, 0, 0) :: (17, .goto 4, 0, 0, 0) :: am_c101_20
def am_c102_21 : AmCd := (21, .ireturn, 0, 0, 0) :: []
def am_c102_20 : AmCd := (20, .iconst 0, 0, 0, 0) :: am_c102_21
def am_c102_0 : AmCd := (0, .aload_n 0, 0, 0, 0) :: (1, .getfield 37, 7, 6, 1) :: (4, .iload_n 1, 0, 0, 0) :: (5, .iload_n 2, 0, 0, 0) :: (6, .iload_n 3, 0, 0, 0) :: (7, .invokestatic 66, 100, 3, 1) :: (10, .invokevirtual 58, 62, 2, 0) :: (13, .ifCond .eq 7, 0, 0, 0) :: (16, .iconst 1, 0, 0, 0) :: (17, .goto 4, 0, 0, 0) :: am_c102_20
def am_c103_12 : AmCd := (12, .aload_n 0, 0, 0, 0) :: (13, .getfield 37, 7, 6, 1) :: (16, .iload_n 1, 0, 0, 0) :: (17, .iload_n 2, 0, 0, 0) :: (18, .iload_n 3, 0, 0, 0) :: (19, .invokestatic 66, 100, 3, 1) :: (22, .iconst 1, 0, 0, 0) :: (23, .invokevirtual 62, 63, 3, 0) :: (26, .iconst 1, 0, 0, 0) :: (27, .ireturn, 0, 0, 0) :: []
def am_c103_0 : AmCd := (0, .aload_n 0, 0, 0, 0) :: (1, .iload_n 1, 0, 0, 0) :: (2, .iload_n 3, 0, 0, 0) :: (3, .invokevirtual 70, 101, 3, 0) :: (6, .ifCond .ne 6, 0, 0, 0) :: (9, .bipush (-12), 0, 0, 0) :: (11, .ireturn, 0, 0, 0) :: am_c103_12
def am_c104_46 : AmCd := (46, .iload_n 1, 0, 0, 0) :: (47, .iload_n 2, 0, 0, 0) :: (48, .iload_n 3, 0, 0, 0) :: (49, .invokestatic 66, 100, 3, 1) :: (52, .bipush 8, 0, 0, 0) :: (54, .imul, 0, 0, 0) :: (55, .iload 4, 0, 0, 0) :: (57, .iadd, 0, 0, 0) :: (58, .ireturn, 0, 0, 0) :: []
def am_c104_43 : AmCd := (43, .bipush (-12), 0, 0, 0) :: (45, .ireturn, 0, 0, 0) :: am_c104_46
def am_c104_25 : AmCd := (25, .iload 4, 0, 0, 0) :: (27, .ifCond .lt 16, 0, 0, 0) :: (30, .iload 4, 0, 0, 0) :: (32, .aload_n 0, 0, 0, 0) :: (33, .getfield 34, 7, 5, 1) :: (36, .iload_n 1, 0, 0, 0) :: (37, .invokevirtual 58, 62, 2, 0) :: (40, .if_icmp .lt 6, 0, 0, 0) :: am_c104_43
def am_c104_12 : AmCd := (12, .aload_n 0, 0, 0, 0) :: (13, .iload_n 1, 0, 0, 0) :: (14, .iload_n 2, 0, 0, 0) :: (15, .iload_n 3, 0, 0, 0) :: (16, .invokevirtual 74, 102, 4, 0) :: (19, .ifCond .eq 6, 0, 0, 0) :: (22, .bipush (-11), 0, 0, 0) :: (24, .ireturn, 0, 0, 0) :: am_c104_25
def am_c104_0 : AmCd := (0, .aload_n 0, 0, 0, 0) :: (1, .iload_n 1, 0, 0, 0) :: (2, .iload_n 3, 0, 0, 0) :: (3, .invokevirtual 70, 101, 3, 0) :: (6, .ifCond .ne 6, 0, 0, 0) :: (9, .bipush (-12), 0, 0, 0) :: (11, .ireturn, 0, 0, 0) :: am_c104_12
def am_c105_0 : AmCd := (0, .aload_n 0, 0, 0, 0) :: (1, .getfield 40, 7, 7, 1) :: (4, .iload_n 1, 0, 0, 0) :: (5, .iconst 2, 0, 0, 0) :: (6, .iload_n 2, 0, 0, 0) :: (7, .imul, 0, 0, 0) :: (8, .iload_n 3, 0, 0, 0) :: (9, .iadd, 0, 0, 0) :: (10, .invokevirtual 62, 63, 3, 0) :: (13, .iconst 1, 0, 0, 0) :: (14, .ireturn, 0, 0, 0) :: []
def am_c106_0 : AmCd := (0, .aload_n 0, 0, 0, 0) :: (1, .getfield 40, 7, 7, 1) :: (4, .iload_n 1, 0, 0, 0) :: (5, .invokevirtual 58, 62, 2, 0) :: (8, .iconst 2, 0, 0, 0) :: (9, .idiv, 0, 0, 0) :: (10, .ireturn, 0, 0, 0) :: []
def am_c107_0 : AmCd := (0, .aload_n 0, 0, 0, 0) :: (1, .getfield 40, 7, 7, 1) :: (4, .iload_n 1, 0, 0, 0) :: (5, .invokevirtual 58, 62, 2, 0) :: (8, .iconst 2, 0, 0, 0) :: (9, .irem, 0, 0, 0) :: (10, .ireturn, 0, 0, 0) :: []
def am_c108_40 : AmCd := (40, .iload_n 1, 0, 0, 0) :: (41, .iload_n 2, 0, 0, 0) :: (42, .iload_n 3, 0, 0, 0) :: (43, .invokestatic 66, 100, 3, 1) :: (46, .bipush 8, 0, 0, 0) :: (48, .imul, 0, 0, 0) :: (49, .ireturn, 0, 0, 0) :: []
def am_c108_37 : AmCd := (37, .bipush (-15), 0, 0, 0) :: (39, .ireturn, 0, 0, 0) :: am_c108_40
def am_c108_0 : AmCd := (0, .iload 4, 0, 0, 0) :: (2, .ifCond .lt 35, 0, 0, 0) :: (5, .iload 4, 0, 0, 0) :: (7, .aload_n 0, 0, 0, 0) :: (8, .getfield 34, 7, 5, 1) :: (11, .iload_n 1, 0, 0, 0) :: (12, .invokevirtual 58, 62, 2, 0) :: (15, .if_icmp .gt 22, 0, 0, 0) :: (18, .aload_n 0, 0, 0, 0) :: (19, .iload_n 1, 0, 0, 0) :: (20, .iload_n 3, 0, 0, 0) :: (21, .invokevirtual 70, 101, 3, 0) :: (24, .ifCond .eq 13, 0, 0, 0) :: (27, .aload_n 0, 0, 0, 0) :: (28, .iload_n 1, 0, 0, 0) :: (29, .iload_n 2, 0, 0, 0) :: (30, .iload_n 3, 0, 0, 0) :: (31, .invokevirtual 74, 102, 4, 0) :: (34, .ifCond .eq 6, 0, 0, 0) :: am_c108_37
def am_c109_37 : AmCd := (37, .return_, 0, 0, 0) :: []
def am_c109_3 : AmCd := (3, .iload 4, 0, 0, 0) :: (5, .iload_n 3, 0, 0, 0) :: (6, .if_icmp .ge 31, 0, 0, 0) :: (9, .aload_n 0, 0, 0, 0) :: (10, .getfield 40, 7, 7, 1) :: (13, .iload_n 2, 0, 0, 0) :: (14, .iload 4, 0, 0, 0) :: (16, .iadd, 0, 0, 0) :: (17, .aload_n 0, 0, 0, 0) :: (18, .getfield 40, 7, 7, 1) :: (21, .iload_n 1, 0, 0, 0) :: (22, .iload 4, 0, 0, 0) :: (24, .iadd, 0, 0, 0) :: (25, .invokevirtual 58, 62, 2, 0) :: (28, .invokevirtual 62, 63, 3, 0) :: (31, .iinc 4 1, 0, 0, 0) :: (34, .goto (-31), 0, 0, 0) :: am_c109_37
def am_c109_0 : AmCd := (0, .iconst 0, 0, 0, 0) :: (1, .istore 4, 0, 0, 0) :: am_c109_3
def am_c110_64 : AmCd := (64, .iload 4, 0, 0, 0) :: (66, .ireturn, 0, 0, 0) :: []
def am_c110_58 : AmCd := (58, .iinc 5 1, 0, 0, 0) :: (61, .goto (-31), 0, 0, 0) :: am_c110_64
def am_c110_30 : AmCd := (30, .iload 5, 0, 0, 0) :: (32, .iload 4, 0, 0, 0) :: (34, .if_icmp .ge 30, 0, 0, 0) :: (37, .aload_n 0, 0, 0, 0) :: (38, .iload_n 1, 0, 0, 0) :: (39, .iload 5, 0, 0, 0) :: (41, .iload_n 3, 0, 0, 0) :: (42, .iload 5, 0, 0, 0) :: (44, .iadd, 0, 0, 0) :: (45, .invokevirtual 84, 111, 4, 0) :: (48, .istore 6, 0, 0, 0) :: (50, .iload 6, 0, 0, 0) :: (52, .ifCond .ge 6, 0, 0, 0) :: (55, .iload 6, 0, 0, 0) :: (57, .ireturn, 0, 0, 0) :: am_c110_58
def am_c110_0 : AmCd := (0, .aload_n 0, 0, 0, 0) :: (1, .getfield 15, 7, 1, 1) :: (4, .iload_n 2, 0, 0, 0) :: (5, .aload_n 0, 0, 0, 0) :: (6, .getfield 31, 7, 4, 1) :: (9, .iload_n 1, 0, 0, 0) :: (10, .invokevirtual 58, 62, 2, 0) :: (13, .aload_n 0, 0, 0, 0) :: (14, .getfield 34, 7, 5, 1) :: (17, .iload_n 1, 0, 0, 0) :: (18, .invokevirtual 58, 62, 2, 0) :: (21, .iload_n 1, 0, 0, 0) :: (22, .invokevirtual 78, 29, 5, 0) :: (25, .istore 4, 0, 0, 0) :: (27, .iconst 0, 0, 0, 0) :: (28, .istore 5, 0, 0, 0) :: am_c110_30
def am_c111_40 : AmCd := (40, .istore 5, 0, 0, 0) :: (42, .aload_n 0, 0, 0, 0) :: (43, .iload 4, 0, 0, 0) :: (45, .iload 5, 0, 0, 0) :: (47, .aload_n 0, 0, 0, 0) :: (48, .getfield 15, 7, 1, 1) :: (51, .iload_n 1, 0, 0, 0) :: (52, .iload_n 2, 0, 0, 0) :: (53, .iconst 3, 0, 0, 0) :: (54, .invokevirtual 96, 31, 4, 0) :: (57, .invokevirtual 99, 105, 4, 0) :: (60, .ireturn, 0, 0, 0) :: []
def am_c111_39 : AmCd := (39, .iconst 0, 0, 0, 0) :: am_c111_40
def am_c111_16 : AmCd := (16, .aload_n 0, 0, 0, 0) :: (17, .getfield 9, 7, 0, 1) :: (20, .aload_n 0, 0, 0, 0) :: (21, .getfield 28, 7, 3, 1) :: (24, .iload_n 1, 0, 0, 0) :: (25, .invokevirtual 58, 62, 2, 0) :: (28, .iload_n 3, 0, 0, 0) :: (29, .invokevirtual 91, 35, 3, 0) :: (32, .ifCond .eq 7, 0, 0, 0) :: (35, .iload_n 3, 0, 0, 0) :: (36, .goto 4, 0, 0, 0) :: am_c111_39
def am_c111_0 : AmCd := (0, .aload_n 0, 0, 0, 0) :: (1, .iload_n 1, 0, 0, 0) :: (2, .iload_n 2, 0, 0, 0) :: (3, .invokevirtual 87, 112, 3, 0) :: (6, .istore 4, 0, 0, 0) :: (8, .iload 4, 0, 0, 0) :: (10, .ifCond .ge 6, 0, 0, 0) :: (13, .iload 4, 0, 0, 0) :: (15, .ireturn, 0, 0, 0) :: am_c111_16
def am_c112_0 : AmCd := (0, .aload_n 0, 0, 0, 0) :: (1, .getfield 15, 7, 1, 1) :: (4, .iload_n 1, 0, 0, 0) :: (5, .iload_n 2, 0, 0, 0) :: (6, .iconst 0, 0, 0, 0) :: (7, .invokevirtual 96, 31, 4, 0) :: (10, .istore_n 3, 0, 0, 0) :: (11, .aload_n 0, 0, 0, 0) :: (12, .iload_n 1, 0, 0, 0) :: (13, .iload_n 3, 0, 0, 0) :: (14, .aload_n 0, 0, 0, 0) :: (15, .getfield 15, 7, 1, 1) :: (18, .iload_n 1, 0, 0, 0) :: (19, .iload_n 2, 0, 0, 0) :: (20, .iconst 1, 0, 0, 0) :: (21, .invokevirtual 96, 31, 4, 0) :: (24, .aload_n 0, 0, 0, 0) :: (25, .getfield 15, 7, 1, 1) :: (28, .iload_n 1, 0, 0, 0) :: (29, .iload_n 2, 0, 0, 0) :: (30, .iconst 2, 0, 0, 0) :: (31, .invokevirtual 96, 31, 4, 0) :: (34, .invokevirtual 102, 104, 5, 0) :: (37, .ireturn, 0, 0, 0) :: []
def am_c113_56 : AmCd := (56, .ireturn, 0, 0, 0) :: []
def am_c113_50 : AmCd := (50, .aload_n 0, 0, 0, 0) :: (51, .iload_n 1, 0, 0, 0) :: (52, .iload_n 3, 0, 0, 0) :: (53, .invokevirtual 105, 114, 3, 0) :: am_c113_56
def am_c113_45 : AmCd := (45, .bipush (-12), 0, 0, 0) :: (47, .goto 9, 0, 0, 0) :: am_c113_50
def am_c113_35 : AmCd := (35, .iload_n 3, 0, 0, 0) :: (36, .ifCond .lt 9, 0, 0, 0) :: (39, .iload_n 3, 0, 0, 0) :: (40, .iload 4, 0, 0, 0) :: (42, .if_icmp .lt 8, 0, 0, 0) :: am_c113_45
def am_c113_0 : AmCd := (0, .aload_n 0, 0, 0, 0) :: (1, .getfield 15, 7, 1, 1) :: (4, .iload_n 2, 0, 0, 0) :: (5, .aload_n 0, 0, 0, 0) :: (6, .getfield 31, 7, 4, 1) :: (9, .iload_n 1, 0, 0, 0) :: (10, .invokevirtual 58, 62, 2, 0) :: (13, .aload_n 0, 0, 0, 0) :: (14, .getfield 34, 7, 5, 1) :: (17, .iload_n 1, 0, 0, 0) :: (18, .invokevirtual 58, 62, 2, 0) :: (21, .iload_n 1, 0, 0, 0) :: (22, .invokevirtual 78, 29, 5, 0) :: (25, .istore 4, 0, 0, 0) :: (27, .iload 4, 0, 0, 0) :: (29, .ifCond .ge 6, 0, 0, 0) :: (32, .iload 4, 0, 0, 0) :: (34, .ireturn, 0, 0, 0) :: am_c113_35
def am_c114_20 : AmCd := (20, .ireturn, 0, 0, 0) :: []
def am_c114_15 : AmCd := (15, .aload_n 0, 0, 0, 0) :: (16, .iload_n 3, 0, 0, 0) :: (17, .invokevirtual 108, 106, 2, 0) :: am_c114_20
def am_c114_0 : AmCd := (0, .aload_n 0, 0, 0, 0) :: (1, .iload_n 1, 0, 0, 0) :: (2, .iload_n 2, 0, 0, 0) :: (3, .invokevirtual 87, 112, 3, 0) :: (6, .istore_n 3, 0, 0, 0) :: (7, .iload_n 3, 0, 0, 0) :: (8, .ifCond .ge 7, 0, 0, 0) :: (11, .iload_n 3, 0, 0, 0) :: (12, .goto 8, 0, 0, 0) :: am_c114_15
def am_c115_68 : AmCd := (68, .aload_n 0, 0, 0, 0) :: (69, .getfield 9, 7, 0, 1) :: (72, .iload 7, 0, 0, 0) :: (74, .aload_n 0, 0, 0, 0) :: (75, .getfield 9, 7, 0, 1) :: (78, .iload 5, 0, 0, 0) :: (80, .invokevirtual 120, 37, 2, 0) :: (83, .iconst 1, 0, 0, 0) :: (84, .isub, 0, 0, 0) :: (85, .iload_n 3, 0, 0, 0) :: (86, .isub, 0, 0, 0) :: (87, .aload_n 0, 0, 0, 0) :: (88, .getfield 9, 7, 0, 1) :: (91, .iload 5, 0, 0, 0) :: (93, .invokevirtual 123, 38, 2, 0) :: (96, .iconst 1, 0, 0, 0) :: (97, .isub, 0, 0, 0) :: (98, .iload 4, 0, 0, 0) :: (100, .isub, 0, 0, 0) :: (101, .invokevirtual 117, 47, 4, 0) :: (104, .ireturn, 0, 0, 0) :: []
def am_c115_34 : AmCd := (34, .aload_n 0, 0, 0, 0) :: (35, .getfield 9, 7, 0, 1) :: (38, .iload 5, 0, 0, 0) :: (40, .iload 6, 0, 0, 0) :: (42, .invokevirtual 111, 39, 3, 0) :: (45, .istore 7, 0, 0, 0) :: (47, .aload_n 0, 0, 0, 0) :: (48, .iload_n 2, 0, 0, 0) :: (49, .invokevirtual 114, 107, 2, 0) :: (52, .ifCond .ne 16, 0, 0, 0) :: (55, .aload_n 0, 0, 0, 0) :: (56, .getfield 9, 7, 0, 1) :: (59, .iload 7, 0, 0, 0) :: (61, .iload_n 3, 0, 0, 0) :: (62, .iload 4, 0, 0, 0) :: (64, .invokevirtual 117, 47, 4, 0) :: (67, .ireturn, 0, 0, 0) :: am_c115_68
def am_c115_0 : AmCd := (0, .aload_n 0, 0, 0, 0) :: (1, .getfield 28, 7, 3, 1) :: (4, .iload_n 1, 0, 0, 0) :: (5, .invokevirtual 58, 62, 2, 0) :: (8, .istore 5, 0, 0, 0) :: (10, .aload_n 0, 0, 0, 0) :: (11, .iload_n 2, 0, 0, 0) :: (12, .invokevirtual 108, 106, 2, 0) :: (15, .istore 6, 0, 0, 0) :: (17, .aload_n 0, 0, 0, 0) :: (18, .getfield 9, 7, 0, 1) :: (21, .iload 5, 0, 0, 0) :: (23, .iload 6, 0, 0, 0) :: (25, .invokevirtual 91, 35, 3, 0) :: (28, .ifCond .ne 6, 0, 0, 0) :: (31, .bipush (-11), 0, 0, 0) :: (33, .ireturn, 0, 0, 0) :: am_c115_34
def am_c116_16 : AmCd := (16, .ireturn, 0, 0, 0) :: []
def am_c116_15 : AmCd := (15, .iconst 0, 0, 0, 0) :: am_c116_16
def am_c116_0 : AmCd := (0, .aload_n 0, 0, 0, 0) :: (1, .getfield 43, 7, 8, 1) :: (4, .iload_n 1, 0, 0, 0) :: (5, .invokevirtual 58, 62, 2, 0) :: (8, .ifCond .eq 7, 0, 0, 0) :: (11, .iconst 1, 0, 0, 0) :: (12, .goto 4, 0, 0, 0) :: am_c116_15
def am_c117_0 : AmCd := (0, .aload_n 0, 0, 0, 0) :: (1, .getfield 43, 7, 8, 1) :: (4, .iload_n 1, 0, 0, 0) :: (5, .iconst 1, 0, 0, 0) :: (6, .invokevirtual 62, 63, 3, 0) :: (9, .return_, 0, 0, 0) :: []
def am_c118_0 : AmCd := (0, .aload_n 0, 0, 0, 0) :: (1, .getfield 46, 7, 9, 1) :: (4, .iload_n 1, 0, 0, 0) :: (5, .iload_n 2, 0, 0, 0) :: (6, .invokevirtual 62, 63, 3, 0) :: (9, .iconst 1, 0, 0, 0) :: (10, .ireturn, 0, 0, 0) :: []
def am_c119_0 : AmCd := (0, .aload_n 0, 0, 0, 0) :: (1, .getfield 46, 7, 9, 1) :: (4, .iload_n 1, 0, 0, 0) :: (5, .invokevirtual 58, 62, 2, 0) :: (8, .ireturn, 0, 0, 0) :: []
def am_c120_0 : AmCd := (0, .aload_n 0, 0, 0, 0) :: (1, .getfield 49, 7, 10, 1) :: (4, .iload_n 1, 0, 0, 0) :: (5, .invokevirtual 58, 62, 2, 0) :: (8, .ireturn, 0, 0, 0) :: []
def am_c121_0 : AmCd := (0, .aload_n 0, 0, 0, 0) :: (1, .getfield 52, 7, 11, 1) :: (4, .iload_n 1, 0, 0, 0) :: (5, .invokevirtual 58, 62, 2, 0) :: (8, .ireturn, 0, 0, 0) :: []
def am_c122_0 : AmCd := (0, .aload_n 0, 0, 0, 0) :: (1, .getfield 55, 7, 12, 1) :: (4, .iload_n 1, 0, 0, 0) :: (5, .invokevirtual 58, 62, 2, 0) :: (8, .ireturn, 0, 0, 0) :: []
def am_c123_34 : AmCd := (34, .iconst (-1), 0, 0, 0) :: (35, .ireturn, 0, 0, 0) :: []
def am_c123_28 : AmCd := (28, .iinc 2 1, 0, 0, 0) :: (31, .goto (-29), 0, 0, 0) :: am_c123_34
def am_c123_2 : AmCd := (2, .iload_n 2, 0, 0, 0) :: (3, .aload_n 0, 0, 0, 0) :: (4, .getfield 24, 7, 2, 1) :: (7, .iconst 0, 0, 0, 0) :: (8, .invokevirtual 58, 62, 2, 0) :: (11, .if_icmp .ge 23, 0, 0, 0) :: (14, .aload_n 0, 0, 0, 0) :: (15, .getfield 49, 7, 10, 1) :: (18, .iload_n 2, 0, 0, 0) :: (19, .invokevirtual 58, 62, 2, 0) :: (22, .iload_n 1, 0, 0, 0) :: (23, .if_icmp .ne 5, 0, 0, 0) :: (26, .iload_n 2, 0, 0, 0) :: (27, .ireturn, 0, 0, 0) :: am_c123_28
def am_c123_0 : AmCd := (0, .iconst 0, 0, 0, 0) :: (1, .istore_n 2, 0, 0, 0) :: am_c123_2
def am_c124_0 : AmCd := (0, .aload_n 0, 0, 0, 0) :: (1, .getfield 49, 7, 10, 1) :: (4, .iload_n 1, 0, 0, 0) :: (5, .iconst 0, 0, 0, 0) :: (6, .invokevirtual 62, 63, 3, 0) :: (9, .aload_n 0, 0, 0, 0) :: (10, .getfield 52, 7, 11, 1) :: (13, .iload_n 1, 0, 0, 0) :: (14, .iload_n 2, 0, 0, 0) :: (15, .invokevirtual 62, 63, 3, 0) :: (18, .iload_n 2, 0, 0, 0) :: (19, .ireturn, 0, 0, 0) :: []
def am_c125_0 : AmCd := (0, .aload_n 0, 0, 0, 0) :: (1, .getfield 49, 7, 10, 1) :: (4, .iload_n 1, 0, 0, 0) :: (5, .aload_n 0, 0, 0, 0) :: (6, .getfield 49, 7, 10, 1) :: (9, .iload_n 1, 0, 0, 0) :: (10, .invokevirtual 58, 62, 2, 0) :: (13, .iconst 1, 0, 0, 0) :: (14, .iadd, 0, 0, 0) :: (15, .invokevirtual 62, 63, 3, 0) :: (18, .return_, 0, 0, 0) :: []
def am_c126_0 : AmCd := (0, .aload_n 0, 0, 0, 0) :: (1, .getfield 49, 7, 10, 1) :: (4, .iload_n 1, 0, 0, 0) :: (5, .bipush 6, 0, 0, 0) :: (7, .invokevirtual 62, 63, 3, 0) :: (10, .aload_n 0, 0, 0, 0) :: (11, .getfield 55, 7, 12, 1) :: (14, .iload_n 1, 0, 0, 0) :: (15, .iload_n 2, 0, 0, 0) :: (16, .invokevirtual 62, 63, 3, 0) :: (19, .return_, 0, 0, 0) :: []
def am_c127_0 : AmCd := (0, .aload_n 0, 0, 0, 0) :: (1, .getfield 49, 7, 10, 1) :: (4, .iload_n 1, 0, 0, 0) :: (5, .iconst (-1), 0, 0, 0) :: (6, .invokevirtual 62, 63, 3, 0) :: (9, .aload_n 0, 0, 0, 0) :: (10, .getfield 55, 7, 12, 1) :: (13, .iload_n 1, 0, 0, 0) :: (14, .iconst 0, 0, 0, 0) :: (15, .invokevirtual 62, 63, 3, 0) :: (18, .iconst 1, 0, 0, 0) :: (19, .ireturn, 0, 0, 0) :: []
def am_c128_0 : AmCd := (0, .aload_n 0, 0, 0, 0) :: (1, .invokespecial 3, 0, 0, 4) :: (4, .aload_n 0, 0, 0, 0) :: (5, .bipush 40, 0, 0, 0) :: (7, .newarray .int, 0, 0, 0) :: (9, .putfield 11, 8, 0, 1) :: (12, .aload_n 0, 0, 0, 0) :: (13, .iconst 0, 0, 0, 0) :: (14, .putfield 15, 8, 1, 0) :: (17, .aload_n 0, 0, 0, 0) :: (18, .iconst 0, 0, 0, 0) :: (19, .putfield 19, 8, 2, 0) :: (22, .aload_n 0, 0, 0, 0) :: (23, .iconst 0, 0, 0, 0) :: (24, .putfield 22, 8, 3, 0) :: (27, .aload_n 0, 0, 0, 0) :: (28, .iconst 0, 0, 0, 0) :: (29, .putfield 25, 8, 4, 0) :: (32, .aload_n 0, 0, 0, 0) :: (33, .iconst 0, 0, 0, 0) :: (34, .putfield 28, 8, 5, 0) :: (37, .aload_n 0, 0, 0, 0) :: (38, .iconst 0, 0, 0, 0) :: (39, .putfield 31, 8, 6, 0) :: (42, .aload_n 0, 0, 0, 0) :: (43, .iconst 0, 0, 0, 0) :: (44, .putfield 34, 8, 7, 0) :: (47, .return_, 0, 0, 0) :: []
def am_c129_24 : AmCd := (24, .iload_n 1, 0, 0, 0) :: (25, .ireturn, 0, 0, 0) :: []
def am_c129_0 : AmCd := (0, .iload_n 1, 0, 0, 0) :: (1, .bipush (-11), 0, 0, 0) :: (3, .if_icmp .gt 21, 0, 0, 0) :: (6, .aload_n 0, 0, 0, 0) :: (7, .dup, 0, 0, 0) :: (8, .getfield 19, 8, 2, 0) :: (11, .iconst 1, 0, 0, 0) :: (12, .iadd, 0, 0, 0) :: (13, .putfield 19, 8, 2, 0) :: (16, .aload_n 0, 0, 0, 0) :: (17, .iload_n 1, 0, 0, 0) :: (18, .invokestatic 37, 130, 1, 1) :: (21, .putfield 22, 8, 3, 0) :: am_c129_24
def am_c130_0 : AmCd := (0, .bipush (-10), 0, 0, 0) :: (2, .iload_n 0, 0, 0, 0) :: (3, .isub, 0, 0, 0) :: (4, .ireturn, 0, 0, 0) :: []
def am_c131_0 : AmCd := (0, .aload_n 0, 0, 0, 0) :: (1, .getfield 11, 8, 0, 1) :: (4, .aload_n 0, 0, 0, 0) :: (5, .getfield 15, 8, 1, 0) :: (8, .bipush 40, 0, 0, 0) :: (10, .invokestatic 41, 295, 2, 1) :: (13, .iload_n 1, 0, 0, 0) :: (14, .iastore, 0, 0, 0) :: (15, .aload_n 0, 0, 0, 0) :: (16, .dup, 0, 0, 0) :: (17, .getfield 15, 8, 1, 0) :: (20, .iconst 1, 0, 0, 0) :: (21, .iadd, 0, 0, 0) :: (22, .putfield 15, 8, 1, 0) :: (25, .return_, 0, 0, 0) :: []
def am_c132_21 : AmCd := (21, .aload_n 0, 0, 0, 0) :: (22, .getfield 11, 8, 0, 1) :: (25, .aload_n 0, 0, 0, 0) :: (26, .getfield 15, 8, 1, 0) :: (29, .iconst 1, 0, 0, 0) :: (30, .isub, 0, 0, 0) :: (31, .iload_n 1, 0, 0, 0) :: (32, .isub, 0, 0, 0) :: (33, .bipush 40, 0, 0, 0) :: (35, .invokestatic 41, 295, 2, 1) :: (38, .iaload, 0, 0, 0) :: (39, .ireturn, 0, 0, 0) :: []
def am_c132_18 : AmCd := (18, .bipush (-2), 0, 0, 0) :: (20, .ireturn, 0, 0, 0) :: am_c132_21
def am_c132_0 : AmCd := (0, .iload_n 1, 0, 0, 0) :: (1, .ifCond .lt 17, 0, 0, 0) :: (4, .iload_n 1, 0, 0, 0) :: (5, .bipush 40, 0, 0, 0) :: (7, .if_icmp .ge 11, 0, 0, 0) :: (10, .iload_n 1, 0, 0, 0) :: (11, .aload_n 0, 0, 0, 0) :: (12, .getfield 15, 8, 1, 0) :: (15, .if_icmp .lt 6, 0, 0, 0) :: am_c132_18
def am_c133_61 : AmCd := (61, .aload_n 0, 0, 0, 0) :: (62, .getfield 15, 8, 1, 0) :: (65, .ireturn, 0, 0, 0) :: []
def am_c133_56 : AmCd := (56, .aload_n 0, 0, 0, 0) :: (57, .getfield 31, 8, 6, 0) :: (60, .ireturn, 0, 0, 0) :: am_c133_61
def am_c133_51 : AmCd := (51, .aload_n 0, 0, 0, 0) :: (52, .getfield 28, 8, 5, 0) :: (55, .ireturn, 0, 0, 0) :: am_c133_56
def am_c133_46 : AmCd := (46, .aload_n 0, 0, 0, 0) :: (47, .getfield 25, 8, 4, 0) :: (50, .ireturn, 0, 0, 0) :: am_c133_51
def am_c133_41 : AmCd := (41, .aload_n 0, 0, 0, 0) :: (42, .getfield 22, 8, 3, 0) :: (45, .ireturn, 0, 0, 0) :: am_c133_46
def am_c133_36 : AmCd := (36, .aload_n 0, 0, 0, 0) :: (37, .getfield 19, 8, 2, 0) :: (40, .ireturn, 0, 0, 0) :: am_c133_41
def am_c133_0 : AmCd := (0, .iload_n 1, 0, 0, 0) :: (1, .tableswitch 60 0 4 #[35, 40, 45, 50, 55], 0, 0, 0) :: am_c133_36
def am_c134_0 : AmCd := (0, .aload_n 0, 0, 0, 0) :: (1, .dup, 0, 0, 0) :: (2, .getfield 25, 8, 4, 0) :: (5, .iconst 1, 0, 0, 0) :: (6, .iadd, 0, 0, 0) :: (7, .putfield 25, 8, 4, 0) :: (10, .return_, 0, 0, 0) :: []
def am_c135_0 : AmCd := (0, .aload_n 0, 0, 0, 0) :: (1, .dup, 0, 0, 0) :: (2, .getfield 28, 8, 5, 0) :: (5, .iload_n 1, 0, 0, 0) :: (6, .iadd, 0, 0, 0) :: (7, .putfield 28, 8, 5, 0) :: (10, .return_, 0, 0, 0) :: []
def am_c136_0 : AmCd := (0, .aload_n 0, 0, 0, 0) :: (1, .dup, 0, 0, 0) :: (2, .getfield 31, 8, 6, 0) :: (5, .iconst 1, 0, 0, 0) :: (6, .iadd, 0, 0, 0) :: (7, .putfield 31, 8, 6, 0) :: (10, .aload_n 0, 0, 0, 0) :: (11, .getfield 31, 8, 6, 0) :: (14, .iconst 1, 0, 0, 0) :: (15, .isub, 0, 0, 0) :: (16, .ireturn, 0, 0, 0) :: []
def am_c137_0 : AmCd := (0, .aload_n 0, 0, 0, 0) :: (1, .iconst 0, 0, 0, 0) :: (2, .putfield 34, 8, 7, 0) :: (5, .return_, 0, 0, 0) :: []
def am_c138_0 : AmCd := (0, .aload_n 0, 0, 0, 0) :: (1, .dup, 0, 0, 0) :: (2, .getfield 34, 8, 7, 0) :: (5, .iconst 1, 0, 0, 0) :: (6, .iadd, 0, 0, 0) :: (7, .putfield 34, 8, 7, 0) :: (10, .return_, 0, 0, 0) :: []
def am_c139_0 : AmCd := (0, .aload_n 0, 0, 0, 0) :: (1, .getfield 34, 8, 7, 0) :: (4, .ireturn, 0, 0, 0) :: []
def am_c140_0 : AmCd := (0, .aload_n 0, 0, 0, 0) :: (1, .invokespecial 3, 0, 0, 4) :: (4, .aload_n 0, 0, 0, 0) :: (5, .new 9, 3, 0, 0) :: (8, .dup, 0, 0, 0) :: (9, .invokespecial 11, 57, 1, 3) :: (12, .putfield 12, 9, 0, 1) :: (15, .aload_n 0, 0, 0, 0) :: (16, .new 16, 8, 0, 0) :: (19, .dup, 0, 0, 0) :: (20, .invokespecial 18, 128, 1, 3) :: (23, .putfield 19, 9, 1, 1) :: (26, .aload_n 0, 0, 0, 0) :: (27, .new 23, 2, 0, 0) :: (30, .dup, 0, 0, 0) :: (31, .aload_n 0, 0, 0, 0) :: (32, .getfield 12, 9, 0, 1) :: (35, .invokespecial 25, 32, 2, 2) :: (38, .putfield 28, 9, 2, 1) :: (41, .aload_n 0, 0, 0, 0) :: (42, .new 32, 1, 0, 0) :: (45, .dup, 0, 0, 0) :: (46, .aload_n 0, 0, 0, 0) :: (47, .getfield 12, 9, 0, 1) :: (50, .aload_n 0, 0, 0, 0) :: (51, .getfield 19, 9, 1, 1) :: (54, .invokespecial 34, 19, 3, 2) :: (57, .putfield 37, 9, 3, 1) :: (60, .aload_n 0, 0, 0, 0) :: (61, .new 41, 7, 0, 0) :: (64, .dup, 0, 0, 0) :: (65, .aload_n 0, 0, 0, 0) :: (66, .getfield 12, 9, 0, 1) :: (69, .aload_n 0, 0, 0, 0) :: (70, .getfield 28, 9, 2, 1) :: (73, .aload_n 0, 0, 0, 0) :: (74, .getfield 37, 9, 3, 1) :: (77, .invokespecial 43, 93, 4, 2) :: (80, .putfield 46, 9, 4, 1) :: (83, .aload_n 0, 0, 0, 0) :: (84, .new 50, 0, 0, 0) :: (87, .dup, 0, 0, 0) :: (88, .aload_n 0, 0, 0, 0) :: (89, .getfield 12, 9, 0, 1) :: (92, .aload_n 0, 0, 0, 0) :: (93, .getfield 37, 9, 3, 1) :: (96, .aload_n 0, 0, 0, 0) :: (97, .getfield 46, 9, 4, 1) :: (100, .invokespecial 52, 0, 4, 2) :: (103, .putfield 55, 9, 5, 1) :: (106, .aload_n 0, 0, 0, 0) :: (107, .new 59, 6, 0, 0) :: (110, .dup, 0, 0, 0) :: (111, .aload_n 0, 0, 0, 0) :: (112, .getfield 12, 9, 0, 1) :: (115, .aload_n 0, 0, 0, 0) :: (116, .getfield 19, 9, 1, 1) :: (119, .aload_n 0, 0, 0, 0) :: (120, .getfield 37, 9, 3, 1) :: (123, .aload_n 0, 0, 0, 0) :: (124, .getfield 46, 9, 4, 1) :: (127, .invokespecial 61, 80, 5, 2) :: (130, .putfield 64, 9, 6, 1) :: (133, .return_, 0, 0, 0) :: []
def am_c141_49 : AmCd := (49, .aload_n 0, 0, 0, 0) :: (50, .getfield 12, 9, 0, 1) :: (53, .invokevirtual 80, 58, 1, 0) :: (56, .aload_n 0, 0, 0, 0) :: (57, .getfield 28, 9, 2, 1) :: (60, .iload_n 1, 0, 0, 0) :: (61, .iload_n 2, 0, 0, 0) :: (62, .invokevirtual 83, 40, 3, 0) :: (65, .ireturn, 0, 0, 0) :: []
def am_c141_35 : AmCd := (35, .aload_n 0, 0, 0, 0) :: (36, .getfield 28, 9, 2, 1) :: (39, .invokevirtual 76, 33, 1, 0) :: (42, .iconst 3, 0, 0, 0) :: (43, .if_icmp .lt 6, 0, 0, 0) :: (46, .bipush (-3), 0, 0, 0) :: (48, .ireturn, 0, 0, 0) :: am_c141_49
def am_c141_33 : AmCd := (33, .iconst (-1), 0, 0, 0) :: (34, .ireturn, 0, 0, 0) :: am_c141_35
def am_c141_13 : AmCd := (13, .iload_n 1, 0, 0, 0) :: (14, .iconst 1, 0, 0, 0) :: (15, .bipush 8, 0, 0, 0) :: (17, .invokestatic 72, 194, 3, 1) :: (20, .ifCond .eq 13, 0, 0, 0) :: (23, .iload_n 2, 0, 0, 0) :: (24, .iconst 1, 0, 0, 0) :: (25, .bipush 10, 0, 0, 0) :: (27, .invokestatic 72, 194, 3, 1) :: (30, .ifCond .ne 5, 0, 0, 0) :: am_c141_33
def am_c141_0 : AmCd := (0, .aload_n 0, 0, 0, 0) :: (1, .getfield 64, 9, 6, 1) :: (4, .invokevirtual 68, 81, 1, 0) :: (7, .ifCond .eq 6, 0, 0, 0) :: (10, .bipush (-4), 0, 0, 0) :: (12, .ireturn, 0, 0, 0) :: am_c141_13
def am_c142_43 : AmCd := (43, .aload_n 0, 0, 0, 0) :: (44, .getfield 12, 9, 0, 1) :: (47, .invokevirtual 80, 58, 1, 0) :: (50, .aload_n 0, 0, 0, 0) :: (51, .getfield 28, 9, 2, 1) :: (54, .iload_n 1, 0, 0, 0) :: (55, .invokevirtual 95, 41, 2, 0) :: (58, .ireturn, 0, 0, 0) :: []
def am_c142_27 : AmCd := (27, .aload_n 0, 0, 0, 0) :: (28, .getfield 28, 9, 2, 1) :: (31, .iload_n 1, 0, 0, 0) :: (32, .invokevirtual 91, 36, 2, 0) :: (35, .bipush 24, 0, 0, 0) :: (37, .if_icmp .lt 6, 0, 0, 0) :: (40, .bipush (-3), 0, 0, 0) :: (42, .ireturn, 0, 0, 0) :: am_c142_43
def am_c142_13 : AmCd := (13, .aload_n 0, 0, 0, 0) :: (14, .getfield 28, 9, 2, 1) :: (17, .iload_n 1, 0, 0, 0) :: (18, .invokevirtual 87, 34, 2, 0) :: (21, .ifCond .ne 6, 0, 0, 0) :: (24, .bipush (-2), 0, 0, 0) :: (26, .ireturn, 0, 0, 0) :: am_c142_27
def am_c142_0 : AmCd := (0, .aload_n 0, 0, 0, 0) :: (1, .getfield 64, 9, 6, 1) :: (4, .invokevirtual 68, 81, 1, 0) :: (7, .ifCond .eq 6, 0, 0, 0) :: (10, .bipush (-4), 0, 0, 0) :: (12, .ireturn, 0, 0, 0) :: am_c142_13
def am_c143_28 : AmCd := (28, .aload_n 0, 0, 0, 0) :: (29, .getfield 12, 9, 0, 1) :: (32, .invokevirtual 80, 58, 1, 0) :: (35, .aload_n 0, 0, 0, 0) :: (36, .getfield 28, 9, 2, 1) :: (39, .aload_n 0, 0, 0, 0) :: (40, .getfield 28, 9, 2, 1) :: (43, .iload_n 1, 0, 0, 0) :: (44, .iload_n 2, 0, 0, 0) :: (45, .invokevirtual 102, 39, 3, 0) :: (48, .invokevirtual 105, 42, 2, 0) :: (51, .ireturn, 0, 0, 0) :: []
def am_c143_13 : AmCd := (13, .aload_n 0, 0, 0, 0) :: (14, .getfield 28, 9, 2, 1) :: (17, .iload_n 1, 0, 0, 0) :: (18, .iload_n 2, 0, 0, 0) :: (19, .invokevirtual 98, 35, 3, 0) :: (22, .ifCond .ne 6, 0, 0, 0) :: (25, .bipush (-2), 0, 0, 0) :: (27, .ireturn, 0, 0, 0) :: am_c143_28
def am_c143_0 : AmCd := (0, .aload_n 0, 0, 0, 0) :: (1, .getfield 64, 9, 6, 1) :: (4, .invokevirtual 68, 81, 1, 0) :: (7, .ifCond .eq 6, 0, 0, 0) :: (10, .bipush (-4), 0, 0, 0) :: (12, .ireturn, 0, 0, 0) :: am_c143_13
def am_c144_28 : AmCd := (28, .aload_n 0, 0, 0, 0) :: (29, .getfield 12, 9, 0, 1) :: (32, .invokevirtual 80, 58, 1, 0) :: (35, .aload_n 0, 0, 0, 0) :: (36, .getfield 19, 9, 1, 1) :: (39, .aload_n 0, 0, 0, 0) :: (40, .getfield 28, 9, 2, 1) :: (43, .aload_n 0, 0, 0, 0) :: (44, .getfield 28, 9, 2, 1) :: (47, .iload_n 1, 0, 0, 0) :: (48, .iload_n 2, 0, 0, 0) :: (49, .invokevirtual 102, 39, 3, 0) :: (52, .iload_n 3, 0, 0, 0) :: (53, .invokevirtual 108, 43, 3, 0) :: (56, .invokevirtual 111, 129, 2, 0) :: (59, .ireturn, 0, 0, 0) :: []
def am_c144_13 : AmCd := (13, .aload_n 0, 0, 0, 0) :: (14, .getfield 28, 9, 2, 1) :: (17, .iload_n 1, 0, 0, 0) :: (18, .iload_n 2, 0, 0, 0) :: (19, .invokevirtual 98, 35, 3, 0) :: (22, .ifCond .ne 6, 0, 0, 0) :: (25, .bipush (-2), 0, 0, 0) :: (27, .ireturn, 0, 0, 0) :: am_c144_28
def am_c144_0 : AmCd := (0, .aload_n 0, 0, 0, 0) :: (1, .getfield 64, 9, 6, 1) :: (4, .invokevirtual 68, 81, 1, 0) :: (7, .ifCond .eq 6, 0, 0, 0) :: (10, .bipush (-4), 0, 0, 0) :: (12, .ireturn, 0, 0, 0) :: am_c144_13
def am_c145_28 : AmCd := (28, .aload_n 0, 0, 0, 0) :: (29, .getfield 12, 9, 0, 1) :: (32, .invokevirtual 80, 58, 1, 0) :: (35, .aload_n 0, 0, 0, 0) :: (36, .getfield 19, 9, 1, 1) :: (39, .aload_n 0, 0, 0, 0) :: (40, .getfield 28, 9, 2, 1) :: (43, .aload_n 0, 0, 0, 0) :: (44, .getfield 28, 9, 2, 1) :: (47, .iload_n 1, 0, 0, 0) :: (48, .iload_n 2, 0, 0, 0) :: (49, .invokevirtual 102, 39, 3, 0) :: (52, .iload_n 3, 0, 0, 0) :: (53, .iload 4, 0, 0, 0) :: (55, .invokevirtual 114, 44, 4, 0) :: (58, .invokevirtual 111, 129, 2, 0) :: (61, .ireturn, 0, 0, 0) :: []
def am_c145_13 : AmCd := (13, .aload_n 0, 0, 0, 0) :: (14, .getfield 28, 9, 2, 1) :: (17, .iload_n 1, 0, 0, 0) :: (18, .iload_n 2, 0, 0, 0) :: (19, .invokevirtual 98, 35, 3, 0) :: (22, .ifCond .ne 6, 0, 0, 0) :: (25, .bipush (-2), 0, 0, 0) :: (27, .ireturn, 0, 0, 0) :: am_c145_28
def am_c145_0 : AmCd := (0, .aload_n 0, 0, 0, 0) :: (1, .getfield 64, 9, 6, 1) :: (4, .invokevirtual 68, 81, 1, 0) :: (7, .ifCond .eq 6, 0, 0, 0) :: (10, .bipush (-4), 0, 0, 0) :: (12, .ireturn, 0, 0, 0) :: am_c145_13
def am_c146_28 : AmCd := (28, .aload_n 0, 0, 0, 0) :: (29, .getfield 12, 9, 0, 1) :: (32, .invokevirtual 80, 58, 1, 0) :: (35, .aload_n 0, 0, 0, 0) :: (36, .getfield 19, 9, 1, 1) :: (39, .aload_n 0, 0, 0, 0) :: (40, .getfield 28, 9, 2, 1) :: (43, .aload_n 0, 0, 0, 0) :: (44, .getfield 28, 9, 2, 1) :: (47, .iload_n 1, 0, 0, 0) :: (48, .iload_n 2, 0, 0, 0) :: (49, .invokevirtual 102, 39, 3, 0) :: (52, .iload_n 3, 0, 0, 0) :: (53, .invokevirtual 118, 45, 3, 0) :: (56, .invokevirtual 111, 129, 2, 0) :: (59, .ireturn, 0, 0, 0) :: []
def am_c146_13 : AmCd := (13, .aload_n 0, 0, 0, 0) :: (14, .getfield 28, 9, 2, 1) :: (17, .iload_n 1, 0, 0, 0) :: (18, .iload_n 2, 0, 0, 0) :: (19, .invokevirtual 98, 35, 3, 0) :: (22, .ifCond .ne 6, 0, 0, 0) :: (25, .bipush (-2), 0, 0, 0) :: (27, .ireturn, 0, 0, 0) :: am_c146_28
def am_c146_0 : AmCd := (0, .aload_n 0, 0, 0, 0) :: (1, .getfield 64, 9, 6, 1) :: (4, .invokevirtual 68, 81, 1, 0) :: (7, .ifCond .eq 6, 0, 0, 0) :: (10, .bipush (-4), 0, 0, 0) :: (12, .ireturn, 0, 0, 0) :: am_c146_13
def am_c147_42 : AmCd := (42, .aload_n 0, 0, 0, 0) :: (43, .getfield 12, 9, 0, 1) :: (46, .invokevirtual 80, 58, 1, 0) :: (49, .aload_n 0, 0, 0, 0) :: (50, .getfield 19, 9, 1, 1) :: (53, .aload_n 0, 0, 0, 0) :: (54, .getfield 28, 9, 2, 1) :: (57, .aload_n 0, 0, 0, 0) :: (58, .getfield 28, 9, 2, 1) :: (61, .iload_n 1, 0, 0, 0) :: (62, .iload_n 2, 0, 0, 0) :: (63, .invokevirtual 102, 39, 3, 0) :: (66, .iload_n 3, 0, 0, 0) :: (67, .iload 4, 0, 0, 0) :: (69, .iload 5, 0, 0, 0) :: (71, .invokevirtual 121, 46, 5, 0) :: (74, .invokevirtual 111, 129, 2, 0) :: (77, .ireturn, 0, 0, 0) :: []
def am_c147_28 : AmCd := (28, .iload 5, 0, 0, 0) :: (30, .bipush 32, 0, 0, 0) :: (32, .bipush 126, 0, 0, 0) :: (34, .invokestatic 72, 194, 3, 1) :: (37, .ifCond .ne 5, 0, 0, 0) :: (40, .iconst (-1), 0, 0, 0) :: (41, .ireturn, 0, 0, 0) :: am_c147_42
def am_c147_13 : AmCd := (13, .aload_n 0, 0, 0, 0) :: (14, .getfield 28, 9, 2, 1) :: (17, .iload_n 1, 0, 0, 0) :: (18, .iload_n 2, 0, 0, 0) :: (19, .invokevirtual 98, 35, 3, 0) :: (22, .ifCond .ne 6, 0, 0, 0) :: (25, .bipush (-2), 0, 0, 0) :: (27, .ireturn, 0, 0, 0) :: am_c147_28
def am_c147_0 : AmCd := (0, .aload_n 0, 0, 0, 0) :: (1, .getfield 64, 9, 6, 1) :: (4, .invokevirtual 68, 81, 1, 0) :: (7, .ifCond .eq 6, 0, 0, 0) :: (10, .bipush (-4), 0, 0, 0) :: (12, .ireturn, 0, 0, 0) :: am_c147_13
def am_c148_15 : AmCd := (15, .aload_n 0, 0, 0, 0) :: (16, .getfield 19, 9, 1, 1) :: (19, .aload_n 0, 0, 0, 0) :: (20, .getfield 28, 9, 2, 1) :: (23, .aload_n 0, 0, 0, 0) :: (24, .getfield 28, 9, 2, 1) :: (27, .iload_n 1, 0, 0, 0) :: (28, .iload_n 2, 0, 0, 0) :: (29, .invokevirtual 102, 39, 3, 0) :: (32, .iload_n 3, 0, 0, 0) :: (33, .iload 4, 0, 0, 0) :: (35, .invokevirtual 125, 47, 4, 0) :: (38, .invokevirtual 111, 129, 2, 0) :: (41, .ireturn, 0, 0, 0) :: []
def am_c148_0 : AmCd := (0, .aload_n 0, 0, 0, 0) :: (1, .getfield 28, 9, 2, 1) :: (4, .iload_n 1, 0, 0, 0) :: (5, .iload_n 2, 0, 0, 0) :: (6, .invokevirtual 98, 35, 3, 0) :: (9, .ifCond .ne 6, 0, 0, 0) :: (12, .bipush (-2), 0, 0, 0) :: (14, .ireturn, 0, 0, 0) :: am_c148_15
def am_c149_57 : AmCd := (57, .invokevirtual 111, 129, 2, 0) :: (60, .ireturn, 0, 0, 0) :: []
def am_c149_47 : AmCd := (47, .aload_n 0, 0, 0, 0) :: (48, .getfield 28, 9, 2, 1) :: (51, .iload 4, 0, 0, 0) :: (53, .iload_n 3, 0, 0, 0) :: (54, .invokevirtual 131, 49, 3, 0) :: am_c149_57
def am_c149_15 : AmCd := (15, .aload_n 0, 0, 0, 0) :: (16, .getfield 28, 9, 2, 1) :: (19, .iload_n 1, 0, 0, 0) :: (20, .iload_n 2, 0, 0, 0) :: (21, .invokevirtual 102, 39, 3, 0) :: (24, .istore 4, 0, 0, 0) :: (26, .aload_n 0, 0, 0, 0) :: (27, .getfield 19, 9, 1, 1) :: (30, .iload_n 3, 0, 0, 0) :: (31, .iconst (-1), 0, 0, 0) :: (32, .if_icmp .ne 15, 0, 0, 0) :: (35, .aload_n 0, 0, 0, 0) :: (36, .getfield 28, 9, 2, 1) :: (39, .iload 4, 0, 0, 0) :: (41, .invokevirtual 128, 48, 2, 0) :: (44, .goto 13, 0, 0, 0) :: am_c149_47
def am_c149_0 : AmCd := (0, .aload_n 0, 0, 0, 0) :: (1, .getfield 28, 9, 2, 1) :: (4, .iload_n 1, 0, 0, 0) :: (5, .iload_n 2, 0, 0, 0) :: (6, .invokevirtual 98, 35, 3, 0) :: (9, .ifCond .ne 6, 0, 0, 0) :: (12, .bipush (-2), 0, 0, 0) :: (14, .ireturn, 0, 0, 0) :: am_c149_15
def am_c150_141 : AmCd := (141, .iconst 1, 0, 0, 0) :: (142, .ireturn, 0, 0, 0) :: []
def am_c150_128 : AmCd := (128, .aload_n 0, 0, 0, 0) :: (129, .getfield 19, 9, 1, 1) :: (132, .invokevirtual 141, 138, 1, 0) :: (135, .iinc 8 1, 0, 0, 0) :: (138, .goto (-67), 0, 0, 0) :: am_c150_141
def am_c150_71 : AmCd := (71, .iload 8, 0, 0, 0) :: (73, .iload 6, 0, 0, 0) :: (75, .if_icmp .ge 66, 0, 0, 0) :: (78, .aload_n 0, 0, 0, 0) :: (79, .getfield 28, 9, 2, 1) :: (82, .aload_n 0, 0, 0, 0) :: (83, .getfield 28, 9, 2, 1) :: (86, .iload_n 1, 0, 0, 0) :: (87, .iload_n 2, 0, 0, 0) :: (88, .invokevirtual 102, 39, 3, 0) :: (91, .iload_n 3, 0, 0, 0) :: (92, .iload 8, 0, 0, 0) :: (94, .iadd, 0, 0, 0) :: (95, .aload_n 0, 0, 0, 0) :: (96, .getfield 28, 9, 2, 1) :: (99, .iload_n 1, 0, 0, 0) :: (100, .iload 4, 0, 0, 0) :: (102, .invokevirtual 102, 39, 3, 0) :: (105, .iload 5, 0, 0, 0) :: (107, .iload 8, 0, 0, 0) :: (109, .iadd, 0, 0, 0) :: (110, .iload 7, 0, 0, 0) :: (112, .invokevirtual 137, 52, 6, 0) :: (115, .ifCond .ne 13, 0, 0, 0) :: (118, .aload_n 0, 0, 0, 0) :: (119, .getfield 19, 9, 1, 1) :: (122, .bipush (-15), 0, 0, 0) :: (124, .invokevirtual 111, 129, 2, 0) :: (127, .ireturn, 0, 0, 0) :: am_c150_128
def am_c150_54 : AmCd := (54, .aload_n 0, 0, 0, 0) :: (55, .getfield 12, 9, 0, 1) :: (58, .invokevirtual 80, 58, 1, 0) :: (61, .aload_n 0, 0, 0, 0) :: (62, .getfield 19, 9, 1, 1) :: (65, .invokevirtual 134, 137, 1, 0) :: (68, .iconst 0, 0, 0, 0) :: (69, .istore 8, 0, 0, 0) :: am_c150_71
def am_c150_41 : AmCd := (41, .iload 6, 0, 0, 0) :: (43, .iconst 0, 0, 0, 0) :: (44, .bipush 8, 0, 0, 0) :: (46, .invokestatic 72, 194, 3, 1) :: (49, .ifCond .ne 5, 0, 0, 0) :: (52, .iconst (-1), 0, 0, 0) :: (53, .ireturn, 0, 0, 0) :: am_c150_54
def am_c150_38 : AmCd := (38, .bipush (-2), 0, 0, 0) :: (40, .ireturn, 0, 0, 0) :: am_c150_41
def am_c150_13 : AmCd := (13, .aload_n 0, 0, 0, 0) :: (14, .getfield 28, 9, 2, 1) :: (17, .iload_n 1, 0, 0, 0) :: (18, .iload_n 2, 0, 0, 0) :: (19, .invokevirtual 98, 35, 3, 0) :: (22, .ifCond .eq 16, 0, 0, 0) :: (25, .aload_n 0, 0, 0, 0) :: (26, .getfield 28, 9, 2, 1) :: (29, .iload_n 1, 0, 0, 0) :: (30, .iload 4, 0, 0, 0) :: (32, .invokevirtual 98, 35, 3, 0) :: (35, .ifCond .ne 6, 0, 0, 0) :: am_c150_38
def am_c150_0 : AmCd := (0, .aload_n 0, 0, 0, 0) :: (1, .getfield 64, 9, 6, 1) :: (4, .invokevirtual 68, 81, 1, 0) :: (7, .ifCond .eq 6, 0, 0, 0) :: (10, .bipush (-4), 0, 0, 0) :: (12, .ireturn, 0, 0, 0) :: am_c150_13
def am_c151_0 : AmCd := (0, .aload_n 0, 0, 0, 0) :: (1, .getfield 19, 9, 1, 1) :: (4, .invokevirtual 144, 139, 1, 0) :: (7, .ireturn, 0, 0, 0) :: []
def am_c152_27 : AmCd := (27, .aload_n 0, 0, 0, 0) :: (28, .getfield 12, 9, 0, 1) :: (31, .invokevirtual 80, 58, 1, 0) :: (34, .aload_n 0, 0, 0, 0) :: (35, .getfield 19, 9, 1, 1) :: (38, .aload_n 0, 0, 0, 0) :: (39, .getfield 28, 9, 2, 1) :: (42, .iload_n 1, 0, 0, 0) :: (43, .iload_n 2, 0, 0, 0) :: (44, .iload_n 3, 0, 0, 0) :: (45, .invokevirtual 147, 53, 4, 0) :: (48, .invokevirtual 111, 129, 2, 0) :: (51, .ireturn, 0, 0, 0) :: []
def am_c152_13 : AmCd := (13, .aload_n 0, 0, 0, 0) :: (14, .getfield 28, 9, 2, 1) :: (17, .iload_n 1, 0, 0, 0) :: (18, .invokevirtual 87, 34, 2, 0) :: (21, .ifCond .ne 6, 0, 0, 0) :: (24, .bipush (-2), 0, 0, 0) :: (26, .ireturn, 0, 0, 0) :: am_c152_27
def am_c152_0 : AmCd := (0, .aload_n 0, 0, 0, 0) :: (1, .getfield 64, 9, 6, 1) :: (4, .invokevirtual 68, 81, 1, 0) :: (7, .ifCond .eq 6, 0, 0, 0) :: (10, .bipush (-4), 0, 0, 0) :: (12, .ireturn, 0, 0, 0) :: am_c152_13
def am_c153_63 : AmCd := (63, .aload_n 0, 0, 0, 0) :: (64, .getfield 12, 9, 0, 1) :: (67, .invokevirtual 80, 58, 1, 0) :: (70, .aload_n 0, 0, 0, 0) :: (71, .getfield 28, 9, 2, 1) :: (74, .iload_n 1, 0, 0, 0) :: (75, .iload_n 2, 0, 0, 0) :: (76, .invokevirtual 150, 55, 3, 0) :: (79, .ireturn, 0, 0, 0) :: []
def am_c153_38 : AmCd := (38, .aload_n 0, 0, 0, 0) :: (39, .getfield 28, 9, 2, 1) :: (42, .iload_n 1, 0, 0, 0) :: (43, .invokevirtual 91, 36, 2, 0) :: (46, .aload_n 0, 0, 0, 0) :: (47, .getfield 28, 9, 2, 1) :: (50, .iload_n 2, 0, 0, 0) :: (51, .invokevirtual 91, 36, 2, 0) :: (54, .iadd, 0, 0, 0) :: (55, .bipush 24, 0, 0, 0) :: (57, .if_icmp .le 6, 0, 0, 0) :: (60, .bipush (-3), 0, 0, 0) :: (62, .ireturn, 0, 0, 0) :: am_c153_63
def am_c153_35 : AmCd := (35, .bipush (-2), 0, 0, 0) :: (37, .ireturn, 0, 0, 0) :: am_c153_38
def am_c153_13 : AmCd := (13, .aload_n 0, 0, 0, 0) :: (14, .getfield 28, 9, 2, 1) :: (17, .iload_n 1, 0, 0, 0) :: (18, .invokevirtual 87, 34, 2, 0) :: (21, .ifCond .eq 14, 0, 0, 0) :: (24, .aload_n 0, 0, 0, 0) :: (25, .getfield 28, 9, 2, 1) :: (28, .iload_n 2, 0, 0, 0) :: (29, .invokevirtual 87, 34, 2, 0) :: (32, .ifCond .ne 6, 0, 0, 0) :: am_c153_35
def am_c153_0 : AmCd := (0, .aload_n 0, 0, 0, 0) :: (1, .getfield 64, 9, 6, 1) :: (4, .invokevirtual 68, 81, 1, 0) :: (7, .ifCond .eq 6, 0, 0, 0) :: (10, .bipush (-4), 0, 0, 0) :: (12, .ireturn, 0, 0, 0) :: am_c153_13
def am_c154_48 : AmCd := (48, .aload_n 0, 0, 0, 0) :: (49, .getfield 12, 9, 0, 1) :: (52, .invokevirtual 80, 58, 1, 0) :: (55, .aload_n 0, 0, 0, 0) :: (56, .getfield 37, 9, 3, 1) :: (59, .iload_n 1, 0, 0, 0) :: (60, .iload_n 2, 0, 0, 0) :: (61, .invokevirtual 154, 27, 3, 0) :: (64, .ireturn, 0, 0, 0) :: []
def am_c154_33 : AmCd := (33, .aload_n 0, 0, 0, 0) :: (34, .getfield 37, 9, 3, 1) :: (37, .invokevirtual 153, 20, 1, 0) :: (40, .bipush 16, 0, 0, 0) :: (42, .if_icmp .lt 6, 0, 0, 0) :: (45, .bipush (-3), 0, 0, 0) :: (47, .ireturn, 0, 0, 0) :: am_c154_48
def am_c154_31 : AmCd := (31, .iconst (-1), 0, 0, 0) :: (32, .ireturn, 0, 0, 0) :: am_c154_33
def am_c154_13 : AmCd := (13, .iload_n 1, 0, 0, 0) :: (14, .iconst 0, 0, 0, 0) :: (15, .iconst 4, 0, 0, 0) :: (16, .invokestatic 72, 194, 3, 1) :: (19, .ifCond .eq 12, 0, 0, 0) :: (22, .iload_n 2, 0, 0, 0) :: (23, .iconst 0, 0, 0, 0) :: (24, .iconst 1, 0, 0, 0) :: (25, .invokestatic 72, 194, 3, 1) :: (28, .ifCond .ne 5, 0, 0, 0) :: am_c154_31
def am_c154_0 : AmCd := (0, .aload_n 0, 0, 0, 0) :: (1, .getfield 64, 9, 6, 1) :: (4, .invokevirtual 68, 81, 1, 0) :: (7, .ifCond .eq 6, 0, 0, 0) :: (10, .bipush (-4), 0, 0, 0) :: (12, .ireturn, 0, 0, 0) :: am_c154_13
def am_c155_75 : AmCd := (75, .aload_n 0, 0, 0, 0) :: (76, .getfield 12, 9, 0, 1) :: (79, .invokevirtual 80, 58, 1, 0) :: (82, .aload_n 0, 0, 0, 0) :: (83, .getfield 37, 9, 3, 1) :: (86, .iload_n 1, 0, 0, 0) :: (87, .iload_n 2, 0, 0, 0) :: (88, .invokevirtual 161, 28, 3, 0) :: (91, .ireturn, 0, 0, 0) :: []
def am_c155_72 : AmCd := (72, .bipush (-3), 0, 0, 0) :: (74, .ireturn, 0, 0, 0) :: am_c155_75
def am_c155_38 : AmCd := (38, .aload_n 0, 0, 0, 0) :: (39, .getfield 37, 9, 3, 1) :: (42, .invokevirtual 153, 20, 1, 0) :: (45, .bipush 16, 0, 0, 0) :: (47, .if_icmp .ge 25, 0, 0, 0) :: (50, .aload_n 0, 0, 0, 0) :: (51, .getfield 37, 9, 3, 1) :: (54, .iload_n 1, 0, 0, 0) :: (55, .invokevirtual 158, 22, 2, 0) :: (58, .aload_n 0, 0, 0, 0) :: (59, .getfield 37, 9, 3, 1) :: (62, .iload_n 2, 0, 0, 0) :: (63, .invokevirtual 158, 22, 2, 0) :: (66, .iadd, 0, 0, 0) :: (67, .bipush 8, 0, 0, 0) :: (69, .if_icmp .le 6, 0, 0, 0) :: am_c155_72
def am_c155_35 : AmCd := (35, .bipush (-2), 0, 0, 0) :: (37, .ireturn, 0, 0, 0) :: am_c155_38
def am_c155_13 : AmCd := (13, .aload_n 0, 0, 0, 0) :: (14, .getfield 37, 9, 3, 1) :: (17, .iload_n 1, 0, 0, 0) :: (18, .invokevirtual 157, 21, 2, 0) :: (21, .ifCond .eq 14, 0, 0, 0) :: (24, .aload_n 0, 0, 0, 0) :: (25, .getfield 37, 9, 3, 1) :: (28, .iload_n 2, 0, 0, 0) :: (29, .invokevirtual 157, 21, 2, 0) :: (32, .ifCond .ne 6, 0, 0, 0) :: am_c155_35
def am_c155_0 : AmCd := (0, .aload_n 0, 0, 0, 0) :: (1, .getfield 64, 9, 6, 1) :: (4, .invokevirtual 68, 81, 1, 0) :: (7, .ifCond .eq 6, 0, 0, 0) :: (10, .bipush (-4), 0, 0, 0) :: (12, .ireturn, 0, 0, 0) :: am_c155_13
def am_c156_14 : AmCd := (14, .aload_n 0, 0, 0, 0) :: (15, .getfield 19, 9, 1, 1) :: (18, .aload_n 0, 0, 0, 0) :: (19, .getfield 37, 9, 3, 1) :: (22, .iload_n 1, 0, 0, 0) :: (23, .invokevirtual 164, 25, 2, 0) :: (26, .invokevirtual 111, 129, 2, 0) :: (29, .ireturn, 0, 0, 0) :: []
def am_c156_0 : AmCd := (0, .aload_n 0, 0, 0, 0) :: (1, .getfield 37, 9, 3, 1) :: (4, .iload_n 1, 0, 0, 0) :: (5, .invokevirtual 157, 21, 2, 0) :: (8, .ifCond .ne 6, 0, 0, 0) :: (11, .bipush (-2), 0, 0, 0) :: (13, .ireturn, 0, 0, 0) :: am_c156_14
def am_c157_25 : AmCd := (25, .aload_n 0, 0, 0, 0) :: (26, .getfield 19, 9, 1, 1) :: (29, .aload_n 0, 0, 0, 0) :: (30, .getfield 37, 9, 3, 1) :: (33, .iload_n 1, 0, 0, 0) :: (34, .iload_n 2, 0, 0, 0) :: (35, .invokevirtual 167, 26, 3, 0) :: (38, .invokevirtual 111, 129, 2, 0) :: (41, .ireturn, 0, 0, 0) :: []
def am_c157_14 : AmCd := (14, .iload_n 2, 0, 0, 0) :: (15, .iconst 0, 0, 0, 0) :: (16, .iconst 1, 0, 0, 0) :: (17, .invokestatic 72, 194, 3, 1) :: (20, .ifCond .ne 5, 0, 0, 0) :: (23, .iconst (-1), 0, 0, 0) :: (24, .ireturn, 0, 0, 0) :: am_c157_25
def am_c157_0 : AmCd := (0, .aload_n 0, 0, 0, 0) :: (1, .getfield 37, 9, 3, 1) :: (4, .iload_n 1, 0, 0, 0) :: (5, .invokevirtual 157, 21, 2, 0) :: (8, .ifCond .ne 6, 0, 0, 0) :: (11, .bipush (-2), 0, 0, 0) :: (13, .ireturn, 0, 0, 0) :: am_c157_14
def am_c158_48 : AmCd := (48, .ireturn, 0, 0, 0) :: []
def am_c158_40 : AmCd := (40, .aload_n 0, 0, 0, 0) :: (41, .getfield 37, 9, 3, 1) :: (44, .iload_n 1, 0, 0, 0) :: (45, .invokevirtual 173, 24, 2, 0) :: am_c158_48
def am_c158_25 : AmCd := (25, .iload_n 2, 0, 0, 0) :: (26, .ifCond .ne 14, 0, 0, 0) :: (29, .aload_n 0, 0, 0, 0) :: (30, .getfield 37, 9, 3, 1) :: (33, .iload_n 1, 0, 0, 0) :: (34, .invokevirtual 170, 23, 2, 0) :: (37, .goto 11, 0, 0, 0) :: am_c158_40
def am_c158_14 : AmCd := (14, .iload_n 2, 0, 0, 0) :: (15, .iconst 0, 0, 0, 0) :: (16, .iconst 1, 0, 0, 0) :: (17, .invokestatic 72, 194, 3, 1) :: (20, .ifCond .ne 5, 0, 0, 0) :: (23, .iconst (-1), 0, 0, 0) :: (24, .ireturn, 0, 0, 0) :: am_c158_25
def am_c158_0 : AmCd := (0, .aload_n 0, 0, 0, 0) :: (1, .getfield 37, 9, 3, 1) :: (4, .iload_n 1, 0, 0, 0) :: (5, .invokevirtual 157, 21, 2, 0) :: (8, .ifCond .ne 6, 0, 0, 0) :: (11, .bipush (-2), 0, 0, 0) :: (13, .ireturn, 0, 0, 0) :: am_c158_14
def am_c159_86 : AmCd := (86, .ireturn, 0, 0, 0) :: []
def am_c159_74 : AmCd := (74, .aload_n 0, 0, 0, 0) :: (75, .getfield 37, 9, 3, 1) :: (78, .iconst 0, 0, 0, 0) :: (79, .iload 4, 0, 0, 0) :: (81, .iload 5, 0, 0, 0) :: (83, .invokevirtual 179, 31, 4, 0) :: am_c159_86
def am_c159_62 : AmCd := (62, .aload_n 0, 0, 0, 0) :: (63, .getfield 19, 9, 1, 1) :: (66, .bipush (-12), 0, 0, 0) :: (68, .invokevirtual 111, 129, 2, 0) :: (71, .goto 15, 0, 0, 0) :: am_c159_74
def am_c159_50 : AmCd := (50, .iload 4, 0, 0, 0) :: (52, .ifCond .lt 10, 0, 0, 0) :: (55, .iload 4, 0, 0, 0) :: (57, .iload 6, 0, 0, 0) :: (59, .if_icmp .lt 15, 0, 0, 0) :: am_c159_62
def am_c159_26 : AmCd := (26, .aload_n 0, 0, 0, 0) :: (27, .iload_n 1, 0, 0, 0) :: (28, .iload_n 2, 0, 0, 0) :: (29, .iload_n 3, 0, 0, 0) :: (30, .invokevirtual 176, 161, 4, 0) :: (33, .istore 6, 0, 0, 0) :: (35, .iload 6, 0, 0, 0) :: (37, .ifCond .ge 13, 0, 0, 0) :: (40, .aload_n 0, 0, 0, 0) :: (41, .getfield 19, 9, 1, 1) :: (44, .iload 6, 0, 0, 0) :: (46, .invokevirtual 111, 129, 2, 0) :: (49, .ireturn, 0, 0, 0) :: am_c159_50
def am_c159_14 : AmCd := (14, .iload 5, 0, 0, 0) :: (16, .iconst 0, 0, 0, 0) :: (17, .iconst 3, 0, 0, 0) :: (18, .invokestatic 72, 194, 3, 1) :: (21, .ifCond .ne 5, 0, 0, 0) :: (24, .iconst (-1), 0, 0, 0) :: (25, .ireturn, 0, 0, 0) :: am_c159_26
def am_c159_0 : AmCd := (0, .aload_n 0, 0, 0, 0) :: (1, .getfield 37, 9, 3, 1) :: (4, .iload_n 1, 0, 0, 0) :: (5, .invokevirtual 157, 21, 2, 0) :: (8, .ifCond .ne 6, 0, 0, 0) :: (11, .bipush (-2), 0, 0, 0) :: (13, .ireturn, 0, 0, 0) :: am_c159_14
def am_c160_14 : AmCd := (14, .aload_n 0, 0, 0, 0) :: (15, .getfield 19, 9, 1, 1) :: (18, .aload_n 0, 0, 0, 0) :: (19, .iload_n 1, 0, 0, 0) :: (20, .iload_n 2, 0, 0, 0) :: (21, .iload_n 3, 0, 0, 0) :: (22, .invokevirtual 176, 161, 4, 0) :: (25, .invokevirtual 111, 129, 2, 0) :: (28, .ireturn, 0, 0, 0) :: []
def am_c160_0 : AmCd := (0, .aload_n 0, 0, 0, 0) :: (1, .getfield 37, 9, 3, 1) :: (4, .iload_n 1, 0, 0, 0) :: (5, .invokevirtual 157, 21, 2, 0) :: (8, .ifCond .ne 6, 0, 0, 0) :: (11, .bipush (-2), 0, 0, 0) :: (13, .ireturn, 0, 0, 0) :: am_c160_14
def am_c161_28 : AmCd := (28, .ireturn, 0, 0, 0) :: []
def am_c161_17 : AmCd := (17, .aload_n 0, 0, 0, 0) :: (18, .getfield 37, 9, 3, 1) :: (21, .iload_n 1, 0, 0, 0) :: (22, .iload_n 2, 0, 0, 0) :: (23, .iload_n 3, 0, 0, 0) :: (24, .iconst 0, 0, 0, 0) :: (25, .invokevirtual 185, 29, 5, 0) :: am_c161_28
def am_c161_0 : AmCd := (0, .iload_n 2, 0, 0, 0) :: (1, .iload_n 3, 0, 0, 0) :: (2, .invokestatic 182, 162, 2, 1) :: (5, .istore 4, 0, 0, 0) :: (7, .iload 4, 0, 0, 0) :: (9, .ifCond .ge 8, 0, 0, 0) :: (12, .iload 4, 0, 0, 0) :: (14, .goto 14, 0, 0, 0) :: am_c161_17
def am_c162_29 : AmCd := (29, .ireturn, 0, 0, 0) :: []
def am_c162_28 : AmCd := (28, .iconst 1, 0, 0, 0) :: am_c162_29
def am_c162_23 : AmCd := (23, .bipush (-13), 0, 0, 0) :: (25, .goto 4, 0, 0, 0) :: am_c162_28
def am_c162_15 : AmCd := (15, .iload_n 0, 0, 0, 0) :: (16, .ifCond .lt 7, 0, 0, 0) :: (19, .iload_n 1, 0, 0, 0) :: (20, .ifCond .ge 8, 0, 0, 0) :: am_c162_23
def am_c162_12 : AmCd := (12, .bipush (-14), 0, 0, 0) :: (14, .ireturn, 0, 0, 0) :: am_c162_15
def am_c162_0 : AmCd := (0, .iload_n 0, 0, 0, 0) :: (1, .bipush 8, 0, 0, 0) :: (3, .if_icmp .gt 9, 0, 0, 0) :: (6, .iload_n 1, 0, 0, 0) :: (7, .bipush 8, 0, 0, 0) :: (9, .if_icmp .le 6, 0, 0, 0) :: am_c162_12
def am_c163_83 : AmCd := (83, .ireturn, 0, 0, 0) :: []
def am_c163_73 : AmCd := (73, .aload_n 0, 0, 0, 0) :: (74, .getfield 46, 9, 4, 1) :: (77, .iload_n 1, 0, 0, 0) :: (78, .iload_n 2, 0, 0, 0) :: (79, .iload_n 3, 0, 0, 0) :: (80, .invokevirtual 189, 96, 4, 0) :: am_c163_83
def am_c163_42 : AmCd := (42, .aload_n 0, 0, 0, 0) :: (43, .getfield 12, 9, 0, 1) :: (46, .invokevirtual 80, 58, 1, 0) :: (49, .iload_n 2, 0, 0, 0) :: (50, .iload_n 3, 0, 0, 0) :: (51, .invokestatic 182, 162, 2, 1) :: (54, .istore 4, 0, 0, 0) :: (56, .iload 4, 0, 0, 0) :: (58, .ifCond .ge 15, 0, 0, 0) :: (61, .aload_n 0, 0, 0, 0) :: (62, .getfield 19, 9, 1, 1) :: (65, .iload 4, 0, 0, 0) :: (67, .invokevirtual 111, 129, 2, 0) :: (70, .goto 13, 0, 0, 0) :: am_c163_73
def am_c163_27 : AmCd := (27, .aload_n 0, 0, 0, 0) :: (28, .getfield 46, 9, 4, 1) :: (31, .invokevirtual 188, 94, 1, 0) :: (34, .bipush 8, 0, 0, 0) :: (36, .if_icmp .lt 6, 0, 0, 0) :: (39, .bipush (-3), 0, 0, 0) :: (41, .ireturn, 0, 0, 0) :: am_c163_42
def am_c163_13 : AmCd := (13, .aload_n 0, 0, 0, 0) :: (14, .getfield 28, 9, 2, 1) :: (17, .iload_n 1, 0, 0, 0) :: (18, .invokevirtual 87, 34, 2, 0) :: (21, .ifCond .ne 6, 0, 0, 0) :: (24, .bipush (-2), 0, 0, 0) :: (26, .ireturn, 0, 0, 0) :: am_c163_27
def am_c163_0 : AmCd := (0, .aload_n 0, 0, 0, 0) :: (1, .getfield 64, 9, 6, 1) :: (4, .invokevirtual 68, 81, 1, 0) :: (7, .ifCond .eq 6, 0, 0, 0) :: (10, .bipush (-4), 0, 0, 0) :: (12, .ireturn, 0, 0, 0) :: am_c163_13
def am_c164_36 : AmCd := (36, .aload_n 0, 0, 0, 0) :: (37, .getfield 12, 9, 0, 1) :: (40, .invokevirtual 80, 58, 1, 0) :: (43, .aload_n 0, 0, 0, 0) :: (44, .getfield 19, 9, 1, 1) :: (47, .aload_n 0, 0, 0, 0) :: (48, .getfield 46, 9, 4, 1) :: (51, .iload_n 1, 0, 0, 0) :: (52, .iload_n 2, 0, 0, 0) :: (53, .iload_n 3, 0, 0, 0) :: (54, .invokevirtual 195, 103, 4, 0) :: (57, .invokevirtual 111, 129, 2, 0) :: (60, .ireturn, 0, 0, 0) :: []
def am_c164_27 : AmCd := (27, .iload_n 2, 0, 0, 0) :: (28, .invokestatic 192, 195, 1, 1) :: (31, .ifCond .ne 5, 0, 0, 0) :: (34, .iconst (-1), 0, 0, 0) :: (35, .ireturn, 0, 0, 0) :: am_c164_36
def am_c164_13 : AmCd := (13, .aload_n 0, 0, 0, 0) :: (14, .getfield 46, 9, 4, 1) :: (17, .iload_n 1, 0, 0, 0) :: (18, .invokevirtual 191, 95, 2, 0) :: (21, .ifCond .ne 6, 0, 0, 0) :: (24, .bipush (-2), 0, 0, 0) :: (26, .ireturn, 0, 0, 0) :: am_c164_27
def am_c164_0 : AmCd := (0, .aload_n 0, 0, 0, 0) :: (1, .getfield 64, 9, 6, 1) :: (4, .invokevirtual 68, 81, 1, 0) :: (7, .ifCond .eq 6, 0, 0, 0) :: (10, .bipush (-4), 0, 0, 0) :: (12, .ireturn, 0, 0, 0) :: am_c164_13
def am_c165_108 : AmCd := (108, .ireturn, 0, 0, 0) :: []
def am_c165_95 : AmCd := (95, .aload_n 0, 0, 0, 0) :: (96, .getfield 46, 9, 4, 1) :: (99, .iload 7, 0, 0, 0) :: (101, .iload 5, 0, 0, 0) :: (103, .iload 6, 0, 0, 0) :: (105, .invokevirtual 201, 105, 4, 0) :: am_c165_108
def am_c165_57 : AmCd := (57, .aload_n 0, 0, 0, 0) :: (58, .getfield 12, 9, 0, 1) :: (61, .invokevirtual 80, 58, 1, 0) :: (64, .aload_n 0, 0, 0, 0) :: (65, .getfield 46, 9, 4, 1) :: (68, .iload_n 1, 0, 0, 0) :: (69, .iload_n 2, 0, 0, 0) :: (70, .iload_n 3, 0, 0, 0) :: (71, .iload 4, 0, 0, 0) :: (73, .invokevirtual 198, 104, 5, 0) :: (76, .istore 7, 0, 0, 0) :: (78, .iload 7, 0, 0, 0) :: (80, .ifCond .ge 15, 0, 0, 0) :: (83, .aload_n 0, 0, 0, 0) :: (84, .getfield 19, 9, 1, 1) :: (87, .iload 7, 0, 0, 0) :: (89, .invokevirtual 111, 129, 2, 0) :: (92, .goto 16, 0, 0, 0) :: am_c165_95
def am_c165_55 : AmCd := (55, .iconst (-1), 0, 0, 0) :: (56, .ireturn, 0, 0, 0) :: am_c165_57
def am_c165_27 : AmCd := (27, .iload_n 2, 0, 0, 0) :: (28, .invokestatic 192, 195, 1, 1) :: (31, .ifCond .eq 24, 0, 0, 0) :: (34, .iload 5, 0, 0, 0) :: (36, .iconst 0, 0, 0, 0) :: (37, .bipush 24, 0, 0, 0) :: (39, .invokestatic 72, 194, 3, 1) :: (42, .ifCond .eq 13, 0, 0, 0) :: (45, .iload 6, 0, 0, 0) :: (47, .iconst 0, 0, 0, 0) :: (48, .iconst 1, 0, 0, 0) :: (49, .invokestatic 72, 194, 3, 1) :: (52, .ifCond .ne 5, 0, 0, 0) :: am_c165_55
def am_c165_13 : AmCd := (13, .aload_n 0, 0, 0, 0) :: (14, .getfield 46, 9, 4, 1) :: (17, .iload_n 1, 0, 0, 0) :: (18, .invokevirtual 191, 95, 2, 0) :: (21, .ifCond .ne 6, 0, 0, 0) :: (24, .bipush (-2), 0, 0, 0) :: (26, .ireturn, 0, 0, 0) :: am_c165_27
def am_c165_0 : AmCd := (0, .aload_n 0, 0, 0, 0) :: (1, .getfield 64, 9, 6, 1) :: (4, .invokevirtual 68, 81, 1, 0) :: (7, .ifCond .eq 6, 0, 0, 0) :: (10, .bipush (-4), 0, 0, 0) :: (12, .ireturn, 0, 0, 0) :: am_c165_13
def am_c166_88 : AmCd := (88, .ireturn, 0, 0, 0) :: []
def am_c166_79 : AmCd := (79, .aload_n 0, 0, 0, 0) :: (80, .getfield 46, 9, 4, 1) :: (83, .iload 6, 0, 0, 0) :: (85, .invokevirtual 207, 107, 2, 0) :: am_c166_88
def am_c166_62 : AmCd := (62, .iload 5, 0, 0, 0) :: (64, .ifCond .ne 15, 0, 0, 0) :: (67, .aload_n 0, 0, 0, 0) :: (68, .getfield 46, 9, 4, 1) :: (71, .iload 6, 0, 0, 0) :: (73, .invokevirtual 204, 106, 2, 0) :: (76, .goto 12, 0, 0, 0) :: am_c166_79
def am_c166_33 : AmCd := (33, .aload_n 0, 0, 0, 0) :: (34, .getfield 46, 9, 4, 1) :: (37, .iload_n 1, 0, 0, 0) :: (38, .iload_n 2, 0, 0, 0) :: (39, .iload_n 3, 0, 0, 0) :: (40, .iload 4, 0, 0, 0) :: (42, .invokevirtual 198, 104, 5, 0) :: (45, .istore 6, 0, 0, 0) :: (47, .iload 6, 0, 0, 0) :: (49, .ifCond .ge 13, 0, 0, 0) :: (52, .aload_n 0, 0, 0, 0) :: (53, .getfield 19, 9, 1, 1) :: (56, .iload 6, 0, 0, 0) :: (58, .invokevirtual 111, 129, 2, 0) :: (61, .ireturn, 0, 0, 0) :: am_c166_62
def am_c166_31 : AmCd := (31, .iconst (-1), 0, 0, 0) :: (32, .ireturn, 0, 0, 0) :: am_c166_33
def am_c166_14 : AmCd := (14, .iload_n 2, 0, 0, 0) :: (15, .invokestatic 192, 195, 1, 1) :: (18, .ifCond .eq 13, 0, 0, 0) :: (21, .iload 5, 0, 0, 0) :: (23, .iconst 0, 0, 0, 0) :: (24, .iconst 1, 0, 0, 0) :: (25, .invokestatic 72, 194, 3, 1) :: (28, .ifCond .ne 5, 0, 0, 0) :: am_c166_31
def am_c166_0 : AmCd := (0, .aload_n 0, 0, 0, 0) :: (1, .getfield 46, 9, 4, 1) :: (4, .iload_n 1, 0, 0, 0) :: (5, .invokevirtual 191, 95, 2, 0) :: (8, .ifCond .ne 6, 0, 0, 0) :: (11, .bipush (-2), 0, 0, 0) :: (13, .ireturn, 0, 0, 0) :: am_c166_14
def am_c167_174 : AmCd := (174, .iconst 1, 0, 0, 0) :: (175, .ireturn, 0, 0, 0) :: []
def am_c167_148 : AmCd := (148, .aload_n 0, 0, 0, 0) :: (149, .getfield 46, 9, 4, 1) :: (152, .iload 10, 0, 0, 0) :: (154, .iload 11, 0, 0, 0) :: (156, .iload 8, 0, 0, 0) :: (158, .invokevirtual 213, 109, 4, 0) :: (161, .aload_n 0, 0, 0, 0) :: (162, .getfield 19, 9, 1, 1) :: (165, .invokevirtual 141, 138, 1, 0) :: (168, .iinc 9 1, 0, 0, 0) :: (171, .goto (-87), 0, 0, 0) :: am_c167_174
def am_c167_138 : AmCd := (138, .aload_n 0, 0, 0, 0) :: (139, .getfield 19, 9, 1, 1) :: (142, .bipush (-15), 0, 0, 0) :: (144, .invokevirtual 111, 129, 2, 0) :: (147, .ireturn, 0, 0, 0) :: am_c167_148
def am_c167_84 : AmCd := (84, .iload 9, 0, 0, 0) :: (86, .iload 7, 0, 0, 0) :: (88, .if_icmp .ge 86, 0, 0, 0) :: (91, .aload_n 0, 0, 0, 0) :: (92, .getfield 46, 9, 4, 1) :: (95, .iload_n 1, 0, 0, 0) :: (96, .iload_n 2, 0, 0, 0) :: (97, .iload_n 3, 0, 0, 0) :: (98, .iload 9, 0, 0, 0) :: (100, .iadd, 0, 0, 0) :: (101, .iload 8, 0, 0, 0) :: (103, .invokevirtual 210, 108, 5, 0) :: (106, .istore 10, 0, 0, 0) :: (108, .aload_n 0, 0, 0, 0) :: (109, .getfield 46, 9, 4, 1) :: (112, .iload 4, 0, 0, 0) :: (114, .iload 5, 0, 0, 0) :: (116, .iload 6, 0, 0, 0) :: (118, .iload 9, 0, 0, 0) :: (120, .iadd, 0, 0, 0) :: (121, .iload 8, 0, 0, 0) :: (123, .invokevirtual 210, 108, 5, 0) :: (126, .istore 11, 0, 0, 0) :: (128, .iload 10, 0, 0, 0) :: (130, .ifCond .lt 8, 0, 0, 0) :: (133, .iload 11, 0, 0, 0) :: (135, .ifCond .ge 13, 0, 0, 0) :: am_c167_138
def am_c167_67 : AmCd := (67, .aload_n 0, 0, 0, 0) :: (68, .getfield 12, 9, 0, 1) :: (71, .invokevirtual 80, 58, 1, 0) :: (74, .aload_n 0, 0, 0, 0) :: (75, .getfield 19, 9, 1, 1) :: (78, .invokevirtual 134, 137, 1, 0) :: (81, .iconst 0, 0, 0, 0) :: (82, .istore 9, 0, 0, 0) :: am_c167_84
def am_c167_65 : AmCd := (65, .iconst (-1), 0, 0, 0) :: (66, .ireturn, 0, 0, 0) :: am_c167_67
def am_c167_39 : AmCd := (39, .iload_n 2, 0, 0, 0) :: (40, .invokestatic 192, 195, 1, 1) :: (43, .ifCond .eq 22, 0, 0, 0) :: (46, .iload 5, 0, 0, 0) :: (48, .invokestatic 192, 195, 1, 1) :: (51, .ifCond .eq 14, 0, 0, 0) :: (54, .iload 7, 0, 0, 0) :: (56, .iconst 0, 0, 0, 0) :: (57, .bipush 8, 0, 0, 0) :: (59, .invokestatic 72, 194, 3, 1) :: (62, .ifCond .ne 5, 0, 0, 0) :: am_c167_65
def am_c167_36 : AmCd := (36, .bipush (-2), 0, 0, 0) :: (38, .ireturn, 0, 0, 0) :: am_c167_39
def am_c167_13 : AmCd := (13, .aload_n 0, 0, 0, 0) :: (14, .getfield 46, 9, 4, 1) :: (17, .iload_n 1, 0, 0, 0) :: (18, .invokevirtual 191, 95, 2, 0) :: (21, .ifCond .eq 15, 0, 0, 0) :: (24, .aload_n 0, 0, 0, 0) :: (25, .getfield 46, 9, 4, 1) :: (28, .iload 4, 0, 0, 0) :: (30, .invokevirtual 191, 95, 2, 0) :: (33, .ifCond .ne 6, 0, 0, 0) :: am_c167_36
def am_c167_0 : AmCd := (0, .aload_n 0, 0, 0, 0) :: (1, .getfield 64, 9, 6, 1) :: (4, .invokevirtual 68, 81, 1, 0) :: (7, .ifCond .eq 6, 0, 0, 0) :: (10, .bipush (-4), 0, 0, 0) :: (12, .ireturn, 0, 0, 0) :: am_c167_13
def am_c168_50 : AmCd := (50, .aload_n 0, 0, 0, 0) :: (51, .getfield 12, 9, 0, 1) :: (54, .invokevirtual 80, 58, 1, 0) :: (57, .aload_n 0, 0, 0, 0) :: (58, .getfield 19, 9, 1, 1) :: (61, .aload_n 0, 0, 0, 0) :: (62, .getfield 46, 9, 4, 1) :: (65, .iload_n 1, 0, 0, 0) :: (66, .iload_n 2, 0, 0, 0) :: (67, .iload_n 3, 0, 0, 0) :: (68, .invokevirtual 217, 110, 4, 0) :: (71, .invokevirtual 111, 129, 2, 0) :: (74, .ireturn, 0, 0, 0) :: []
def am_c168_38 : AmCd := (38, .iload_n 3, 0, 0, 0) :: (39, .iconst 1, 0, 0, 0) :: (40, .bipush 24, 0, 0, 0) :: (42, .invokestatic 72, 194, 3, 1) :: (45, .ifCond .ne 5, 0, 0, 0) :: (48, .iconst (-1), 0, 0, 0) :: (49, .ireturn, 0, 0, 0) :: am_c168_50
def am_c168_35 : AmCd := (35, .bipush (-2), 0, 0, 0) :: (37, .ireturn, 0, 0, 0) :: am_c168_38
def am_c168_13 : AmCd := (13, .aload_n 0, 0, 0, 0) :: (14, .getfield 46, 9, 4, 1) :: (17, .iload_n 1, 0, 0, 0) :: (18, .invokevirtual 191, 95, 2, 0) :: (21, .ifCond .eq 14, 0, 0, 0) :: (24, .aload_n 0, 0, 0, 0) :: (25, .getfield 37, 9, 3, 1) :: (28, .iload_n 2, 0, 0, 0) :: (29, .invokevirtual 157, 21, 2, 0) :: (32, .ifCond .ne 6, 0, 0, 0) :: am_c168_35
def am_c168_0 : AmCd := (0, .aload_n 0, 0, 0, 0) :: (1, .getfield 64, 9, 6, 1) :: (4, .invokevirtual 68, 81, 1, 0) :: (7, .ifCond .eq 6, 0, 0, 0) :: (10, .bipush (-4), 0, 0, 0) :: (12, .ireturn, 0, 0, 0) :: am_c168_13
def am_c169_25 : AmCd := (25, .aload_n 0, 0, 0, 0) :: (26, .getfield 19, 9, 1, 1) :: (29, .aload_n 0, 0, 0, 0) :: (30, .getfield 46, 9, 4, 1) :: (33, .iload_n 1, 0, 0, 0) :: (34, .iload_n 2, 0, 0, 0) :: (35, .iload_n 3, 0, 0, 0) :: (36, .invokevirtual 220, 113, 4, 0) :: (39, .invokevirtual 111, 129, 2, 0) :: (42, .ireturn, 0, 0, 0) :: []
def am_c169_22 : AmCd := (22, .bipush (-2), 0, 0, 0) :: (24, .ireturn, 0, 0, 0) :: am_c169_25
def am_c169_0 : AmCd := (0, .aload_n 0, 0, 0, 0) :: (1, .getfield 46, 9, 4, 1) :: (4, .iload_n 1, 0, 0, 0) :: (5, .invokevirtual 191, 95, 2, 0) :: (8, .ifCond .eq 14, 0, 0, 0) :: (11, .aload_n 0, 0, 0, 0) :: (12, .getfield 37, 9, 3, 1) :: (15, .iload_n 2, 0, 0, 0) :: (16, .invokevirtual 157, 21, 2, 0) :: (19, .ifCond .ne 6, 0, 0, 0) :: am_c169_22
def am_c170_65 : AmCd := (65, .invokevirtual 111, 129, 2, 0) :: (68, .ireturn, 0, 0, 0) :: []
def am_c170_51 : AmCd := (51, .aload_n 0, 0, 0, 0) :: (52, .getfield 46, 9, 4, 1) :: (55, .iload_n 1, 0, 0, 0) :: (56, .iload 7, 0, 0, 0) :: (58, .iload 5, 0, 0, 0) :: (60, .iload 6, 0, 0, 0) :: (62, .invokevirtual 223, 115, 5, 0) :: am_c170_65
def am_c170_23 : AmCd := (23, .aload_n 0, 0, 0, 0) :: (24, .getfield 46, 9, 4, 1) :: (27, .iload_n 1, 0, 0, 0) :: (28, .iload_n 2, 0, 0, 0) :: (29, .iload_n 3, 0, 0, 0) :: (30, .iload 4, 0, 0, 0) :: (32, .invokevirtual 198, 104, 5, 0) :: (35, .istore 7, 0, 0, 0) :: (37, .aload_n 0, 0, 0, 0) :: (38, .getfield 19, 9, 1, 1) :: (41, .iload 7, 0, 0, 0) :: (43, .ifCond .ge 8, 0, 0, 0) :: (46, .iload 7, 0, 0, 0) :: (48, .goto 17, 0, 0, 0) :: am_c170_51
def am_c170_14 : AmCd := (14, .iload_n 2, 0, 0, 0) :: (15, .invokestatic 192, 195, 1, 1) :: (18, .ifCond .ne 5, 0, 0, 0) :: (21, .iconst (-1), 0, 0, 0) :: (22, .ireturn, 0, 0, 0) :: am_c170_23
def am_c170_0 : AmCd := (0, .aload_n 0, 0, 0, 0) :: (1, .getfield 46, 9, 4, 1) :: (4, .iload_n 1, 0, 0, 0) :: (5, .invokevirtual 191, 95, 2, 0) :: (8, .ifCond .ne 6, 0, 0, 0) :: (11, .bipush (-2), 0, 0, 0) :: (13, .ireturn, 0, 0, 0) :: am_c170_14
def am_c171_38 : AmCd := (38, .aload_n 0, 0, 0, 0) :: (39, .getfield 12, 9, 0, 1) :: (42, .invokevirtual 80, 58, 1, 0) :: (45, .aload_n 0, 0, 0, 0) :: (46, .getfield 55, 9, 5, 1) :: (49, .iload_n 1, 0, 0, 0) :: (50, .invokevirtual 227, 3, 2, 0) :: (53, .ireturn, 0, 0, 0) :: []
def am_c171_24 : AmCd := (24, .aload_n 0, 0, 0, 0) :: (25, .getfield 55, 9, 5, 1) :: (28, .invokevirtual 226, 1, 1, 0) :: (31, .iconst 4, 0, 0, 0) :: (32, .if_icmp .lt 6, 0, 0, 0) :: (35, .bipush (-3), 0, 0, 0) :: (37, .ireturn, 0, 0, 0) :: am_c171_38
def am_c171_13 : AmCd := (13, .iload_n 1, 0, 0, 0) :: (14, .iconst 0, 0, 0, 0) :: (15, .iconst 1, 0, 0, 0) :: (16, .invokestatic 72, 194, 3, 1) :: (19, .ifCond .ne 5, 0, 0, 0) :: (22, .iconst (-1), 0, 0, 0) :: (23, .ireturn, 0, 0, 0) :: am_c171_24
def am_c171_0 : AmCd := (0, .aload_n 0, 0, 0, 0) :: (1, .getfield 64, 9, 6, 1) :: (4, .invokevirtual 68, 81, 1, 0) :: (7, .ifCond .eq 6, 0, 0, 0) :: (10, .bipush (-4), 0, 0, 0) :: (12, .ireturn, 0, 0, 0) :: am_c171_13
def am_c172_67 : AmCd := (67, .aload_n 0, 0, 0, 0) :: (68, .getfield 12, 9, 0, 1) :: (71, .invokevirtual 80, 58, 1, 0) :: (74, .aload_n 0, 0, 0, 0) :: (75, .getfield 55, 9, 5, 1) :: (78, .iload_n 1, 0, 0, 0) :: (79, .iload_n 2, 0, 0, 0) :: (80, .invokevirtual 236, 6, 3, 0) :: (83, .ireturn, 0, 0, 0) :: []
def am_c172_52 : AmCd := (52, .aload_n 0, 0, 0, 0) :: (53, .getfield 55, 9, 5, 1) :: (56, .iload_n 1, 0, 0, 0) :: (57, .invokevirtual 233, 4, 2, 0) :: (60, .iconst 4, 0, 0, 0) :: (61, .if_icmp .lt 6, 0, 0, 0) :: (64, .bipush (-3), 0, 0, 0) :: (66, .ireturn, 0, 0, 0) :: am_c172_67
def am_c172_38 : AmCd := (38, .aload_n 0, 0, 0, 0) :: (39, .getfield 46, 9, 4, 1) :: (42, .iload_n 2, 0, 0, 0) :: (43, .invokevirtual 230, 116, 2, 0) :: (46, .ifCond .eq 6, 0, 0, 0) :: (49, .bipush (-5), 0, 0, 0) :: (51, .ireturn, 0, 0, 0) :: am_c172_52
def am_c172_35 : AmCd := (35, .bipush (-2), 0, 0, 0) :: (37, .ireturn, 0, 0, 0) :: am_c172_38
def am_c172_13 : AmCd := (13, .aload_n 0, 0, 0, 0) :: (14, .getfield 55, 9, 5, 1) :: (17, .iload_n 1, 0, 0, 0) :: (18, .invokevirtual 229, 2, 2, 0) :: (21, .ifCond .eq 14, 0, 0, 0) :: (24, .aload_n 0, 0, 0, 0) :: (25, .getfield 46, 9, 4, 1) :: (28, .iload_n 2, 0, 0, 0) :: (29, .invokevirtual 191, 95, 2, 0) :: (32, .ifCond .ne 6, 0, 0, 0) :: am_c172_35
def am_c172_0 : AmCd := (0, .aload_n 0, 0, 0, 0) :: (1, .getfield 64, 9, 6, 1) :: (4, .invokevirtual 68, 81, 1, 0) :: (7, .ifCond .eq 6, 0, 0, 0) :: (10, .bipush (-4), 0, 0, 0) :: (12, .ireturn, 0, 0, 0) :: am_c172_13
def am_c173_50 : AmCd := (50, .aload_n 0, 0, 0, 0) :: (51, .getfield 12, 9, 0, 1) :: (54, .invokevirtual 80, 58, 1, 0) :: (57, .aload_n 0, 0, 0, 0) :: (58, .getfield 19, 9, 1, 1) :: (61, .aload_n 0, 0, 0, 0) :: (62, .getfield 55, 9, 5, 1) :: (65, .iload_n 1, 0, 0, 0) :: (66, .iload_n 2, 0, 0, 0) :: (67, .iload_n 3, 0, 0, 0) :: (68, .invokevirtual 239, 10, 4, 0) :: (71, .invokevirtual 111, 129, 2, 0) :: (74, .ireturn, 0, 0, 0) :: []
def am_c173_38 : AmCd := (38, .iload_n 3, 0, 0, 0) :: (39, .iconst 1, 0, 0, 0) :: (40, .bipush 24, 0, 0, 0) :: (42, .invokestatic 72, 194, 3, 1) :: (45, .ifCond .ne 5, 0, 0, 0) :: (48, .iconst (-1), 0, 0, 0) :: (49, .ireturn, 0, 0, 0) :: am_c173_50
def am_c173_35 : AmCd := (35, .bipush (-2), 0, 0, 0) :: (37, .ireturn, 0, 0, 0) :: am_c173_38
def am_c173_13 : AmCd := (13, .aload_n 0, 0, 0, 0) :: (14, .getfield 55, 9, 5, 1) :: (17, .iload_n 1, 0, 0, 0) :: (18, .invokevirtual 229, 2, 2, 0) :: (21, .ifCond .eq 14, 0, 0, 0) :: (24, .aload_n 0, 0, 0, 0) :: (25, .getfield 37, 9, 3, 1) :: (28, .iload_n 2, 0, 0, 0) :: (29, .invokevirtual 157, 21, 2, 0) :: (32, .ifCond .ne 6, 0, 0, 0) :: am_c173_35
def am_c173_0 : AmCd := (0, .aload_n 0, 0, 0, 0) :: (1, .getfield 64, 9, 6, 1) :: (4, .invokevirtual 68, 81, 1, 0) :: (7, .ifCond .eq 6, 0, 0, 0) :: (10, .bipush (-4), 0, 0, 0) :: (12, .ireturn, 0, 0, 0) :: am_c173_13
def am_c174_104 : AmCd := (104, .ireturn, 0, 0, 0) :: []
def am_c174_98 : AmCd := (98, .iload 6, 0, 0, 0) :: (100, .sipush 128, 0, 0, 0) :: (103, .irem, 0, 0, 0) :: am_c174_104
def am_c174_84 : AmCd := (84, .iload 4, 0, 0, 0) :: (86, .ifCond .ne 12, 0, 0, 0) :: (89, .iload 6, 0, 0, 0) :: (91, .sipush 128, 0, 0, 0) :: (94, .idiv, 0, 0, 0) :: (95, .goto 9, 0, 0, 0) :: am_c174_98
def am_c174_67 : AmCd := (67, .istore 6, 0, 0, 0) :: (69, .iload 6, 0, 0, 0) :: (71, .ifCond .ge 13, 0, 0, 0) :: (74, .aload_n 0, 0, 0, 0) :: (75, .getfield 19, 9, 1, 1) :: (78, .iload 6, 0, 0, 0) :: (80, .invokevirtual 111, 129, 2, 0) :: (83, .ireturn, 0, 0, 0) :: am_c174_84
def am_c174_58 : AmCd := (58, .aload_n 0, 0, 0, 0) :: (59, .getfield 55, 9, 5, 1) :: (62, .iload_n 1, 0, 0, 0) :: (63, .iload_n 3, 0, 0, 0) :: (64, .invokevirtual 243, 9, 3, 0) :: am_c174_67
def am_c174_37 : AmCd := (37, .aload_n 0, 0, 0, 0) :: (38, .getfield 55, 9, 5, 1) :: (41, .iload_n 1, 0, 0, 0) :: (42, .iload_n 2, 0, 0, 0) :: (43, .invokevirtual 240, 8, 3, 0) :: (46, .istore 5, 0, 0, 0) :: (48, .iload 5, 0, 0, 0) :: (50, .ifCond .ge 8, 0, 0, 0) :: (53, .iload 5, 0, 0, 0) :: (55, .goto 12, 0, 0, 0) :: am_c174_58
def am_c174_25 : AmCd := (25, .iload 4, 0, 0, 0) :: (27, .iconst 0, 0, 0, 0) :: (28, .iconst 1, 0, 0, 0) :: (29, .invokestatic 72, 194, 3, 1) :: (32, .ifCond .ne 5, 0, 0, 0) :: (35, .iconst (-1), 0, 0, 0) :: (36, .ireturn, 0, 0, 0) :: am_c174_37
def am_c174_22 : AmCd := (22, .bipush (-2), 0, 0, 0) :: (24, .ireturn, 0, 0, 0) :: am_c174_25
def am_c174_0 : AmCd := (0, .aload_n 0, 0, 0, 0) :: (1, .getfield 55, 9, 5, 1) :: (4, .iload_n 1, 0, 0, 0) :: (5, .invokevirtual 229, 2, 2, 0) :: (8, .ifCond .eq 14, 0, 0, 0) :: (11, .aload_n 0, 0, 0, 0) :: (12, .getfield 37, 9, 3, 1) :: (15, .iload_n 2, 0, 0, 0) :: (16, .invokevirtual 157, 21, 2, 0) :: (19, .ifCond .ne 6, 0, 0, 0) :: am_c174_22
def am_c175_76 : AmCd := (76, .ireturn, 0, 0, 0) :: []
def am_c175_75 : AmCd := (75, .iconst 0, 0, 0, 0) :: am_c175_76
def am_c175_51 : AmCd := (51, .aload_n 0, 0, 0, 0) :: (52, .getfield 55, 9, 5, 1) :: (55, .iload_n 1, 0, 0, 0) :: (56, .invokevirtual 246, 5, 2, 0) :: (59, .ifCond .eq 16, 0, 0, 0) :: (62, .iload_n 3, 0, 0, 0) :: (63, .aload_n 0, 0, 0, 0) :: (64, .getfield 37, 9, 3, 1) :: (67, .iload_n 2, 0, 0, 0) :: (68, .invokevirtual 170, 23, 2, 0) :: (71, .imul, 0, 0, 0) :: (72, .goto 4, 0, 0, 0) :: am_c175_75
def am_c175_41 : AmCd := (41, .aload_n 0, 0, 0, 0) :: (42, .getfield 19, 9, 1, 1) :: (45, .bipush (-12), 0, 0, 0) :: (47, .invokevirtual 111, 129, 2, 0) :: (50, .ireturn, 0, 0, 0) :: am_c175_51
def am_c175_25 : AmCd := (25, .iload_n 3, 0, 0, 0) :: (26, .ifCond .lt 15, 0, 0, 0) :: (29, .iload_n 3, 0, 0, 0) :: (30, .aload_n 0, 0, 0, 0) :: (31, .getfield 55, 9, 5, 1) :: (34, .iload_n 1, 0, 0, 0) :: (35, .invokevirtual 233, 4, 2, 0) :: (38, .if_icmp .lt 13, 0, 0, 0) :: am_c175_41
def am_c175_22 : AmCd := (22, .bipush (-2), 0, 0, 0) :: (24, .ireturn, 0, 0, 0) :: am_c175_25
def am_c175_0 : AmCd := (0, .aload_n 0, 0, 0, 0) :: (1, .getfield 55, 9, 5, 1) :: (4, .iload_n 1, 0, 0, 0) :: (5, .invokevirtual 229, 2, 2, 0) :: (8, .ifCond .eq 14, 0, 0, 0) :: (11, .aload_n 0, 0, 0, 0) :: (12, .getfield 37, 9, 3, 1) :: (15, .iload_n 2, 0, 0, 0) :: (16, .invokevirtual 157, 21, 2, 0) :: (19, .ifCond .ne 6, 0, 0, 0) :: am_c175_22
def am_c176_41 : AmCd := (41, .aload_n 0, 0, 0, 0) :: (42, .getfield 12, 9, 0, 1) :: (45, .invokevirtual 80, 58, 1, 0) :: (48, .aload_n 0, 0, 0, 0) :: (49, .getfield 55, 9, 5, 1) :: (52, .iload_n 1, 0, 0, 0) :: (53, .invokevirtual 252, 13, 2, 0) :: (56, .ireturn, 0, 0, 0) :: []
def am_c176_27 : AmCd := (27, .aload_n 0, 0, 0, 0) :: (28, .getfield 55, 9, 5, 1) :: (31, .iload_n 1, 0, 0, 0) :: (32, .invokevirtual 249, 11, 2, 0) :: (35, .ifCond .eq 6, 0, 0, 0) :: (38, .bipush (-5), 0, 0, 0) :: (40, .ireturn, 0, 0, 0) :: am_c176_41
def am_c176_13 : AmCd := (13, .aload_n 0, 0, 0, 0) :: (14, .getfield 55, 9, 5, 1) :: (17, .iload_n 1, 0, 0, 0) :: (18, .invokevirtual 229, 2, 2, 0) :: (21, .ifCond .ne 6, 0, 0, 0) :: (24, .bipush (-2), 0, 0, 0) :: (26, .ireturn, 0, 0, 0) :: am_c176_27
def am_c176_0 : AmCd := (0, .aload_n 0, 0, 0, 0) :: (1, .getfield 64, 9, 6, 1) :: (4, .invokevirtual 68, 81, 1, 0) :: (7, .ifCond .eq 6, 0, 0, 0) :: (10, .bipush (-4), 0, 0, 0) :: (12, .ireturn, 0, 0, 0) :: am_c176_13
def am_c177_32 : AmCd := (32, .aload_n 0, 0, 0, 0) :: (33, .getfield 12, 9, 0, 1) :: (36, .invokevirtual 80, 58, 1, 0) :: (39, .aload_n 0, 0, 0, 0) :: (40, .getfield 55, 9, 5, 1) :: (43, .iload_n 1, 0, 0, 0) :: (44, .invokevirtual 254, 16, 2, 0) :: (47, .ireturn, 0, 0, 0) :: []
def am_c177_13 : AmCd := (13, .iload_n 1, 0, 0, 0) :: (14, .iconst (-1), 0, 0, 0) :: (15, .if_icmp .eq 17, 0, 0, 0) :: (18, .aload_n 0, 0, 0, 0) :: (19, .getfield 46, 9, 4, 1) :: (22, .iload_n 1, 0, 0, 0) :: (23, .invokevirtual 191, 95, 2, 0) :: (26, .ifCond .ne 6, 0, 0, 0) :: (29, .bipush (-2), 0, 0, 0) :: (31, .ireturn, 0, 0, 0) :: am_c177_32
def am_c177_0 : AmCd := (0, .aload_n 0, 0, 0, 0) :: (1, .getfield 64, 9, 6, 1) :: (4, .invokevirtual 68, 81, 1, 0) :: (7, .ifCond .eq 6, 0, 0, 0) :: (10, .bipush (-4), 0, 0, 0) :: (12, .ireturn, 0, 0, 0) :: am_c177_13
def am_c178_14 : AmCd := (14, .aload_n 0, 0, 0, 0) :: (15, .getfield 19, 9, 1, 1) :: (18, .aload_n 0, 0, 0, 0) :: (19, .getfield 55, 9, 5, 1) :: (22, .iload_n 1, 0, 0, 0) :: (23, .iload_n 2, 0, 0, 0) :: (24, .invokevirtual 257, 14, 3, 0) :: (27, .invokevirtual 111, 129, 2, 0) :: (30, .ireturn, 0, 0, 0) :: []
def am_c178_0 : AmCd := (0, .aload_n 0, 0, 0, 0) :: (1, .getfield 37, 9, 3, 1) :: (4, .iload_n 1, 0, 0, 0) :: (5, .invokevirtual 157, 21, 2, 0) :: (8, .ifCond .ne 6, 0, 0, 0) :: (11, .bipush (-2), 0, 0, 0) :: (13, .ireturn, 0, 0, 0) :: am_c178_14
def am_c179_46 : AmCd := (46, .invokevirtual 111, 129, 2, 0) :: (49, .ireturn, 0, 0, 0) :: []
def am_c179_36 : AmCd := (36, .aload_n 0, 0, 0, 0) :: (37, .getfield 46, 9, 4, 1) :: (40, .iload_n 3, 0, 0, 0) :: (41, .iload_n 1, 0, 0, 0) :: (42, .iload_n 2, 0, 0, 0) :: (43, .invokevirtual 220, 113, 4, 0) :: am_c179_46
def am_c179_14 : AmCd := (14, .aload_n 0, 0, 0, 0) :: (15, .getfield 55, 9, 5, 1) :: (18, .invokevirtual 259, 17, 1, 0) :: (21, .istore_n 3, 0, 0, 0) :: (22, .aload_n 0, 0, 0, 0) :: (23, .getfield 19, 9, 1, 1) :: (26, .iload_n 3, 0, 0, 0) :: (27, .iconst (-1), 0, 0, 0) :: (28, .if_icmp .ne 8, 0, 0, 0) :: (31, .bipush (-11), 0, 0, 0) :: (33, .goto 13, 0, 0, 0) :: am_c179_36
def am_c179_0 : AmCd := (0, .aload_n 0, 0, 0, 0) :: (1, .getfield 37, 9, 3, 1) :: (4, .iload_n 1, 0, 0, 0) :: (5, .invokevirtual 157, 21, 2, 0) :: (8, .ifCond .ne 6, 0, 0, 0) :: (11, .bipush (-2), 0, 0, 0) :: (13, .ireturn, 0, 0, 0) :: am_c179_14
def am_c180_38 : AmCd := (38, .aload_n 0, 0, 0, 0) :: (39, .getfield 12, 9, 0, 1) :: (42, .invokevirtual 80, 58, 1, 0) :: (45, .aload_n 0, 0, 0, 0) :: (46, .getfield 46, 9, 4, 1) :: (49, .iload_n 1, 0, 0, 0) :: (50, .iload_n 2, 0, 0, 0) :: (51, .invokevirtual 262, 118, 3, 0) :: (54, .ireturn, 0, 0, 0) :: []
def am_c180_35 : AmCd := (35, .bipush (-2), 0, 0, 0) :: (37, .ireturn, 0, 0, 0) :: am_c180_38
def am_c180_13 : AmCd := (13, .aload_n 0, 0, 0, 0) :: (14, .getfield 46, 9, 4, 1) :: (17, .iload_n 1, 0, 0, 0) :: (18, .invokevirtual 191, 95, 2, 0) :: (21, .ifCond .eq 14, 0, 0, 0) :: (24, .aload_n 0, 0, 0, 0) :: (25, .getfield 37, 9, 3, 1) :: (28, .iload_n 2, 0, 0, 0) :: (29, .invokevirtual 157, 21, 2, 0) :: (32, .ifCond .ne 6, 0, 0, 0) :: am_c180_35
def am_c180_0 : AmCd := (0, .aload_n 0, 0, 0, 0) :: (1, .getfield 64, 9, 6, 1) :: (4, .invokevirtual 68, 81, 1, 0) :: (7, .ifCond .eq 6, 0, 0, 0) :: (10, .bipush (-4), 0, 0, 0) :: (12, .ireturn, 0, 0, 0) :: am_c180_13
def am_c181_25 : AmCd := (25, .aload_n 0, 0, 0, 0) :: (26, .getfield 12, 9, 0, 1) :: (29, .invokevirtual 80, 58, 1, 0) :: (32, .aload_n 0, 0, 0, 0) :: (33, .getfield 64, 9, 6, 1) :: (36, .iload_n 1, 0, 0, 0) :: (37, .invokevirtual 265, 84, 2, 0) :: (40, .ireturn, 0, 0, 0) :: []
def am_c181_13 : AmCd := (13, .iload_n 1, 0, 0, 0) :: (14, .iconst 0, 0, 0, 0) :: (15, .bipush 9, 0, 0, 0) :: (17, .invokestatic 72, 194, 3, 1) :: (20, .ifCond .ne 5, 0, 0, 0) :: (23, .iconst (-1), 0, 0, 0) :: (24, .ireturn, 0, 0, 0) :: am_c181_25
def am_c181_0 : AmCd := (0, .aload_n 0, 0, 0, 0) :: (1, .getfield 64, 9, 6, 1) :: (4, .invokevirtual 68, 81, 1, 0) :: (7, .ifCond .eq 6, 0, 0, 0) :: (10, .bipush (-4), 0, 0, 0) :: (12, .ireturn, 0, 0, 0) :: am_c181_13
def am_c182_53 : AmCd := (53, .aload_n 0, 0, 0, 0) :: (54, .getfield 12, 9, 0, 1) :: (57, .invokevirtual 80, 58, 1, 0) :: (60, .aload_n 0, 0, 0, 0) :: (61, .getfield 46, 9, 4, 1) :: (64, .iload_n 1, 0, 0, 0) :: (65, .aload_n 0, 0, 0, 0) :: (66, .getfield 19, 9, 1, 1) :: (69, .invokevirtual 274, 136, 1, 0) :: (72, .invokevirtual 277, 124, 3, 0) :: (75, .ireturn, 0, 0, 0) :: []
def am_c182_50 : AmCd := (50, .bipush (-5), 0, 0, 0) :: (52, .ireturn, 0, 0, 0) :: am_c182_53
def am_c182_27 : AmCd := (27, .aload_n 0, 0, 0, 0) :: (28, .getfield 46, 9, 4, 1) :: (31, .iload_n 1, 0, 0, 0) :: (32, .invokevirtual 268, 120, 2, 0) :: (35, .iconst (-1), 0, 0, 0) :: (36, .if_icmp .ne 14, 0, 0, 0) :: (39, .aload_n 0, 0, 0, 0) :: (40, .getfield 46, 9, 4, 1) :: (43, .iconst 0, 0, 0, 0) :: (44, .invokevirtual 271, 123, 2, 0) :: (47, .ifCond .lt 6, 0, 0, 0) :: am_c182_50
def am_c182_13 : AmCd := (13, .aload_n 0, 0, 0, 0) :: (14, .getfield 46, 9, 4, 1) :: (17, .iload_n 1, 0, 0, 0) :: (18, .invokevirtual 191, 95, 2, 0) :: (21, .ifCond .ne 6, 0, 0, 0) :: (24, .bipush (-2), 0, 0, 0) :: (26, .ireturn, 0, 0, 0) :: am_c182_27
def am_c182_0 : AmCd := (0, .aload_n 0, 0, 0, 0) :: (1, .getfield 64, 9, 6, 1) :: (4, .invokevirtual 68, 81, 1, 0) :: (7, .ifCond .eq 6, 0, 0, 0) :: (10, .bipush (-4), 0, 0, 0) :: (12, .ireturn, 0, 0, 0) :: am_c182_13
def am_c183_13 : AmCd := (13, .aload_n 0, 0, 0, 0) :: (14, .getfield 12, 9, 0, 1) :: (17, .invokevirtual 80, 58, 1, 0) :: (20, .aload_n 0, 0, 0, 0) :: (21, .getfield 64, 9, 6, 1) :: (24, .invokevirtual 280, 85, 1, 0) :: (27, .ireturn, 0, 0, 0) :: []
def am_c183_0 : AmCd := (0, .aload_n 0, 0, 0, 0) :: (1, .getfield 64, 9, 6, 1) :: (4, .invokevirtual 68, 81, 1, 0) :: (7, .ifCond .eq 6, 0, 0, 0) :: (10, .bipush (-4), 0, 0, 0) :: (12, .ireturn, 0, 0, 0) :: am_c183_13
def am_c184_24 : AmCd := (24, .aload_n 0, 0, 0, 0) :: (25, .getfield 12, 9, 0, 1) :: (28, .invokevirtual 80, 58, 1, 0) :: (31, .aload_n 0, 0, 0, 0) :: (32, .getfield 64, 9, 6, 1) :: (35, .iload_n 1, 0, 0, 0) :: (36, .invokevirtual 283, 86, 2, 0) :: (39, .ireturn, 0, 0, 0) :: []
def am_c184_13 : AmCd := (13, .iload_n 1, 0, 0, 0) :: (14, .iconst 0, 0, 0, 0) :: (15, .iconst 4, 0, 0, 0) :: (16, .invokestatic 72, 194, 3, 1) :: (19, .ifCond .ne 5, 0, 0, 0) :: (22, .iconst (-1), 0, 0, 0) :: (23, .ireturn, 0, 0, 0) :: am_c184_24
def am_c184_0 : AmCd := (0, .aload_n 0, 0, 0, 0) :: (1, .getfield 64, 9, 6, 1) :: (4, .invokevirtual 68, 81, 1, 0) :: (7, .ifCond .eq 6, 0, 0, 0) :: (10, .bipush (-4), 0, 0, 0) :: (12, .ireturn, 0, 0, 0) :: am_c184_13
def am_c185_55 : AmCd := (55, .iload_n 1, 0, 0, 0) :: (56, .ireturn, 0, 0, 0) :: []
def am_c185_24 : AmCd := (24, .iload_n 2, 0, 0, 0) :: (25, .ifCond .lt 30, 0, 0, 0) :: (28, .aload_n 0, 0, 0, 0) :: (29, .getfield 64, 9, 6, 1) :: (32, .invokevirtual 68, 81, 1, 0) :: (35, .ifCond .ne 20, 0, 0, 0) :: (38, .iload_n 1, 0, 0, 0) :: (39, .aload_n 0, 0, 0, 0) :: (40, .getfield 64, 9, 6, 1) :: (43, .iload_n 2, 0, 0, 0) :: (44, .invokevirtual 286, 87, 2, 0) :: (47, .iadd, 0, 0, 0) :: (48, .istore_n 1, 0, 0, 0) :: (49, .iinc 2 (-1), 0, 0, 0) :: (52, .goto (-28), 0, 0, 0) :: am_c185_55
def am_c185_13 : AmCd := (13, .aload_n 0, 0, 0, 0) :: (14, .getfield 12, 9, 0, 1) :: (17, .invokevirtual 80, 58, 1, 0) :: (20, .iconst 0, 0, 0, 0) :: (21, .istore_n 1, 0, 0, 0) :: (22, .iconst 4, 0, 0, 0) :: (23, .istore_n 2, 0, 0, 0) :: am_c185_24
def am_c185_0 : AmCd := (0, .aload_n 0, 0, 0, 0) :: (1, .getfield 64, 9, 6, 1) :: (4, .invokevirtual 68, 81, 1, 0) :: (7, .ifCond .eq 6, 0, 0, 0) :: (10, .bipush (-4), 0, 0, 0) :: (12, .ireturn, 0, 0, 0) :: am_c185_13
def am_c186_43 : AmCd := (43, .aload_n 0, 0, 0, 0) :: (44, .getfield 12, 9, 0, 1) :: (47, .invokevirtual 80, 58, 1, 0) :: (50, .aload_n 0, 0, 0, 0) :: (51, .getfield 46, 9, 4, 1) :: (54, .iload_n 1, 0, 0, 0) :: (55, .invokevirtual 289, 127, 2, 0) :: (58, .ireturn, 0, 0, 0) :: []
def am_c186_27 : AmCd := (27, .aload_n 0, 0, 0, 0) :: (28, .getfield 46, 9, 4, 1) :: (31, .iload_n 1, 0, 0, 0) :: (32, .invokevirtual 268, 120, 2, 0) :: (35, .bipush 6, 0, 0, 0) :: (37, .if_icmp .eq 6, 0, 0, 0) :: (40, .bipush (-5), 0, 0, 0) :: (42, .ireturn, 0, 0, 0) :: am_c186_43
def am_c186_13 : AmCd := (13, .aload_n 0, 0, 0, 0) :: (14, .getfield 46, 9, 4, 1) :: (17, .iload_n 1, 0, 0, 0) :: (18, .invokevirtual 191, 95, 2, 0) :: (21, .ifCond .ne 6, 0, 0, 0) :: (24, .bipush (-2), 0, 0, 0) :: (26, .ireturn, 0, 0, 0) :: am_c186_27
def am_c186_0 : AmCd := (0, .aload_n 0, 0, 0, 0) :: (1, .getfield 64, 9, 6, 1) :: (4, .invokevirtual 68, 81, 1, 0) :: (7, .ifCond .eq 6, 0, 0, 0) :: (10, .bipush (-4), 0, 0, 0) :: (12, .ireturn, 0, 0, 0) :: am_c186_13
def am_c187_0 : AmCd := (0, .aload_n 0, 0, 0, 0) :: (1, .getfield 12, 9, 0, 1) :: (4, .invokevirtual 80, 58, 1, 0) :: (7, .aload_n 0, 0, 0, 0) :: (8, .getfield 64, 9, 6, 1) :: (11, .invokevirtual 292, 82, 1, 0) :: (14, .ireturn, 0, 0, 0) :: []
def am_c188_67 : AmCd := (67, .iconst (-1), 0, 0, 0) :: (68, .ireturn, 0, 0, 0) :: []
def am_c188_58 : AmCd := (58, .aload_n 0, 0, 0, 0) :: (59, .getfield 46, 9, 4, 1) :: (62, .iload_n 1, 0, 0, 0) :: (63, .invokevirtual 298, 122, 2, 0) :: (66, .ireturn, 0, 0, 0) :: am_c188_67
def am_c188_49 : AmCd := (49, .aload_n 0, 0, 0, 0) :: (50, .getfield 46, 9, 4, 1) :: (53, .iload_n 1, 0, 0, 0) :: (54, .invokevirtual 295, 121, 2, 0) :: (57, .ireturn, 0, 0, 0) :: am_c188_58
def am_c188_40 : AmCd := (40, .aload_n 0, 0, 0, 0) :: (41, .getfield 46, 9, 4, 1) :: (44, .iload_n 1, 0, 0, 0) :: (45, .invokevirtual 268, 120, 2, 0) :: (48, .ireturn, 0, 0, 0) :: am_c188_49
def am_c188_14 : AmCd := (14, .iload_n 2, 0, 0, 0) :: (15, .tableswitch 52 0 2 #[25, 34, 43], 0, 0, 0) :: am_c188_40
def am_c188_0 : AmCd := (0, .aload_n 0, 0, 0, 0) :: (1, .getfield 46, 9, 4, 1) :: (4, .iload_n 1, 0, 0, 0) :: (5, .invokevirtual 191, 95, 2, 0) :: (8, .ifCond .ne 6, 0, 0, 0) :: (11, .bipush (-2), 0, 0, 0) :: (13, .ireturn, 0, 0, 0) :: am_c188_14
def am_c189_14 : AmCd := (14, .aload_n 0, 0, 0, 0) :: (15, .getfield 55, 9, 5, 1) :: (18, .iload_n 1, 0, 0, 0) :: (19, .invokevirtual 301, 18, 2, 0) :: (22, .ireturn, 0, 0, 0) :: []
def am_c189_0 : AmCd := (0, .aload_n 0, 0, 0, 0) :: (1, .getfield 55, 9, 5, 1) :: (4, .iload_n 1, 0, 0, 0) :: (5, .invokevirtual 229, 2, 2, 0) :: (8, .ifCond .ne 6, 0, 0, 0) :: (11, .bipush (-2), 0, 0, 0) :: (13, .ireturn, 0, 0, 0) :: am_c189_14
def am_c190_28 : AmCd := (28, .ireturn, 0, 0, 0) :: []
def am_c190_27 : AmCd := (27, .iconst 0, 0, 0, 0) :: am_c190_28
def am_c190_13 : AmCd := (13, .aload_n 0, 0, 0, 0) :: (14, .getfield 12, 9, 0, 1) :: (17, .invokevirtual 304, 60, 1, 0) :: (20, .ifCond .eq 7, 0, 0, 0) :: (23, .iconst 1, 0, 0, 0) :: (24, .goto 4, 0, 0, 0) :: am_c190_27
def am_c190_0 : AmCd := (0, .aload_n 0, 0, 0, 0) :: (1, .getfield 64, 9, 6, 1) :: (4, .invokevirtual 68, 81, 1, 0) :: (7, .ifCond .eq 6, 0, 0, 0) :: (10, .bipush (-4), 0, 0, 0) :: (12, .ireturn, 0, 0, 0) :: am_c190_13
def am_c191_124 : AmCd := (124, .aload_n 0, 0, 0, 0) :: (125, .getfield 19, 9, 1, 1) :: (128, .iload_n 1, 0, 0, 0) :: (129, .invokevirtual 313, 133, 2, 0) :: (132, .ireturn, 0, 0, 0) :: []
def am_c191_116 : AmCd := (116, .aload_n 0, 0, 0, 0) :: (117, .getfield 64, 9, 6, 1) :: (120, .invokevirtual 310, 83, 1, 0) :: (123, .ireturn, 0, 0, 0) :: am_c191_124
def am_c191_108 : AmCd := (108, .aload_n 0, 0, 0, 0) :: (109, .getfield 55, 9, 5, 1) :: (112, .invokevirtual 307, 12, 1, 0) :: (115, .ireturn, 0, 0, 0) :: am_c191_116
def am_c191_100 : AmCd := (100, .aload_n 0, 0, 0, 0) :: (101, .getfield 55, 9, 5, 1) :: (104, .invokevirtual 226, 1, 1, 0) :: (107, .ireturn, 0, 0, 0) :: am_c191_108
def am_c191_92 : AmCd := (92, .aload_n 0, 0, 0, 0) :: (93, .getfield 46, 9, 4, 1) :: (96, .invokevirtual 188, 94, 1, 0) :: (99, .ireturn, 0, 0, 0) :: am_c191_100
def am_c191_84 : AmCd := (84, .aload_n 0, 0, 0, 0) :: (85, .getfield 37, 9, 3, 1) :: (88, .invokevirtual 153, 20, 1, 0) :: (91, .ireturn, 0, 0, 0) :: am_c191_92
def am_c191_76 : AmCd := (76, .aload_n 0, 0, 0, 0) :: (77, .getfield 28, 9, 2, 1) :: (80, .invokevirtual 76, 33, 1, 0) :: (83, .ireturn, 0, 0, 0) :: am_c191_84
def am_c191_75 : AmCd := (75, .ireturn, 0, 0, 0) :: am_c191_76
def am_c191_74 : AmCd := (74, .iconst 0, 0, 0, 0) :: am_c191_75
def am_c191_60 : AmCd := (60, .aload_n 0, 0, 0, 0) :: (61, .getfield 64, 9, 6, 1) :: (64, .invokevirtual 68, 81, 1, 0) :: (67, .ifCond .eq 7, 0, 0, 0) :: (70, .iconst 1, 0, 0, 0) :: (71, .goto 4, 0, 0, 0) :: am_c191_74
def am_c191_12 : AmCd := (12, .iload_n 1, 0, 0, 0) :: (13, .tableswitch 111 5 12 #[47, 111, 63, 71, 79, 87, 95, 103], 0, 0, 0) :: am_c191_60
def am_c191_0 : AmCd := (0, .iload_n 1, 0, 0, 0) :: (1, .iconst 0, 0, 0, 0) :: (2, .bipush 12, 0, 0, 0) :: (4, .invokestatic 72, 194, 3, 1) :: (7, .ifCond .ne 5, 0, 0, 0) :: (10, .iconst (-1), 0, 0, 0) :: (11, .ireturn, 0, 0, 0) :: am_c191_12
def am_c192_0 : AmCd := (0, .aload_n 0, 0, 0, 0) :: (1, .getfield 19, 9, 1, 1) :: (4, .iload_n 1, 0, 0, 0) :: (5, .invokevirtual 316, 132, 2, 0) :: (8, .ireturn, 0, 0, 0) :: []
def am_c193_67 : AmCd := (67, .iconst (-1), 0, 0, 0) :: (68, .ireturn, 0, 0, 0) :: []
def am_c193_58 : AmCd := (58, .aload_n 0, 0, 0, 0) :: (59, .getfield 28, 9, 2, 1) :: (62, .iload_n 1, 0, 0, 0) :: (63, .invokevirtual 322, 38, 2, 0) :: (66, .ireturn, 0, 0, 0) :: am_c193_67
def am_c193_49 : AmCd := (49, .aload_n 0, 0, 0, 0) :: (50, .getfield 28, 9, 2, 1) :: (53, .iload_n 1, 0, 0, 0) :: (54, .invokevirtual 319, 37, 2, 0) :: (57, .ireturn, 0, 0, 0) :: am_c193_58
def am_c193_40 : AmCd := (40, .aload_n 0, 0, 0, 0) :: (41, .getfield 28, 9, 2, 1) :: (44, .iload_n 1, 0, 0, 0) :: (45, .invokevirtual 91, 36, 2, 0) :: (48, .ireturn, 0, 0, 0) :: am_c193_49
def am_c193_14 : AmCd := (14, .iload_n 2, 0, 0, 0) :: (15, .tableswitch 52 0 2 #[25, 34, 43], 0, 0, 0) :: am_c193_40
def am_c193_0 : AmCd := (0, .aload_n 0, 0, 0, 0) :: (1, .getfield 28, 9, 2, 1) :: (4, .iload_n 1, 0, 0, 0) :: (5, .invokevirtual 87, 34, 2, 0) :: (8, .ifCond .ne 6, 0, 0, 0) :: (11, .bipush (-2), 0, 0, 0) :: (13, .ireturn, 0, 0, 0) :: am_c193_14
def am_c194_15 : AmCd := (15, .ireturn, 0, 0, 0) :: []
def am_c194_14 : AmCd := (14, .iconst 0, 0, 0, 0) :: am_c194_15
def am_c194_0 : AmCd := (0, .iload_n 0, 0, 0, 0) :: (1, .iload_n 1, 0, 0, 0) :: (2, .if_icmp .lt 12, 0, 0, 0) :: (5, .iload_n 0, 0, 0, 0) :: (6, .iload_n 2, 0, 0, 0) :: (7, .if_icmp .gt 7, 0, 0, 0) :: (10, .iconst 1, 0, 0, 0) :: (11, .goto 4, 0, 0, 0) :: am_c194_14
def am_c195_0 : AmCd := (0, .iload_n 0, 0, 0, 0) :: (1, .iconst 0, 0, 0, 0) :: (2, .iconst 1, 0, 0, 0) :: (3, .invokestatic 72, 194, 3, 1) :: (6, .ireturn, 0, 0, 0) :: []
def am_c196_0 : AmCd := (0, .aload_n 0, 0, 0, 0) :: (1, .invokespecial 1, 0, 0, 4) :: (4, .aload_n 0, 0, 0, 0) :: (5, .bipush 32, 0, 0, 0) :: (7, .newarray .int, 0, 0, 0) :: (9, .putfield 7, 10, 0, 1) :: (12, .aload_n 0, 0, 0, 0) :: (13, .bipush 6, 0, 0, 0) :: (15, .newarray .int, 0, 0, 0) :: (17, .putfield 13, 10, 1, 1) :: (20, .aload_n 0, 0, 0, 0) :: (21, .bipush 6, 0, 0, 0) :: (23, .newarray .int, 0, 0, 0) :: (25, .putfield 16, 10, 2, 1) :: (28, .aload_n 0, 0, 0, 0) :: (29, .bipush 6, 0, 0, 0) :: (31, .newarray .int, 0, 0, 0) :: (33, .putfield 19, 10, 3, 1) :: (36, .aload_n 0, 0, 0, 0) :: (37, .sipush 144, 0, 0, 0) :: (40, .newarray .int, 0, 0, 0) :: (42, .putfield 22, 10, 4, 1) :: (45, .aload_n 0, 0, 0, 0) :: (46, .sipush 1152, 0, 0, 0) :: (49, .newarray .int, 0, 0, 0) :: (51, .putfield 25, 10, 5, 1) :: (54, .aload_n 0, 0, 0, 0) :: (55, .sipush 11520, 0, 0, 0) :: (58, .newarray .int, 0, 0, 0) :: (60, .putfield 28, 10, 6, 1) :: (63, .aload_n 0, 0, 0, 0) :: (64, .bipush 32, 0, 0, 0) :: (66, .newarray .int, 0, 0, 0) :: (68, .putfield 31, 10, 7, 1) :: (71, .aload_n 0, 0, 0, 0) :: (72, .bipush 32, 0, 0, 0) :: (74, .newarray .int, 0, 0, 0) :: (76, .putfield 34, 10, 8, 1) :: (79, .aload_n 0, 0, 0, 0) :: (80, .bipush 32, 0, 0, 0) :: (82, .newarray .int, 0, 0, 0) :: (84, .putfield 37, 10, 9, 1) :: (87, .aload_n 0, 0, 0, 0) :: (88, .bipush 32, 0, 0, 0) :: (90, .newarray .int, 0, 0, 0) :: (92, .putfield 40, 10, 10, 1) :: (95, .aload_n 0, 0, 0, 0) :: (96, .bipush 32, 0, 0, 0) :: (98, .newarray .int, 0, 0, 0) :: (100, .putfield 43, 10, 11, 1) :: (103, .aload_n 0, 0, 0, 0) :: (104, .bipush 16, 0, 0, 0) :: (106, .newarray .int, 0, 0, 0) :: (108, .putfield 46, 10, 12, 1) :: (111, .aload_n 0, 0, 0, 0) :: (112, .bipush 16, 0, 0, 0) :: (114, .newarray .int, 0, 0, 0) :: (116, .putfield 49, 10, 13, 1) :: (119, .aload_n 0, 0, 0, 0) :: (120, .bipush 16, 0, 0, 0) :: (122, .newarray .int, 0, 0, 0) :: (124, .putfield 52, 10, 14, 1) :: (127, .aload_n 0, 0, 0, 0) :: (128, .bipush 16, 0, 0, 0) :: (130, .newarray .int, 0, 0, 0) :: (132, .putfield 55, 10, 15, 1) :: (135, .aload_n 0, 0, 0, 0) :: (136, .bipush 16, 0, 0, 0) :: (138, .newarray .int, 0, 0, 0) :: (140, .putfield 58, 10, 16, 1) :: (143, .aload_n 0, 0, 0, 0) :: (144, .bipush 16, 0, 0, 0) :: (146, .newarray .int, 0, 0, 0) :: (148, .putfield 61, 10, 17, 1) :: (151, .aload_n 0, 0, 0, 0) :: (152, .bipush 16, 0, 0, 0) :: (154, .newarray .int, 0, 0, 0) :: (156, .putfield 64, 10, 18, 1) :: (159, .aload_n 0, 0, 0, 0) :: (160, .bipush 16, 0, 0, 0) :: (162, .newarray .int, 0, 0, 0) :: (164, .putfield 67, 10, 19, 1) :: (167, .aload_n 0, 0, 0, 0) :: (168, .sipush 256, 0, 0, 0) :: (171, .newarray .boolean, 0, 0, 0) :: (173, .putfield 70, 10, 20, 1) :: (176, .aload_n 0, 0, 0, 0) :: (177, .sipush 2048, 0, 0, 0) :: (180, .newarray .int, 0, 0, 0) :: (182, .putfield 74, 10, 21, 1) :: (185, .aload_n 0, 0, 0, 0) :: (186, .sipush 2048, 0, 0, 0) :: (189, .newarray .int, 0, 0, 0) :: (191, .putfield 77, 10, 22, 1) :: (194, .aload_n 0, 0, 0, 0) :: (195, .bipush 8, 0, 0, 0) :: (197, .newarray .int, 0, 0, 0) :: (199, .putfield 80, 10, 23, 1) :: (202, .aload_n 0, 0, 0, 0) :: (203, .bipush 8, 0, 0, 0) :: (205, .newarray .int, 0, 0, 0) :: (207, .putfield 83, 10, 24, 1) :: (210, .aload_n 0, 0, 0, 0) :: (211, .bipush 32, 0, 0, 0) :: (213, .newarray .int, 0, 0, 0) :: (215, .putfield 86, 10, 25, 1) :: (218, .aload_n 0, 0, 0, 0) :: (219, .bipush 8, 0, 0, 0) :: (221, .newarray .boolean, 0, 0, 0) :: (223, .putfield 89, 10, 26, 1) :: (226, .aload_n 0, 0, 0, 0) :: (227, .bipush 8, 0, 0, 0) :: (229, .newarray .int, 0, 0, 0) :: (231, .putfield 92, 10, 27, 1) :: (234, .aload_n 0, 0, 0, 0) :: (235, .bipush 10, 0, 0, 0) :: (237, .newarray .boolean, 0, 0, 0) :: (239, .putfield 95, 10, 28, 1) :: (242, .aload_n 0, 0, 0, 0) :: (243, .bipush 40, 0, 0, 0) :: (245, .newarray .int, 0, 0, 0) :: (247, .putfield 98, 10, 37, 1) :: (250, .aload_n 0, 0, 0, 0) :: (251, .bipush 64, 0, 0, 0) :: (253, .newarray .int, 0, 0, 0) :: (255, .putfield 101, 10, 38, 1) :: (258, .aload_n 0, 0, 0, 0) :: (259, .bipush 64, 0, 0, 0) :: (261, .newarray .int, 0, 0, 0) :: (263, .putfield 104, 10, 42, 1) :: (266, .aload_n 0, 0, 0, 0) :: (267, .sipush 4096, 0, 0, 0) :: (270, .newarray .int, 0, 0, 0) :: (272, .putfield 107, 10, 43, 1) :: (275, .aload_n 0, 0, 0, 0) :: (276, .sipush 2048, 0, 0, 0) :: (279, .newarray .int, 0, 0, 0) :: (281, .putfield 110, 10, 44, 1) :: (284, .aload_n 0, 0, 0, 0) :: (285, .sipush 2048, 0, 0, 0) :: (288, .newarray .int, 0, 0, 0) :: (290, .putfield 113, 10, 45, 1) :: (293, .aload_n 0, 0, 0, 0) :: (294, .sipush 2048, 0, 0, 0) :: (297, .newarray .int, 0, 0, 0) :: (299, .putfield 116, 10, 46, 1) :: (302, .aload_n 0, 0, 0, 0) :: (303, .sipush 512, 0, 0, 0) :: (306, .newarray .int, 0, 0, 0) :: (308, .putfield 119, 10, 48, 1) :: (311, .aload_n 0, 0, 0, 0) :: (312, .iconst 4, 0, 0, 0) :: (313, .newarray .int, 0, 0, 0) :: (315, .putfield 122, 10, 49, 1) :: (318, .aload_n 0, 0, 0, 0) :: (319, .getfield 7, 10, 0, 1) :: (322, .iconst 5, 0, 0, 0) :: (323, .iconst (-1), 0, 0, 0) :: (324, .iastore, 0, 0, 0) :: (325, .aload_n 0, 0, 0, 0) :: (326, .getfield 7, 10, 0, 1) :: (329, .bipush 6, 0, 0, 0) :: (331, .iconst 3, 0, 0, 0) :: (332, .iastore, 0, 0, 0) :: (333, .return_, 0, 0, 0) :: []
def am_c197_15 : AmCd := (15, .ireturn, 0, 0, 0) :: []
def am_c197_14 : AmCd := (14, .iconst 0, 0, 0, 0) :: am_c197_15
def am_c197_0 : AmCd := (0, .iload_n 0, 0, 0, 0) :: (1, .iload_n 1, 0, 0, 0) :: (2, .if_icmp .lt 12, 0, 0, 0) :: (5, .iload_n 0, 0, 0, 0) :: (6, .iload_n 2, 0, 0, 0) :: (7, .if_icmp .gt 7, 0, 0, 0) :: (10, .iconst 1, 0, 0, 0) :: (11, .goto 4, 0, 0, 0) :: am_c197_14
def am_c198_39 : AmCd := (39, .return_, 0, 0, 0) :: []
def am_c198_31 : AmCd := (31, .iaload, 0, 0, 0) :: (32, .iastore, 0, 0, 0) :: (33, .iinc 3 1, 0, 0, 0) :: (36, .goto (-34), 0, 0, 0) :: am_c198_39
def am_c198_30 : AmCd := (30, .iload_n 3, 0, 0, 0) :: am_c198_31
def am_c198_19 : AmCd := (19, .aload_n 0, 0, 0, 0) :: (20, .iload_n 2, 0, 0, 0) :: (21, .ifCond .eq 9, 0, 0, 0) :: (24, .iload_n 1, 0, 0, 0) :: (25, .iload_n 3, 0, 0, 0) :: (26, .iadd, 0, 0, 0) :: (27, .goto 4, 0, 0, 0) :: am_c198_30
def am_c198_16 : AmCd := (16, .iload_n 1, 0, 0, 0) :: (17, .iload_n 3, 0, 0, 0) :: (18, .iadd, 0, 0, 0) :: am_c198_19
def am_c198_2 : AmCd := (2, .iload_n 3, 0, 0, 0) :: (3, .iload_n 1, 0, 0, 0) :: (4, .if_icmp .ge 35, 0, 0, 0) :: (7, .aload_n 0, 0, 0, 0) :: (8, .iload_n 2, 0, 0, 0) :: (9, .ifCond .eq 7, 0, 0, 0) :: (12, .iload_n 3, 0, 0, 0) :: (13, .goto 6, 0, 0, 0) :: am_c198_16
def am_c198_0 : AmCd := (0, .iconst 0, 0, 0, 0) :: (1, .istore_n 3, 0, 0, 0) :: am_c198_2
def am_c199_39 : AmCd := (39, .return_, 0, 0, 0) :: []
def am_c199_31 : AmCd := (31, .baload, 0, 0, 0) :: (32, .bastore, 0, 0, 0) :: (33, .iinc 3 1, 0, 0, 0) :: (36, .goto (-34), 0, 0, 0) :: am_c199_39
def am_c199_30 : AmCd := (30, .iload_n 3, 0, 0, 0) :: am_c199_31
def am_c199_19 : AmCd := (19, .aload_n 0, 0, 0, 0) :: (20, .iload_n 2, 0, 0, 0) :: (21, .ifCond .eq 9, 0, 0, 0) :: (24, .iload_n 1, 0, 0, 0) :: (25, .iload_n 3, 0, 0, 0) :: (26, .iadd, 0, 0, 0) :: (27, .goto 4, 0, 0, 0) :: am_c199_30
def am_c199_16 : AmCd := (16, .iload_n 1, 0, 0, 0) :: (17, .iload_n 3, 0, 0, 0) :: (18, .iadd, 0, 0, 0) :: am_c199_19
def am_c199_2 : AmCd := (2, .iload_n 3, 0, 0, 0) :: (3, .iload_n 1, 0, 0, 0) :: (4, .if_icmp .ge 35, 0, 0, 0) :: (7, .aload_n 0, 0, 0, 0) :: (8, .iload_n 2, 0, 0, 0) :: (9, .ifCond .eq 7, 0, 0, 0) :: (12, .iload_n 3, 0, 0, 0) :: (13, .goto 6, 0, 0, 0) :: am_c199_16
def am_c199_0 : AmCd := (0, .iconst 0, 0, 0, 0) :: (1, .istore_n 3, 0, 0, 0) :: am_c199_2
def am_c200_0 : AmCd := (0, .aload_n 0, 0, 0, 0) :: (1, .getfield 7, 10, 0, 1) :: (4, .bipush 16, 0, 0, 0) :: (6, .iload_n 1, 0, 0, 0) :: (7, .invokestatic 125, 198, 3, 1) :: (10, .aload_n 0, 0, 0, 0) :: (11, .getfield 13, 10, 1, 1) :: (14, .iconst 3, 0, 0, 0) :: (15, .iload_n 1, 0, 0, 0) :: (16, .invokestatic 125, 198, 3, 1) :: (19, .aload_n 0, 0, 0, 0) :: (20, .getfield 16, 10, 2, 1) :: (23, .iconst 3, 0, 0, 0) :: (24, .iload_n 1, 0, 0, 0) :: (25, .invokestatic 125, 198, 3, 1) :: (28, .aload_n 0, 0, 0, 0) :: (29, .getfield 19, 10, 3, 1) :: (32, .iconst 3, 0, 0, 0) :: (33, .iload_n 1, 0, 0, 0) :: (34, .invokestatic 125, 198, 3, 1) :: (37, .aload_n 0, 0, 0, 0) :: (38, .getfield 22, 10, 4, 1) :: (41, .bipush 72, 0, 0, 0) :: (43, .iload_n 1, 0, 0, 0) :: (44, .invokestatic 125, 198, 3, 1) :: (47, .aload_n 0, 0, 0, 0) :: (48, .getfield 25, 10, 5, 1) :: (51, .sipush 576, 0, 0, 0) :: (54, .iload_n 1, 0, 0, 0) :: (55, .invokestatic 125, 198, 3, 1) :: (58, .aload_n 0, 0, 0, 0) :: (59, .getfield 28, 10, 6, 1) :: (62, .sipush 5760, 0, 0, 0) :: (65, .iload_n 1, 0, 0, 0) :: (66, .invokestatic 125, 198, 3, 1) :: (69, .aload_n 0, 0, 0, 0) :: (70, .getfield 31, 10, 7, 1) :: (73, .bipush 16, 0, 0, 0) :: (75, .iload_n 1, 0, 0, 0) :: (76, .invokestatic 125, 198, 3, 1) :: (79, .aload_n 0, 0, 0, 0) :: (80, .getfield 34, 10, 8, 1) :: (83, .bipush 16, 0, 0, 0) :: (85, .iload_n 1, 0, 0, 0) :: (86, .invokestatic 125, 198, 3, 1) :: (89, .aload_n 0, 0, 0, 0) :: (90, .getfield 37, 10, 9, 1) :: (93, .bipush 16, 0, 0, 0) :: (95, .iload_n 1, 0, 0, 0) :: (96, .invokestatic 125, 198, 3, 1) :: (99, .aload_n 0, 0, 0, 0) :: (100, .getfield 40, 10, 10, 1) :: (103, .bipush 16, 0, 0, 0) :: (105, .iload_n 1, 0, 0, 0) :: (106, .invokestatic 125, 198, 3, 1) :: (109, .aload_n 0, 0, 0, 0) :: (110, .getfield 43, 10, 11, 1) :: (113, .bipush 16, 0, 0, 0) :: (115, .iload_n 1, 0, 0, 0) :: (116, .invokestatic 125, 198, 3, 1) :: (119, .aload_n 0, 0, 0, 0) :: (120, .getfield 46, 10, 12, 1) :: (123, .bipush 8, 0, 0, 0) :: (125, .iload_n 1, 0, 0, 0) :: (126, .invokestatic 125, 198, 3, 1) :: (129, .aload_n 0, 0, 0, 0) :: (130, .getfield 49, 10, 13, 1) :: (133, .bipush 8, 0, 0, 0) :: (135, .iload_n 1, 0, 0, 0) :: (136, .invokestatic 125, 198, 3, 1) :: (139, .aload_n 0, 0, 0, 0) :: (140, .getfield 52, 10, 14, 1) :: (143, .bipush 8, 0, 0, 0) :: (145, .iload_n 1, 0, 0, 0) :: (146, .invokestatic 125, 198, 3, 1) :: (149, .aload_n 0, 0, 0, 0) :: (150, .getfield 55, 10, 15, 1) :: (153, .bipush 8, 0, 0, 0) :: (155, .iload_n 1, 0, 0, 0) :: (156, .invokestatic 125, 198, 3, 1) :: (159, .aload_n 0, 0, 0, 0) :: (160, .getfield 58, 10, 16, 1) :: (163, .bipush 8, 0, 0, 0) :: (165, .iload_n 1, 0, 0, 0) :: (166, .invokestatic 125, 198, 3, 1) :: (169, .aload_n 0, 0, 0, 0) :: (170, .getfield 61, 10, 17, 1) :: (173, .bipush 8, 0, 0, 0) :: (175, .iload_n 1, 0, 0, 0) :: (176, .invokestatic 125, 198, 3, 1) :: (179, .aload_n 0, 0, 0, 0) :: (180, .getfield 64, 10, 18, 1) :: (183, .bipush 8, 0, 0, 0) :: (185, .iload_n 1, 0, 0, 0) :: (186, .invokestatic 125, 198, 3, 1) :: (189, .aload_n 0, 0, 0, 0) :: (190, .getfield 67, 10, 19, 1) :: (193, .bipush 8, 0, 0, 0) :: (195, .iload_n 1, 0, 0, 0) :: (196, .invokestatic 125, 198, 3, 1) :: (199, .aload_n 0, 0, 0, 0) :: (200, .getfield 70, 10, 20, 1) :: (203, .sipush 128, 0, 0, 0) :: (206, .iload_n 1, 0, 0, 0) :: (207, .invokestatic 129, 199, 3, 1) :: (210, .aload_n 0, 0, 0, 0) :: (211, .getfield 74, 10, 21, 1) :: (214, .sipush 1024, 0, 0, 0) :: (217, .iload_n 1, 0, 0, 0) :: (218, .invokestatic 125, 198, 3, 1) :: (221, .aload_n 0, 0, 0, 0) :: (222, .getfield 77, 10, 22, 1) :: (225, .sipush 1024, 0, 0, 0) :: (228, .iload_n 1, 0, 0, 0) :: (229, .invokestatic 125, 198, 3, 1) :: (232, .aload_n 0, 0, 0, 0) :: (233, .getfield 80, 10, 23, 1) :: (236, .iconst 4, 0, 0, 0) :: (237, .iload_n 1, 0, 0, 0) :: (238, .invokestatic 125, 198, 3, 1) :: (241, .aload_n 0, 0, 0, 0) :: (242, .getfield 83, 10, 24, 1) :: (245, .iconst 4, 0, 0, 0) :: (246, .iload_n 1, 0, 0, 0) :: (247, .invokestatic 125, 198, 3, 1) :: (250, .aload_n 0, 0, 0, 0) :: (251, .getfield 86, 10, 25, 1) :: (254, .bipush 16, 0, 0, 0) :: (256, .iload_n 1, 0, 0, 0) :: (257, .invokestatic 125, 198, 3, 1) :: (260, .aload_n 0, 0, 0, 0) :: (261, .getfield 89, 10, 26, 1) :: (264, .iconst 4, 0, 0, 0) :: (265, .iload_n 1, 0, 0, 0) :: (266, .invokestatic 129, 199, 3, 1) :: (269, .aload_n 0, 0, 0, 0) :: (270, .getfield 92, 10, 27, 1) :: (273, .iconst 4, 0, 0, 0) :: (274, .iload_n 1, 0, 0, 0) :: (275, .invokestatic 125, 198, 3, 1) :: (278, .aload_n 0, 0, 0, 0) :: (279, .getfield 95, 10, 28, 1) :: (282, .iconst 5, 0, 0, 0) :: (283, .iload_n 1, 0, 0, 0) :: (284, .invokestatic 129, 199, 3, 1) :: (287, .return_, 0, 0, 0) :: []
def am_c201_0 : AmCd := (0, .aload_n 0, 0, 0, 0) :: (1, .iconst 0, 0, 0, 0) :: (2, .invokevirtual 133, 200, 2, 0) :: (5, .aload_n 0, 0, 0, 0) :: (6, .iconst 1, 0, 0, 0) :: (7, .putfield 137, 10, 29, 2) :: (10, .return_, 0, 0, 0) :: []
def am_c202_16 : AmCd := (16, .ireturn, 0, 0, 0) :: []
def am_c202_15 : AmCd := (15, .iconst 0, 0, 0, 0) :: am_c202_16
def am_c202_0 : AmCd := (0, .aload_n 0, 0, 0, 0) :: (1, .getfield 7, 10, 0, 1) :: (4, .bipush 8, 0, 0, 0) :: (6, .iaload, 0, 0, 0) :: (7, .iconst 1, 0, 0, 0) :: (8, .if_icmp .ne 7, 0, 0, 0) :: (11, .iconst 1, 0, 0, 0) :: (12, .goto 4, 0, 0, 0) :: am_c202_15
def am_c203_0 : AmCd := (0, .aload_n 0, 0, 0, 0) :: (1, .dup, 0, 0, 0) :: (2, .getfield 141, 10, 30, 0) :: (5, .iconst 1, 0, 0, 0) :: (6, .iadd, 0, 0, 0) :: (7, .putfield 141, 10, 30, 0) :: (10, .aload_n 0, 0, 0, 0) :: (11, .iload_n 1, 0, 0, 0) :: (12, .putfield 145, 10, 31, 0) :: (15, .bipush (-10), 0, 0, 0) :: (17, .iload_n 1, 0, 0, 0) :: (18, .isub, 0, 0, 0) :: (19, .ireturn, 0, 0, 0) :: []
def am_c204_19 : AmCd := (19, .aload_n 0, 0, 0, 0) :: (20, .iconst 1, 0, 0, 0) :: (21, .invokevirtual 133, 200, 2, 0) :: (24, .aload_n 0, 0, 0, 0) :: (25, .iconst 0, 0, 0, 0) :: (26, .putfield 137, 10, 29, 2) :: (29, .iconst 1, 0, 0, 0) :: (30, .ireturn, 0, 0, 0) :: []
def am_c204_10 : AmCd := (10, .aload_n 0, 0, 0, 0) :: (11, .getfield 137, 10, 29, 2) :: (14, .ifCond .ne 5, 0, 0, 0) :: (17, .iconst 0, 0, 0, 0) :: (18, .ireturn, 0, 0, 0) :: am_c204_19
def am_c204_0 : AmCd := (0, .aload_n 0, 0, 0, 0) :: (1, .invokevirtual 148, 202, 1, 0) :: (4, .ifCond .eq 6, 0, 0, 0) :: (7, .bipush (-4), 0, 0, 0) :: (9, .ireturn, 0, 0, 0) :: am_c204_10
def am_c205_0 : AmCd := (0, .iload_n 1, 0, 0, 0) :: (1, .iconst 0, 0, 0, 0) :: (2, .aload_n 0, 0, 0, 0) :: (3, .getfield 7, 10, 0, 1) :: (6, .iconst 0, 0, 0, 0) :: (7, .iaload, 0, 0, 0) :: (8, .iconst 1, 0, 0, 0) :: (9, .isub, 0, 0, 0) :: (10, .invokestatic 152, 197, 3, 1) :: (13, .ireturn, 0, 0, 0) :: []
def am_c206_27 : AmCd := (27, .ireturn, 0, 0, 0) :: []
def am_c206_26 : AmCd := (26, .iconst 0, 0, 0, 0) :: am_c206_27
def am_c206_0 : AmCd := (0, .aload_n 0, 0, 0, 0) :: (1, .iload_n 1, 0, 0, 0) :: (2, .invokevirtual 156, 205, 2, 0) :: (5, .ifCond .eq 21, 0, 0, 0) :: (8, .iload_n 2, 0, 0, 0) :: (9, .iconst 1, 0, 0, 0) :: (10, .aload_n 0, 0, 0, 0) :: (11, .getfield 13, 10, 1, 1) :: (14, .iload_n 1, 0, 0, 0) :: (15, .iaload, 0, 0, 0) :: (16, .invokestatic 152, 197, 3, 1) :: (19, .ifCond .eq 7, 0, 0, 0) :: (22, .iconst 1, 0, 0, 0) :: (23, .goto 4, 0, 0, 0) :: am_c206_26
def am_c207_0 : AmCd := (0, .bipush 24, 0, 0, 0) :: (2, .iload_n 0, 0, 0, 0) :: (3, .imul, 0, 0, 0) :: (4, .iload_n 1, 0, 0, 0) :: (5, .iadd, 0, 0, 0) :: (6, .iconst 1, 0, 0, 0) :: (7, .isub, 0, 0, 0) :: (8, .ireturn, 0, 0, 0) :: []
def am_c208_45 : AmCd := (45, .aload_n 0, 0, 0, 0) :: (46, .invokevirtual 160, 201, 1, 0) :: (49, .aload_n 0, 0, 0, 0) :: (50, .getfield 7, 10, 0, 1) :: (53, .iconst 0, 0, 0, 0) :: (54, .iaload, 0, 0, 0) :: (55, .istore_n 3, 0, 0, 0) :: (56, .aload_n 0, 0, 0, 0) :: (57, .getfield 7, 10, 0, 1) :: (60, .iconst 0, 0, 0, 0) :: (61, .dup2, 0, 0, 0) :: (62, .iaload, 0, 0, 0) :: (63, .iconst 1, 0, 0, 0) :: (64, .iadd, 0, 0, 0) :: (65, .iastore, 0, 0, 0) :: (66, .aload_n 0, 0, 0, 0) :: (67, .getfield 13, 10, 1, 1) :: (70, .iload_n 3, 0, 0, 0) :: (71, .iconst 0, 0, 0, 0) :: (72, .iastore, 0, 0, 0) :: (73, .aload_n 0, 0, 0, 0) :: (74, .getfield 16, 10, 2, 1) :: (77, .iload_n 3, 0, 0, 0) :: (78, .iload_n 1, 0, 0, 0) :: (79, .iastore, 0, 0, 0) :: (80, .aload_n 0, 0, 0, 0) :: (81, .getfield 19, 10, 3, 1) :: (84, .iload_n 3, 0, 0, 0) :: (85, .iload_n 2, 0, 0, 0) :: (86, .iastore, 0, 0, 0) :: (87, .iload_n 3, 0, 0, 0) :: (88, .ireturn, 0, 0, 0) :: []
def am_c208_32 : AmCd := (32, .aload_n 0, 0, 0, 0) :: (33, .getfield 7, 10, 0, 1) :: (36, .iconst 0, 0, 0, 0) :: (37, .iaload, 0, 0, 0) :: (38, .iconst 3, 0, 0, 0) :: (39, .if_icmp .ne 6, 0, 0, 0) :: (42, .bipush (-3), 0, 0, 0) :: (44, .ireturn, 0, 0, 0) :: am_c208_45
def am_c208_30 : AmCd := (30, .iconst (-1), 0, 0, 0) :: (31, .ireturn, 0, 0, 0) :: am_c208_32
def am_c208_10 : AmCd := (10, .iload_n 1, 0, 0, 0) :: (11, .iconst 1, 0, 0, 0) :: (12, .bipush 8, 0, 0, 0) :: (14, .invokestatic 152, 197, 3, 1) :: (17, .ifCond .eq 13, 0, 0, 0) :: (20, .iload_n 2, 0, 0, 0) :: (21, .iconst 1, 0, 0, 0) :: (22, .bipush 10, 0, 0, 0) :: (24, .invokestatic 152, 197, 3, 1) :: (27, .ifCond .ne 5, 0, 0, 0) :: am_c208_30
def am_c208_0 : AmCd := (0, .aload_n 0, 0, 0, 0) :: (1, .invokevirtual 148, 202, 1, 0) :: (4, .ifCond .eq 6, 0, 0, 0) :: (7, .bipush (-4), 0, 0, 0) :: (9, .ireturn, 0, 0, 0) :: am_c208_10
def am_c209_35 : AmCd := (35, .aload_n 0, 0, 0, 0) :: (36, .invokevirtual 160, 201, 1, 0) :: (39, .aload_n 0, 0, 0, 0) :: (40, .getfield 13, 10, 1, 1) :: (43, .iload_n 1, 0, 0, 0) :: (44, .dup2, 0, 0, 0) :: (45, .iaload, 0, 0, 0) :: (46, .iconst 1, 0, 0, 0) :: (47, .iadd, 0, 0, 0) :: (48, .iastore, 0, 0, 0) :: (49, .aload_n 0, 0, 0, 0) :: (50, .getfield 22, 10, 4, 1) :: (53, .iload_n 1, 0, 0, 0) :: (54, .aload_n 0, 0, 0, 0) :: (55, .getfield 13, 10, 1, 1) :: (58, .iload_n 1, 0, 0, 0) :: (59, .iaload, 0, 0, 0) :: (60, .invokestatic 163, 207, 2, 1) :: (63, .iconst (-1), 0, 0, 0) :: (64, .iastore, 0, 0, 0) :: (65, .aload_n 0, 0, 0, 0) :: (66, .getfield 13, 10, 1, 1) :: (69, .iload_n 1, 0, 0, 0) :: (70, .iaload, 0, 0, 0) :: (71, .ireturn, 0, 0, 0) :: []
def am_c209_21 : AmCd := (21, .aload_n 0, 0, 0, 0) :: (22, .getfield 13, 10, 1, 1) :: (25, .iload_n 1, 0, 0, 0) :: (26, .iaload, 0, 0, 0) :: (27, .bipush 24, 0, 0, 0) :: (29, .if_icmp .ne 6, 0, 0, 0) :: (32, .bipush (-3), 0, 0, 0) :: (34, .ireturn, 0, 0, 0) :: am_c209_35
def am_c209_10 : AmCd := (10, .aload_n 0, 0, 0, 0) :: (11, .iload_n 1, 0, 0, 0) :: (12, .invokevirtual 156, 205, 2, 0) :: (15, .ifCond .ne 6, 0, 0, 0) :: (18, .bipush (-2), 0, 0, 0) :: (20, .ireturn, 0, 0, 0) :: am_c209_21
def am_c209_0 : AmCd := (0, .aload_n 0, 0, 0, 0) :: (1, .invokevirtual 148, 202, 1, 0) :: (4, .ifCond .eq 6, 0, 0, 0) :: (7, .bipush (-4), 0, 0, 0) :: (9, .ireturn, 0, 0, 0) :: am_c209_10
def am_c210_22 : AmCd := (22, .aload_n 0, 0, 0, 0) :: (23, .invokevirtual 160, 201, 1, 0) :: (26, .aload_n 0, 0, 0, 0) :: (27, .getfield 22, 10, 4, 1) :: (30, .iload_n 1, 0, 0, 0) :: (31, .iload_n 2, 0, 0, 0) :: (32, .invokestatic 163, 207, 2, 1) :: (35, .iconst (-1), 0, 0, 0) :: (36, .iastore, 0, 0, 0) :: (37, .iconst 1, 0, 0, 0) :: (38, .ireturn, 0, 0, 0) :: []
def am_c210_10 : AmCd := (10, .aload_n 0, 0, 0, 0) :: (11, .iload_n 1, 0, 0, 0) :: (12, .iload_n 2, 0, 0, 0) :: (13, .invokevirtual 167, 206, 3, 0) :: (16, .ifCond .ne 6, 0, 0, 0) :: (19, .bipush (-2), 0, 0, 0) :: (21, .ireturn, 0, 0, 0) :: am_c210_22
def am_c210_0 : AmCd := (0, .aload_n 0, 0, 0, 0) :: (1, .invokevirtual 148, 202, 1, 0) :: (4, .ifCond .eq 6, 0, 0, 0) :: (7, .bipush (-4), 0, 0, 0) :: (9, .ireturn, 0, 0, 0) :: am_c210_10
def am_c211_92 : AmCd := (92, .iconst 1, 0, 0, 0) :: (93, .ireturn, 0, 0, 0) :: []
def am_c211_66 : AmCd := (66, .iload 5, 0, 0, 0) :: (68, .iload_n 3, 0, 0, 0) :: (69, .if_icmp .ge 23, 0, 0, 0) :: (72, .aload_n 0, 0, 0, 0) :: (73, .getfield 25, 10, 5, 1) :: (76, .bipush 8, 0, 0, 0) :: (78, .iload 4, 0, 0, 0) :: (80, .imul, 0, 0, 0) :: (81, .iload 5, 0, 0, 0) :: (83, .iadd, 0, 0, 0) :: (84, .iconst (-1), 0, 0, 0) :: (85, .iastore, 0, 0, 0) :: (86, .iinc 5 1, 0, 0, 0) :: (89, .goto (-23), 0, 0, 0) :: am_c211_92
def am_c211_48 : AmCd := (48, .iload_n 1, 0, 0, 0) :: (49, .iload_n 2, 0, 0, 0) :: (50, .invokestatic 163, 207, 2, 1) :: (53, .istore 4, 0, 0, 0) :: (55, .aload_n 0, 0, 0, 0) :: (56, .getfield 22, 10, 4, 1) :: (59, .iload 4, 0, 0, 0) :: (61, .iload_n 3, 0, 0, 0) :: (62, .iastore, 0, 0, 0) :: (63, .iconst 0, 0, 0, 0) :: (64, .istore 5, 0, 0, 0) :: am_c211_66
def am_c211_38 : AmCd := (38, .iload_n 3, 0, 0, 0) :: (39, .ifCond .ge 9, 0, 0, 0) :: (42, .aload_n 0, 0, 0, 0) :: (43, .iconst 3, 0, 0, 0) :: (44, .invokevirtual 171, 203, 2, 0) :: (47, .ireturn, 0, 0, 0) :: am_c211_48
def am_c211_22 : AmCd := (22, .aload_n 0, 0, 0, 0) :: (23, .invokevirtual 160, 201, 1, 0) :: (26, .iload_n 3, 0, 0, 0) :: (27, .bipush 8, 0, 0, 0) :: (29, .if_icmp .le 9, 0, 0, 0) :: (32, .aload_n 0, 0, 0, 0) :: (33, .iconst 4, 0, 0, 0) :: (34, .invokevirtual 171, 203, 2, 0) :: (37, .ireturn, 0, 0, 0) :: am_c211_38
def am_c211_10 : AmCd := (10, .aload_n 0, 0, 0, 0) :: (11, .iload_n 1, 0, 0, 0) :: (12, .iload_n 2, 0, 0, 0) :: (13, .invokevirtual 167, 206, 3, 0) :: (16, .ifCond .ne 6, 0, 0, 0) :: (19, .bipush (-2), 0, 0, 0) :: (21, .ireturn, 0, 0, 0) :: am_c211_22
def am_c211_0 : AmCd := (0, .aload_n 0, 0, 0, 0) :: (1, .invokevirtual 148, 202, 1, 0) :: (4, .ifCond .eq 6, 0, 0, 0) :: (7, .bipush (-4), 0, 0, 0) :: (9, .ireturn, 0, 0, 0) :: am_c211_10
def am_c212_34 : AmCd := (34, .ireturn, 0, 0, 0) :: []
def am_c212_33 : AmCd := (33, .iconst 0, 0, 0, 0) :: am_c212_34
def am_c212_13 : AmCd := (13, .iload_n 2, 0, 0, 0) :: (14, .iconst 0, 0, 0, 0) :: (15, .aload_n 0, 0, 0, 0) :: (16, .getfield 22, 10, 4, 1) :: (19, .iload_n 1, 0, 0, 0) :: (20, .iaload, 0, 0, 0) :: (21, .iconst 1, 0, 0, 0) :: (22, .isub, 0, 0, 0) :: (23, .invokestatic 152, 197, 3, 1) :: (26, .ifCond .ne 7, 0, 0, 0) :: (29, .iconst 2, 0, 0, 0) :: (30, .goto 4, 0, 0, 0) :: am_c212_33
def am_c212_0 : AmCd := (0, .aload_n 0, 0, 0, 0) :: (1, .getfield 22, 10, 4, 1) :: (4, .iload_n 1, 0, 0, 0) :: (5, .iaload, 0, 0, 0) :: (6, .ifCond .ge 7, 0, 0, 0) :: (9, .iconst 1, 0, 0, 0) :: (10, .goto 24, 0, 0, 0) :: am_c212_13
def am_c213_55 : AmCd := (55, .ireturn, 0, 0, 0) :: []
def am_c213_54 : AmCd := (54, .iconst 0, 0, 0, 0) :: am_c213_55
def am_c213_38 : AmCd := (38, .iload_n 3, 0, 0, 0) :: (39, .iconst 0, 0, 0, 0) :: (40, .iload 5, 0, 0, 0) :: (42, .iconst 1, 0, 0, 0) :: (43, .isub, 0, 0, 0) :: (44, .invokestatic 152, 197, 3, 1) :: (47, .ifCond .ne 7, 0, 0, 0) :: (50, .iconst 2, 0, 0, 0) :: (51, .goto 4, 0, 0, 0) :: am_c213_54
def am_c213_16 : AmCd := (16, .aload_n 0, 0, 0, 0) :: (17, .getfield 25, 10, 5, 1) :: (20, .bipush 8, 0, 0, 0) :: (22, .iload_n 1, 0, 0, 0) :: (23, .imul, 0, 0, 0) :: (24, .iload_n 2, 0, 0, 0) :: (25, .iadd, 0, 0, 0) :: (26, .iaload, 0, 0, 0) :: (27, .istore 5, 0, 0, 0) :: (29, .iload 5, 0, 0, 0) :: (31, .ifCond .ge 7, 0, 0, 0) :: (34, .iconst 1, 0, 0, 0) :: (35, .goto 20, 0, 0, 0) :: am_c213_38
def am_c213_0 : AmCd := (0, .aload_n 0, 0, 0, 0) :: (1, .iload_n 1, 0, 0, 0) :: (2, .iload_n 2, 0, 0, 0) :: (3, .invokevirtual 175, 212, 3, 0) :: (6, .istore 4, 0, 0, 0) :: (8, .iload 4, 0, 0, 0) :: (10, .ifCond .le 6, 0, 0, 0) :: (13, .iload 4, 0, 0, 0) :: (15, .ireturn, 0, 0, 0) :: am_c213_16
def am_c214_128 : AmCd := (128, .iconst 1, 0, 0, 0) :: (129, .ireturn, 0, 0, 0) :: []
def am_c214_95 : AmCd := (95, .iload 7, 0, 0, 0) :: (97, .iload 4, 0, 0, 0) :: (99, .if_icmp .ge 29, 0, 0, 0) :: (102, .aload_n 0, 0, 0, 0) :: (103, .getfield 28, 10, 6, 1) :: (106, .bipush 10, 0, 0, 0) :: (108, .bipush 8, 0, 0, 0) :: (110, .iload 5, 0, 0, 0) :: (112, .imul, 0, 0, 0) :: (113, .iload_n 3, 0, 0, 0) :: (114, .iadd, 0, 0, 0) :: (115, .imul, 0, 0, 0) :: (116, .iload 7, 0, 0, 0) :: (118, .iadd, 0, 0, 0) :: (119, .bipush 32, 0, 0, 0) :: (121, .iastore, 0, 0, 0) :: (122, .iinc 7 1, 0, 0, 0) :: (125, .goto (-30), 0, 0, 0) :: am_c214_128
def am_c214_78 : AmCd := (78, .aload_n 0, 0, 0, 0) :: (79, .getfield 25, 10, 5, 1) :: (82, .bipush 8, 0, 0, 0) :: (84, .iload 5, 0, 0, 0) :: (86, .imul, 0, 0, 0) :: (87, .iload_n 3, 0, 0, 0) :: (88, .iadd, 0, 0, 0) :: (89, .iload 4, 0, 0, 0) :: (91, .iastore, 0, 0, 0) :: (92, .iconst 0, 0, 0, 0) :: (93, .istore 7, 0, 0, 0) :: am_c214_95
def am_c214_50 : AmCd := (50, .iload_n 1, 0, 0, 0) :: (51, .iload_n 2, 0, 0, 0) :: (52, .invokestatic 163, 207, 2, 1) :: (55, .istore 5, 0, 0, 0) :: (57, .aload_n 0, 0, 0, 0) :: (58, .iload 5, 0, 0, 0) :: (60, .iload_n 3, 0, 0, 0) :: (61, .invokevirtual 175, 212, 3, 0) :: (64, .istore 6, 0, 0, 0) :: (66, .iload 6, 0, 0, 0) :: (68, .ifCond .le 10, 0, 0, 0) :: (71, .aload_n 0, 0, 0, 0) :: (72, .iload 6, 0, 0, 0) :: (74, .invokevirtual 171, 203, 2, 0) :: (77, .ireturn, 0, 0, 0) :: am_c214_78
def am_c214_39 : AmCd := (39, .iload 4, 0, 0, 0) :: (41, .ifCond .ge 9, 0, 0, 0) :: (44, .aload_n 0, 0, 0, 0) :: (45, .iconst 3, 0, 0, 0) :: (46, .invokevirtual 171, 203, 2, 0) :: (49, .ireturn, 0, 0, 0) :: am_c214_50
def am_c214_22 : AmCd := (22, .aload_n 0, 0, 0, 0) :: (23, .invokevirtual 160, 201, 1, 0) :: (26, .iload 4, 0, 0, 0) :: (28, .bipush 10, 0, 0, 0) :: (30, .if_icmp .le 9, 0, 0, 0) :: (33, .aload_n 0, 0, 0, 0) :: (34, .iconst 4, 0, 0, 0) :: (35, .invokevirtual 171, 203, 2, 0) :: (38, .ireturn, 0, 0, 0) :: am_c214_39
def am_c214_10 : AmCd := (10, .aload_n 0, 0, 0, 0) :: (11, .iload_n 1, 0, 0, 0) :: (12, .iload_n 2, 0, 0, 0) :: (13, .invokevirtual 167, 206, 3, 0) :: (16, .ifCond .ne 6, 0, 0, 0) :: (19, .bipush (-2), 0, 0, 0) :: (21, .ireturn, 0, 0, 0) :: am_c214_22
def am_c214_0 : AmCd := (0, .aload_n 0, 0, 0, 0) :: (1, .invokevirtual 148, 202, 1, 0) :: (4, .ifCond .eq 6, 0, 0, 0) :: (7, .bipush (-4), 0, 0, 0) :: (9, .ireturn, 0, 0, 0) :: am_c214_10
def am_c215_54 : AmCd := (54, .aload_n 0, 0, 0, 0) :: (55, .getfield 25, 10, 5, 1) :: (58, .bipush 8, 0, 0, 0) :: (60, .iload 4, 0, 0, 0) :: (62, .imul, 0, 0, 0) :: (63, .iload_n 3, 0, 0, 0) :: (64, .iadd, 0, 0, 0) :: (65, .iconst (-1), 0, 0, 0) :: (66, .iastore, 0, 0, 0) :: (67, .iconst 1, 0, 0, 0) :: (68, .ireturn, 0, 0, 0) :: []
def am_c215_22 : AmCd := (22, .aload_n 0, 0, 0, 0) :: (23, .invokevirtual 160, 201, 1, 0) :: (26, .iload_n 1, 0, 0, 0) :: (27, .iload_n 2, 0, 0, 0) :: (28, .invokestatic 163, 207, 2, 1) :: (31, .istore 4, 0, 0, 0) :: (33, .aload_n 0, 0, 0, 0) :: (34, .iload 4, 0, 0, 0) :: (36, .iload_n 3, 0, 0, 0) :: (37, .invokevirtual 175, 212, 3, 0) :: (40, .istore 5, 0, 0, 0) :: (42, .iload 5, 0, 0, 0) :: (44, .ifCond .le 10, 0, 0, 0) :: (47, .aload_n 0, 0, 0, 0) :: (48, .iload 5, 0, 0, 0) :: (50, .invokevirtual 171, 203, 2, 0) :: (53, .ireturn, 0, 0, 0) :: am_c215_54
def am_c215_10 : AmCd := (10, .aload_n 0, 0, 0, 0) :: (11, .iload_n 1, 0, 0, 0) :: (12, .iload_n 2, 0, 0, 0) :: (13, .invokevirtual 167, 206, 3, 0) :: (16, .ifCond .ne 6, 0, 0, 0) :: (19, .bipush (-2), 0, 0, 0) :: (21, .ireturn, 0, 0, 0) :: am_c215_22
def am_c215_0 : AmCd := (0, .aload_n 0, 0, 0, 0) :: (1, .invokevirtual 148, 202, 1, 0) :: (4, .ifCond .eq 6, 0, 0, 0) :: (7, .bipush (-4), 0, 0, 0) :: (9, .ireturn, 0, 0, 0) :: am_c215_10
def am_c216_70 : AmCd := (70, .aload_n 0, 0, 0, 0) :: (71, .getfield 28, 10, 6, 1) :: (74, .bipush 10, 0, 0, 0) :: (76, .bipush 8, 0, 0, 0) :: (78, .iload 6, 0, 0, 0) :: (80, .imul, 0, 0, 0) :: (81, .iload_n 3, 0, 0, 0) :: (82, .iadd, 0, 0, 0) :: (83, .imul, 0, 0, 0) :: (84, .iload 4, 0, 0, 0) :: (86, .iadd, 0, 0, 0) :: (87, .iload 5, 0, 0, 0) :: (89, .iastore, 0, 0, 0) :: (90, .iconst 1, 0, 0, 0) :: (91, .ireturn, 0, 0, 0) :: []
def am_c216_36 : AmCd := (36, .aload_n 0, 0, 0, 0) :: (37, .invokevirtual 160, 201, 1, 0) :: (40, .iload_n 1, 0, 0, 0) :: (41, .iload_n 2, 0, 0, 0) :: (42, .invokestatic 163, 207, 2, 1) :: (45, .istore 6, 0, 0, 0) :: (47, .aload_n 0, 0, 0, 0) :: (48, .iload 6, 0, 0, 0) :: (50, .iload_n 3, 0, 0, 0) :: (51, .iload 4, 0, 0, 0) :: (53, .invokevirtual 178, 213, 4, 0) :: (56, .istore 7, 0, 0, 0) :: (58, .iload 7, 0, 0, 0) :: (60, .ifCond .le 10, 0, 0, 0) :: (63, .aload_n 0, 0, 0, 0) :: (64, .iload 7, 0, 0, 0) :: (66, .invokevirtual 171, 203, 2, 0) :: (69, .ireturn, 0, 0, 0) :: am_c216_70
def am_c216_22 : AmCd := (22, .iload 5, 0, 0, 0) :: (24, .bipush 32, 0, 0, 0) :: (26, .bipush 126, 0, 0, 0) :: (28, .invokestatic 152, 197, 3, 1) :: (31, .ifCond .ne 5, 0, 0, 0) :: (34, .iconst (-1), 0, 0, 0) :: (35, .ireturn, 0, 0, 0) :: am_c216_36
def am_c216_10 : AmCd := (10, .aload_n 0, 0, 0, 0) :: (11, .iload_n 1, 0, 0, 0) :: (12, .iload_n 2, 0, 0, 0) :: (13, .invokevirtual 167, 206, 3, 0) :: (16, .ifCond .ne 6, 0, 0, 0) :: (19, .bipush (-2), 0, 0, 0) :: (21, .ireturn, 0, 0, 0) :: am_c216_22
def am_c216_0 : AmCd := (0, .aload_n 0, 0, 0, 0) :: (1, .invokevirtual 148, 202, 1, 0) :: (4, .ifCond .eq 6, 0, 0, 0) :: (7, .bipush (-4), 0, 0, 0) :: (9, .ireturn, 0, 0, 0) :: am_c216_10
def am_c217_62 : AmCd := (62, .ireturn, 0, 0, 0) :: []
def am_c217_44 : AmCd := (44, .aload_n 0, 0, 0, 0) :: (45, .getfield 28, 10, 6, 1) :: (48, .bipush 10, 0, 0, 0) :: (50, .bipush 8, 0, 0, 0) :: (52, .iload 5, 0, 0, 0) :: (54, .imul, 0, 0, 0) :: (55, .iload_n 3, 0, 0, 0) :: (56, .iadd, 0, 0, 0) :: (57, .imul, 0, 0, 0) :: (58, .iload 4, 0, 0, 0) :: (60, .iadd, 0, 0, 0) :: (61, .iaload, 0, 0, 0) :: am_c217_62
def am_c217_12 : AmCd := (12, .iload_n 1, 0, 0, 0) :: (13, .iload_n 2, 0, 0, 0) :: (14, .invokestatic 163, 207, 2, 1) :: (17, .istore 5, 0, 0, 0) :: (19, .aload_n 0, 0, 0, 0) :: (20, .iload 5, 0, 0, 0) :: (22, .iload_n 3, 0, 0, 0) :: (23, .iload 4, 0, 0, 0) :: (25, .invokevirtual 178, 213, 4, 0) :: (28, .istore 6, 0, 0, 0) :: (30, .iload 6, 0, 0, 0) :: (32, .ifCond .le 12, 0, 0, 0) :: (35, .aload_n 0, 0, 0, 0) :: (36, .iload 6, 0, 0, 0) :: (38, .invokevirtual 171, 203, 2, 0) :: (41, .goto 21, 0, 0, 0) :: am_c217_44
def am_c217_0 : AmCd := (0, .aload_n 0, 0, 0, 0) :: (1, .iload_n 1, 0, 0, 0) :: (2, .iload_n 2, 0, 0, 0) :: (3, .invokevirtual 167, 206, 3, 0) :: (6, .ifCond .ne 6, 0, 0, 0) :: (9, .bipush (-2), 0, 0, 0) :: (11, .ireturn, 0, 0, 0) :: am_c217_12
def am_c218_100 : AmCd := (100, .ireturn, 0, 0, 0) :: []
def am_c218_98 : AmCd := (98, .iload 6, 0, 0, 0) :: am_c218_100
def am_c218_71 : AmCd := (71, .aload_n 0, 0, 0, 0) :: (72, .getfield 25, 10, 5, 1) :: (75, .bipush 8, 0, 0, 0) :: (77, .iload 4, 0, 0, 0) :: (79, .imul, 0, 0, 0) :: (80, .iload_n 3, 0, 0, 0) :: (81, .iadd, 0, 0, 0) :: (82, .iaload, 0, 0, 0) :: (83, .istore 6, 0, 0, 0) :: (85, .iload 6, 0, 0, 0) :: (87, .ifCond .ge 11, 0, 0, 0) :: (90, .aload_n 0, 0, 0, 0) :: (91, .iconst 1, 0, 0, 0) :: (92, .invokevirtual 171, 203, 2, 0) :: (95, .goto 5, 0, 0, 0) :: am_c218_98
def am_c218_50 : AmCd := (50, .aload_n 0, 0, 0, 0) :: (51, .iload 4, 0, 0, 0) :: (53, .iload_n 3, 0, 0, 0) :: (54, .invokevirtual 175, 212, 3, 0) :: (57, .istore 5, 0, 0, 0) :: (59, .iload 5, 0, 0, 0) :: (61, .ifCond .le 10, 0, 0, 0) :: (64, .aload_n 0, 0, 0, 0) :: (65, .iload 5, 0, 0, 0) :: (67, .invokevirtual 171, 203, 2, 0) :: (70, .ireturn, 0, 0, 0) :: am_c218_71
def am_c218_49 : AmCd := (49, .ireturn, 0, 0, 0) :: am_c218_50
def am_c218_42 : AmCd := (42, .aload_n 0, 0, 0, 0) :: (43, .getfield 22, 10, 4, 1) :: (46, .iload 4, 0, 0, 0) :: (48, .iaload, 0, 0, 0) :: am_c218_49
def am_c218_12 : AmCd := (12, .iload_n 1, 0, 0, 0) :: (13, .iload_n 2, 0, 0, 0) :: (14, .invokestatic 163, 207, 2, 1) :: (17, .istore 4, 0, 0, 0) :: (19, .iload_n 3, 0, 0, 0) :: (20, .iconst (-1), 0, 0, 0) :: (21, .if_icmp .ne 29, 0, 0, 0) :: (24, .aload_n 0, 0, 0, 0) :: (25, .getfield 22, 10, 4, 1) :: (28, .iload 4, 0, 0, 0) :: (30, .iaload, 0, 0, 0) :: (31, .ifCond .ge 11, 0, 0, 0) :: (34, .aload_n 0, 0, 0, 0) :: (35, .iconst 1, 0, 0, 0) :: (36, .invokevirtual 171, 203, 2, 0) :: (39, .goto 10, 0, 0, 0) :: am_c218_42
def am_c218_0 : AmCd := (0, .aload_n 0, 0, 0, 0) :: (1, .iload_n 1, 0, 0, 0) :: (2, .iload_n 2, 0, 0, 0) :: (3, .invokevirtual 167, 206, 3, 0) :: (6, .ifCond .ne 6, 0, 0, 0) :: (9, .bipush (-2), 0, 0, 0) :: (11, .ireturn, 0, 0, 0) :: am_c218_12
def am_c219_24 : AmCd := (24, .ireturn, 0, 0, 0) :: []
def am_c219_13 : AmCd := (13, .aload_n 0, 0, 0, 0) :: (14, .getfield 25, 10, 5, 1) :: (17, .bipush 8, 0, 0, 0) :: (19, .iload_n 1, 0, 0, 0) :: (20, .imul, 0, 0, 0) :: (21, .iload_n 2, 0, 0, 0) :: (22, .iadd, 0, 0, 0) :: (23, .iaload, 0, 0, 0) :: am_c219_24
def am_c219_0 : AmCd := (0, .aload_n 0, 0, 0, 0) :: (1, .iload_n 1, 0, 0, 0) :: (2, .iload_n 2, 0, 0, 0) :: (3, .invokevirtual 175, 212, 3, 0) :: (6, .ifCond .le 7, 0, 0, 0) :: (9, .iconst (-1), 0, 0, 0) :: (10, .goto 14, 0, 0, 0) :: am_c219_13
def am_c220_223 : AmCd := (223, .iconst 1, 0, 0, 0) :: (224, .ireturn, 0, 0, 0) :: []
def am_c220_207 : AmCd := (207, .aload_n 0, 0, 0, 0) :: (208, .dup, 0, 0, 0) :: (209, .getfield 182, 10, 35, 0) :: (212, .iconst 1, 0, 0, 0) :: (213, .iadd, 0, 0, 0) :: (214, .putfield 182, 10, 35, 0) :: (217, .iinc 10 1, 0, 0, 0) :: (220, .goto (-148), 0, 0, 0) :: am_c220_223
def am_c220_151 : AmCd := (151, .iload 11, 0, 0, 0) :: (153, .iload 7, 0, 0, 0) :: (155, .if_icmp .ge 52, 0, 0, 0) :: (158, .aload_n 0, 0, 0, 0) :: (159, .getfield 28, 10, 6, 1) :: (162, .bipush 10, 0, 0, 0) :: (164, .bipush 8, 0, 0, 0) :: (166, .iload 9, 0, 0, 0) :: (168, .imul, 0, 0, 0) :: (169, .iload 5, 0, 0, 0) :: (171, .iadd, 0, 0, 0) :: (172, .iload 10, 0, 0, 0) :: (174, .iadd, 0, 0, 0) :: (175, .imul, 0, 0, 0) :: (176, .iload 11, 0, 0, 0) :: (178, .iadd, 0, 0, 0) :: (179, .aload_n 0, 0, 0, 0) :: (180, .getfield 28, 10, 6, 1) :: (183, .bipush 10, 0, 0, 0) :: (185, .bipush 8, 0, 0, 0) :: (187, .iload 8, 0, 0, 0) :: (189, .imul, 0, 0, 0) :: (190, .iload_n 3, 0, 0, 0) :: (191, .iadd, 0, 0, 0) :: (192, .iload 10, 0, 0, 0) :: (194, .iadd, 0, 0, 0) :: (195, .imul, 0, 0, 0) :: (196, .iload 11, 0, 0, 0) :: (198, .iadd, 0, 0, 0) :: (199, .iaload, 0, 0, 0) :: (200, .iastore, 0, 0, 0) :: (201, .iinc 11 1, 0, 0, 0) :: (204, .goto (-53), 0, 0, 0) :: am_c220_207
def am_c220_148 : AmCd := (148, .iconst 0, 0, 0, 0) :: (149, .istore 11, 0, 0, 0) :: am_c220_151
def am_c220_142 : AmCd := (142, .aload_n 0, 0, 0, 0) :: (143, .iconst 5, 0, 0, 0) :: (144, .invokevirtual 171, 203, 2, 0) :: (147, .ireturn, 0, 0, 0) :: am_c220_148
def am_c220_72 : AmCd := (72, .iload 10, 0, 0, 0) :: (74, .iload 6, 0, 0, 0) :: (76, .if_icmp .ge 147, 0, 0, 0) :: (79, .iload 7, 0, 0, 0) :: (81, .ifCond .lt 61, 0, 0, 0) :: (84, .aload_n 0, 0, 0, 0) :: (85, .iload 8, 0, 0, 0) :: (87, .iload_n 3, 0, 0, 0) :: (88, .iload 10, 0, 0, 0) :: (90, .iadd, 0, 0, 0) :: (91, .invokevirtual 185, 219, 3, 0) :: (94, .iload 7, 0, 0, 0) :: (96, .if_icmp .lt 46, 0, 0, 0) :: (99, .aload_n 0, 0, 0, 0) :: (100, .iload 9, 0, 0, 0) :: (102, .iload 5, 0, 0, 0) :: (104, .iload 10, 0, 0, 0) :: (106, .iadd, 0, 0, 0) :: (107, .invokevirtual 185, 219, 3, 0) :: (110, .iload 7, 0, 0, 0) :: (112, .if_icmp .lt 30, 0, 0, 0) :: (115, .aload_n 0, 0, 0, 0) :: (116, .iload 8, 0, 0, 0) :: (118, .iload_n 3, 0, 0, 0) :: (119, .iload 10, 0, 0, 0) :: (121, .iadd, 0, 0, 0) :: (122, .invokevirtual 185, 219, 3, 0) :: (125, .ifCond .lt 17, 0, 0, 0) :: (128, .aload_n 0, 0, 0, 0) :: (129, .iload 9, 0, 0, 0) :: (131, .iload 5, 0, 0, 0) :: (133, .iload 10, 0, 0, 0) :: (135, .iadd, 0, 0, 0) :: (136, .invokevirtual 185, 219, 3, 0) :: (139, .ifCond .ge 9, 0, 0, 0) :: am_c220_142
def am_c220_45 : AmCd := (45, .aload_n 0, 0, 0, 0) :: (46, .invokevirtual 160, 201, 1, 0) :: (49, .aload_n 0, 0, 0, 0) :: (50, .iconst 0, 0, 0, 0) :: (51, .putfield 182, 10, 35, 0) :: (54, .iload_n 1, 0, 0, 0) :: (55, .iload_n 2, 0, 0, 0) :: (56, .invokestatic 163, 207, 2, 1) :: (59, .istore 8, 0, 0, 0) :: (61, .iload_n 1, 0, 0, 0) :: (62, .iload 4, 0, 0, 0) :: (64, .invokestatic 163, 207, 2, 1) :: (67, .istore 9, 0, 0, 0) :: (69, .iconst 0, 0, 0, 0) :: (70, .istore 10, 0, 0, 0) :: am_c220_72
def am_c220_32 : AmCd := (32, .iload 6, 0, 0, 0) :: (34, .iconst 0, 0, 0, 0) :: (35, .bipush 8, 0, 0, 0) :: (37, .invokestatic 152, 197, 3, 1) :: (40, .ifCond .ne 5, 0, 0, 0) :: (43, .iconst (-1), 0, 0, 0) :: (44, .ireturn, 0, 0, 0) :: am_c220_45
def am_c220_29 : AmCd := (29, .bipush (-2), 0, 0, 0) :: (31, .ireturn, 0, 0, 0) :: am_c220_32
def am_c220_10 : AmCd := (10, .aload_n 0, 0, 0, 0) :: (11, .iload_n 1, 0, 0, 0) :: (12, .iload_n 2, 0, 0, 0) :: (13, .invokevirtual 167, 206, 3, 0) :: (16, .ifCond .eq 13, 0, 0, 0) :: (19, .aload_n 0, 0, 0, 0) :: (20, .iload_n 1, 0, 0, 0) :: (21, .iload 4, 0, 0, 0) :: (23, .invokevirtual 167, 206, 3, 0) :: (26, .ifCond .ne 6, 0, 0, 0) :: am_c220_29
def am_c220_0 : AmCd := (0, .aload_n 0, 0, 0, 0) :: (1, .invokevirtual 148, 202, 1, 0) :: (4, .ifCond .eq 6, 0, 0, 0) :: (7, .bipush (-4), 0, 0, 0) :: (9, .ireturn, 0, 0, 0) :: am_c220_10
def am_c221_0 : AmCd := (0, .aload_n 0, 0, 0, 0) :: (1, .getfield 182, 10, 35, 0) :: (4, .ireturn, 0, 0, 0) :: []
def am_c222_188 : AmCd := (188, .iconst 1, 0, 0, 0) :: (189, .ireturn, 0, 0, 0) :: []
def am_c222_182 : AmCd := (182, .iinc 4 1, 0, 0, 0) :: (185, .goto (-111), 0, 0, 0) :: am_c222_188
def am_c222_175 : AmCd := (175, .iastore, 0, 0, 0) :: (176, .iinc 6 1, 0, 0, 0) :: (179, .goto (-54), 0, 0, 0) :: am_c222_182
def am_c222_168 : AmCd := (168, .aload_n 0, 0, 0, 0) :: (169, .getfield 25, 10, 5, 1) :: (172, .iload 7, 0, 0, 0) :: (174, .iaload, 0, 0, 0) :: am_c222_175
def am_c222_125 : AmCd := (125, .iload 6, 0, 0, 0) :: (127, .aload_n 0, 0, 0, 0) :: (128, .getfield 22, 10, 4, 1) :: (131, .iload 5, 0, 0, 0) :: (133, .iaload, 0, 0, 0) :: (134, .if_icmp .ge 48, 0, 0, 0) :: (137, .bipush 8, 0, 0, 0) :: (139, .iload 5, 0, 0, 0) :: (141, .imul, 0, 0, 0) :: (142, .iload 6, 0, 0, 0) :: (144, .iadd, 0, 0, 0) :: (145, .istore 7, 0, 0, 0) :: (147, .aload_n 0, 0, 0, 0) :: (148, .getfield 25, 10, 5, 1) :: (151, .iload 7, 0, 0, 0) :: (153, .aload_n 0, 0, 0, 0) :: (154, .getfield 25, 10, 5, 1) :: (157, .iload 7, 0, 0, 0) :: (159, .iaload, 0, 0, 0) :: (160, .iload_n 3, 0, 0, 0) :: (161, .if_icmp .le 7, 0, 0, 0) :: (164, .iload_n 3, 0, 0, 0) :: (165, .goto 10, 0, 0, 0) :: am_c222_168
def am_c222_121 : AmCd := (121, .iastore, 0, 0, 0) :: (122, .iconst 0, 0, 0, 0) :: (123, .istore 6, 0, 0, 0) :: am_c222_125
def am_c222_114 : AmCd := (114, .aload_n 0, 0, 0, 0) :: (115, .getfield 22, 10, 4, 1) :: (118, .iload 5, 0, 0, 0) :: (120, .iaload, 0, 0, 0) :: am_c222_121
def am_c222_74 : AmCd := (74, .iload 4, 0, 0, 0) :: (76, .aload_n 0, 0, 0, 0) :: (77, .getfield 13, 10, 1, 1) :: (80, .iload_n 1, 0, 0, 0) :: (81, .iaload, 0, 0, 0) :: (82, .if_icmp .gt 106, 0, 0, 0) :: (85, .iload_n 1, 0, 0, 0) :: (86, .iload 4, 0, 0, 0) :: (88, .invokestatic 163, 207, 2, 1) :: (91, .istore 5, 0, 0, 0) :: (93, .aload_n 0, 0, 0, 0) :: (94, .getfield 22, 10, 4, 1) :: (97, .iload 5, 0, 0, 0) :: (99, .aload_n 0, 0, 0, 0) :: (100, .getfield 22, 10, 4, 1) :: (103, .iload 5, 0, 0, 0) :: (105, .iaload, 0, 0, 0) :: (106, .iload_n 2, 0, 0, 0) :: (107, .if_icmp .le 7, 0, 0, 0) :: (110, .iload_n 2, 0, 0, 0) :: (111, .goto 10, 0, 0, 0) :: am_c222_114
def am_c222_57 : AmCd := (57, .aload_n 0, 0, 0, 0) :: (58, .getfield 16, 10, 2, 1) :: (61, .iload_n 1, 0, 0, 0) :: (62, .iload_n 2, 0, 0, 0) :: (63, .iastore, 0, 0, 0) :: (64, .aload_n 0, 0, 0, 0) :: (65, .getfield 19, 10, 3, 1) :: (68, .iload_n 1, 0, 0, 0) :: (69, .iload_n 3, 0, 0, 0) :: (70, .iastore, 0, 0, 0) :: (71, .iconst 1, 0, 0, 0) :: (72, .istore 4, 0, 0, 0) :: am_c222_74
def am_c222_51 : AmCd := (51, .aload_n 0, 0, 0, 0) :: (52, .iconst 3, 0, 0, 0) :: (53, .invokevirtual 171, 203, 2, 0) :: (56, .ireturn, 0, 0, 0) :: am_c222_57
def am_c222_43 : AmCd := (43, .iload_n 2, 0, 0, 0) :: (44, .ifCond .lt 7, 0, 0, 0) :: (47, .iload_n 3, 0, 0, 0) :: (48, .ifCond .ge 9, 0, 0, 0) :: am_c222_51
def am_c222_37 : AmCd := (37, .aload_n 0, 0, 0, 0) :: (38, .iconst 4, 0, 0, 0) :: (39, .invokevirtual 171, 203, 2, 0) :: (42, .ireturn, 0, 0, 0) :: am_c222_43
def am_c222_21 : AmCd := (21, .aload_n 0, 0, 0, 0) :: (22, .invokevirtual 160, 201, 1, 0) :: (25, .iload_n 2, 0, 0, 0) :: (26, .bipush 8, 0, 0, 0) :: (28, .if_icmp .gt 9, 0, 0, 0) :: (31, .iload_n 3, 0, 0, 0) :: (32, .bipush 10, 0, 0, 0) :: (34, .if_icmp .le 9, 0, 0, 0) :: am_c222_37
def am_c222_10 : AmCd := (10, .aload_n 0, 0, 0, 0) :: (11, .iload_n 1, 0, 0, 0) :: (12, .invokevirtual 156, 205, 2, 0) :: (15, .ifCond .ne 6, 0, 0, 0) :: (18, .bipush (-2), 0, 0, 0) :: (20, .ireturn, 0, 0, 0) :: am_c222_21
def am_c222_0 : AmCd := (0, .aload_n 0, 0, 0, 0) :: (1, .invokevirtual 148, 202, 1, 0) :: (4, .ifCond .eq 6, 0, 0, 0) :: (7, .bipush (-4), 0, 0, 0) :: (9, .ireturn, 0, 0, 0) :: am_c222_10
def am_c223_199 : AmCd := (199, .aload_n 0, 0, 0, 0) :: (200, .getfield 13, 10, 1, 1) :: (203, .iload_n 1, 0, 0, 0) :: (204, .iaload, 0, 0, 0) :: (205, .ireturn, 0, 0, 0) :: []
def am_c223_193 : AmCd := (193, .iinc 4 1, 0, 0, 0) :: (196, .goto (-137), 0, 0, 0) :: am_c223_199
def am_c223_154 : AmCd := (154, .iload 7, 0, 0, 0) :: (156, .bipush 80, 0, 0, 0) :: (158, .if_icmp .ge 35, 0, 0, 0) :: (161, .aload_n 0, 0, 0, 0) :: (162, .getfield 28, 10, 6, 1) :: (165, .bipush 80, 0, 0, 0) :: (167, .iload 6, 0, 0, 0) :: (169, .imul, 0, 0, 0) :: (170, .iload 7, 0, 0, 0) :: (172, .iadd, 0, 0, 0) :: (173, .aload_n 0, 0, 0, 0) :: (174, .getfield 28, 10, 6, 1) :: (177, .bipush 80, 0, 0, 0) :: (179, .iload 5, 0, 0, 0) :: (181, .imul, 0, 0, 0) :: (182, .iload 7, 0, 0, 0) :: (184, .iadd, 0, 0, 0) :: (185, .iaload, 0, 0, 0) :: (186, .iastore, 0, 0, 0) :: (187, .iinc 7 1, 0, 0, 0) :: (190, .goto (-36), 0, 0, 0) :: am_c223_193
def am_c223_151 : AmCd := (151, .iconst 0, 0, 0, 0) :: (152, .istore 7, 0, 0, 0) :: am_c223_154
def am_c223_112 : AmCd := (112, .iload 7, 0, 0, 0) :: (114, .bipush 8, 0, 0, 0) :: (116, .if_icmp .ge 35, 0, 0, 0) :: (119, .aload_n 0, 0, 0, 0) :: (120, .getfield 25, 10, 5, 1) :: (123, .bipush 8, 0, 0, 0) :: (125, .iload 6, 0, 0, 0) :: (127, .imul, 0, 0, 0) :: (128, .iload 7, 0, 0, 0) :: (130, .iadd, 0, 0, 0) :: (131, .aload_n 0, 0, 0, 0) :: (132, .getfield 25, 10, 5, 1) :: (135, .bipush 8, 0, 0, 0) :: (137, .iload 5, 0, 0, 0) :: (139, .imul, 0, 0, 0) :: (140, .iload 7, 0, 0, 0) :: (142, .iadd, 0, 0, 0) :: (143, .iaload, 0, 0, 0) :: (144, .iastore, 0, 0, 0) :: (145, .iinc 7 1, 0, 0, 0) :: (148, .goto (-36), 0, 0, 0) :: am_c223_151
def am_c223_59 : AmCd := (59, .iload 4, 0, 0, 0) :: (61, .iload_n 3, 0, 0, 0) :: (62, .if_icmp .gt 137, 0, 0, 0) :: (65, .aload_n 0, 0, 0, 0) :: (66, .getfield 13, 10, 1, 1) :: (69, .iload_n 1, 0, 0, 0) :: (70, .dup2, 0, 0, 0) :: (71, .iaload, 0, 0, 0) :: (72, .iconst 1, 0, 0, 0) :: (73, .iadd, 0, 0, 0) :: (74, .iastore, 0, 0, 0) :: (75, .iload_n 2, 0, 0, 0) :: (76, .iload 4, 0, 0, 0) :: (78, .invokestatic 163, 207, 2, 1) :: (81, .istore 5, 0, 0, 0) :: (83, .iload_n 1, 0, 0, 0) :: (84, .aload_n 0, 0, 0, 0) :: (85, .getfield 13, 10, 1, 1) :: (88, .iload_n 1, 0, 0, 0) :: (89, .iaload, 0, 0, 0) :: (90, .invokestatic 163, 207, 2, 1) :: (93, .istore 6, 0, 0, 0) :: (95, .aload_n 0, 0, 0, 0) :: (96, .getfield 22, 10, 4, 1) :: (99, .iload 6, 0, 0, 0) :: (101, .aload_n 0, 0, 0, 0) :: (102, .getfield 22, 10, 4, 1) :: (105, .iload 5, 0, 0, 0) :: (107, .iaload, 0, 0, 0) :: (108, .iastore, 0, 0, 0) :: (109, .iconst 0, 0, 0, 0) :: (110, .istore 7, 0, 0, 0) :: am_c223_112
def am_c223_52 : AmCd := (52, .aload_n 0, 0, 0, 0) :: (53, .invokevirtual 160, 201, 1, 0) :: (56, .iconst 1, 0, 0, 0) :: (57, .istore 4, 0, 0, 0) :: am_c223_59
def am_c223_29 : AmCd := (29, .aload_n 0, 0, 0, 0) :: (30, .getfield 13, 10, 1, 1) :: (33, .iload_n 2, 0, 0, 0) :: (34, .iaload, 0, 0, 0) :: (35, .istore_n 3, 0, 0, 0) :: (36, .aload_n 0, 0, 0, 0) :: (37, .getfield 13, 10, 1, 1) :: (40, .iload_n 1, 0, 0, 0) :: (41, .iaload, 0, 0, 0) :: (42, .iload_n 3, 0, 0, 0) :: (43, .iadd, 0, 0, 0) :: (44, .bipush 24, 0, 0, 0) :: (46, .if_icmp .le 6, 0, 0, 0) :: (49, .bipush (-3), 0, 0, 0) :: (51, .ireturn, 0, 0, 0) :: am_c223_52
def am_c223_26 : AmCd := (26, .bipush (-2), 0, 0, 0) :: (28, .ireturn, 0, 0, 0) :: am_c223_29
def am_c223_10 : AmCd := (10, .aload_n 0, 0, 0, 0) :: (11, .iload_n 1, 0, 0, 0) :: (12, .invokevirtual 156, 205, 2, 0) :: (15, .ifCond .eq 11, 0, 0, 0) :: (18, .aload_n 0, 0, 0, 0) :: (19, .iload_n 2, 0, 0, 0) :: (20, .invokevirtual 156, 205, 2, 0) :: (23, .ifCond .ne 6, 0, 0, 0) :: am_c223_26
def am_c223_0 : AmCd := (0, .aload_n 0, 0, 0, 0) :: (1, .invokevirtual 148, 202, 1, 0) :: (4, .ifCond .eq 6, 0, 0, 0) :: (7, .bipush (-4), 0, 0, 0) :: (9, .ireturn, 0, 0, 0) :: am_c223_10
def am_c224_0 : AmCd := (0, .iload_n 1, 0, 0, 0) :: (1, .iconst 0, 0, 0, 0) :: (2, .aload_n 0, 0, 0, 0) :: (3, .getfield 7, 10, 0, 1) :: (6, .iconst 1, 0, 0, 0) :: (7, .iaload, 0, 0, 0) :: (8, .iconst 1, 0, 0, 0) :: (9, .isub, 0, 0, 0) :: (10, .invokestatic 152, 197, 3, 1) :: (13, .ireturn, 0, 0, 0) :: []
def am_c225_0 : AmCd := (0, .aload_n 0, 0, 0, 0) :: (1, .getfield 7, 10, 0, 1) :: (4, .iconst 1, 0, 0, 0) :: (5, .iaload, 0, 0, 0) :: (6, .istore 6, 0, 0, 0) :: (8, .aload_n 0, 0, 0, 0) :: (9, .getfield 7, 10, 0, 1) :: (12, .iconst 1, 0, 0, 0) :: (13, .dup2, 0, 0, 0) :: (14, .iaload, 0, 0, 0) :: (15, .iconst 1, 0, 0, 0) :: (16, .iadd, 0, 0, 0) :: (17, .iastore, 0, 0, 0) :: (18, .aload_n 0, 0, 0, 0) :: (19, .getfield 31, 10, 7, 1) :: (22, .iload 6, 0, 0, 0) :: (24, .iload_n 1, 0, 0, 0) :: (25, .iastore, 0, 0, 0) :: (26, .aload_n 0, 0, 0, 0) :: (27, .getfield 34, 10, 8, 1) :: (30, .iload 6, 0, 0, 0) :: (32, .iload_n 2, 0, 0, 0) :: (33, .iastore, 0, 0, 0) :: (34, .aload_n 0, 0, 0, 0) :: (35, .getfield 37, 10, 9, 1) :: (38, .iload 6, 0, 0, 0) :: (40, .iload_n 3, 0, 0, 0) :: (41, .iastore, 0, 0, 0) :: (42, .aload_n 0, 0, 0, 0) :: (43, .getfield 40, 10, 10, 1) :: (46, .iload 6, 0, 0, 0) :: (48, .iload 4, 0, 0, 0) :: (50, .iastore, 0, 0, 0) :: (51, .aload_n 0, 0, 0, 0) :: (52, .getfield 43, 10, 11, 1) :: (55, .iload 6, 0, 0, 0) :: (57, .iload 5, 0, 0, 0) :: (59, .iastore, 0, 0, 0) :: (60, .iload 6, 0, 0, 0) :: (62, .ireturn, 0, 0, 0) :: []
def am_c226_44 : AmCd := (44, .aload_n 0, 0, 0, 0) :: (45, .invokevirtual 160, 201, 1, 0) :: (48, .aload_n 0, 0, 0, 0) :: (49, .iload_n 1, 0, 0, 0) :: (50, .iload_n 2, 0, 0, 0) :: (51, .iconst 0, 0, 0, 0) :: (52, .iconst 0, 0, 0, 0) :: (53, .iconst 1, 0, 0, 0) :: (54, .invokevirtual 188, 225, 6, 0) :: (57, .ireturn, 0, 0, 0) :: []
def am_c226_30 : AmCd := (30, .aload_n 0, 0, 0, 0) :: (31, .getfield 7, 10, 0, 1) :: (34, .iconst 1, 0, 0, 0) :: (35, .iaload, 0, 0, 0) :: (36, .bipush 16, 0, 0, 0) :: (38, .if_icmp .ne 6, 0, 0, 0) :: (41, .bipush (-3), 0, 0, 0) :: (43, .ireturn, 0, 0, 0) :: am_c226_44
def am_c226_28 : AmCd := (28, .iconst (-1), 0, 0, 0) :: (29, .ireturn, 0, 0, 0) :: am_c226_30
def am_c226_10 : AmCd := (10, .iload_n 1, 0, 0, 0) :: (11, .iconst 0, 0, 0, 0) :: (12, .iconst 4, 0, 0, 0) :: (13, .invokestatic 152, 197, 3, 1) :: (16, .ifCond .eq 12, 0, 0, 0) :: (19, .iload_n 2, 0, 0, 0) :: (20, .iconst 0, 0, 0, 0) :: (21, .iconst 1, 0, 0, 0) :: (22, .invokestatic 152, 197, 3, 1) :: (25, .ifCond .ne 5, 0, 0, 0) :: am_c226_28
def am_c226_0 : AmCd := (0, .aload_n 0, 0, 0, 0) :: (1, .invokevirtual 148, 202, 1, 0) :: (4, .ifCond .eq 6, 0, 0, 0) :: (7, .bipush (-4), 0, 0, 0) :: (9, .ireturn, 0, 0, 0) :: am_c226_10
def am_c227_63 : AmCd := (63, .aload_n 0, 0, 0, 0) :: (64, .invokevirtual 160, 201, 1, 0) :: (67, .aload_n 0, 0, 0, 0) :: (68, .iconst 5, 0, 0, 0) :: (69, .iconst 0, 0, 0, 0) :: (70, .iload_n 1, 0, 0, 0) :: (71, .iload_n 2, 0, 0, 0) :: (72, .iload_n 3, 0, 0, 0) :: (73, .invokevirtual 188, 225, 6, 0) :: (76, .ireturn, 0, 0, 0) :: []
def am_c227_60 : AmCd := (60, .bipush (-3), 0, 0, 0) :: (62, .ireturn, 0, 0, 0) :: am_c227_63
def am_c227_29 : AmCd := (29, .aload_n 0, 0, 0, 0) :: (30, .getfield 43, 10, 11, 1) :: (33, .iload_n 1, 0, 0, 0) :: (34, .iaload, 0, 0, 0) :: (35, .aload_n 0, 0, 0, 0) :: (36, .getfield 43, 10, 11, 1) :: (39, .iload_n 2, 0, 0, 0) :: (40, .iaload, 0, 0, 0) :: (41, .iadd, 0, 0, 0) :: (42, .istore_n 3, 0, 0, 0) :: (43, .aload_n 0, 0, 0, 0) :: (44, .getfield 7, 10, 0, 1) :: (47, .iconst 1, 0, 0, 0) :: (48, .iaload, 0, 0, 0) :: (49, .bipush 16, 0, 0, 0) :: (51, .if_icmp .eq 9, 0, 0, 0) :: (54, .iload_n 3, 0, 0, 0) :: (55, .bipush 8, 0, 0, 0) :: (57, .if_icmp .le 6, 0, 0, 0) :: am_c227_60
def am_c227_26 : AmCd := (26, .bipush (-2), 0, 0, 0) :: (28, .ireturn, 0, 0, 0) :: am_c227_29
def am_c227_10 : AmCd := (10, .aload_n 0, 0, 0, 0) :: (11, .iload_n 1, 0, 0, 0) :: (12, .invokevirtual 192, 224, 2, 0) :: (15, .ifCond .eq 11, 0, 0, 0) :: (18, .aload_n 0, 0, 0, 0) :: (19, .iload_n 2, 0, 0, 0) :: (20, .invokevirtual 192, 224, 2, 0) :: (23, .ifCond .ne 6, 0, 0, 0) :: am_c227_26
def am_c227_0 : AmCd := (0, .aload_n 0, 0, 0, 0) :: (1, .invokevirtual 148, 202, 1, 0) :: (4, .ifCond .eq 6, 0, 0, 0) :: (7, .bipush (-4), 0, 0, 0) :: (9, .ireturn, 0, 0, 0) :: am_c227_10
def am_c228_45 : AmCd := (45, .ireturn, 0, 0, 0) :: []
def am_c228_39 : AmCd := (39, .aload_n 0, 0, 0, 0) :: (40, .bipush 6, 0, 0, 0) :: (42, .invokevirtual 171, 203, 2, 0) :: am_c228_45
def am_c228_25 : AmCd := (25, .aload_n 0, 0, 0, 0) :: (26, .getfield 31, 10, 7, 1) :: (29, .iload_n 1, 0, 0, 0) :: (30, .iaload, 0, 0, 0) :: (31, .iconst 4, 0, 0, 0) :: (32, .if_icmp .ne 7, 0, 0, 0) :: (35, .iconst 3, 0, 0, 0) :: (36, .goto 9, 0, 0, 0) :: am_c228_39
def am_c228_11 : AmCd := (11, .aload_n 0, 0, 0, 0) :: (12, .getfield 31, 10, 7, 1) :: (15, .iload_n 1, 0, 0, 0) :: (16, .iaload, 0, 0, 0) :: (17, .iconst 3, 0, 0, 0) :: (18, .if_icmp .ne 7, 0, 0, 0) :: (21, .iconst 2, 0, 0, 0) :: (22, .goto 23, 0, 0, 0) :: am_c228_25
def am_c228_0 : AmCd := (0, .aload_n 0, 0, 0, 0) :: (1, .iload_n 1, 0, 0, 0) :: (2, .invokevirtual 192, 224, 2, 0) :: (5, .ifCond .ne 6, 0, 0, 0) :: (8, .bipush (-2), 0, 0, 0) :: (10, .ireturn, 0, 0, 0) :: am_c228_11
def am_c229_60 : AmCd := (60, .ireturn, 0, 0, 0) :: []
def am_c229_54 : AmCd := (54, .aload_n 0, 0, 0, 0) :: (55, .getfield 40, 10, 10, 1) :: (58, .iload_n 1, 0, 0, 0) :: (59, .iaload, 0, 0, 0) :: am_c229_60
def am_c229_41 : AmCd := (41, .iload_n 2, 0, 0, 0) :: (42, .ifCond .ne 12, 0, 0, 0) :: (45, .aload_n 0, 0, 0, 0) :: (46, .getfield 37, 10, 9, 1) :: (49, .iload_n 1, 0, 0, 0) :: (50, .iaload, 0, 0, 0) :: (51, .goto 9, 0, 0, 0) :: am_c229_54
def am_c229_22 : AmCd := (22, .aload_n 0, 0, 0, 0) :: (23, .getfield 31, 10, 7, 1) :: (26, .iload_n 1, 0, 0, 0) :: (27, .iaload, 0, 0, 0) :: (28, .iconst 5, 0, 0, 0) :: (29, .if_icmp .eq 12, 0, 0, 0) :: (32, .aload_n 0, 0, 0, 0) :: (33, .bipush 6, 0, 0, 0) :: (35, .invokevirtual 171, 203, 2, 0) :: (38, .goto 22, 0, 0, 0) :: am_c229_41
def am_c229_11 : AmCd := (11, .iload_n 2, 0, 0, 0) :: (12, .iconst 0, 0, 0, 0) :: (13, .iconst 1, 0, 0, 0) :: (14, .invokestatic 152, 197, 3, 1) :: (17, .ifCond .ne 5, 0, 0, 0) :: (20, .iconst (-1), 0, 0, 0) :: (21, .ireturn, 0, 0, 0) :: am_c229_22
def am_c229_0 : AmCd := (0, .aload_n 0, 0, 0, 0) :: (1, .iload_n 1, 0, 0, 0) :: (2, .invokevirtual 192, 224, 2, 0) :: (5, .ifCond .ne 6, 0, 0, 0) :: (8, .bipush (-2), 0, 0, 0) :: (10, .ireturn, 0, 0, 0) :: am_c229_11
def am_c230_0 : AmCd := (0, .aload_n 0, 0, 0, 0) :: (1, .getfield 101, 10, 38, 1) :: (4, .aload_n 0, 0, 0, 0) :: (5, .getfield 195, 10, 39, 0) :: (8, .iload_n 1, 0, 0, 0) :: (9, .iastore, 0, 0, 0) :: (10, .aload_n 0, 0, 0, 0) :: (11, .dup, 0, 0, 0) :: (12, .getfield 195, 10, 39, 0) :: (15, .iconst 1, 0, 0, 0) :: (16, .iadd, 0, 0, 0) :: (17, .putfield 195, 10, 39, 0) :: (20, .return_, 0, 0, 0) :: []
def am_c231_164 : AmCd := (164, .iload_n 3, 0, 0, 0) :: (165, .ireturn, 0, 0, 0) :: []
def am_c231_161 : AmCd := (161, .goto (-141), 0, 0, 0) :: am_c231_164
def am_c231_159 : AmCd := (159, .iadd, 0, 0, 0) :: (160, .istore_n 3, 0, 0, 0) :: am_c231_161
def am_c231_158 : AmCd := (158, .iconst 1, 0, 0, 0) :: am_c231_159
def am_c231_148 : AmCd := (148, .iload 5, 0, 0, 0) :: (150, .iconst 4, 0, 0, 0) :: (151, .if_icmp .ne 7, 0, 0, 0) :: (154, .iconst 3, 0, 0, 0) :: (155, .goto 4, 0, 0, 0) :: am_c231_158
def am_c231_138 : AmCd := (138, .iload 5, 0, 0, 0) :: (140, .iconst 3, 0, 0, 0) :: (141, .if_icmp .ne 7, 0, 0, 0) :: (144, .iconst 2, 0, 0, 0) :: (145, .goto 14, 0, 0, 0) :: am_c231_148
def am_c231_128 : AmCd := (128, .iload_n 3, 0, 0, 0) :: (129, .iload 5, 0, 0, 0) :: (131, .ifCond .ne 7, 0, 0, 0) :: (134, .iconst 0, 0, 0, 0) :: (135, .goto 24, 0, 0, 0) :: am_c231_138
def am_c231_123 : AmCd := (123, .imul, 0, 0, 0) :: (124, .istore_n 3, 0, 0, 0) :: (125, .goto 36, 0, 0, 0) :: am_c231_128
def am_c231_122 : AmCd := (122, .iconst 2, 0, 0, 0) :: am_c231_123
def am_c231_112 : AmCd := (112, .iload 5, 0, 0, 0) :: (114, .iconst 4, 0, 0, 0) :: (115, .if_icmp .ne 7, 0, 0, 0) :: (118, .iconst 4, 0, 0, 0) :: (119, .goto 4, 0, 0, 0) :: am_c231_122
def am_c231_102 : AmCd := (102, .iload 5, 0, 0, 0) :: (104, .iconst 2, 0, 0, 0) :: (105, .if_icmp .ne 7, 0, 0, 0) :: (108, .iconst 3, 0, 0, 0) :: (109, .goto 14, 0, 0, 0) :: am_c231_112
def am_c231_88 : AmCd := (88, .iload_n 2, 0, 0, 0) :: (89, .ifCond .ne 39, 0, 0, 0) :: (92, .iload_n 3, 0, 0, 0) :: (93, .iload 5, 0, 0, 0) :: (95, .ifCond .ne 7, 0, 0, 0) :: (98, .iconst 1, 0, 0, 0) :: (99, .goto 24, 0, 0, 0) :: am_c231_102
def am_c231_20 : AmCd := (20, .aload_n 0, 0, 0, 0) :: (21, .getfield 195, 10, 39, 0) :: (24, .ifCond .le 140, 0, 0, 0) :: (27, .aload_n 0, 0, 0, 0) :: (28, .dup, 0, 0, 0) :: (29, .getfield 195, 10, 39, 0) :: (32, .iconst 1, 0, 0, 0) :: (33, .isub, 0, 0, 0) :: (34, .putfield 195, 10, 39, 0) :: (37, .aload_n 0, 0, 0, 0) :: (38, .getfield 101, 10, 38, 1) :: (41, .aload_n 0, 0, 0, 0) :: (42, .getfield 195, 10, 39, 0) :: (45, .iaload, 0, 0, 0) :: (46, .istore 4, 0, 0, 0) :: (48, .aload_n 0, 0, 0, 0) :: (49, .getfield 31, 10, 7, 1) :: (52, .iload 4, 0, 0, 0) :: (54, .iaload, 0, 0, 0) :: (55, .istore 5, 0, 0, 0) :: (57, .iload 5, 0, 0, 0) :: (59, .iconst 5, 0, 0, 0) :: (60, .if_icmp .ne 28, 0, 0, 0) :: (63, .aload_n 0, 0, 0, 0) :: (64, .aload_n 0, 0, 0, 0) :: (65, .getfield 40, 10, 10, 1) :: (68, .iload 4, 0, 0, 0) :: (70, .iaload, 0, 0, 0) :: (71, .invokevirtual 198, 230, 2, 0) :: (74, .aload_n 0, 0, 0, 0) :: (75, .aload_n 0, 0, 0, 0) :: (76, .getfield 37, 10, 9, 1) :: (79, .iload 4, 0, 0, 0) :: (81, .iaload, 0, 0, 0) :: (82, .invokevirtual 198, 230, 2, 0) :: (85, .goto 76, 0, 0, 0) :: am_c231_88
def am_c231_9 : AmCd := (9, .istore_n 3, 0, 0, 0) :: (10, .aload_n 0, 0, 0, 0) :: (11, .iconst 0, 0, 0, 0) :: (12, .putfield 195, 10, 39, 0) :: (15, .aload_n 0, 0, 0, 0) :: (16, .iload_n 1, 0, 0, 0) :: (17, .invokevirtual 198, 230, 2, 0) :: am_c231_20
def am_c231_8 : AmCd := (8, .iconst 0, 0, 0, 0) :: am_c231_9
def am_c231_0 : AmCd := (0, .iload_n 2, 0, 0, 0) :: (1, .ifCond .ne 7, 0, 0, 0) :: (4, .iconst 1, 0, 0, 0) :: (5, .goto 4, 0, 0, 0) :: am_c231_8
def am_c232_30 : AmCd := (30, .ireturn, 0, 0, 0) :: []
def am_c232_29 : AmCd := (29, .iconst (-1), 0, 0, 0) :: am_c232_30
def am_c232_11 : AmCd := (11, .iload_n 2, 0, 0, 0) :: (12, .iconst 0, 0, 0, 0) :: (13, .iconst 1, 0, 0, 0) :: (14, .invokestatic 152, 197, 3, 1) :: (17, .ifCond .eq 12, 0, 0, 0) :: (20, .aload_n 0, 0, 0, 0) :: (21, .iload_n 1, 0, 0, 0) :: (22, .iload_n 2, 0, 0, 0) :: (23, .invokevirtual 202, 231, 3, 0) :: (26, .goto 4, 0, 0, 0) :: am_c232_29
def am_c232_0 : AmCd := (0, .aload_n 0, 0, 0, 0) :: (1, .iload_n 1, 0, 0, 0) :: (2, .invokevirtual 192, 224, 2, 0) :: (5, .ifCond .ne 6, 0, 0, 0) :: (8, .bipush (-2), 0, 0, 0) :: (10, .ireturn, 0, 0, 0) :: am_c232_11
def am_c233_0 : AmCd := (0, .aload_n 0, 0, 0, 0) :: (1, .getfield 98, 10, 37, 1) :: (4, .aload_n 0, 0, 0, 0) :: (5, .getfield 205, 10, 36, 0) :: (8, .bipush 40, 0, 0, 0) :: (10, .irem, 0, 0, 0) :: (11, .iload_n 1, 0, 0, 0) :: (12, .iastore, 0, 0, 0) :: (13, .aload_n 0, 0, 0, 0) :: (14, .dup, 0, 0, 0) :: (15, .getfield 205, 10, 36, 0) :: (18, .iconst 1, 0, 0, 0) :: (19, .iadd, 0, 0, 0) :: (20, .putfield 205, 10, 36, 0) :: (23, .return_, 0, 0, 0) :: []
def am_c234_73 : AmCd := (73, .return_, 0, 0, 0) :: []
def am_c234_67 : AmCd := (67, .iinc 3 1, 0, 0, 0) :: (70, .goto (-58), 0, 0, 0) :: am_c234_73
def am_c234_20 : AmCd := (20, .iload 4, 0, 0, 0) :: (22, .iload_n 2, 0, 0, 0) :: (23, .if_icmp .ge 44, 0, 0, 0) :: (26, .aload_n 0, 0, 0, 0) :: (27, .getfield 104, 10, 42, 1) :: (30, .bipush 8, 0, 0, 0) :: (32, .iload_n 3, 0, 0, 0) :: (33, .imul, 0, 0, 0) :: (34, .iload 4, 0, 0, 0) :: (36, .iadd, 0, 0, 0) :: (37, .iconst 1, 0, 0, 0) :: (38, .iastore, 0, 0, 0) :: (39, .aload_n 0, 0, 0, 0) :: (40, .getfield 107, 10, 43, 1) :: (43, .bipush 64, 0, 0, 0) :: (45, .bipush 8, 0, 0, 0) :: (47, .iload_n 3, 0, 0, 0) :: (48, .imul, 0, 0, 0) :: (49, .iload 4, 0, 0, 0) :: (51, .iadd, 0, 0, 0) :: (52, .imul, 0, 0, 0) :: (53, .bipush 8, 0, 0, 0) :: (55, .iload_n 3, 0, 0, 0) :: (56, .imul, 0, 0, 0) :: (57, .iload 4, 0, 0, 0) :: (59, .iadd, 0, 0, 0) :: (60, .iastore, 0, 0, 0) :: (61, .iinc 4 1, 0, 0, 0) :: (64, .goto (-44), 0, 0, 0) :: am_c234_67
def am_c234_12 : AmCd := (12, .iload_n 3, 0, 0, 0) :: (13, .iload_n 1, 0, 0, 0) :: (14, .if_icmp .ge 59, 0, 0, 0) :: (17, .iconst 0, 0, 0, 0) :: (18, .istore 4, 0, 0, 0) :: am_c234_20
def am_c234_0 : AmCd := (0, .aload_n 0, 0, 0, 0) :: (1, .iload_n 1, 0, 0, 0) :: (2, .putfield 208, 10, 40, 0) :: (5, .aload_n 0, 0, 0, 0) :: (6, .iload_n 2, 0, 0, 0) :: (7, .putfield 211, 10, 41, 0) :: (10, .iconst 0, 0, 0, 0) :: (11, .istore_n 3, 0, 0, 0) :: am_c234_12
def am_c235_19 : AmCd := (19, .ireturn, 0, 0, 0) :: []
def am_c235_13 : AmCd := (13, .bipush 8, 0, 0, 0) :: (15, .iload_n 1, 0, 0, 0) :: (16, .imul, 0, 0, 0) :: (17, .iload_n 2, 0, 0, 0) :: (18, .iadd, 0, 0, 0) :: am_c235_19
def am_c235_0 : AmCd := (0, .iload_n 0, 0, 0, 0) :: (1, .ifCond .ne 12, 0, 0, 0) :: (4, .bipush 8, 0, 0, 0) :: (6, .iload_n 2, 0, 0, 0) :: (7, .imul, 0, 0, 0) :: (8, .iload_n 1, 0, 0, 0) :: (9, .iadd, 0, 0, 0) :: (10, .goto 9, 0, 0, 0) :: am_c235_13
def am_c236_114 : AmCd := (114, .aload_n 0, 0, 0, 0) :: (115, .getfield 104, 10, 42, 1) :: (118, .iload_n 2, 0, 0, 0) :: (119, .dup2, 0, 0, 0) :: (120, .iaload, 0, 0, 0) :: (121, .iload 4, 0, 0, 0) :: (123, .iadd, 0, 0, 0) :: (124, .iastore, 0, 0, 0) :: (125, .return_, 0, 0, 0) :: []
def am_c236_106 : AmCd := (106, .ixor, 0, 0, 0) :: (107, .iastore, 0, 0, 0) :: (108, .iinc 5 1, 0, 0, 0) :: (111, .goto (-52), 0, 0, 0) :: am_c236_114
def am_c236_104 : AmCd := (104, .bipush 64, 0, 0, 0) :: am_c236_106
def am_c236_59 : AmCd := (59, .iload 5, 0, 0, 0) :: (61, .iload 4, 0, 0, 0) :: (63, .if_icmp .ge 51, 0, 0, 0) :: (66, .aload_n 0, 0, 0, 0) :: (67, .getfield 107, 10, 43, 1) :: (70, .bipush 64, 0, 0, 0) :: (72, .iload_n 2, 0, 0, 0) :: (73, .imul, 0, 0, 0) :: (74, .iload 5, 0, 0, 0) :: (76, .iadd, 0, 0, 0) :: (77, .aload_n 0, 0, 0, 0) :: (78, .getfield 107, 10, 43, 1) :: (81, .bipush 64, 0, 0, 0) :: (83, .iload_n 3, 0, 0, 0) :: (84, .imul, 0, 0, 0) :: (85, .iload 4, 0, 0, 0) :: (87, .iadd, 0, 0, 0) :: (88, .iconst 1, 0, 0, 0) :: (89, .isub, 0, 0, 0) :: (90, .iload 5, 0, 0, 0) :: (92, .isub, 0, 0, 0) :: (93, .iaload, 0, 0, 0) :: (94, .iload_n 1, 0, 0, 0) :: (95, .ifCond .ne 9, 0, 0, 0) :: (98, .sipush 192, 0, 0, 0) :: (101, .goto 5, 0, 0, 0) :: am_c236_104
def am_c236_56 : AmCd := (56, .iconst 0, 0, 0, 0) :: (57, .istore 5, 0, 0, 0) :: am_c236_59
def am_c236_18 : AmCd := (18, .iload 5, 0, 0, 0) :: (20, .ifCond .lt 36, 0, 0, 0) :: (23, .aload_n 0, 0, 0, 0) :: (24, .getfield 107, 10, 43, 1) :: (27, .bipush 64, 0, 0, 0) :: (29, .iload_n 2, 0, 0, 0) :: (30, .imul, 0, 0, 0) :: (31, .iload 4, 0, 0, 0) :: (33, .iadd, 0, 0, 0) :: (34, .iload 5, 0, 0, 0) :: (36, .iadd, 0, 0, 0) :: (37, .aload_n 0, 0, 0, 0) :: (38, .getfield 107, 10, 43, 1) :: (41, .bipush 64, 0, 0, 0) :: (43, .iload_n 2, 0, 0, 0) :: (44, .imul, 0, 0, 0) :: (45, .iload 5, 0, 0, 0) :: (47, .iadd, 0, 0, 0) :: (48, .iaload, 0, 0, 0) :: (49, .iastore, 0, 0, 0) :: (50, .iinc 5 (-1), 0, 0, 0) :: (53, .goto (-35), 0, 0, 0) :: am_c236_56
def am_c236_0 : AmCd := (0, .aload_n 0, 0, 0, 0) :: (1, .getfield 104, 10, 42, 1) :: (4, .iload_n 3, 0, 0, 0) :: (5, .iaload, 0, 0, 0) :: (6, .istore 4, 0, 0, 0) :: (8, .aload_n 0, 0, 0, 0) :: (9, .getfield 104, 10, 42, 1) :: (12, .iload_n 2, 0, 0, 0) :: (13, .iaload, 0, 0, 0) :: (14, .iconst 1, 0, 0, 0) :: (15, .isub, 0, 0, 0) :: (16, .istore 5, 0, 0, 0) :: am_c236_18
def am_c237_148 : AmCd := (148, .return_, 0, 0, 0) :: []
def am_c237_143 : AmCd := (143, .aload_n 0, 0, 0, 0) :: (144, .iload_n 3, 0, 0, 0) :: (145, .putfield 211, 10, 41, 0) :: am_c237_148
def am_c237_131 : AmCd := (131, .iload_n 1, 0, 0, 0) :: (132, .ifCond .ne 11, 0, 0, 0) :: (135, .aload_n 0, 0, 0, 0) :: (136, .iload_n 3, 0, 0, 0) :: (137, .putfield 208, 10, 40, 0) :: (140, .goto 8, 0, 0, 0) :: am_c237_143
def am_c237_125 : AmCd := (125, .iinc 5 1, 0, 0, 0) :: (128, .goto (-108), 0, 0, 0) :: am_c237_131
def am_c237_119 : AmCd := (119, .iinc 6 1, 0, 0, 0) :: (122, .goto (-92), 0, 0, 0) :: am_c237_125
def am_c237_75 : AmCd := (75, .iload 9, 0, 0, 0) :: (77, .aload_n 0, 0, 0, 0) :: (78, .getfield 104, 10, 42, 1) :: (81, .iload 8, 0, 0, 0) :: (83, .iaload, 0, 0, 0) :: (84, .if_icmp .ge 35, 0, 0, 0) :: (87, .aload_n 0, 0, 0, 0) :: (88, .getfield 107, 10, 43, 1) :: (91, .bipush 64, 0, 0, 0) :: (93, .iload 7, 0, 0, 0) :: (95, .imul, 0, 0, 0) :: (96, .iload 9, 0, 0, 0) :: (98, .iadd, 0, 0, 0) :: (99, .aload_n 0, 0, 0, 0) :: (100, .getfield 107, 10, 43, 1) :: (103, .bipush 64, 0, 0, 0) :: (105, .iload 8, 0, 0, 0) :: (107, .imul, 0, 0, 0) :: (108, .iload 9, 0, 0, 0) :: (110, .iadd, 0, 0, 0) :: (111, .iaload, 0, 0, 0) :: (112, .iastore, 0, 0, 0) :: (113, .iinc 9 1, 0, 0, 0) :: (116, .goto (-41), 0, 0, 0) :: am_c237_119
def am_c237_30 : AmCd := (30, .iload 6, 0, 0, 0) :: (32, .iload_n 3, 0, 0, 0) :: (33, .if_icmp .ge 92, 0, 0, 0) :: (36, .iload_n 1, 0, 0, 0) :: (37, .iload 5, 0, 0, 0) :: (39, .iload 6, 0, 0, 0) :: (41, .invokestatic 214, 235, 3, 1) :: (44, .istore 7, 0, 0, 0) :: (46, .iload_n 1, 0, 0, 0) :: (47, .iload 5, 0, 0, 0) :: (49, .iload_n 2, 0, 0, 0) :: (50, .iload 6, 0, 0, 0) :: (52, .iadd, 0, 0, 0) :: (53, .invokestatic 214, 235, 3, 1) :: (56, .istore 8, 0, 0, 0) :: (58, .aload_n 0, 0, 0, 0) :: (59, .getfield 104, 10, 42, 1) :: (62, .iload 7, 0, 0, 0) :: (64, .aload_n 0, 0, 0, 0) :: (65, .getfield 104, 10, 42, 1) :: (68, .iload 8, 0, 0, 0) :: (70, .iaload, 0, 0, 0) :: (71, .iastore, 0, 0, 0) :: (72, .iconst 0, 0, 0, 0) :: (73, .istore 9, 0, 0, 0) :: am_c237_75
def am_c237_20 : AmCd := (20, .iload 5, 0, 0, 0) :: (22, .iload 4, 0, 0, 0) :: (24, .if_icmp .ge 107, 0, 0, 0) :: (27, .iconst 0, 0, 0, 0) :: (28, .istore 6, 0, 0, 0) :: am_c237_30
def am_c237_15 : AmCd := (15, .istore 4, 0, 0, 0) :: (17, .iconst 0, 0, 0, 0) :: (18, .istore 5, 0, 0, 0) :: am_c237_20
def am_c237_11 : AmCd := (11, .aload_n 0, 0, 0, 0) :: (12, .getfield 208, 10, 40, 0) :: am_c237_15
def am_c237_0 : AmCd := (0, .iload_n 1, 0, 0, 0) :: (1, .ifCond .ne 10, 0, 0, 0) :: (4, .aload_n 0, 0, 0, 0) :: (5, .getfield 211, 10, 41, 0) :: (8, .goto 7, 0, 0, 0) :: am_c237_11
def am_c238_318 : AmCd := (318, .invokevirtual 221, 237, 4, 0) :: (321, .iconst 1, 0, 0, 0) :: (322, .ireturn, 0, 0, 0) :: []
def am_c238_316 : AmCd := (316, .iload 6, 0, 0, 0) :: am_c238_318
def am_c238_304 : AmCd := (304, .iload_n 1, 0, 0, 0) :: (305, .iconst 3, 0, 0, 0) :: (306, .if_icmp .ne 10, 0, 0, 0) :: (309, .iconst 2, 0, 0, 0) :: (310, .iload 6, 0, 0, 0) :: (312, .imul, 0, 0, 0) :: (313, .goto 5, 0, 0, 0) :: am_c238_316
def am_c238_302 : AmCd := (302, .iload 6, 0, 0, 0) :: am_c238_304
def am_c238_291 : AmCd := (291, .aload_n 0, 0, 0, 0) :: (292, .iload_n 2, 0, 0, 0) :: (293, .iload_n 1, 0, 0, 0) :: (294, .iconst 1, 0, 0, 0) :: (295, .if_icmp .ne 7, 0, 0, 0) :: (298, .iconst 0, 0, 0, 0) :: (299, .goto 5, 0, 0, 0) :: am_c238_302
def am_c238_285 : AmCd := (285, .iinc 7 1, 0, 0, 0) :: (288, .goto (-216), 0, 0, 0) :: am_c238_291
def am_c238_238 : AmCd := (238, .iload 8, 0, 0, 0) :: (240, .iload 6, 0, 0, 0) :: (242, .if_icmp .ge 43, 0, 0, 0) :: (245, .iload_n 1, 0, 0, 0) :: (246, .iconst 2, 0, 0, 0) :: (247, .if_icmp .ne 38, 0, 0, 0) :: (250, .aload_n 0, 0, 0, 0) :: (251, .iload_n 2, 0, 0, 0) :: (252, .iload_n 2, 0, 0, 0) :: (253, .iload 7, 0, 0, 0) :: (255, .iload 6, 0, 0, 0) :: (257, .iload 8, 0, 0, 0) :: (259, .iadd, 0, 0, 0) :: (260, .invokestatic 214, 235, 3, 1) :: (263, .iload_n 2, 0, 0, 0) :: (264, .iload 7, 0, 0, 0) :: (266, .iload 6, 0, 0, 0) :: (268, .iconst 1, 0, 0, 0) :: (269, .isub, 0, 0, 0) :: (270, .iload 8, 0, 0, 0) :: (272, .isub, 0, 0, 0) :: (273, .invokestatic 214, 235, 3, 1) :: (276, .invokevirtual 217, 236, 4, 0) :: (279, .iinc 8 1, 0, 0, 0) :: (282, .goto (-44), 0, 0, 0) :: am_c238_285
def am_c238_235 : AmCd := (235, .iconst 0, 0, 0, 0) :: (236, .istore 8, 0, 0, 0) :: am_c238_238
def am_c238_229 : AmCd := (229, .iinc 8 1, 0, 0, 0) :: (232, .goto (-150), 0, 0, 0) :: am_c238_235
def am_c238_167 : AmCd := (167, .aload_n 0, 0, 0, 0) :: (168, .iload_n 2, 0, 0, 0) :: (169, .iload_n 2, 0, 0, 0) :: (170, .iload 7, 0, 0, 0) :: (172, .iload 6, 0, 0, 0) :: (174, .iload 8, 0, 0, 0) :: (176, .iadd, 0, 0, 0) :: (177, .invokestatic 214, 235, 3, 1) :: (180, .iload_n 2, 0, 0, 0) :: (181, .iload 7, 0, 0, 0) :: (183, .iload 6, 0, 0, 0) :: (185, .iconst 1, 0, 0, 0) :: (186, .isub, 0, 0, 0) :: (187, .iload 8, 0, 0, 0) :: (189, .isub, 0, 0, 0) :: (190, .invokestatic 214, 235, 3, 1) :: (193, .invokevirtual 217, 236, 4, 0) :: (196, .aload_n 0, 0, 0, 0) :: (197, .iload_n 2, 0, 0, 0) :: (198, .iload_n 2, 0, 0, 0) :: (199, .iload 7, 0, 0, 0) :: (201, .iconst 3, 0, 0, 0) :: (202, .iload 6, 0, 0, 0) :: (204, .imul, 0, 0, 0) :: (205, .iconst 1, 0, 0, 0) :: (206, .isub, 0, 0, 0) :: (207, .iload 8, 0, 0, 0) :: (209, .isub, 0, 0, 0) :: (210, .invokestatic 214, 235, 3, 1) :: (213, .iload_n 2, 0, 0, 0) :: (214, .iload 7, 0, 0, 0) :: (216, .iconst 3, 0, 0, 0) :: (217, .iload 6, 0, 0, 0) :: (219, .imul, 0, 0, 0) :: (220, .iload 8, 0, 0, 0) :: (222, .iadd, 0, 0, 0) :: (223, .invokestatic 214, 235, 3, 1) :: (226, .invokevirtual 217, 236, 4, 0) :: am_c238_229
def am_c238_126 : AmCd := (126, .iload_n 1, 0, 0, 0) :: (127, .iconst 2, 0, 0, 0) :: (128, .if_icmp .ne 39, 0, 0, 0) :: (131, .aload_n 0, 0, 0, 0) :: (132, .iload_n 2, 0, 0, 0) :: (133, .iload_n 2, 0, 0, 0) :: (134, .iload 7, 0, 0, 0) :: (136, .iconst 2, 0, 0, 0) :: (137, .iload 6, 0, 0, 0) :: (139, .imul, 0, 0, 0) :: (140, .iconst 1, 0, 0, 0) :: (141, .isub, 0, 0, 0) :: (142, .iload 8, 0, 0, 0) :: (144, .isub, 0, 0, 0) :: (145, .invokestatic 214, 235, 3, 1) :: (148, .iload_n 2, 0, 0, 0) :: (149, .iload 7, 0, 0, 0) :: (151, .iconst 2, 0, 0, 0) :: (152, .iload 6, 0, 0, 0) :: (154, .imul, 0, 0, 0) :: (155, .iload 8, 0, 0, 0) :: (157, .iadd, 0, 0, 0) :: (158, .invokestatic 214, 235, 3, 1) :: (161, .invokevirtual 217, 236, 4, 0) :: (164, .goto 65, 0, 0, 0) :: am_c238_167
def am_c238_82 : AmCd := (82, .iload 8, 0, 0, 0) :: (84, .iload 6, 0, 0, 0) :: (86, .if_icmp .ge 149, 0, 0, 0) :: (89, .iload_n 1, 0, 0, 0) :: (90, .iconst 1, 0, 0, 0) :: (91, .if_icmp .ne 35, 0, 0, 0) :: (94, .aload_n 0, 0, 0, 0) :: (95, .iload_n 2, 0, 0, 0) :: (96, .iload_n 2, 0, 0, 0) :: (97, .iload 7, 0, 0, 0) :: (99, .iload 6, 0, 0, 0) :: (101, .iconst 1, 0, 0, 0) :: (102, .isub, 0, 0, 0) :: (103, .iload 8, 0, 0, 0) :: (105, .isub, 0, 0, 0) :: (106, .invokestatic 214, 235, 3, 1) :: (109, .iload_n 2, 0, 0, 0) :: (110, .iload 7, 0, 0, 0) :: (112, .iload 6, 0, 0, 0) :: (114, .iload 8, 0, 0, 0) :: (116, .iadd, 0, 0, 0) :: (117, .invokestatic 214, 235, 3, 1) :: (120, .invokevirtual 217, 236, 4, 0) :: (123, .goto 106, 0, 0, 0) :: am_c238_126
def am_c238_72 : AmCd := (72, .iload 7, 0, 0, 0) :: (74, .iload 4, 0, 0, 0) :: (76, .if_icmp .ge 215, 0, 0, 0) :: (79, .iconst 0, 0, 0, 0) :: (80, .istore 8, 0, 0, 0) :: am_c238_82
def am_c238_69 : AmCd := (69, .iconst 0, 0, 0, 0) :: (70, .istore 7, 0, 0, 0) :: am_c238_72
def am_c238_52 : AmCd := (52, .istore 5, 0, 0, 0) :: (54, .iload_n 3, 0, 0, 0) :: (55, .iload 5, 0, 0, 0) :: (57, .idiv, 0, 0, 0) :: (58, .istore 6, 0, 0, 0) :: (60, .iload_n 3, 0, 0, 0) :: (61, .iload 5, 0, 0, 0) :: (63, .irem, 0, 0, 0) :: (64, .ifCond .eq 5, 0, 0, 0) :: (67, .iconst 0, 0, 0, 0) :: (68, .ireturn, 0, 0, 0) :: am_c238_69
def am_c238_51 : AmCd := (51, .iconst 4, 0, 0, 0) :: am_c238_52
def am_c238_42 : AmCd := (42, .iload_n 1, 0, 0, 0) :: (43, .iconst 2, 0, 0, 0) :: (44, .if_icmp .ne 7, 0, 0, 0) :: (47, .iconst 3, 0, 0, 0) :: (48, .goto 4, 0, 0, 0) :: am_c238_51
def am_c238_31 : AmCd := (31, .istore 4, 0, 0, 0) :: (33, .iload_n 1, 0, 0, 0) :: (34, .iconst 1, 0, 0, 0) :: (35, .if_icmp .ne 7, 0, 0, 0) :: (38, .iconst 2, 0, 0, 0) :: (39, .goto 13, 0, 0, 0) :: am_c238_42
def am_c238_27 : AmCd := (27, .aload_n 0, 0, 0, 0) :: (28, .getfield 208, 10, 40, 0) :: am_c238_31
def am_c238_15 : AmCd := (15, .istore_n 3, 0, 0, 0) :: (16, .iload_n 2, 0, 0, 0) :: (17, .ifCond .ne 10, 0, 0, 0) :: (20, .aload_n 0, 0, 0, 0) :: (21, .getfield 211, 10, 41, 0) :: (24, .goto 7, 0, 0, 0) :: am_c238_27
def am_c238_11 : AmCd := (11, .aload_n 0, 0, 0, 0) :: (12, .getfield 211, 10, 41, 0) :: am_c238_15
def am_c238_0 : AmCd := (0, .iload_n 2, 0, 0, 0) :: (1, .ifCond .ne 10, 0, 0, 0) :: (4, .aload_n 0, 0, 0, 0) :: (5, .getfield 208, 10, 40, 0) :: (8, .goto 7, 0, 0, 0) :: am_c238_11
def am_c239_55 : AmCd := (55, .aload_n 0, 0, 0, 0) :: (56, .iconst 2, 0, 0, 0) :: (57, .invokevirtual 224, 233, 2, 0) :: (60, .aload_n 0, 0, 0, 0) :: (61, .iconst 1, 0, 0, 0) :: (62, .iload_n 3, 0, 0, 0) :: (63, .invokevirtual 227, 238, 3, 0) :: (66, .ireturn, 0, 0, 0) :: []
def am_c239_39 : AmCd := (39, .aload_n 0, 0, 0, 0) :: (40, .iconst 4, 0, 0, 0) :: (41, .invokevirtual 224, 233, 2, 0) :: (44, .aload_n 0, 0, 0, 0) :: (45, .iconst 3, 0, 0, 0) :: (46, .iload_n 3, 0, 0, 0) :: (47, .invokevirtual 227, 238, 3, 0) :: (50, .ifCond .ne 5, 0, 0, 0) :: (53, .iconst 0, 0, 0, 0) :: (54, .ireturn, 0, 0, 0) :: am_c239_55
def am_c239_27 : AmCd := (27, .iload_n 2, 0, 0, 0) :: (28, .iconst 4, 0, 0, 0) :: (29, .if_icmp .eq 10, 0, 0, 0) :: (32, .aload_n 0, 0, 0, 0) :: (33, .iload_n 2, 0, 0, 0) :: (34, .iload_n 3, 0, 0, 0) :: (35, .invokevirtual 227, 238, 3, 0) :: (38, .ireturn, 0, 0, 0) :: am_c239_39
def am_c239_0 : AmCd := (0, .aload_n 0, 0, 0, 0) :: (1, .getfield 31, 10, 7, 1) :: (4, .iload_n 1, 0, 0, 0) :: (5, .iaload, 0, 0, 0) :: (6, .istore_n 2, 0, 0, 0) :: (7, .aload_n 0, 0, 0, 0) :: (8, .getfield 34, 10, 8, 1) :: (11, .iload_n 1, 0, 0, 0) :: (12, .iaload, 0, 0, 0) :: (13, .istore_n 3, 0, 0, 0) :: (14, .aload_n 0, 0, 0, 0) :: (15, .iload_n 2, 0, 0, 0) :: (16, .iconst 1, 0, 0, 0) :: (17, .iadd, 0, 0, 0) :: (18, .invokevirtual 224, 233, 2, 0) :: (21, .iload_n 2, 0, 0, 0) :: (22, .ifCond .ne 5, 0, 0, 0) :: (25, .iconst 1, 0, 0, 0) :: (26, .ireturn, 0, 0, 0) :: am_c239_27
def am_c240_123 : AmCd := (123, .ireturn, 0, 0, 0) :: []
def am_c240_121 : AmCd := (121, .bipush 8, 0, 0, 0) :: am_c240_123
def am_c240_101 : AmCd := (101, .aload_n 0, 0, 0, 0) :: (102, .getfield 208, 10, 40, 0) :: (105, .iconst 1, 0, 0, 0) :: (106, .if_icmp .ne 15, 0, 0, 0) :: (109, .aload_n 0, 0, 0, 0) :: (110, .getfield 211, 10, 41, 0) :: (113, .iconst 1, 0, 0, 0) :: (114, .if_icmp .ne 7, 0, 0, 0) :: (117, .iconst 0, 0, 0, 0) :: (118, .goto 5, 0, 0, 0) :: am_c240_121
def am_c240_98 : AmCd := (98, .goto (-82), 0, 0, 0) :: am_c240_101
def am_c240_86 : AmCd := (86, .aload_n 0, 0, 0, 0) :: (87, .iload 4, 0, 0, 0) :: (89, .invokevirtual 234, 239, 2, 0) :: (92, .ifCond .ne 6, 0, 0, 0) :: (95, .bipush 7, 0, 0, 0) :: (97, .ireturn, 0, 0, 0) :: am_c240_98
def am_c240_16 : AmCd := (16, .aload_n 0, 0, 0, 0) :: (17, .getfield 195, 10, 39, 0) :: (20, .ifCond .le 81, 0, 0, 0) :: (23, .aload_n 0, 0, 0, 0) :: (24, .dup, 0, 0, 0) :: (25, .getfield 195, 10, 39, 0) :: (28, .iconst 1, 0, 0, 0) :: (29, .isub, 0, 0, 0) :: (30, .putfield 195, 10, 39, 0) :: (33, .aload_n 0, 0, 0, 0) :: (34, .getfield 101, 10, 38, 1) :: (37, .aload_n 0, 0, 0, 0) :: (38, .getfield 195, 10, 39, 0) :: (41, .iaload, 0, 0, 0) :: (42, .istore 4, 0, 0, 0) :: (44, .aload_n 0, 0, 0, 0) :: (45, .getfield 31, 10, 7, 1) :: (48, .iload 4, 0, 0, 0) :: (50, .iaload, 0, 0, 0) :: (51, .iconst 5, 0, 0, 0) :: (52, .if_icmp .ne 34, 0, 0, 0) :: (55, .aload_n 0, 0, 0, 0) :: (56, .bipush 6, 0, 0, 0) :: (58, .invokevirtual 224, 233, 2, 0) :: (61, .aload_n 0, 0, 0, 0) :: (62, .aload_n 0, 0, 0, 0) :: (63, .getfield 40, 10, 10, 1) :: (66, .iload 4, 0, 0, 0) :: (68, .iaload, 0, 0, 0) :: (69, .invokevirtual 198, 230, 2, 0) :: (72, .aload_n 0, 0, 0, 0) :: (73, .aload_n 0, 0, 0, 0) :: (74, .getfield 37, 10, 9, 1) :: (77, .iload 4, 0, 0, 0) :: (79, .iaload, 0, 0, 0) :: (80, .invokevirtual 198, 230, 2, 0) :: (83, .goto 15, 0, 0, 0) :: am_c240_86
def am_c240_0 : AmCd := (0, .aload_n 0, 0, 0, 0) :: (1, .iload_n 2, 0, 0, 0) :: (2, .iload_n 3, 0, 0, 0) :: (3, .invokevirtual 230, 234, 3, 0) :: (6, .aload_n 0, 0, 0, 0) :: (7, .iconst 0, 0, 0, 0) :: (8, .putfield 195, 10, 39, 0) :: (11, .aload_n 0, 0, 0, 0) :: (12, .iload_n 1, 0, 0, 0) :: (13, .invokevirtual 198, 230, 2, 0) :: am_c240_16
def am_c241_23 : AmCd := (23, .ireturn, 0, 0, 0) :: []
def am_c241_19 : AmCd := (19, .iload_n 2, 0, 0, 0) :: (20, .bipush 64, 0, 0, 0) :: (22, .ixor, 0, 0, 0) :: am_c241_23
def am_c241_0 : AmCd := (0, .aload_n 0, 0, 0, 0) :: (1, .getfield 107, 10, 43, 1) :: (4, .iload_n 1, 0, 0, 0) :: (5, .iconst 2, 0, 0, 0) :: (6, .idiv, 0, 0, 0) :: (7, .iaload, 0, 0, 0) :: (8, .istore_n 2, 0, 0, 0) :: (9, .iload_n 1, 0, 0, 0) :: (10, .iconst 2, 0, 0, 0) :: (11, .irem, 0, 0, 0) :: (12, .ifCond .ne 7, 0, 0, 0) :: (15, .iload_n 2, 0, 0, 0) :: (16, .goto 7, 0, 0, 0) :: am_c241_19
def am_c242_0 : AmCd := (0, .iload_n 0, 0, 0, 0) :: (1, .bipush 6, 0, 0, 0) :: (3, .ishr, 0, 0, 0) :: (4, .iconst 1, 0, 0, 0) :: (5, .iand, 0, 0, 0) :: (6, .ireturn, 0, 0, 0) :: []
def am_c243_0 : AmCd := (0, .iload_n 0, 0, 0, 0) :: (1, .iconst 3, 0, 0, 0) :: (2, .ishr, 0, 0, 0) :: (3, .bipush 7, 0, 0, 0) :: (5, .iand, 0, 0, 0) :: (6, .ireturn, 0, 0, 0) :: []
def am_c244_0 : AmCd := (0, .iload_n 0, 0, 0, 0) :: (1, .bipush 7, 0, 0, 0) :: (3, .iand, 0, 0, 0) :: (4, .ireturn, 0, 0, 0) :: []
def am_c245_0 : AmCd := (0, .iload_n 0, 0, 0, 0) :: (1, .bipush 7, 0, 0, 0) :: (3, .ishr, 0, 0, 0) :: (4, .iconst 1, 0, 0, 0) :: (5, .iand, 0, 0, 0) :: (6, .ireturn, 0, 0, 0) :: []
def am_c246_29 : AmCd := (29, .ireturn, 0, 0, 0) :: []
def am_c246_28 : AmCd := (28, .iconst 0, 0, 0, 0) :: am_c246_29
def am_c246_24 : AmCd := (24, .iconst 3, 0, 0, 0) :: (25, .goto 4, 0, 0, 0) :: am_c246_28
def am_c246_16 : AmCd := (16, .iload_n 0, 0, 0, 0) :: (17, .ifCond .lt 7, 0, 0, 0) :: (20, .iload_n 1, 0, 0, 0) :: (21, .ifCond .ge 7, 0, 0, 0) :: am_c246_24
def am_c246_12 : AmCd := (12, .iconst 4, 0, 0, 0) :: (13, .goto 16, 0, 0, 0) :: am_c246_16
def am_c246_0 : AmCd := (0, .iload_n 0, 0, 0, 0) :: (1, .bipush 8, 0, 0, 0) :: (3, .if_icmp .gt 9, 0, 0, 0) :: (6, .iload_n 1, 0, 0, 0) :: (7, .bipush 8, 0, 0, 0) :: (9, .if_icmp .le 7, 0, 0, 0) :: am_c246_12
def am_c247_151 : AmCd := (151, .ireturn, 0, 0, 0) :: []
def am_c247_146 : AmCd := (146, .iload 7, 0, 0, 0) :: (148, .invokestatic 255, 245, 1, 1) :: am_c247_151
def am_c247_132 : AmCd := (132, .iload 5, 0, 0, 0) :: (134, .iconst 2, 0, 0, 0) :: (135, .if_icmp .ne 11, 0, 0, 0) :: (138, .iload 7, 0, 0, 0) :: (140, .invokestatic 252, 244, 1, 1) :: (143, .goto 8, 0, 0, 0) :: am_c247_146
def am_c247_118 : AmCd := (118, .iload 5, 0, 0, 0) :: (120, .iconst 1, 0, 0, 0) :: (121, .if_icmp .ne 11, 0, 0, 0) :: (124, .iload 7, 0, 0, 0) :: (126, .invokestatic 249, 243, 1, 1) :: (129, .goto 22, 0, 0, 0) :: am_c247_132
def am_c247_97 : AmCd := (97, .aload_n 0, 0, 0, 0) :: (98, .iload 4, 0, 0, 0) :: (100, .invokevirtual 243, 241, 2, 0) :: (103, .istore 7, 0, 0, 0) :: (105, .iload 5, 0, 0, 0) :: (107, .ifCond .ne 11, 0, 0, 0) :: (110, .iload 7, 0, 0, 0) :: (112, .invokestatic 246, 242, 1, 1) :: (115, .goto 36, 0, 0, 0) :: am_c247_118
def am_c247_83 : AmCd := (83, .istore 6, 0, 0, 0) :: (85, .iload 6, 0, 0, 0) :: (87, .ifCond .le 10, 0, 0, 0) :: (90, .aload_n 0, 0, 0, 0) :: (91, .iload 6, 0, 0, 0) :: (93, .invokevirtual 171, 203, 2, 0) :: (96, .ireturn, 0, 0, 0) :: am_c247_97
def am_c247_82 : AmCd := (82, .iconst 2, 0, 0, 0) :: am_c247_83
def am_c247_59 : AmCd := (59, .iload 4, 0, 0, 0) :: (61, .iconst 0, 0, 0, 0) :: (62, .iconst 2, 0, 0, 0) :: (63, .aload_n 0, 0, 0, 0) :: (64, .getfield 104, 10, 42, 1) :: (67, .iconst 0, 0, 0, 0) :: (68, .iaload, 0, 0, 0) :: (69, .imul, 0, 0, 0) :: (70, .iconst 1, 0, 0, 0) :: (71, .isub, 0, 0, 0) :: (72, .invokestatic 152, 197, 3, 1) :: (75, .ifCond .eq 7, 0, 0, 0) :: (78, .iconst 0, 0, 0, 0) :: (79, .goto 4, 0, 0, 0) :: am_c247_82
def am_c247_47 : AmCd := (47, .istore 6, 0, 0, 0) :: (49, .iload 6, 0, 0, 0) :: (51, .ifCond .le 8, 0, 0, 0) :: (54, .iload 6, 0, 0, 0) :: (56, .goto 27, 0, 0, 0) :: am_c247_59
def am_c247_40 : AmCd := (40, .aload_n 0, 0, 0, 0) :: (41, .iload_n 1, 0, 0, 0) :: (42, .iload_n 2, 0, 0, 0) :: (43, .iload_n 3, 0, 0, 0) :: (44, .invokevirtual 240, 240, 4, 0) :: am_c247_47
def am_c247_23 : AmCd := (23, .iload_n 2, 0, 0, 0) :: (24, .iload_n 3, 0, 0, 0) :: (25, .invokestatic 237, 246, 2, 1) :: (28, .istore 6, 0, 0, 0) :: (30, .iload 6, 0, 0, 0) :: (32, .ifCond .le 8, 0, 0, 0) :: (35, .iload 6, 0, 0, 0) :: (37, .goto 10, 0, 0, 0) :: am_c247_40
def am_c247_11 : AmCd := (11, .iload 5, 0, 0, 0) :: (13, .iconst 0, 0, 0, 0) :: (14, .iconst 3, 0, 0, 0) :: (15, .invokestatic 152, 197, 3, 1) :: (18, .ifCond .ne 5, 0, 0, 0) :: (21, .iconst (-1), 0, 0, 0) :: (22, .ireturn, 0, 0, 0) :: am_c247_23
def am_c247_0 : AmCd := (0, .aload_n 0, 0, 0, 0) :: (1, .iload_n 1, 0, 0, 0) :: (2, .invokevirtual 192, 224, 2, 0) :: (5, .ifCond .ne 6, 0, 0, 0) :: (8, .bipush (-2), 0, 0, 0) :: (10, .ireturn, 0, 0, 0) :: am_c247_11
def am_c248_59 : AmCd := (59, .ireturn, 0, 0, 0) :: []
def am_c248_51 : AmCd := (51, .iconst 2, 0, 0, 0) :: (52, .aload_n 0, 0, 0, 0) :: (53, .getfield 104, 10, 42, 1) :: (56, .iconst 0, 0, 0, 0) :: (57, .iaload, 0, 0, 0) :: (58, .imul, 0, 0, 0) :: am_c248_59
def am_c248_35 : AmCd := (35, .istore 4, 0, 0, 0) :: (37, .iload 4, 0, 0, 0) :: (39, .ifCond .le 12, 0, 0, 0) :: (42, .aload_n 0, 0, 0, 0) :: (43, .iload 4, 0, 0, 0) :: (45, .invokevirtual 171, 203, 2, 0) :: (48, .goto 11, 0, 0, 0) :: am_c248_51
def am_c248_28 : AmCd := (28, .aload_n 0, 0, 0, 0) :: (29, .iload_n 1, 0, 0, 0) :: (30, .iload_n 2, 0, 0, 0) :: (31, .iload_n 3, 0, 0, 0) :: (32, .invokevirtual 240, 240, 4, 0) :: am_c248_35
def am_c248_11 : AmCd := (11, .iload_n 2, 0, 0, 0) :: (12, .iload_n 3, 0, 0, 0) :: (13, .invokestatic 237, 246, 2, 1) :: (16, .istore 4, 0, 0, 0) :: (18, .iload 4, 0, 0, 0) :: (20, .ifCond .le 8, 0, 0, 0) :: (23, .iload 4, 0, 0, 0) :: (25, .goto 10, 0, 0, 0) :: am_c248_28
def am_c248_0 : AmCd := (0, .aload_n 0, 0, 0, 0) :: (1, .iload_n 1, 0, 0, 0) :: (2, .invokevirtual 192, 224, 2, 0) :: (5, .ifCond .ne 6, 0, 0, 0) :: (8, .bipush (-2), 0, 0, 0) :: (10, .ireturn, 0, 0, 0) :: am_c248_11
def am_c249_0 : AmCd := (0, .iload_n 1, 0, 0, 0) :: (1, .iconst 0, 0, 0, 0) :: (2, .aload_n 0, 0, 0, 0) :: (3, .getfield 7, 10, 0, 1) :: (6, .iconst 2, 0, 0, 0) :: (7, .iaload, 0, 0, 0) :: (8, .iconst 1, 0, 0, 0) :: (9, .isub, 0, 0, 0) :: (10, .invokestatic 152, 197, 3, 1) :: (13, .ireturn, 0, 0, 0) :: []
def am_c250_0 : AmCd := (0, .bipush 16, 0, 0, 0) :: (2, .iload_n 0, 0, 0, 0) :: (3, .imul, 0, 0, 0) :: (4, .bipush 8, 0, 0, 0) :: (6, .iload_n 1, 0, 0, 0) :: (7, .imul, 0, 0, 0) :: (8, .iadd, 0, 0, 0) :: (9, .iload_n 2, 0, 0, 0) :: (10, .iadd, 0, 0, 0) :: (11, .ireturn, 0, 0, 0) :: []
def am_c251_0 : AmCd := (0, .bipush 8, 0, 0, 0) :: (2, .iload_n 0, 0, 0, 0) :: (3, .iload_n 1, 0, 0, 0) :: (4, .iload_n 2, 0, 0, 0) :: (5, .invokestatic 258, 250, 3, 1) :: (8, .imul, 0, 0, 0) :: (9, .iload_n 3, 0, 0, 0) :: (10, .iadd, 0, 0, 0) :: (11, .ireturn, 0, 0, 0) :: []
def am_c252_217 : AmCd := (217, .iload 5, 0, 0, 0) :: (219, .ireturn, 0, 0, 0) :: []
def am_c252_173 : AmCd := (173, .iload 6, 0, 0, 0) :: (175, .sipush 128, 0, 0, 0) :: (178, .if_icmp .ge 39, 0, 0, 0) :: (181, .aload_n 0, 0, 0, 0) :: (182, .getfield 74, 10, 21, 1) :: (185, .sipush 128, 0, 0, 0) :: (188, .iload 5, 0, 0, 0) :: (190, .imul, 0, 0, 0) :: (191, .iload 6, 0, 0, 0) :: (193, .iadd, 0, 0, 0) :: (194, .iconst 0, 0, 0, 0) :: (195, .iastore, 0, 0, 0) :: (196, .aload_n 0, 0, 0, 0) :: (197, .getfield 77, 10, 22, 1) :: (200, .sipush 128, 0, 0, 0) :: (203, .iload 5, 0, 0, 0) :: (205, .imul, 0, 0, 0) :: (206, .iload 6, 0, 0, 0) :: (208, .iadd, 0, 0, 0) :: (209, .iconst 0, 0, 0, 0) :: (210, .iastore, 0, 0, 0) :: (211, .iinc 6 1, 0, 0, 0) :: (214, .goto (-41), 0, 0, 0) :: am_c252_217
def am_c252_170 : AmCd := (170, .iconst 0, 0, 0, 0) :: (171, .istore 6, 0, 0, 0) :: am_c252_173
def am_c252_143 : AmCd := (143, .iload 6, 0, 0, 0) :: (145, .bipush 16, 0, 0, 0) :: (147, .if_icmp .ge 23, 0, 0, 0) :: (150, .aload_n 0, 0, 0, 0) :: (151, .getfield 70, 10, 20, 1) :: (154, .bipush 16, 0, 0, 0) :: (156, .iload 5, 0, 0, 0) :: (158, .imul, 0, 0, 0) :: (159, .iload 6, 0, 0, 0) :: (161, .iadd, 0, 0, 0) :: (162, .iconst 0, 0, 0, 0) :: (163, .bastore, 0, 0, 0) :: (164, .iinc 6 1, 0, 0, 0) :: (167, .goto (-24), 0, 0, 0) :: am_c252_170
def am_c252_58 : AmCd := (58, .aload_n 0, 0, 0, 0) :: (59, .getfield 7, 10, 0, 1) :: (62, .iconst 2, 0, 0, 0) :: (63, .iaload, 0, 0, 0) :: (64, .istore 5, 0, 0, 0) :: (66, .aload_n 0, 0, 0, 0) :: (67, .getfield 7, 10, 0, 1) :: (70, .iconst 2, 0, 0, 0) :: (71, .dup2, 0, 0, 0) :: (72, .iaload, 0, 0, 0) :: (73, .iconst 1, 0, 0, 0) :: (74, .iadd, 0, 0, 0) :: (75, .iastore, 0, 0, 0) :: (76, .aload_n 0, 0, 0, 0) :: (77, .getfield 46, 10, 12, 1) :: (80, .iload 5, 0, 0, 0) :: (82, .iload_n 1, 0, 0, 0) :: (83, .iastore, 0, 0, 0) :: (84, .aload_n 0, 0, 0, 0) :: (85, .getfield 49, 10, 13, 1) :: (88, .iload 5, 0, 0, 0) :: (90, .iload_n 2, 0, 0, 0) :: (91, .iastore, 0, 0, 0) :: (92, .aload_n 0, 0, 0, 0) :: (93, .getfield 52, 10, 14, 1) :: (96, .iload 5, 0, 0, 0) :: (98, .iload_n 3, 0, 0, 0) :: (99, .iastore, 0, 0, 0) :: (100, .aload_n 0, 0, 0, 0) :: (101, .getfield 55, 10, 15, 1) :: (104, .iload 5, 0, 0, 0) :: (106, .iconst (-1), 0, 0, 0) :: (107, .iastore, 0, 0, 0) :: (108, .aload_n 0, 0, 0, 0) :: (109, .getfield 58, 10, 16, 1) :: (112, .iload 5, 0, 0, 0) :: (114, .iconst (-1), 0, 0, 0) :: (115, .iastore, 0, 0, 0) :: (116, .aload_n 0, 0, 0, 0) :: (117, .getfield 61, 10, 17, 1) :: (120, .iload 5, 0, 0, 0) :: (122, .iconst (-1), 0, 0, 0) :: (123, .iastore, 0, 0, 0) :: (124, .aload_n 0, 0, 0, 0) :: (125, .getfield 64, 10, 18, 1) :: (128, .iload 5, 0, 0, 0) :: (130, .iconst 0, 0, 0, 0) :: (131, .iastore, 0, 0, 0) :: (132, .aload_n 0, 0, 0, 0) :: (133, .getfield 67, 10, 19, 1) :: (136, .iload 5, 0, 0, 0) :: (138, .iconst (-1), 0, 0, 0) :: (139, .iastore, 0, 0, 0) :: (140, .iconst 0, 0, 0, 0) :: (141, .istore 6, 0, 0, 0) :: am_c252_143
def am_c252_35 : AmCd := (35, .aload_n 0, 0, 0, 0) :: (36, .invokevirtual 160, 201, 1, 0) :: (39, .iload_n 2, 0, 0, 0) :: (40, .iload_n 3, 0, 0, 0) :: (41, .invokestatic 237, 246, 2, 1) :: (44, .istore 4, 0, 0, 0) :: (46, .iload 4, 0, 0, 0) :: (48, .ifCond .le 10, 0, 0, 0) :: (51, .aload_n 0, 0, 0, 0) :: (52, .iload 4, 0, 0, 0) :: (54, .invokevirtual 171, 203, 2, 0) :: (57, .ireturn, 0, 0, 0) :: am_c252_58
def am_c252_21 : AmCd := (21, .aload_n 0, 0, 0, 0) :: (22, .getfield 7, 10, 0, 1) :: (25, .iconst 2, 0, 0, 0) :: (26, .iaload, 0, 0, 0) :: (27, .bipush 8, 0, 0, 0) :: (29, .if_icmp .ne 6, 0, 0, 0) :: (32, .bipush (-3), 0, 0, 0) :: (34, .ireturn, 0, 0, 0) :: am_c252_35
def am_c252_10 : AmCd := (10, .aload_n 0, 0, 0, 0) :: (11, .iload_n 1, 0, 0, 0) :: (12, .invokevirtual 156, 205, 2, 0) :: (15, .ifCond .ne 6, 0, 0, 0) :: (18, .bipush (-2), 0, 0, 0) :: (20, .ireturn, 0, 0, 0) :: am_c252_21
def am_c252_0 : AmCd := (0, .aload_n 0, 0, 0, 0) :: (1, .invokevirtual 148, 202, 1, 0) :: (4, .ifCond .eq 6, 0, 0, 0) :: (7, .bipush (-4), 0, 0, 0) :: (9, .ireturn, 0, 0, 0) :: am_c252_10
def am_c253_58 : AmCd := (58, .aload_n 0, 0, 0, 0) :: (59, .getfield 70, 10, 20, 1) :: (62, .iload_n 1, 0, 0, 0) :: (63, .iload_n 2, 0, 0, 0) :: (64, .iload_n 3, 0, 0, 0) :: (65, .invokestatic 258, 250, 3, 1) :: (68, .iconst 1, 0, 0, 0) :: (69, .bastore, 0, 0, 0) :: (70, .iconst 1, 0, 0, 0) :: (71, .ireturn, 0, 0, 0) :: []
def am_c253_32 : AmCd := (32, .aload_n 0, 0, 0, 0) :: (33, .invokevirtual 160, 201, 1, 0) :: (36, .iload_n 3, 0, 0, 0) :: (37, .iconst 0, 0, 0, 0) :: (38, .aload_n 0, 0, 0, 0) :: (39, .getfield 49, 10, 13, 1) :: (42, .iload_n 1, 0, 0, 0) :: (43, .iaload, 0, 0, 0) :: (44, .iconst 1, 0, 0, 0) :: (45, .isub, 0, 0, 0) :: (46, .invokestatic 152, 197, 3, 1) :: (49, .ifCond .ne 9, 0, 0, 0) :: (52, .aload_n 0, 0, 0, 0) :: (53, .iconst 2, 0, 0, 0) :: (54, .invokevirtual 171, 203, 2, 0) :: (57, .ireturn, 0, 0, 0) :: am_c253_58
def am_c253_21 : AmCd := (21, .iload_n 2, 0, 0, 0) :: (22, .iconst 0, 0, 0, 0) :: (23, .iconst 1, 0, 0, 0) :: (24, .invokestatic 152, 197, 3, 1) :: (27, .ifCond .ne 5, 0, 0, 0) :: (30, .iconst (-1), 0, 0, 0) :: (31, .ireturn, 0, 0, 0) :: am_c253_32
def am_c253_10 : AmCd := (10, .aload_n 0, 0, 0, 0) :: (11, .iload_n 1, 0, 0, 0) :: (12, .invokevirtual 261, 249, 2, 0) :: (15, .ifCond .ne 6, 0, 0, 0) :: (18, .bipush (-2), 0, 0, 0) :: (20, .ireturn, 0, 0, 0) :: am_c253_21
def am_c253_0 : AmCd := (0, .aload_n 0, 0, 0, 0) :: (1, .invokevirtual 148, 202, 1, 0) :: (4, .ifCond .eq 6, 0, 0, 0) :: (7, .bipush (-4), 0, 0, 0) :: (9, .ireturn, 0, 0, 0) :: am_c253_10
def am_c254_58 : AmCd := (58, .ireturn, 0, 0, 0) :: []
def am_c254_57 : AmCd := (57, .iconst 0, 0, 0, 0) :: am_c254_58
def am_c254_36 : AmCd := (36, .iload 4, 0, 0, 0) :: (38, .iconst 0, 0, 0, 0) :: (39, .aload_n 0, 0, 0, 0) :: (40, .getfield 52, 10, 14, 1) :: (43, .iload_n 1, 0, 0, 0) :: (44, .iaload, 0, 0, 0) :: (45, .iconst 1, 0, 0, 0) :: (46, .isub, 0, 0, 0) :: (47, .invokestatic 152, 197, 3, 1) :: (50, .ifCond .ne 7, 0, 0, 0) :: (53, .iconst 2, 0, 0, 0) :: (54, .goto 4, 0, 0, 0) :: am_c254_57
def am_c254_18 : AmCd := (18, .aload_n 0, 0, 0, 0) :: (19, .getfield 70, 10, 20, 1) :: (22, .iload_n 1, 0, 0, 0) :: (23, .iload_n 2, 0, 0, 0) :: (24, .iload_n 3, 0, 0, 0) :: (25, .invokestatic 258, 250, 3, 1) :: (28, .baload, 0, 0, 0) :: (29, .ifCond .eq 7, 0, 0, 0) :: (32, .iconst 1, 0, 0, 0) :: (33, .goto 25, 0, 0, 0) :: am_c254_36
def am_c254_0 : AmCd := (0, .iload_n 3, 0, 0, 0) :: (1, .iconst 0, 0, 0, 0) :: (2, .aload_n 0, 0, 0, 0) :: (3, .getfield 49, 10, 13, 1) :: (6, .iload_n 1, 0, 0, 0) :: (7, .iaload, 0, 0, 0) :: (8, .iconst 1, 0, 0, 0) :: (9, .isub, 0, 0, 0) :: (10, .invokestatic 152, 197, 3, 1) :: (13, .ifCond .ne 5, 0, 0, 0) :: (16, .iconst 2, 0, 0, 0) :: (17, .ireturn, 0, 0, 0) :: am_c254_18
def am_c255_80 : AmCd := (80, .aload_n 0, 0, 0, 0) :: (81, .getfield 74, 10, 21, 1) :: (84, .iload_n 1, 0, 0, 0) :: (85, .iload_n 2, 0, 0, 0) :: (86, .iload_n 3, 0, 0, 0) :: (87, .iload 4, 0, 0, 0) :: (89, .invokestatic 268, 251, 4, 1) :: (92, .iload 5, 0, 0, 0) :: (94, .iastore, 0, 0, 0) :: (95, .aload_n 0, 0, 0, 0) :: (96, .getfield 77, 10, 22, 1) :: (99, .iload_n 1, 0, 0, 0) :: (100, .iload_n 2, 0, 0, 0) :: (101, .iload_n 3, 0, 0, 0) :: (102, .iload 4, 0, 0, 0) :: (104, .invokestatic 268, 251, 4, 1) :: (107, .iload 6, 0, 0, 0) :: (109, .iastore, 0, 0, 0) :: (110, .iconst 1, 0, 0, 0) :: (111, .ireturn, 0, 0, 0) :: []
def am_c255_53 : AmCd := (53, .aload_n 0, 0, 0, 0) :: (54, .invokevirtual 160, 201, 1, 0) :: (57, .aload_n 0, 0, 0, 0) :: (58, .iload_n 1, 0, 0, 0) :: (59, .iload_n 2, 0, 0, 0) :: (60, .iload_n 3, 0, 0, 0) :: (61, .iload 4, 0, 0, 0) :: (63, .invokevirtual 264, 254, 5, 0) :: (66, .istore 7, 0, 0, 0) :: (68, .iload 7, 0, 0, 0) :: (70, .ifCond .le 10, 0, 0, 0) :: (73, .aload_n 0, 0, 0, 0) :: (74, .iload 7, 0, 0, 0) :: (76, .invokevirtual 171, 203, 2, 0) :: (79, .ireturn, 0, 0, 0) :: am_c255_80
def am_c255_51 : AmCd := (51, .iconst (-1), 0, 0, 0) :: (52, .ireturn, 0, 0, 0) :: am_c255_53
def am_c255_21 : AmCd := (21, .iload_n 2, 0, 0, 0) :: (22, .iconst 0, 0, 0, 0) :: (23, .iconst 1, 0, 0, 0) :: (24, .invokestatic 152, 197, 3, 1) :: (27, .ifCond .eq 24, 0, 0, 0) :: (30, .iload 5, 0, 0, 0) :: (32, .iconst 0, 0, 0, 0) :: (33, .bipush 24, 0, 0, 0) :: (35, .invokestatic 152, 197, 3, 1) :: (38, .ifCond .eq 13, 0, 0, 0) :: (41, .iload 6, 0, 0, 0) :: (43, .iconst 0, 0, 0, 0) :: (44, .iconst 1, 0, 0, 0) :: (45, .invokestatic 152, 197, 3, 1) :: (48, .ifCond .ne 5, 0, 0, 0) :: am_c255_51
def am_c255_10 : AmCd := (10, .aload_n 0, 0, 0, 0) :: (11, .iload_n 1, 0, 0, 0) :: (12, .invokevirtual 261, 249, 2, 0) :: (15, .ifCond .ne 6, 0, 0, 0) :: (18, .bipush (-2), 0, 0, 0) :: (20, .ireturn, 0, 0, 0) :: am_c255_21
def am_c255_0 : AmCd := (0, .aload_n 0, 0, 0, 0) :: (1, .invokevirtual 148, 202, 1, 0) :: (4, .ifCond .eq 6, 0, 0, 0) :: (7, .bipush (-4), 0, 0, 0) :: (9, .ireturn, 0, 0, 0) :: am_c255_10
def am_c256_87 : AmCd := (87, .ireturn, 0, 0, 0) :: []
def am_c256_80 : AmCd := (80, .aload_n 0, 0, 0, 0) :: (81, .getfield 77, 10, 22, 1) :: (84, .iload 7, 0, 0, 0) :: (86, .iaload, 0, 0, 0) :: am_c256_87
def am_c256_55 : AmCd := (55, .iload_n 1, 0, 0, 0) :: (56, .iload_n 2, 0, 0, 0) :: (57, .iload_n 3, 0, 0, 0) :: (58, .iload 4, 0, 0, 0) :: (60, .invokestatic 268, 251, 4, 1) :: (63, .istore 7, 0, 0, 0) :: (65, .iload 5, 0, 0, 0) :: (67, .ifCond .ne 13, 0, 0, 0) :: (70, .aload_n 0, 0, 0, 0) :: (71, .getfield 74, 10, 21, 1) :: (74, .iload 7, 0, 0, 0) :: (76, .iaload, 0, 0, 0) :: (77, .goto 10, 0, 0, 0) :: am_c256_80
def am_c256_32 : AmCd := (32, .aload_n 0, 0, 0, 0) :: (33, .iload_n 1, 0, 0, 0) :: (34, .iload_n 2, 0, 0, 0) :: (35, .iload_n 3, 0, 0, 0) :: (36, .iload 4, 0, 0, 0) :: (38, .invokevirtual 264, 254, 5, 0) :: (41, .istore 6, 0, 0, 0) :: (43, .iload 6, 0, 0, 0) :: (45, .ifCond .le 10, 0, 0, 0) :: (48, .aload_n 0, 0, 0, 0) :: (49, .iload 6, 0, 0, 0) :: (51, .invokevirtual 171, 203, 2, 0) :: (54, .ireturn, 0, 0, 0) :: am_c256_55
def am_c256_30 : AmCd := (30, .iconst (-1), 0, 0, 0) :: (31, .ireturn, 0, 0, 0) :: am_c256_32
def am_c256_11 : AmCd := (11, .iload_n 2, 0, 0, 0) :: (12, .iconst 0, 0, 0, 0) :: (13, .iconst 1, 0, 0, 0) :: (14, .invokestatic 152, 197, 3, 1) :: (17, .ifCond .eq 13, 0, 0, 0) :: (20, .iload 5, 0, 0, 0) :: (22, .iconst 0, 0, 0, 0) :: (23, .iconst 1, 0, 0, 0) :: (24, .invokestatic 152, 197, 3, 1) :: (27, .ifCond .ne 5, 0, 0, 0) :: am_c256_30
def am_c256_0 : AmCd := (0, .aload_n 0, 0, 0, 0) :: (1, .iload_n 1, 0, 0, 0) :: (2, .invokevirtual 261, 249, 2, 0) :: (5, .ifCond .ne 6, 0, 0, 0) :: (8, .bipush (-2), 0, 0, 0) :: (10, .ireturn, 0, 0, 0) :: am_c256_11
def am_c257_40 : AmCd := (40, .ireturn, 0, 0, 0) :: []
def am_c257_34 : AmCd := (34, .aload_n 0, 0, 0, 0) :: (35, .getfield 52, 10, 14, 1) :: (38, .iload_n 1, 0, 0, 0) :: (39, .iaload, 0, 0, 0) :: am_c257_40
def am_c257_30 : AmCd := (30, .iconst (-1), 0, 0, 0) :: (31, .goto 9, 0, 0, 0) :: am_c257_34
def am_c257_0 : AmCd := (0, .iload_n 3, 0, 0, 0) :: (1, .iconst 0, 0, 0, 0) :: (2, .aload_n 0, 0, 0, 0) :: (3, .getfield 49, 10, 13, 1) :: (6, .iload_n 1, 0, 0, 0) :: (7, .iaload, 0, 0, 0) :: (8, .iconst 1, 0, 0, 0) :: (9, .isub, 0, 0, 0) :: (10, .invokestatic 152, 197, 3, 1) :: (13, .ifCond .eq 17, 0, 0, 0) :: (16, .aload_n 0, 0, 0, 0) :: (17, .getfield 70, 10, 20, 1) :: (20, .iload_n 1, 0, 0, 0) :: (21, .iload_n 2, 0, 0, 0) :: (22, .iload_n 3, 0, 0, 0) :: (23, .invokestatic 258, 250, 3, 1) :: (26, .baload, 0, 0, 0) :: (27, .ifCond .eq 7, 0, 0, 0) :: am_c257_30
def am_c258_232 : AmCd := (232, .iconst 1, 0, 0, 0) :: (233, .ireturn, 0, 0, 0) :: []
def am_c258_216 : AmCd := (216, .aload_n 0, 0, 0, 0) :: (217, .dup, 0, 0, 0) :: (218, .getfield 182, 10, 35, 0) :: (221, .iconst 1, 0, 0, 0) :: (222, .iadd, 0, 0, 0) :: (223, .putfield 182, 10, 35, 0) :: (226, .iinc 9 1, 0, 0, 0) :: (229, .goto (-155), 0, 0, 0) :: am_c258_232
def am_c258_146 : AmCd := (146, .iload 12, 0, 0, 0) :: (148, .iload 8, 0, 0, 0) :: (150, .if_icmp .ge 66, 0, 0, 0) :: (153, .iload_n 1, 0, 0, 0) :: (154, .iload_n 2, 0, 0, 0) :: (155, .iload_n 3, 0, 0, 0) :: (156, .iload 9, 0, 0, 0) :: (158, .iadd, 0, 0, 0) :: (159, .iload 12, 0, 0, 0) :: (161, .invokestatic 268, 251, 4, 1) :: (164, .istore 13, 0, 0, 0) :: (166, .iload 4, 0, 0, 0) :: (168, .iload 5, 0, 0, 0) :: (170, .iload 6, 0, 0, 0) :: (172, .iload 9, 0, 0, 0) :: (174, .iadd, 0, 0, 0) :: (175, .iload 12, 0, 0, 0) :: (177, .invokestatic 268, 251, 4, 1) :: (180, .istore 14, 0, 0, 0) :: (182, .aload_n 0, 0, 0, 0) :: (183, .getfield 74, 10, 21, 1) :: (186, .iload 14, 0, 0, 0) :: (188, .aload_n 0, 0, 0, 0) :: (189, .getfield 74, 10, 21, 1) :: (192, .iload 13, 0, 0, 0) :: (194, .iaload, 0, 0, 0) :: (195, .iastore, 0, 0, 0) :: (196, .aload_n 0, 0, 0, 0) :: (197, .getfield 77, 10, 22, 1) :: (200, .iload 14, 0, 0, 0) :: (202, .aload_n 0, 0, 0, 0) :: (203, .getfield 77, 10, 22, 1) :: (206, .iload 13, 0, 0, 0) :: (208, .iaload, 0, 0, 0) :: (209, .iastore, 0, 0, 0) :: (210, .iinc 12 1, 0, 0, 0) :: (213, .goto (-67), 0, 0, 0) :: am_c258_216
def am_c258_143 : AmCd := (143, .iconst 0, 0, 0, 0) :: (144, .istore 12, 0, 0, 0) :: am_c258_146
def am_c258_137 : AmCd := (137, .aload_n 0, 0, 0, 0) :: (138, .iconst 5, 0, 0, 0) :: (139, .invokevirtual 171, 203, 2, 0) :: (142, .ireturn, 0, 0, 0) :: am_c258_143
def am_c258_74 : AmCd := (74, .iload 9, 0, 0, 0) :: (76, .iload 7, 0, 0, 0) :: (78, .if_icmp .ge 154, 0, 0, 0) :: (81, .aload_n 0, 0, 0, 0) :: (82, .iload_n 1, 0, 0, 0) :: (83, .iload_n 2, 0, 0, 0) :: (84, .iload_n 3, 0, 0, 0) :: (85, .iload 9, 0, 0, 0) :: (87, .iadd, 0, 0, 0) :: (88, .invokevirtual 271, 257, 4, 0) :: (91, .istore 10, 0, 0, 0) :: (93, .aload_n 0, 0, 0, 0) :: (94, .iload 4, 0, 0, 0) :: (96, .iload 5, 0, 0, 0) :: (98, .iload 6, 0, 0, 0) :: (100, .iload 9, 0, 0, 0) :: (102, .iadd, 0, 0, 0) :: (103, .invokevirtual 271, 257, 4, 0) :: (106, .istore 11, 0, 0, 0) :: (108, .iload 8, 0, 0, 0) :: (110, .ifCond .lt 27, 0, 0, 0) :: (113, .iload 10, 0, 0, 0) :: (115, .ifCond .lt 22, 0, 0, 0) :: (118, .iload 11, 0, 0, 0) :: (120, .ifCond .lt 17, 0, 0, 0) :: (123, .iload 10, 0, 0, 0) :: (125, .iload 8, 0, 0, 0) :: (127, .if_icmp .lt 10, 0, 0, 0) :: (130, .iload 11, 0, 0, 0) :: (132, .iload 8, 0, 0, 0) :: (134, .if_icmp .ge 9, 0, 0, 0) :: am_c258_137
def am_c258_62 : AmCd := (62, .aload_n 0, 0, 0, 0) :: (63, .invokevirtual 160, 201, 1, 0) :: (66, .aload_n 0, 0, 0, 0) :: (67, .iconst 0, 0, 0, 0) :: (68, .putfield 182, 10, 35, 0) :: (71, .iconst 0, 0, 0, 0) :: (72, .istore 9, 0, 0, 0) :: am_c258_74
def am_c258_60 : AmCd := (60, .iconst (-1), 0, 0, 0) :: (61, .ireturn, 0, 0, 0) :: am_c258_62
def am_c258_30 : AmCd := (30, .iload_n 2, 0, 0, 0) :: (31, .iconst 0, 0, 0, 0) :: (32, .iconst 1, 0, 0, 0) :: (33, .invokestatic 152, 197, 3, 1) :: (36, .ifCond .eq 24, 0, 0, 0) :: (39, .iload 5, 0, 0, 0) :: (41, .iconst 0, 0, 0, 0) :: (42, .iconst 1, 0, 0, 0) :: (43, .invokestatic 152, 197, 3, 1) :: (46, .ifCond .eq 14, 0, 0, 0) :: (49, .iload 7, 0, 0, 0) :: (51, .iconst 0, 0, 0, 0) :: (52, .bipush 8, 0, 0, 0) :: (54, .invokestatic 152, 197, 3, 1) :: (57, .ifCond .ne 5, 0, 0, 0) :: am_c258_60
def am_c258_27 : AmCd := (27, .bipush (-2), 0, 0, 0) :: (29, .ireturn, 0, 0, 0) :: am_c258_30
def am_c258_10 : AmCd := (10, .aload_n 0, 0, 0, 0) :: (11, .iload_n 1, 0, 0, 0) :: (12, .invokevirtual 261, 249, 2, 0) :: (15, .ifCond .eq 12, 0, 0, 0) :: (18, .aload_n 0, 0, 0, 0) :: (19, .iload 4, 0, 0, 0) :: (21, .invokevirtual 261, 249, 2, 0) :: (24, .ifCond .ne 6, 0, 0, 0) :: am_c258_27
def am_c258_0 : AmCd := (0, .aload_n 0, 0, 0, 0) :: (1, .invokevirtual 148, 202, 1, 0) :: (4, .ifCond .eq 6, 0, 0, 0) :: (7, .bipush (-4), 0, 0, 0) :: (9, .ireturn, 0, 0, 0) :: am_c258_10
def am_c259_0 : AmCd := (0, .aload_n 0, 0, 0, 0) :: (1, .getfield 110, 10, 44, 1) :: (4, .aload_n 0, 0, 0, 0) :: (5, .getfield 274, 10, 47, 0) :: (8, .iload_n 1, 0, 0, 0) :: (9, .iastore, 0, 0, 0) :: (10, .aload_n 0, 0, 0, 0) :: (11, .getfield 113, 10, 45, 1) :: (14, .aload_n 0, 0, 0, 0) :: (15, .getfield 274, 10, 47, 0) :: (18, .iload_n 2, 0, 0, 0) :: (19, .iastore, 0, 0, 0) :: (20, .aload_n 0, 0, 0, 0) :: (21, .getfield 116, 10, 46, 1) :: (24, .aload_n 0, 0, 0, 0) :: (25, .getfield 274, 10, 47, 0) :: (28, .iload_n 3, 0, 0, 0) :: (29, .iastore, 0, 0, 0) :: (30, .aload_n 0, 0, 0, 0) :: (31, .dup, 0, 0, 0) :: (32, .getfield 274, 10, 47, 0) :: (35, .iconst 1, 0, 0, 0) :: (36, .iadd, 0, 0, 0) :: (37, .putfield 274, 10, 47, 0) :: (40, .return_, 0, 0, 0) :: []
def am_c260_57 : AmCd := (57, .iload_n 3, 0, 0, 0) :: (58, .ireturn, 0, 0, 0) :: []
def am_c260_21 : AmCd := (21, .iload_n 3, 0, 0, 0) :: (22, .ifCond .ne 35, 0, 0, 0) :: (25, .iload 4, 0, 0, 0) :: (27, .iconst 2, 0, 0, 0) :: (28, .aload_n 0, 0, 0, 0) :: (29, .getfield 104, 10, 42, 1) :: (32, .iconst 0, 0, 0, 0) :: (33, .iaload, 0, 0, 0) :: (34, .imul, 0, 0, 0) :: (35, .if_icmp .ge 22, 0, 0, 0) :: (38, .aload_n 0, 0, 0, 0) :: (39, .iload_n 1, 0, 0, 0) :: (40, .iload 4, 0, 0, 0) :: (42, .aload_n 0, 0, 0, 0) :: (43, .iload 4, 0, 0, 0) :: (45, .invokevirtual 243, 241, 2, 0) :: (48, .invokevirtual 277, 259, 4, 0) :: (51, .iinc 4 1, 0, 0, 0) :: (54, .goto (-33), 0, 0, 0) :: am_c260_57
def am_c260_0 : AmCd := (0, .aload_n 0, 0, 0, 0) :: (1, .iload_n 2, 0, 0, 0) :: (2, .aload_n 0, 0, 0, 0) :: (3, .getfield 49, 10, 13, 1) :: (6, .iload_n 1, 0, 0, 0) :: (7, .iaload, 0, 0, 0) :: (8, .aload_n 0, 0, 0, 0) :: (9, .getfield 52, 10, 14, 1) :: (12, .iload_n 1, 0, 0, 0) :: (13, .iaload, 0, 0, 0) :: (14, .invokevirtual 240, 240, 4, 0) :: (17, .istore_n 3, 0, 0, 0) :: (18, .iconst 0, 0, 0, 0) :: (19, .istore 4, 0, 0, 0) :: am_c260_21
def am_c261_288 : AmCd := (288, .iconst 0, 0, 0, 0) :: (289, .ireturn, 0, 0, 0) :: []
def am_c261_282 : AmCd := (282, .iinc 3 (-1), 0, 0, 0) :: (285, .goto (-73), 0, 0, 0) :: am_c261_288
def am_c261_236 : AmCd := (236, .iload 4, 0, 0, 0) :: (238, .aload_n 0, 0, 0, 0) :: (239, .getfield 122, 10, 49, 1) :: (242, .iload_n 3, 0, 0, 0) :: (243, .iaload, 0, 0, 0) :: (244, .if_icmp .ge 38, 0, 0, 0) :: (247, .aload_n 0, 0, 0, 0) :: (248, .aload_n 0, 0, 0, 0) :: (249, .getfield 86, 10, 25, 1) :: (252, .iconst 4, 0, 0, 0) :: (253, .iload_n 1, 0, 0, 0) :: (254, .imul, 0, 0, 0) :: (255, .iload_n 3, 0, 0, 0) :: (256, .iadd, 0, 0, 0) :: (257, .iaload, 0, 0, 0) :: (258, .iload 4, 0, 0, 0) :: (260, .aload_n 0, 0, 0, 0) :: (261, .getfield 119, 10, 48, 1) :: (264, .sipush 128, 0, 0, 0) :: (267, .iload_n 3, 0, 0, 0) :: (268, .imul, 0, 0, 0) :: (269, .iload 4, 0, 0, 0) :: (271, .iadd, 0, 0, 0) :: (272, .iaload, 0, 0, 0) :: (273, .invokevirtual 277, 259, 4, 0) :: (276, .iinc 4 1, 0, 0, 0) :: (279, .goto (-43), 0, 0, 0) :: am_c261_282
def am_c261_212 : AmCd := (212, .iload_n 3, 0, 0, 0) :: (213, .ifCond .lt 75, 0, 0, 0) :: (216, .aload_n 0, 0, 0, 0) :: (217, .getfield 80, 10, 23, 1) :: (220, .iload_n 1, 0, 0, 0) :: (221, .iaload, 0, 0, 0) :: (222, .iconst 1, 0, 0, 0) :: (223, .if_icmp .ne 65, 0, 0, 0) :: (226, .aload_n 0, 0, 0, 0) :: (227, .getfield 122, 10, 49, 1) :: (230, .iload_n 3, 0, 0, 0) :: (231, .iaload, 0, 0, 0) :: (232, .iconst 2, 0, 0, 0) :: (233, .idiv, 0, 0, 0) :: (234, .istore 4, 0, 0, 0) :: am_c261_236
def am_c261_203 : AmCd := (203, .aload_n 0, 0, 0, 0) :: (204, .getfield 83, 10, 24, 1) :: (207, .iload_n 1, 0, 0, 0) :: (208, .iaload, 0, 0, 0) :: (209, .iconst 1, 0, 0, 0) :: (210, .isub, 0, 0, 0) :: (211, .istore_n 3, 0, 0, 0) :: am_c261_212
def am_c261_197 : AmCd := (197, .iinc 3 1, 0, 0, 0) :: (200, .goto (-86), 0, 0, 0) :: am_c261_203
def am_c261_155 : AmCd := (155, .iload 5, 0, 0, 0) :: (157, .iload 4, 0, 0, 0) :: (159, .if_icmp .ge 38, 0, 0, 0) :: (162, .aload_n 0, 0, 0, 0) :: (163, .aload_n 0, 0, 0, 0) :: (164, .getfield 86, 10, 25, 1) :: (167, .iconst 4, 0, 0, 0) :: (168, .iload_n 1, 0, 0, 0) :: (169, .imul, 0, 0, 0) :: (170, .iload_n 3, 0, 0, 0) :: (171, .iadd, 0, 0, 0) :: (172, .iaload, 0, 0, 0) :: (173, .iload 5, 0, 0, 0) :: (175, .aload_n 0, 0, 0, 0) :: (176, .getfield 119, 10, 48, 1) :: (179, .sipush 128, 0, 0, 0) :: (182, .iload_n 3, 0, 0, 0) :: (183, .imul, 0, 0, 0) :: (184, .iload 5, 0, 0, 0) :: (186, .iadd, 0, 0, 0) :: (187, .iaload, 0, 0, 0) :: (188, .invokevirtual 277, 259, 4, 0) :: (191, .iinc 5 1, 0, 0, 0) :: (194, .goto (-39), 0, 0, 0) :: am_c261_197
def am_c261_150 : AmCd := (150, .istore 4, 0, 0, 0) :: (152, .iconst 0, 0, 0, 0) :: (153, .istore 5, 0, 0, 0) :: am_c261_155
def am_c261_142 : AmCd := (142, .aload_n 0, 0, 0, 0) :: (143, .getfield 122, 10, 49, 1) :: (146, .iload_n 3, 0, 0, 0) :: (147, .iaload, 0, 0, 0) :: (148, .iconst 2, 0, 0, 0) :: (149, .idiv, 0, 0, 0) :: am_c261_150
def am_c261_114 : AmCd := (114, .iload_n 3, 0, 0, 0) :: (115, .aload_n 0, 0, 0, 0) :: (116, .getfield 83, 10, 24, 1) :: (119, .iload_n 1, 0, 0, 0) :: (120, .iaload, 0, 0, 0) :: (121, .if_icmp .ge 82, 0, 0, 0) :: (124, .aload_n 0, 0, 0, 0) :: (125, .getfield 80, 10, 23, 1) :: (128, .iload_n 1, 0, 0, 0) :: (129, .iaload, 0, 0, 0) :: (130, .ifCond .ne 12, 0, 0, 0) :: (133, .aload_n 0, 0, 0, 0) :: (134, .getfield 122, 10, 49, 1) :: (137, .iload_n 3, 0, 0, 0) :: (138, .iaload, 0, 0, 0) :: (139, .goto 11, 0, 0, 0) :: am_c261_142
def am_c261_112 : AmCd := (112, .iconst 0, 0, 0, 0) :: (113, .istore_n 3, 0, 0, 0) :: am_c261_114
def am_c261_106 : AmCd := (106, .iinc 3 1, 0, 0, 0) :: (109, .goto (-107), 0, 0, 0) :: am_c261_112
def am_c261_70 : AmCd := (70, .iload 6, 0, 0, 0) :: (72, .aload_n 0, 0, 0, 0) :: (73, .getfield 122, 10, 49, 1) :: (76, .iload_n 3, 0, 0, 0) :: (77, .iaload, 0, 0, 0) :: (78, .if_icmp .ge 28, 0, 0, 0) :: (81, .aload_n 0, 0, 0, 0) :: (82, .getfield 119, 10, 48, 1) :: (85, .sipush 128, 0, 0, 0) :: (88, .iload_n 3, 0, 0, 0) :: (89, .imul, 0, 0, 0) :: (90, .iload 6, 0, 0, 0) :: (92, .iadd, 0, 0, 0) :: (93, .aload_n 0, 0, 0, 0) :: (94, .iload 6, 0, 0, 0) :: (96, .invokevirtual 243, 241, 2, 0) :: (99, .iastore, 0, 0, 0) :: (100, .iinc 6 1, 0, 0, 0) :: (103, .goto (-33), 0, 0, 0) :: am_c261_106
def am_c261_53 : AmCd := (53, .aload_n 0, 0, 0, 0) :: (54, .getfield 122, 10, 49, 1) :: (57, .iload_n 3, 0, 0, 0) :: (58, .iconst 2, 0, 0, 0) :: (59, .aload_n 0, 0, 0, 0) :: (60, .getfield 104, 10, 42, 1) :: (63, .iconst 0, 0, 0, 0) :: (64, .iaload, 0, 0, 0) :: (65, .imul, 0, 0, 0) :: (66, .iastore, 0, 0, 0) :: (67, .iconst 0, 0, 0, 0) :: (68, .istore 6, 0, 0, 0) :: am_c261_70
def am_c261_2 : AmCd := (2, .iload_n 3, 0, 0, 0) :: (3, .aload_n 0, 0, 0, 0) :: (4, .getfield 83, 10, 24, 1) :: (7, .iload_n 1, 0, 0, 0) :: (8, .iaload, 0, 0, 0) :: (9, .if_icmp .ge 103, 0, 0, 0) :: (12, .aload_n 0, 0, 0, 0) :: (13, .getfield 86, 10, 25, 1) :: (16, .iconst 4, 0, 0, 0) :: (17, .iload_n 1, 0, 0, 0) :: (18, .imul, 0, 0, 0) :: (19, .iload_n 3, 0, 0, 0) :: (20, .iadd, 0, 0, 0) :: (21, .iaload, 0, 0, 0) :: (22, .istore 4, 0, 0, 0) :: (24, .aload_n 0, 0, 0, 0) :: (25, .iload_n 2, 0, 0, 0) :: (26, .aload_n 0, 0, 0, 0) :: (27, .getfield 49, 10, 13, 1) :: (30, .iload 4, 0, 0, 0) :: (32, .iaload, 0, 0, 0) :: (33, .aload_n 0, 0, 0, 0) :: (34, .getfield 52, 10, 14, 1) :: (37, .iload 4, 0, 0, 0) :: (39, .iaload, 0, 0, 0) :: (40, .invokevirtual 240, 240, 4, 0) :: (43, .istore 5, 0, 0, 0) :: (45, .iload 5, 0, 0, 0) :: (47, .ifCond .le 6, 0, 0, 0) :: (50, .iload 5, 0, 0, 0) :: (52, .ireturn, 0, 0, 0) :: am_c261_53
def am_c261_0 : AmCd := (0, .iconst 0, 0, 0, 0) :: (1, .istore_n 3, 0, 0, 0) :: am_c261_2
def am_c262_126 : AmCd := (126, .aload_n 0, 0, 0, 0) :: (127, .getfield 274, 10, 47, 0) :: (130, .ireturn, 0, 0, 0) :: []
def am_c262_107 : AmCd := (107, .iastore, 0, 0, 0) :: (108, .aload_n 0, 0, 0, 0) :: (109, .getfield 77, 10, 22, 1) :: (112, .iload 5, 0, 0, 0) :: (114, .iload 4, 0, 0, 0) :: (116, .invokestatic 255, 245, 1, 1) :: (119, .iastore, 0, 0, 0) :: (120, .iinc 2 1, 0, 0, 0) :: (123, .goto (-121), 0, 0, 0) :: am_c262_126
def am_c262_106 : AmCd := (106, .iconst 0, 0, 0, 0) :: am_c262_107
def am_c262_53 : AmCd := (53, .iload_n 3, 0, 0, 0) :: (54, .iload 4, 0, 0, 0) :: (56, .invokestatic 246, 242, 1, 1) :: (59, .iload 4, 0, 0, 0) :: (61, .invokestatic 249, 243, 1, 1) :: (64, .iload 4, 0, 0, 0) :: (66, .invokestatic 252, 244, 1, 1) :: (69, .invokestatic 268, 251, 4, 1) :: (72, .istore 5, 0, 0, 0) :: (74, .iload_n 1, 0, 0, 0) :: (75, .iload_n 2, 0, 0, 0) :: (76, .iadd, 0, 0, 0) :: (77, .istore 6, 0, 0, 0) :: (79, .aload_n 0, 0, 0, 0) :: (80, .getfield 74, 10, 21, 1) :: (83, .iload 5, 0, 0, 0) :: (85, .iload 6, 0, 0, 0) :: (87, .aload_n 0, 0, 0, 0) :: (88, .getfield 13, 10, 1, 1) :: (91, .aload_n 0, 0, 0, 0) :: (92, .getfield 46, 10, 12, 1) :: (95, .iload_n 3, 0, 0, 0) :: (96, .iaload, 0, 0, 0) :: (97, .iaload, 0, 0, 0) :: (98, .if_icmp .gt 8, 0, 0, 0) :: (101, .iload 6, 0, 0, 0) :: (103, .goto 4, 0, 0, 0) :: am_c262_106
def am_c262_2 : AmCd := (2, .iload_n 2, 0, 0, 0) :: (3, .aload_n 0, 0, 0, 0) :: (4, .getfield 274, 10, 47, 0) :: (7, .if_icmp .ge 119, 0, 0, 0) :: (10, .aload_n 0, 0, 0, 0) :: (11, .getfield 110, 10, 44, 1) :: (14, .iload_n 2, 0, 0, 0) :: (15, .iaload, 0, 0, 0) :: (16, .istore_n 3, 0, 0, 0) :: (17, .aload_n 0, 0, 0, 0) :: (18, .getfield 116, 10, 46, 1) :: (21, .iload_n 2, 0, 0, 0) :: (22, .iaload, 0, 0, 0) :: (23, .istore 4, 0, 0, 0) :: (25, .aload_n 0, 0, 0, 0) :: (26, .getfield 70, 10, 20, 1) :: (29, .iload_n 3, 0, 0, 0) :: (30, .iload 4, 0, 0, 0) :: (32, .invokestatic 246, 242, 1, 1) :: (35, .iload 4, 0, 0, 0) :: (37, .invokestatic 249, 243, 1, 1) :: (40, .invokestatic 258, 250, 3, 1) :: (43, .baload, 0, 0, 0) :: (44, .ifCond .eq 9, 0, 0, 0) :: (47, .aload_n 0, 0, 0, 0) :: (48, .iconst 1, 0, 0, 0) :: (49, .invokevirtual 171, 203, 2, 0) :: (52, .ireturn, 0, 0, 0) :: am_c262_53
def am_c262_0 : AmCd := (0, .iconst 0, 0, 0, 0) :: (1, .istore_n 2, 0, 0, 0) :: am_c262_2
def am_c263_83 : AmCd := (83, .ireturn, 0, 0, 0) :: []
def am_c263_62 : AmCd := (62, .aload_n 0, 0, 0, 0) :: (63, .getfield 74, 10, 21, 1) :: (66, .iload_n 2, 0, 0, 0) :: (67, .iload_n 3, 0, 0, 0) :: (68, .invokestatic 246, 242, 1, 1) :: (71, .iload_n 3, 0, 0, 0) :: (72, .invokestatic 249, 243, 1, 1) :: (75, .iload_n 3, 0, 0, 0) :: (76, .invokestatic 252, 244, 1, 1) :: (79, .invokestatic 268, 251, 4, 1) :: (82, .iaload, 0, 0, 0) :: am_c263_83
def am_c263_20 : AmCd := (20, .aload_n 0, 0, 0, 0) :: (21, .getfield 110, 10, 44, 1) :: (24, .iload_n 1, 0, 0, 0) :: (25, .iaload, 0, 0, 0) :: (26, .istore_n 2, 0, 0, 0) :: (27, .aload_n 0, 0, 0, 0) :: (28, .getfield 116, 10, 46, 1) :: (31, .iload_n 1, 0, 0, 0) :: (32, .iaload, 0, 0, 0) :: (33, .istore_n 3, 0, 0, 0) :: (34, .aload_n 0, 0, 0, 0) :: (35, .getfield 70, 10, 20, 1) :: (38, .iload_n 2, 0, 0, 0) :: (39, .iload_n 3, 0, 0, 0) :: (40, .invokestatic 246, 242, 1, 1) :: (43, .iload_n 3, 0, 0, 0) :: (44, .invokestatic 249, 243, 1, 1) :: (47, .invokestatic 258, 250, 3, 1) :: (50, .baload, 0, 0, 0) :: (51, .ifCond .eq 11, 0, 0, 0) :: (54, .aload_n 0, 0, 0, 0) :: (55, .iconst 1, 0, 0, 0) :: (56, .invokevirtual 171, 203, 2, 0) :: (59, .goto 24, 0, 0, 0) :: am_c263_62
def am_c263_0 : AmCd := (0, .iload_n 1, 0, 0, 0) :: (1, .iconst 0, 0, 0, 0) :: (2, .aload_n 0, 0, 0, 0) :: (3, .getfield 274, 10, 47, 0) :: (6, .iconst 1, 0, 0, 0) :: (7, .isub, 0, 0, 0) :: (8, .invokestatic 152, 197, 3, 1) :: (11, .ifCond .ne 9, 0, 0, 0) :: (14, .aload_n 0, 0, 0, 0) :: (15, .iconst 2, 0, 0, 0) :: (16, .invokevirtual 171, 203, 2, 0) :: (19, .ireturn, 0, 0, 0) :: am_c263_20
def am_c264_77 : AmCd := (77, .ireturn, 0, 0, 0) :: []
def am_c264_72 : AmCd := (72, .aload_n 0, 0, 0, 0) :: (73, .iload_n 3, 0, 0, 0) :: (74, .invokevirtual 283, 262, 2, 0) :: am_c264_77
def am_c264_41 : AmCd := (41, .aload_n 0, 0, 0, 0) :: (42, .invokevirtual 160, 201, 1, 0) :: (45, .aload_n 0, 0, 0, 0) :: (46, .iconst 0, 0, 0, 0) :: (47, .putfield 274, 10, 47, 0) :: (50, .aload_n 0, 0, 0, 0) :: (51, .iload_n 1, 0, 0, 0) :: (52, .iload_n 2, 0, 0, 0) :: (53, .invokevirtual 280, 260, 3, 0) :: (56, .istore 4, 0, 0, 0) :: (58, .iload 4, 0, 0, 0) :: (60, .ifCond .le 12, 0, 0, 0) :: (63, .aload_n 0, 0, 0, 0) :: (64, .iload 4, 0, 0, 0) :: (66, .invokevirtual 171, 203, 2, 0) :: (69, .goto 8, 0, 0, 0) :: am_c264_72
def am_c264_29 : AmCd := (29, .iload_n 3, 0, 0, 0) :: (30, .iconst 1, 0, 0, 0) :: (31, .bipush 24, 0, 0, 0) :: (33, .invokestatic 152, 197, 3, 1) :: (36, .ifCond .ne 5, 0, 0, 0) :: (39, .iconst (-1), 0, 0, 0) :: (40, .ireturn, 0, 0, 0) :: am_c264_41
def am_c264_26 : AmCd := (26, .bipush (-2), 0, 0, 0) :: (28, .ireturn, 0, 0, 0) :: am_c264_29
def am_c264_10 : AmCd := (10, .aload_n 0, 0, 0, 0) :: (11, .iload_n 1, 0, 0, 0) :: (12, .invokevirtual 261, 249, 2, 0) :: (15, .ifCond .eq 11, 0, 0, 0) :: (18, .aload_n 0, 0, 0, 0) :: (19, .iload_n 2, 0, 0, 0) :: (20, .invokevirtual 192, 224, 2, 0) :: (23, .ifCond .ne 6, 0, 0, 0) :: am_c264_26
def am_c264_0 : AmCd := (0, .aload_n 0, 0, 0, 0) :: (1, .invokevirtual 148, 202, 1, 0) :: (4, .ifCond .eq 6, 0, 0, 0) :: (7, .bipush (-4), 0, 0, 0) :: (9, .ireturn, 0, 0, 0) :: am_c264_10
def am_c265_51 : AmCd := (51, .ireturn, 0, 0, 0) :: []
def am_c265_46 : AmCd := (46, .aload_n 0, 0, 0, 0) :: (47, .iload_n 3, 0, 0, 0) :: (48, .invokevirtual 286, 263, 2, 0) :: am_c265_51
def am_c265_19 : AmCd := (19, .aload_n 0, 0, 0, 0) :: (20, .iconst 0, 0, 0, 0) :: (21, .putfield 274, 10, 47, 0) :: (24, .aload_n 0, 0, 0, 0) :: (25, .iload_n 1, 0, 0, 0) :: (26, .iload_n 2, 0, 0, 0) :: (27, .invokevirtual 280, 260, 3, 0) :: (30, .istore 4, 0, 0, 0) :: (32, .iload 4, 0, 0, 0) :: (34, .ifCond .le 12, 0, 0, 0) :: (37, .aload_n 0, 0, 0, 0) :: (38, .iload 4, 0, 0, 0) :: (40, .invokevirtual 171, 203, 2, 0) :: (43, .goto 8, 0, 0, 0) :: am_c265_46
def am_c265_16 : AmCd := (16, .bipush (-2), 0, 0, 0) :: (18, .ireturn, 0, 0, 0) :: am_c265_19
def am_c265_0 : AmCd := (0, .aload_n 0, 0, 0, 0) :: (1, .iload_n 1, 0, 0, 0) :: (2, .invokevirtual 261, 249, 2, 0) :: (5, .ifCond .eq 11, 0, 0, 0) :: (8, .aload_n 0, 0, 0, 0) :: (9, .iload_n 2, 0, 0, 0) :: (10, .invokevirtual 192, 224, 2, 0) :: (13, .ifCond .ne 6, 0, 0, 0) :: am_c265_16
def am_c266_140 : AmCd := (140, .putfield 289, 10, 50, 0) :: (143, .iload 10, 0, 0, 0) :: (145, .ireturn, 0, 0, 0) :: []
def am_c266_121 : AmCd := (121, .aload_n 0, 0, 0, 0) :: (122, .getfield 28, 10, 6, 1) :: (125, .bipush 10, 0, 0, 0) :: (127, .bipush 8, 0, 0, 0) :: (129, .iload 7, 0, 0, 0) :: (131, .imul, 0, 0, 0) :: (132, .iload 8, 0, 0, 0) :: (134, .iadd, 0, 0, 0) :: (135, .imul, 0, 0, 0) :: (136, .iload 9, 0, 0, 0) :: (138, .iadd, 0, 0, 0) :: (139, .iaload, 0, 0, 0) :: am_c266_140
def am_c266_97 : AmCd := (97, .istore 9, 0, 0, 0) :: (99, .aload_n 0, 0, 0, 0) :: (100, .iload 7, 0, 0, 0) :: (102, .iload 8, 0, 0, 0) :: (104, .iload 9, 0, 0, 0) :: (106, .invokevirtual 178, 213, 4, 0) :: (109, .istore 10, 0, 0, 0) :: (111, .aload_n 0, 0, 0, 0) :: (112, .iload 10, 0, 0, 0) :: (114, .ifCond .le 7, 0, 0, 0) :: (117, .iconst 0, 0, 0, 0) :: (118, .goto 22, 0, 0, 0) :: am_c266_121
def am_c266_95 : AmCd := (95, .iload 4, 0, 0, 0) :: am_c266_97
def am_c266_68 : AmCd := (68, .istore 8, 0, 0, 0) :: (70, .aload_n 0, 0, 0, 0) :: (71, .getfield 77, 10, 22, 1) :: (74, .iload_n 2, 0, 0, 0) :: (75, .iaload, 0, 0, 0) :: (76, .iconst 1, 0, 0, 0) :: (77, .if_icmp .ne 18, 0, 0, 0) :: (80, .aload_n 0, 0, 0, 0) :: (81, .getfield 19, 10, 3, 1) :: (84, .iload 5, 0, 0, 0) :: (86, .iaload, 0, 0, 0) :: (87, .iconst 1, 0, 0, 0) :: (88, .isub, 0, 0, 0) :: (89, .iload 4, 0, 0, 0) :: (91, .isub, 0, 0, 0) :: (92, .goto 5, 0, 0, 0) :: am_c266_95
def am_c266_67 : AmCd := (67, .iload_n 3, 0, 0, 0) :: am_c266_68
def am_c266_34 : AmCd := (34, .iload 5, 0, 0, 0) :: (36, .iload 6, 0, 0, 0) :: (38, .invokestatic 163, 207, 2, 1) :: (41, .istore 7, 0, 0, 0) :: (43, .aload_n 0, 0, 0, 0) :: (44, .getfield 77, 10, 22, 1) :: (47, .iload_n 2, 0, 0, 0) :: (48, .iaload, 0, 0, 0) :: (49, .iconst 1, 0, 0, 0) :: (50, .if_icmp .ne 17, 0, 0, 0) :: (53, .aload_n 0, 0, 0, 0) :: (54, .getfield 16, 10, 2, 1) :: (57, .iload 5, 0, 0, 0) :: (59, .iaload, 0, 0, 0) :: (60, .iconst 1, 0, 0, 0) :: (61, .isub, 0, 0, 0) :: (62, .iload_n 3, 0, 0, 0) :: (63, .isub, 0, 0, 0) :: (64, .goto 4, 0, 0, 0) :: am_c266_67
def am_c266_0 : AmCd := (0, .aload_n 0, 0, 0, 0) :: (1, .getfield 46, 10, 12, 1) :: (4, .iload_n 1, 0, 0, 0) :: (5, .iaload, 0, 0, 0) :: (6, .istore 5, 0, 0, 0) :: (8, .aload_n 0, 0, 0, 0) :: (9, .getfield 74, 10, 21, 1) :: (12, .iload_n 2, 0, 0, 0) :: (13, .iaload, 0, 0, 0) :: (14, .istore 6, 0, 0, 0) :: (16, .iload 6, 0, 0, 0) :: (18, .iconst 1, 0, 0, 0) :: (19, .aload_n 0, 0, 0, 0) :: (20, .getfield 13, 10, 1, 1) :: (23, .iload 5, 0, 0, 0) :: (25, .iaload, 0, 0, 0) :: (26, .invokestatic 152, 197, 3, 1) :: (29, .ifCond .ne 5, 0, 0, 0) :: (32, .iconst 1, 0, 0, 0) :: (33, .ireturn, 0, 0, 0) :: am_c266_34
def am_c267_80 : AmCd := (80, .ireturn, 0, 0, 0) :: []
def am_c267_76 : AmCd := (76, .aload_n 0, 0, 0, 0) :: (77, .getfield 289, 10, 50, 0) :: am_c267_80
def am_c267_60 : AmCd := (60, .istore 7, 0, 0, 0) :: (62, .iload 7, 0, 0, 0) :: (64, .ifCond .le 12, 0, 0, 0) :: (67, .aload_n 0, 0, 0, 0) :: (68, .iload 7, 0, 0, 0) :: (70, .invokevirtual 171, 203, 2, 0) :: (73, .goto 7, 0, 0, 0) :: am_c267_76
def am_c267_43 : AmCd := (43, .aload_n 0, 0, 0, 0) :: (44, .iload_n 1, 0, 0, 0) :: (45, .iload_n 1, 0, 0, 0) :: (46, .iload_n 2, 0, 0, 0) :: (47, .iload_n 3, 0, 0, 0) :: (48, .iload 4, 0, 0, 0) :: (50, .invokestatic 268, 251, 4, 1) :: (53, .iload 5, 0, 0, 0) :: (55, .iload 6, 0, 0, 0) :: (57, .invokevirtual 292, 266, 5, 0) :: am_c267_60
def am_c267_22 : AmCd := (22, .aload_n 0, 0, 0, 0) :: (23, .iload_n 1, 0, 0, 0) :: (24, .iload_n 2, 0, 0, 0) :: (25, .iload_n 3, 0, 0, 0) :: (26, .iload 4, 0, 0, 0) :: (28, .invokevirtual 264, 254, 5, 0) :: (31, .istore 7, 0, 0, 0) :: (33, .iload 7, 0, 0, 0) :: (35, .ifCond .le 8, 0, 0, 0) :: (38, .iload 7, 0, 0, 0) :: (40, .goto 20, 0, 0, 0) :: am_c267_43
def am_c267_11 : AmCd := (11, .iload_n 2, 0, 0, 0) :: (12, .iconst 0, 0, 0, 0) :: (13, .iconst 1, 0, 0, 0) :: (14, .invokestatic 152, 197, 3, 1) :: (17, .ifCond .ne 5, 0, 0, 0) :: (20, .iconst (-1), 0, 0, 0) :: (21, .ireturn, 0, 0, 0) :: am_c267_22
def am_c267_0 : AmCd := (0, .aload_n 0, 0, 0, 0) :: (1, .iload_n 1, 0, 0, 0) :: (2, .invokevirtual 261, 249, 2, 0) :: (5, .ifCond .ne 6, 0, 0, 0) :: (8, .bipush (-2), 0, 0, 0) :: (10, .ireturn, 0, 0, 0) :: am_c267_11
def am_c268_0 : AmCd := (0, .iload_n 1, 0, 0, 0) :: (1, .iconst 0, 0, 0, 0) :: (2, .aload_n 0, 0, 0, 0) :: (3, .getfield 7, 10, 0, 1) :: (6, .iconst 3, 0, 0, 0) :: (7, .iaload, 0, 0, 0) :: (8, .iconst 1, 0, 0, 0) :: (9, .isub, 0, 0, 0) :: (10, .invokestatic 152, 197, 3, 1) :: (13, .ireturn, 0, 0, 0) :: []
def am_c269_34 : AmCd := (34, .aload_n 0, 0, 0, 0) :: (35, .invokevirtual 160, 201, 1, 0) :: (38, .aload_n 0, 0, 0, 0) :: (39, .getfield 7, 10, 0, 1) :: (42, .iconst 3, 0, 0, 0) :: (43, .iaload, 0, 0, 0) :: (44, .istore_n 2, 0, 0, 0) :: (45, .aload_n 0, 0, 0, 0) :: (46, .getfield 7, 10, 0, 1) :: (49, .iconst 3, 0, 0, 0) :: (50, .dup2, 0, 0, 0) :: (51, .iaload, 0, 0, 0) :: (52, .iconst 1, 0, 0, 0) :: (53, .iadd, 0, 0, 0) :: (54, .iastore, 0, 0, 0) :: (55, .aload_n 0, 0, 0, 0) :: (56, .getfield 80, 10, 23, 1) :: (59, .iload_n 2, 0, 0, 0) :: (60, .iload_n 1, 0, 0, 0) :: (61, .iastore, 0, 0, 0) :: (62, .aload_n 0, 0, 0, 0) :: (63, .getfield 83, 10, 24, 1) :: (66, .iload_n 2, 0, 0, 0) :: (67, .iconst 0, 0, 0, 0) :: (68, .iastore, 0, 0, 0) :: (69, .aload_n 0, 0, 0, 0) :: (70, .getfield 89, 10, 26, 1) :: (73, .iload_n 2, 0, 0, 0) :: (74, .iconst 0, 0, 0, 0) :: (75, .bastore, 0, 0, 0) :: (76, .iload_n 2, 0, 0, 0) :: (77, .ireturn, 0, 0, 0) :: []
def am_c269_21 : AmCd := (21, .aload_n 0, 0, 0, 0) :: (22, .getfield 7, 10, 0, 1) :: (25, .iconst 3, 0, 0, 0) :: (26, .iaload, 0, 0, 0) :: (27, .iconst 4, 0, 0, 0) :: (28, .if_icmp .ne 6, 0, 0, 0) :: (31, .bipush (-3), 0, 0, 0) :: (33, .ireturn, 0, 0, 0) :: am_c269_34
def am_c269_10 : AmCd := (10, .iload_n 1, 0, 0, 0) :: (11, .iconst 0, 0, 0, 0) :: (12, .iconst 1, 0, 0, 0) :: (13, .invokestatic 152, 197, 3, 1) :: (16, .ifCond .ne 5, 0, 0, 0) :: (19, .iconst (-1), 0, 0, 0) :: (20, .ireturn, 0, 0, 0) :: am_c269_21
def am_c269_0 : AmCd := (0, .aload_n 0, 0, 0, 0) :: (1, .invokevirtual 148, 202, 1, 0) :: (4, .ifCond .eq 6, 0, 0, 0) :: (7, .bipush (-4), 0, 0, 0) :: (9, .ireturn, 0, 0, 0) :: am_c269_10
def am_c270_54 : AmCd := (54, .aload_n 0, 0, 0, 0) :: (55, .invokevirtual 160, 201, 1, 0) :: (58, .aload_n 0, 0, 0, 0) :: (59, .getfield 67, 10, 19, 1) :: (62, .iload_n 2, 0, 0, 0) :: (63, .iload_n 1, 0, 0, 0) :: (64, .iastore, 0, 0, 0) :: (65, .aload_n 0, 0, 0, 0) :: (66, .getfield 86, 10, 25, 1) :: (69, .iconst 4, 0, 0, 0) :: (70, .iload_n 1, 0, 0, 0) :: (71, .imul, 0, 0, 0) :: (72, .aload_n 0, 0, 0, 0) :: (73, .getfield 83, 10, 24, 1) :: (76, .iload_n 1, 0, 0, 0) :: (77, .iaload, 0, 0, 0) :: (78, .iadd, 0, 0, 0) :: (79, .iload_n 2, 0, 0, 0) :: (80, .iastore, 0, 0, 0) :: (81, .aload_n 0, 0, 0, 0) :: (82, .getfield 83, 10, 24, 1) :: (85, .iload_n 1, 0, 0, 0) :: (86, .dup2, 0, 0, 0) :: (87, .iaload, 0, 0, 0) :: (88, .iconst 1, 0, 0, 0) :: (89, .iadd, 0, 0, 0) :: (90, .iastore, 0, 0, 0) :: (91, .aload_n 0, 0, 0, 0) :: (92, .getfield 83, 10, 24, 1) :: (95, .iload_n 1, 0, 0, 0) :: (96, .iaload, 0, 0, 0) :: (97, .ireturn, 0, 0, 0) :: []
def am_c270_41 : AmCd := (41, .aload_n 0, 0, 0, 0) :: (42, .getfield 83, 10, 24, 1) :: (45, .iload_n 1, 0, 0, 0) :: (46, .iaload, 0, 0, 0) :: (47, .iconst 4, 0, 0, 0) :: (48, .if_icmp .ne 6, 0, 0, 0) :: (51, .bipush (-3), 0, 0, 0) :: (53, .ireturn, 0, 0, 0) :: am_c270_54
def am_c270_29 : AmCd := (29, .aload_n 0, 0, 0, 0) :: (30, .getfield 67, 10, 19, 1) :: (33, .iload_n 2, 0, 0, 0) :: (34, .iaload, 0, 0, 0) :: (35, .ifCond .lt 6, 0, 0, 0) :: (38, .bipush (-5), 0, 0, 0) :: (40, .ireturn, 0, 0, 0) :: am_c270_41
def am_c270_26 : AmCd := (26, .bipush (-2), 0, 0, 0) :: (28, .ireturn, 0, 0, 0) :: am_c270_29
def am_c270_10 : AmCd := (10, .aload_n 0, 0, 0, 0) :: (11, .iload_n 1, 0, 0, 0) :: (12, .invokevirtual 295, 268, 2, 0) :: (15, .ifCond .eq 11, 0, 0, 0) :: (18, .aload_n 0, 0, 0, 0) :: (19, .iload_n 2, 0, 0, 0) :: (20, .invokevirtual 261, 249, 2, 0) :: (23, .ifCond .ne 6, 0, 0, 0) :: am_c270_26
def am_c270_0 : AmCd := (0, .aload_n 0, 0, 0, 0) :: (1, .invokevirtual 148, 202, 1, 0) :: (4, .ifCond .eq 6, 0, 0, 0) :: (7, .bipush (-4), 0, 0, 0) :: (9, .ireturn, 0, 0, 0) :: am_c270_10
def am_c271_77 : AmCd := (77, .ireturn, 0, 0, 0) :: []
def am_c271_72 : AmCd := (72, .aload_n 0, 0, 0, 0) :: (73, .iload_n 3, 0, 0, 0) :: (74, .invokevirtual 283, 262, 2, 0) :: am_c271_77
def am_c271_41 : AmCd := (41, .aload_n 0, 0, 0, 0) :: (42, .invokevirtual 160, 201, 1, 0) :: (45, .aload_n 0, 0, 0, 0) :: (46, .iconst 0, 0, 0, 0) :: (47, .putfield 274, 10, 47, 0) :: (50, .aload_n 0, 0, 0, 0) :: (51, .iload_n 1, 0, 0, 0) :: (52, .iload_n 2, 0, 0, 0) :: (53, .invokevirtual 298, 261, 3, 0) :: (56, .istore 4, 0, 0, 0) :: (58, .iload 4, 0, 0, 0) :: (60, .ifCond .le 12, 0, 0, 0) :: (63, .aload_n 0, 0, 0, 0) :: (64, .iload 4, 0, 0, 0) :: (66, .invokevirtual 171, 203, 2, 0) :: (69, .goto 8, 0, 0, 0) :: am_c271_72
def am_c271_29 : AmCd := (29, .iload_n 3, 0, 0, 0) :: (30, .iconst 1, 0, 0, 0) :: (31, .bipush 24, 0, 0, 0) :: (33, .invokestatic 152, 197, 3, 1) :: (36, .ifCond .ne 5, 0, 0, 0) :: (39, .iconst (-1), 0, 0, 0) :: (40, .ireturn, 0, 0, 0) :: am_c271_41
def am_c271_26 : AmCd := (26, .bipush (-2), 0, 0, 0) :: (28, .ireturn, 0, 0, 0) :: am_c271_29
def am_c271_10 : AmCd := (10, .aload_n 0, 0, 0, 0) :: (11, .iload_n 1, 0, 0, 0) :: (12, .invokevirtual 295, 268, 2, 0) :: (15, .ifCond .eq 11, 0, 0, 0) :: (18, .aload_n 0, 0, 0, 0) :: (19, .iload_n 2, 0, 0, 0) :: (20, .invokevirtual 192, 224, 2, 0) :: (23, .ifCond .ne 6, 0, 0, 0) :: am_c271_26
def am_c271_0 : AmCd := (0, .aload_n 0, 0, 0, 0) :: (1, .invokevirtual 148, 202, 1, 0) :: (4, .ifCond .eq 6, 0, 0, 0) :: (7, .bipush (-4), 0, 0, 0) :: (9, .ireturn, 0, 0, 0) :: am_c271_10
def am_c272_109 : AmCd := (109, .ireturn, 0, 0, 0) :: []
def am_c272_103 : AmCd := (103, .aload_n 0, 0, 0, 0) :: (104, .getfield 113, 10, 45, 1) :: (107, .iload_n 3, 0, 0, 0) :: (108, .iaload, 0, 0, 0) :: am_c272_109
def am_c272_89 : AmCd := (89, .iload 4, 0, 0, 0) :: (91, .ifCond .ne 12, 0, 0, 0) :: (94, .aload_n 0, 0, 0, 0) :: (95, .getfield 110, 10, 44, 1) :: (98, .iload_n 3, 0, 0, 0) :: (99, .iaload, 0, 0, 0) :: (100, .goto 9, 0, 0, 0) :: am_c272_103
def am_c272_73 : AmCd := (73, .istore 5, 0, 0, 0) :: (75, .iload 5, 0, 0, 0) :: (77, .ifCond .le 12, 0, 0, 0) :: (80, .aload_n 0, 0, 0, 0) :: (81, .iload 5, 0, 0, 0) :: (83, .invokevirtual 171, 203, 2, 0) :: (86, .goto 23, 0, 0, 0) :: am_c272_89
def am_c272_72 : AmCd := (72, .iconst 2, 0, 0, 0) :: am_c272_73
def am_c272_54 : AmCd := (54, .iload_n 3, 0, 0, 0) :: (55, .iconst 0, 0, 0, 0) :: (56, .aload_n 0, 0, 0, 0) :: (57, .getfield 274, 10, 47, 0) :: (60, .iconst 1, 0, 0, 0) :: (61, .isub, 0, 0, 0) :: (62, .invokestatic 152, 197, 3, 1) :: (65, .ifCond .eq 7, 0, 0, 0) :: (68, .iconst 0, 0, 0, 0) :: (69, .goto 4, 0, 0, 0) :: am_c272_72
def am_c272_31 : AmCd := (31, .aload_n 0, 0, 0, 0) :: (32, .iconst 0, 0, 0, 0) :: (33, .putfield 274, 10, 47, 0) :: (36, .aload_n 0, 0, 0, 0) :: (37, .iload_n 1, 0, 0, 0) :: (38, .iload_n 2, 0, 0, 0) :: (39, .invokevirtual 298, 261, 3, 0) :: (42, .istore 5, 0, 0, 0) :: (44, .iload 5, 0, 0, 0) :: (46, .ifCond .le 8, 0, 0, 0) :: (49, .iload 5, 0, 0, 0) :: (51, .goto 22, 0, 0, 0) :: am_c272_54
def am_c272_19 : AmCd := (19, .iload 4, 0, 0, 0) :: (21, .iconst 0, 0, 0, 0) :: (22, .iconst 1, 0, 0, 0) :: (23, .invokestatic 152, 197, 3, 1) :: (26, .ifCond .ne 5, 0, 0, 0) :: (29, .iconst (-1), 0, 0, 0) :: (30, .ireturn, 0, 0, 0) :: am_c272_31
def am_c272_16 : AmCd := (16, .bipush (-2), 0, 0, 0) :: (18, .ireturn, 0, 0, 0) :: am_c272_19
def am_c272_0 : AmCd := (0, .aload_n 0, 0, 0, 0) :: (1, .iload_n 1, 0, 0, 0) :: (2, .invokevirtual 295, 268, 2, 0) :: (5, .ifCond .eq 11, 0, 0, 0) :: (8, .aload_n 0, 0, 0, 0) :: (9, .iload_n 2, 0, 0, 0) :: (10, .invokevirtual 192, 224, 2, 0) :: (13, .ifCond .ne 6, 0, 0, 0) :: am_c272_16
def am_c273_63 : AmCd := (63, .ireturn, 0, 0, 0) :: []
def am_c273_62 : AmCd := (62, .iconst 0, 0, 0, 0) :: am_c273_63
def am_c273_41 : AmCd := (41, .aload_n 0, 0, 0, 0) :: (42, .getfield 80, 10, 23, 1) :: (45, .iload_n 1, 0, 0, 0) :: (46, .iaload, 0, 0, 0) :: (47, .iconst 1, 0, 0, 0) :: (48, .if_icmp .ne 14, 0, 0, 0) :: (51, .iload_n 3, 0, 0, 0) :: (52, .aload_n 0, 0, 0, 0) :: (53, .iload_n 2, 0, 0, 0) :: (54, .iconst 0, 0, 0, 0) :: (55, .invokevirtual 202, 231, 3, 0) :: (58, .imul, 0, 0, 0) :: (59, .goto 4, 0, 0, 0) :: am_c273_62
def am_c273_19 : AmCd := (19, .iload_n 3, 0, 0, 0) :: (20, .iconst 0, 0, 0, 0) :: (21, .aload_n 0, 0, 0, 0) :: (22, .getfield 83, 10, 24, 1) :: (25, .iload_n 1, 0, 0, 0) :: (26, .iaload, 0, 0, 0) :: (27, .iconst 1, 0, 0, 0) :: (28, .isub, 0, 0, 0) :: (29, .invokestatic 152, 197, 3, 1) :: (32, .ifCond .ne 9, 0, 0, 0) :: (35, .aload_n 0, 0, 0, 0) :: (36, .iconst 2, 0, 0, 0) :: (37, .invokevirtual 171, 203, 2, 0) :: (40, .ireturn, 0, 0, 0) :: am_c273_41
def am_c273_16 : AmCd := (16, .bipush (-2), 0, 0, 0) :: (18, .ireturn, 0, 0, 0) :: am_c273_19
def am_c273_0 : AmCd := (0, .aload_n 0, 0, 0, 0) :: (1, .iload_n 1, 0, 0, 0) :: (2, .invokevirtual 295, 268, 2, 0) :: (5, .ifCond .eq 11, 0, 0, 0) :: (8, .aload_n 0, 0, 0, 0) :: (9, .iload_n 2, 0, 0, 0) :: (10, .invokevirtual 192, 224, 2, 0) :: (13, .ifCond .ne 6, 0, 0, 0) :: am_c273_16
def am_c274_33 : AmCd := (33, .aload_n 0, 0, 0, 0) :: (34, .invokevirtual 160, 201, 1, 0) :: (37, .aload_n 0, 0, 0, 0) :: (38, .getfield 89, 10, 26, 1) :: (41, .iload_n 1, 0, 0, 0) :: (42, .iconst 1, 0, 0, 0) :: (43, .bastore, 0, 0, 0) :: (44, .aload_n 0, 0, 0, 0) :: (45, .getfield 92, 10, 27, 1) :: (48, .aload_n 0, 0, 0, 0) :: (49, .getfield 7, 10, 0, 1) :: (52, .iconst 4, 0, 0, 0) :: (53, .iaload, 0, 0, 0) :: (54, .iload_n 1, 0, 0, 0) :: (55, .iastore, 0, 0, 0) :: (56, .aload_n 0, 0, 0, 0) :: (57, .getfield 7, 10, 0, 1) :: (60, .iconst 4, 0, 0, 0) :: (61, .dup2, 0, 0, 0) :: (62, .iaload, 0, 0, 0) :: (63, .iconst 1, 0, 0, 0) :: (64, .iadd, 0, 0, 0) :: (65, .iastore, 0, 0, 0) :: (66, .aload_n 0, 0, 0, 0) :: (67, .getfield 7, 10, 0, 1) :: (70, .iconst 4, 0, 0, 0) :: (71, .iaload, 0, 0, 0) :: (72, .ireturn, 0, 0, 0) :: []
def am_c274_21 : AmCd := (21, .aload_n 0, 0, 0, 0) :: (22, .getfield 89, 10, 26, 1) :: (25, .iload_n 1, 0, 0, 0) :: (26, .baload, 0, 0, 0) :: (27, .ifCond .eq 6, 0, 0, 0) :: (30, .bipush (-5), 0, 0, 0) :: (32, .ireturn, 0, 0, 0) :: am_c274_33
def am_c274_10 : AmCd := (10, .aload_n 0, 0, 0, 0) :: (11, .iload_n 1, 0, 0, 0) :: (12, .invokevirtual 295, 268, 2, 0) :: (15, .ifCond .ne 6, 0, 0, 0) :: (18, .bipush (-2), 0, 0, 0) :: (20, .ireturn, 0, 0, 0) :: am_c274_21
def am_c274_0 : AmCd := (0, .aload_n 0, 0, 0, 0) :: (1, .invokevirtual 148, 202, 1, 0) :: (4, .ifCond .eq 6, 0, 0, 0) :: (7, .bipush (-4), 0, 0, 0) :: (9, .ireturn, 0, 0, 0) :: am_c274_10
def am_c275_26 : AmCd := (26, .aload_n 0, 0, 0, 0) :: (27, .invokevirtual 160, 201, 1, 0) :: (30, .aload_n 0, 0, 0, 0) :: (31, .getfield 7, 10, 0, 1) :: (34, .iconst 5, 0, 0, 0) :: (35, .iload_n 1, 0, 0, 0) :: (36, .iastore, 0, 0, 0) :: (37, .iconst 1, 0, 0, 0) :: (38, .ireturn, 0, 0, 0) :: []
def am_c275_10 : AmCd := (10, .iload_n 1, 0, 0, 0) :: (11, .iconst (-1), 0, 0, 0) :: (12, .if_icmp .eq 14, 0, 0, 0) :: (15, .aload_n 0, 0, 0, 0) :: (16, .iload_n 1, 0, 0, 0) :: (17, .invokevirtual 261, 249, 2, 0) :: (20, .ifCond .ne 6, 0, 0, 0) :: (23, .bipush (-2), 0, 0, 0) :: (25, .ireturn, 0, 0, 0) :: am_c275_26
def am_c275_0 : AmCd := (0, .aload_n 0, 0, 0, 0) :: (1, .invokevirtual 148, 202, 1, 0) :: (4, .ifCond .eq 6, 0, 0, 0) :: (7, .bipush (-4), 0, 0, 0) :: (9, .ireturn, 0, 0, 0) :: am_c275_10
def am_c276_59 : AmCd := (59, .aload_n 0, 0, 0, 0) :: (60, .iload_n 2, 0, 0, 0) :: (61, .invokevirtual 286, 263, 2, 0) :: (64, .ireturn, 0, 0, 0) :: []
def am_c276_53 : AmCd := (53, .iinc 3 1, 0, 0, 0) :: (56, .goto (-38), 0, 0, 0) :: am_c276_59
def am_c276_18 : AmCd := (18, .iload_n 3, 0, 0, 0) :: (19, .aload_n 0, 0, 0, 0) :: (20, .getfield 7, 10, 0, 1) :: (23, .iconst 4, 0, 0, 0) :: (24, .iaload, 0, 0, 0) :: (25, .if_icmp .ge 34, 0, 0, 0) :: (28, .aload_n 0, 0, 0, 0) :: (29, .aload_n 0, 0, 0, 0) :: (30, .getfield 92, 10, 27, 1) :: (33, .iload_n 3, 0, 0, 0) :: (34, .iaload, 0, 0, 0) :: (35, .iload_n 1, 0, 0, 0) :: (36, .invokevirtual 298, 261, 3, 0) :: (39, .istore 4, 0, 0, 0) :: (41, .iload 4, 0, 0, 0) :: (43, .ifCond .le 10, 0, 0, 0) :: (46, .aload_n 0, 0, 0, 0) :: (47, .iload 4, 0, 0, 0) :: (49, .invokevirtual 171, 203, 2, 0) :: (52, .ireturn, 0, 0, 0) :: am_c276_53
def am_c276_11 : AmCd := (11, .aload_n 0, 0, 0, 0) :: (12, .iconst 0, 0, 0, 0) :: (13, .putfield 274, 10, 47, 0) :: (16, .iconst 0, 0, 0, 0) :: (17, .istore_n 3, 0, 0, 0) :: am_c276_18
def am_c276_0 : AmCd := (0, .aload_n 0, 0, 0, 0) :: (1, .iload_n 1, 0, 0, 0) :: (2, .invokevirtual 192, 224, 2, 0) :: (5, .ifCond .ne 6, 0, 0, 0) :: (8, .bipush (-2), 0, 0, 0) :: (10, .ireturn, 0, 0, 0) :: am_c276_11
def am_c277_60 : AmCd := (60, .ireturn, 0, 0, 0) :: []
def am_c277_55 : AmCd := (55, .aload_n 0, 0, 0, 0) :: (56, .iload_n 2, 0, 0, 0) :: (57, .invokevirtual 286, 263, 2, 0) :: am_c277_60
def am_c277_26 : AmCd := (26, .aload_n 0, 0, 0, 0) :: (27, .iconst 0, 0, 0, 0) :: (28, .putfield 274, 10, 47, 0) :: (31, .aload_n 0, 0, 0, 0) :: (32, .aload_n 0, 0, 0, 0) :: (33, .getfield 7, 10, 0, 1) :: (36, .iconst 5, 0, 0, 0) :: (37, .iaload, 0, 0, 0) :: (38, .iload_n 1, 0, 0, 0) :: (39, .invokevirtual 280, 260, 3, 0) :: (42, .istore_n 3, 0, 0, 0) :: (43, .iload_n 3, 0, 0, 0) :: (44, .ifCond .le 11, 0, 0, 0) :: (47, .aload_n 0, 0, 0, 0) :: (48, .iload_n 3, 0, 0, 0) :: (49, .invokevirtual 171, 203, 2, 0) :: (52, .goto 8, 0, 0, 0) :: am_c277_55
def am_c277_11 : AmCd := (11, .aload_n 0, 0, 0, 0) :: (12, .getfield 7, 10, 0, 1) :: (15, .iconst 5, 0, 0, 0) :: (16, .iaload, 0, 0, 0) :: (17, .ifCond .ge 9, 0, 0, 0) :: (20, .aload_n 0, 0, 0, 0) :: (21, .iconst 1, 0, 0, 0) :: (22, .invokevirtual 171, 203, 2, 0) :: (25, .ireturn, 0, 0, 0) :: am_c277_26
def am_c277_0 : AmCd := (0, .aload_n 0, 0, 0, 0) :: (1, .iload_n 1, 0, 0, 0) :: (2, .invokevirtual 192, 224, 2, 0) :: (5, .ifCond .ne 6, 0, 0, 0) :: (8, .bipush (-2), 0, 0, 0) :: (10, .ireturn, 0, 0, 0) :: am_c277_11
def am_c278_29 : AmCd := (29, .aload_n 0, 0, 0, 0) :: (30, .invokevirtual 160, 201, 1, 0) :: (33, .aload_n 0, 0, 0, 0) :: (34, .getfield 55, 10, 15, 1) :: (37, .iload_n 1, 0, 0, 0) :: (38, .iload_n 2, 0, 0, 0) :: (39, .iastore, 0, 0, 0) :: (40, .iconst 1, 0, 0, 0) :: (41, .ireturn, 0, 0, 0) :: []
def am_c278_26 : AmCd := (26, .bipush (-2), 0, 0, 0) :: (28, .ireturn, 0, 0, 0) :: am_c278_29
def am_c278_10 : AmCd := (10, .aload_n 0, 0, 0, 0) :: (11, .iload_n 1, 0, 0, 0) :: (12, .invokevirtual 261, 249, 2, 0) :: (15, .ifCond .eq 11, 0, 0, 0) :: (18, .aload_n 0, 0, 0, 0) :: (19, .iload_n 2, 0, 0, 0) :: (20, .invokevirtual 192, 224, 2, 0) :: (23, .ifCond .ne 6, 0, 0, 0) :: am_c278_26
def am_c278_0 : AmCd := (0, .aload_n 0, 0, 0, 0) :: (1, .invokevirtual 148, 202, 1, 0) :: (4, .ifCond .eq 6, 0, 0, 0) :: (7, .bipush (-4), 0, 0, 0) :: (9, .ireturn, 0, 0, 0) :: am_c278_10
def am_c279_22 : AmCd := (22, .aload_n 0, 0, 0, 0) :: (23, .invokevirtual 160, 201, 1, 0) :: (26, .aload_n 0, 0, 0, 0) :: (27, .getfield 7, 10, 0, 1) :: (30, .bipush 6, 0, 0, 0) :: (32, .iaload, 0, 0, 0) :: (33, .istore_n 2, 0, 0, 0) :: (34, .aload_n 0, 0, 0, 0) :: (35, .getfield 7, 10, 0, 1) :: (38, .bipush 6, 0, 0, 0) :: (40, .iload_n 1, 0, 0, 0) :: (41, .iastore, 0, 0, 0) :: (42, .iload_n 2, 0, 0, 0) :: (43, .ireturn, 0, 0, 0) :: []
def am_c279_10 : AmCd := (10, .iload_n 1, 0, 0, 0) :: (11, .iconst 0, 0, 0, 0) :: (12, .bipush 9, 0, 0, 0) :: (14, .invokestatic 152, 197, 3, 1) :: (17, .ifCond .ne 5, 0, 0, 0) :: (20, .iconst (-1), 0, 0, 0) :: (21, .ireturn, 0, 0, 0) :: am_c279_22
def am_c279_0 : AmCd := (0, .aload_n 0, 0, 0, 0) :: (1, .invokevirtual 148, 202, 1, 0) :: (4, .ifCond .eq 6, 0, 0, 0) :: (7, .bipush (-4), 0, 0, 0) :: (9, .ireturn, 0, 0, 0) :: am_c279_10
def am_c280_30 : AmCd := (30, .iconst (-1), 0, 0, 0) :: (31, .ireturn, 0, 0, 0) :: []
def am_c280_24 : AmCd := (24, .iinc 2 1, 0, 0, 0) :: (27, .goto (-25), 0, 0, 0) :: am_c280_30
def am_c280_2 : AmCd := (2, .iload_n 2, 0, 0, 0) :: (3, .aload_n 0, 0, 0, 0) :: (4, .getfield 7, 10, 0, 1) :: (7, .iconst 2, 0, 0, 0) :: (8, .iaload, 0, 0, 0) :: (9, .if_icmp .ge 21, 0, 0, 0) :: (12, .aload_n 0, 0, 0, 0) :: (13, .getfield 58, 10, 16, 1) :: (16, .iload_n 2, 0, 0, 0) :: (17, .iaload, 0, 0, 0) :: (18, .iload_n 1, 0, 0, 0) :: (19, .if_icmp .ne 5, 0, 0, 0) :: (22, .iload_n 2, 0, 0, 0) :: (23, .ireturn, 0, 0, 0) :: am_c280_24
def am_c280_0 : AmCd := (0, .iconst 0, 0, 0, 0) :: (1, .istore_n 2, 0, 0, 0) :: am_c280_2
def am_c281_42 : AmCd := (42, .aload_n 0, 0, 0, 0) :: (43, .invokevirtual 160, 201, 1, 0) :: (46, .aload_n 0, 0, 0, 0) :: (47, .dup, 0, 0, 0) :: (48, .getfield 304, 10, 34, 0) :: (51, .iconst 1, 0, 0, 0) :: (52, .iadd, 0, 0, 0) :: (53, .putfield 304, 10, 34, 0) :: (56, .aload_n 0, 0, 0, 0) :: (57, .getfield 58, 10, 16, 1) :: (60, .iload_n 1, 0, 0, 0) :: (61, .iconst 0, 0, 0, 0) :: (62, .iastore, 0, 0, 0) :: (63, .aload_n 0, 0, 0, 0) :: (64, .getfield 61, 10, 17, 1) :: (67, .iload_n 1, 0, 0, 0) :: (68, .aload_n 0, 0, 0, 0) :: (69, .getfield 304, 10, 34, 0) :: (72, .iconst 1, 0, 0, 0) :: (73, .isub, 0, 0, 0) :: (74, .iastore, 0, 0, 0) :: (75, .aload_n 0, 0, 0, 0) :: (76, .getfield 304, 10, 34, 0) :: (79, .iconst 1, 0, 0, 0) :: (80, .isub, 0, 0, 0) :: (81, .ireturn, 0, 0, 0) :: []
def am_c281_39 : AmCd := (39, .bipush (-5), 0, 0, 0) :: (41, .ireturn, 0, 0, 0) :: am_c281_42
def am_c281_21 : AmCd := (21, .aload_n 0, 0, 0, 0) :: (22, .getfield 58, 10, 16, 1) :: (25, .iload_n 1, 0, 0, 0) :: (26, .iaload, 0, 0, 0) :: (27, .iconst (-1), 0, 0, 0) :: (28, .if_icmp .ne 11, 0, 0, 0) :: (31, .aload_n 0, 0, 0, 0) :: (32, .iconst 0, 0, 0, 0) :: (33, .invokevirtual 301, 280, 2, 0) :: (36, .ifCond .lt 6, 0, 0, 0) :: am_c281_39
def am_c281_10 : AmCd := (10, .aload_n 0, 0, 0, 0) :: (11, .iload_n 1, 0, 0, 0) :: (12, .invokevirtual 261, 249, 2, 0) :: (15, .ifCond .ne 6, 0, 0, 0) :: (18, .bipush (-2), 0, 0, 0) :: (20, .ireturn, 0, 0, 0) :: am_c281_21
def am_c281_0 : AmCd := (0, .aload_n 0, 0, 0, 0) :: (1, .invokevirtual 148, 202, 1, 0) :: (4, .ifCond .eq 6, 0, 0, 0) :: (7, .bipush (-4), 0, 0, 0) :: (9, .ireturn, 0, 0, 0) :: am_c281_10
def am_c282_10 : AmCd := (10, .aload_n 0, 0, 0, 0) :: (11, .invokevirtual 160, 201, 1, 0) :: (14, .aload_n 0, 0, 0, 0) :: (15, .getfield 7, 10, 0, 1) :: (18, .bipush 7, 0, 0, 0) :: (20, .iconst 1, 0, 0, 0) :: (21, .iastore, 0, 0, 0) :: (22, .iconst 1, 0, 0, 0) :: (23, .ireturn, 0, 0, 0) :: []
def am_c282_0 : AmCd := (0, .aload_n 0, 0, 0, 0) :: (1, .invokevirtual 148, 202, 1, 0) :: (4, .ifCond .eq 6, 0, 0, 0) :: (7, .bipush (-4), 0, 0, 0) :: (9, .ireturn, 0, 0, 0) :: am_c282_10
def am_c283_21 : AmCd := (21, .aload_n 0, 0, 0, 0) :: (22, .invokevirtual 160, 201, 1, 0) :: (25, .aload_n 0, 0, 0, 0) :: (26, .getfield 95, 10, 28, 1) :: (29, .iload_n 1, 0, 0, 0) :: (30, .iconst 1, 0, 0, 0) :: (31, .bastore, 0, 0, 0) :: (32, .iconst 1, 0, 0, 0) :: (33, .ireturn, 0, 0, 0) :: []
def am_c283_10 : AmCd := (10, .iload_n 1, 0, 0, 0) :: (11, .iconst 0, 0, 0, 0) :: (12, .iconst 4, 0, 0, 0) :: (13, .invokestatic 152, 197, 3, 1) :: (16, .ifCond .ne 5, 0, 0, 0) :: (19, .iconst (-1), 0, 0, 0) :: (20, .ireturn, 0, 0, 0) :: am_c283_21
def am_c283_0 : AmCd := (0, .aload_n 0, 0, 0, 0) :: (1, .invokevirtual 148, 202, 1, 0) :: (4, .ifCond .eq 6, 0, 0, 0) :: (7, .bipush (-4), 0, 0, 0) :: (9, .ireturn, 0, 0, 0) :: am_c283_10
def am_c284_124 : AmCd := (124, .iconst 0, 0, 0, 0) :: (125, .ireturn, 0, 0, 0) :: []
def am_c284_118 : AmCd := (118, .iinc 3 1, 0, 0, 0) :: (121, .goto (-119), 0, 0, 0) :: am_c284_124
def am_c284_108 : AmCd := (108, .iadd, 0, 0, 0) :: (109, .putfield 307, 10, 33, 0) :: (112, .iinc 4 1, 0, 0, 0) :: (115, .goto (-84), 0, 0, 0) :: am_c284_118
def am_c284_104 : AmCd := (104, .aload_n 0, 0, 0, 0) :: (105, .getfield 289, 10, 50, 0) :: am_c284_108
def am_c284_85 : AmCd := (85, .aload_n 0, 0, 0, 0) :: (86, .dup, 0, 0, 0) :: (87, .getfield 307, 10, 33, 0) :: (90, .aload_n 0, 0, 0, 0) :: (91, .getfield 74, 10, 21, 1) :: (94, .iload 5, 0, 0, 0) :: (96, .iaload, 0, 0, 0) :: (97, .ifCond .ne 7, 0, 0, 0) :: (100, .iconst 0, 0, 0, 0) :: (101, .goto 7, 0, 0, 0) :: am_c284_104
def am_c284_75 : AmCd := (75, .istore 6, 0, 0, 0) :: (77, .iload 6, 0, 0, 0) :: (79, .ifCond .le 6, 0, 0, 0) :: (82, .iload 6, 0, 0, 0) :: (84, .ireturn, 0, 0, 0) :: am_c284_85
def am_c284_66 : AmCd := (66, .aload_n 0, 0, 0, 0) :: (67, .iload_n 1, 0, 0, 0) :: (68, .iload 5, 0, 0, 0) :: (70, .iconst 0, 0, 0, 0) :: (71, .iconst 0, 0, 0, 0) :: (72, .invokevirtual 292, 266, 5, 0) :: am_c284_75
def am_c284_31 : AmCd := (31, .iload 4, 0, 0, 0) :: (33, .aload_n 0, 0, 0, 0) :: (34, .getfield 52, 10, 14, 1) :: (37, .iload_n 1, 0, 0, 0) :: (38, .iaload, 0, 0, 0) :: (39, .if_icmp .ge 79, 0, 0, 0) :: (42, .iload_n 1, 0, 0, 0) :: (43, .iload_n 2, 0, 0, 0) :: (44, .iload_n 3, 0, 0, 0) :: (45, .iload 4, 0, 0, 0) :: (47, .invokestatic 268, 251, 4, 1) :: (50, .istore 5, 0, 0, 0) :: (52, .aload_n 0, 0, 0, 0) :: (53, .getfield 74, 10, 21, 1) :: (56, .iload 5, 0, 0, 0) :: (58, .iaload, 0, 0, 0) :: (59, .ifCond .ne 7, 0, 0, 0) :: (62, .iconst 0, 0, 0, 0) :: (63, .goto 12, 0, 0, 0) :: am_c284_66
def am_c284_28 : AmCd := (28, .iconst 0, 0, 0, 0) :: (29, .istore 4, 0, 0, 0) :: am_c284_31
def am_c284_2 : AmCd := (2, .iload_n 3, 0, 0, 0) :: (3, .aload_n 0, 0, 0, 0) :: (4, .getfield 49, 10, 13, 1) :: (7, .iload_n 1, 0, 0, 0) :: (8, .iaload, 0, 0, 0) :: (9, .if_icmp .ge 115, 0, 0, 0) :: (12, .aload_n 0, 0, 0, 0) :: (13, .getfield 70, 10, 20, 1) :: (16, .iload_n 1, 0, 0, 0) :: (17, .iload_n 2, 0, 0, 0) :: (18, .iload_n 3, 0, 0, 0) :: (19, .invokestatic 258, 250, 3, 1) :: (22, .baload, 0, 0, 0) :: (23, .ifCond .eq 5, 0, 0, 0) :: (26, .iconst 1, 0, 0, 0) :: (27, .ireturn, 0, 0, 0) :: am_c284_28
def am_c284_0 : AmCd := (0, .iconst 0, 0, 0, 0) :: (1, .istore_n 3, 0, 0, 0) :: am_c284_2
def am_c285_152 : AmCd := (152, .ireturn, 0, 0, 0) :: []
def am_c285_151 : AmCd := (151, .iconst 0, 0, 0, 0) :: am_c285_152
def am_c285_126 : AmCd := (126, .aload_n 0, 0, 0, 0) :: (127, .getfield 7, 10, 0, 1) :: (130, .bipush 6, 0, 0, 0) :: (132, .iaload, 0, 0, 0) :: (133, .aload_n 0, 0, 0, 0) :: (134, .aload_n 0, 0, 0, 0) :: (135, .getfield 55, 10, 15, 1) :: (138, .iload_n 1, 0, 0, 0) :: (139, .iaload, 0, 0, 0) :: (140, .iconst 1, 0, 0, 0) :: (141, .invokevirtual 202, 231, 3, 0) :: (144, .if_icmp .ge 7, 0, 0, 0) :: (147, .iconst 3, 0, 0, 0) :: (148, .goto 4, 0, 0, 0) :: am_c285_151
def am_c285_113 : AmCd := (113, .aload_n 0, 0, 0, 0) :: (114, .getfield 55, 10, 15, 1) :: (117, .iload_n 1, 0, 0, 0) :: (118, .iaload, 0, 0, 0) :: (119, .ifCond .ge 7, 0, 0, 0) :: (122, .iconst 1, 0, 0, 0) :: (123, .goto 29, 0, 0, 0) :: am_c285_126
def am_c285_112 : AmCd := (112, .ireturn, 0, 0, 0) :: am_c285_113
def am_c285_90 : AmCd := (90, .aload_n 0, 0, 0, 0) :: (91, .aload_n 0, 0, 0, 0) :: (92, .getfield 55, 10, 15, 1) :: (95, .iload_n 1, 0, 0, 0) :: (96, .iaload, 0, 0, 0) :: (97, .aload_n 0, 0, 0, 0) :: (98, .getfield 49, 10, 13, 1) :: (101, .iload_n 1, 0, 0, 0) :: (102, .iaload, 0, 0, 0) :: (103, .aload_n 0, 0, 0, 0) :: (104, .getfield 52, 10, 14, 1) :: (107, .iload_n 1, 0, 0, 0) :: (108, .iaload, 0, 0, 0) :: (109, .invokevirtual 240, 240, 4, 0) :: am_c285_112
def am_c285_77 : AmCd := (77, .aload_n 0, 0, 0, 0) :: (78, .getfield 55, 10, 15, 1) :: (81, .iload_n 1, 0, 0, 0) :: (82, .iaload, 0, 0, 0) :: (83, .ifCond .ge 7, 0, 0, 0) :: (86, .iconst 1, 0, 0, 0) :: (87, .goto 25, 0, 0, 0) :: am_c285_90
def am_c285_68 : AmCd := (68, .aload_n 0, 0, 0, 0) :: (69, .iload_n 1, 0, 0, 0) :: (70, .iload_n 2, 0, 0, 0) :: (71, .iconst 1, 0, 0, 0) :: (72, .isub, 0, 0, 0) :: (73, .invokevirtual 310, 284, 3, 0) :: (76, .ireturn, 0, 0, 0) :: am_c285_77
def am_c285_67 : AmCd := (67, .ireturn, 0, 0, 0) :: am_c285_68
def am_c285_66 : AmCd := (66, .iconst 0, 0, 0, 0) :: am_c285_67
def am_c285_48 : AmCd := (48, .istore_n 3, 0, 0, 0) :: (49, .aload_n 0, 0, 0, 0) :: (50, .getfield 7, 10, 0, 1) :: (53, .bipush 7, 0, 0, 0) :: (55, .iconst 0, 0, 0, 0) :: (56, .iastore, 0, 0, 0) :: (57, .iload_n 3, 0, 0, 0) :: (58, .ifCond .eq 8, 0, 0, 0) :: (61, .bipush 9, 0, 0, 0) :: (63, .goto 4, 0, 0, 0) :: am_c285_66
def am_c285_47 : AmCd := (47, .iconst 0, 0, 0, 0) :: am_c285_48
def am_c285_32 : AmCd := (32, .aload_n 0, 0, 0, 0) :: (33, .getfield 7, 10, 0, 1) :: (36, .bipush 7, 0, 0, 0) :: (38, .iaload, 0, 0, 0) :: (39, .iconst 1, 0, 0, 0) :: (40, .if_icmp .ne 7, 0, 0, 0) :: (43, .iconst 1, 0, 0, 0) :: (44, .goto 4, 0, 0, 0) :: am_c285_47
def am_c285_0 : AmCd := (0, .iload_n 2, 0, 0, 0) :: (1, .tableswitch 112 0 3 #[31, 67, 67, 76], 0, 0, 0) :: am_c285_32
def am_c286_0 : AmCd := (0, .aload_n 0, 0, 0, 0) :: (1, .iload_n 2, 0, 0, 0) :: (2, .invokevirtual 171, 203, 2, 0) :: (5, .istore_n 3, 0, 0, 0) :: (6, .aload_n 0, 0, 0, 0) :: (7, .getfield 58, 10, 16, 1) :: (10, .iload_n 1, 0, 0, 0) :: (11, .bipush 6, 0, 0, 0) :: (13, .iastore, 0, 0, 0) :: (14, .aload_n 0, 0, 0, 0) :: (15, .getfield 64, 10, 18, 1) :: (18, .iload_n 1, 0, 0, 0) :: (19, .bipush (-10), 0, 0, 0) :: (21, .iload_n 3, 0, 0, 0) :: (22, .isub, 0, 0, 0) :: (23, .iastore, 0, 0, 0) :: (24, .return_, 0, 0, 0) :: []
def am_c287_119 : AmCd := (119, .iload_n 1, 0, 0, 0) :: (120, .ireturn, 0, 0, 0) :: []
def am_c287_113 : AmCd := (113, .iinc 2 (-1), 0, 0, 0) :: (116, .goto (-98), 0, 0, 0) :: am_c287_119
def am_c287_101 : AmCd := (101, .aload_n 0, 0, 0, 0) :: (102, .getfield 58, 10, 16, 1) :: (105, .iload_n 3, 0, 0, 0) :: (106, .iload_n 2, 0, 0, 0) :: (107, .iconst 1, 0, 0, 0) :: (108, .iadd, 0, 0, 0) :: (109, .iastore, 0, 0, 0) :: (110, .iinc 1 1, 0, 0, 0) :: am_c287_113
def am_c287_78 : AmCd := (78, .aload_n 0, 0, 0, 0) :: (79, .iload_n 3, 0, 0, 0) :: (80, .iload_n 2, 0, 0, 0) :: (81, .invokevirtual 319, 285, 3, 0) :: (84, .istore 4, 0, 0, 0) :: (86, .iload 4, 0, 0, 0) :: (88, .ifCond .le 13, 0, 0, 0) :: (91, .aload_n 0, 0, 0, 0) :: (92, .iload_n 3, 0, 0, 0) :: (93, .iload 4, 0, 0, 0) :: (95, .invokevirtual 316, 286, 3, 0) :: (98, .goto 15, 0, 0, 0) :: am_c287_101
def am_c287_35 : AmCd := (35, .aload_n 0, 0, 0, 0) :: (36, .dup, 0, 0, 0) :: (37, .getfield 313, 10, 32, 0) :: (40, .iconst 1, 0, 0, 0) :: (41, .iadd, 0, 0, 0) :: (42, .putfield 313, 10, 32, 0) :: (45, .aload_n 0, 0, 0, 0) :: (46, .getfield 95, 10, 28, 1) :: (49, .iload_n 2, 0, 0, 0) :: (50, .baload, 0, 0, 0) :: (51, .ifCond .eq 27, 0, 0, 0) :: (54, .aload_n 0, 0, 0, 0) :: (55, .getfield 95, 10, 28, 1) :: (58, .iload_n 2, 0, 0, 0) :: (59, .iconst 0, 0, 0, 0) :: (60, .bastore, 0, 0, 0) :: (61, .aload_n 0, 0, 0, 0) :: (62, .iload_n 3, 0, 0, 0) :: (63, .bipush 10, 0, 0, 0) :: (65, .invokevirtual 316, 286, 3, 0) :: (68, .aload_n 0, 0, 0, 0) :: (69, .getfield 7, 10, 0, 1) :: (72, .bipush 8, 0, 0, 0) :: (74, .iconst 1, 0, 0, 0) :: (75, .iastore, 0, 0, 0) :: (76, .iload_n 1, 0, 0, 0) :: (77, .ireturn, 0, 0, 0) :: am_c287_78
def am_c287_18 : AmCd := (18, .iload_n 2, 0, 0, 0) :: (19, .ifCond .lt 100, 0, 0, 0) :: (22, .aload_n 0, 0, 0, 0) :: (23, .iload_n 2, 0, 0, 0) :: (24, .invokevirtual 301, 280, 2, 0) :: (27, .istore_n 3, 0, 0, 0) :: (28, .iload_n 3, 0, 0, 0) :: (29, .ifCond .ge 6, 0, 0, 0) :: (32, .goto 81, 0, 0, 0) :: am_c287_35
def am_c287_10 : AmCd := (10, .aload_n 0, 0, 0, 0) :: (11, .invokevirtual 160, 201, 1, 0) :: (14, .iconst 0, 0, 0, 0) :: (15, .istore_n 1, 0, 0, 0) :: (16, .iconst 4, 0, 0, 0) :: (17, .istore_n 2, 0, 0, 0) :: am_c287_18
def am_c287_0 : AmCd := (0, .aload_n 0, 0, 0, 0) :: (1, .invokevirtual 148, 202, 1, 0) :: (4, .ifCond .eq 6, 0, 0, 0) :: (7, .bipush (-4), 0, 0, 0) :: (9, .ireturn, 0, 0, 0) :: am_c287_10
def am_c288_35 : AmCd := (35, .aload_n 0, 0, 0, 0) :: (36, .invokevirtual 160, 201, 1, 0) :: (39, .aload_n 0, 0, 0, 0) :: (40, .getfield 58, 10, 16, 1) :: (43, .iload_n 1, 0, 0, 0) :: (44, .iconst (-1), 0, 0, 0) :: (45, .iastore, 0, 0, 0) :: (46, .aload_n 0, 0, 0, 0) :: (47, .getfield 64, 10, 18, 1) :: (50, .iload_n 1, 0, 0, 0) :: (51, .iconst 0, 0, 0, 0) :: (52, .iastore, 0, 0, 0) :: (53, .iconst 1, 0, 0, 0) :: (54, .ireturn, 0, 0, 0) :: []
def am_c288_21 : AmCd := (21, .aload_n 0, 0, 0, 0) :: (22, .getfield 58, 10, 16, 1) :: (25, .iload_n 1, 0, 0, 0) :: (26, .iaload, 0, 0, 0) :: (27, .bipush 6, 0, 0, 0) :: (29, .if_icmp .eq 6, 0, 0, 0) :: (32, .bipush (-5), 0, 0, 0) :: (34, .ireturn, 0, 0, 0) :: am_c288_35
def am_c288_10 : AmCd := (10, .aload_n 0, 0, 0, 0) :: (11, .iload_n 1, 0, 0, 0) :: (12, .invokevirtual 261, 249, 2, 0) :: (15, .ifCond .ne 6, 0, 0, 0) :: (18, .bipush (-2), 0, 0, 0) :: (20, .ireturn, 0, 0, 0) :: am_c288_21
def am_c288_0 : AmCd := (0, .aload_n 0, 0, 0, 0) :: (1, .invokevirtual 148, 202, 1, 0) :: (4, .ifCond .eq 6, 0, 0, 0) :: (7, .bipush (-4), 0, 0, 0) :: (9, .ireturn, 0, 0, 0) :: am_c288_10
def am_c289_0 : AmCd := (0, .aload_n 0, 0, 0, 0) :: (1, .invokevirtual 160, 201, 1, 0) :: (4, .aload_n 0, 0, 0, 0) :: (5, .getfield 7, 10, 0, 1) :: (8, .bipush 8, 0, 0, 0) :: (10, .iaload, 0, 0, 0) :: (11, .istore_n 1, 0, 0, 0) :: (12, .aload_n 0, 0, 0, 0) :: (13, .getfield 7, 10, 0, 1) :: (16, .bipush 8, 0, 0, 0) :: (18, .iconst 0, 0, 0, 0) :: (19, .iastore, 0, 0, 0) :: (20, .iload_n 1, 0, 0, 0) :: (21, .ireturn, 0, 0, 0) :: []
def am_c290_53 : AmCd := (53, .ireturn, 0, 0, 0) :: []
def am_c290_52 : AmCd := (52, .iconst (-1), 0, 0, 0) :: am_c290_53
def am_c290_38 : AmCd := (38, .iload_n 2, 0, 0, 0) :: (39, .iconst 2, 0, 0, 0) :: (40, .if_icmp .ne 12, 0, 0, 0) :: (43, .aload_n 0, 0, 0, 0) :: (44, .getfield 64, 10, 18, 1) :: (47, .iload_n 1, 0, 0, 0) :: (48, .iaload, 0, 0, 0) :: (49, .goto 4, 0, 0, 0) :: am_c290_52
def am_c290_24 : AmCd := (24, .iload_n 2, 0, 0, 0) :: (25, .iconst 1, 0, 0, 0) :: (26, .if_icmp .ne 12, 0, 0, 0) :: (29, .aload_n 0, 0, 0, 0) :: (30, .getfield 61, 10, 17, 1) :: (33, .iload_n 1, 0, 0, 0) :: (34, .iaload, 0, 0, 0) :: (35, .goto 18, 0, 0, 0) :: am_c290_38
def am_c290_11 : AmCd := (11, .iload_n 2, 0, 0, 0) :: (12, .ifCond .ne 12, 0, 0, 0) :: (15, .aload_n 0, 0, 0, 0) :: (16, .getfield 58, 10, 16, 1) :: (19, .iload_n 1, 0, 0, 0) :: (20, .iaload, 0, 0, 0) :: (21, .goto 32, 0, 0, 0) :: am_c290_24
def am_c290_0 : AmCd := (0, .aload_n 0, 0, 0, 0) :: (1, .iload_n 1, 0, 0, 0) :: (2, .invokevirtual 261, 249, 2, 0) :: (5, .ifCond .ne 6, 0, 0, 0) :: (8, .bipush (-2), 0, 0, 0) :: (10, .ireturn, 0, 0, 0) :: am_c290_11
def am_c291_48 : AmCd := (48, .iload_n 2, 0, 0, 0) :: (49, .ireturn, 0, 0, 0) :: []
def am_c291_13 : AmCd := (13, .iload_n 2, 0, 0, 0) :: (14, .aload_n 0, 0, 0, 0) :: (15, .getfield 83, 10, 24, 1) :: (18, .iload_n 1, 0, 0, 0) :: (19, .iaload, 0, 0, 0) :: (20, .if_icmp .ge 28, 0, 0, 0) :: (23, .aload_n 0, 0, 0, 0) :: (24, .getfield 58, 10, 16, 1) :: (27, .aload_n 0, 0, 0, 0) :: (28, .getfield 86, 10, 25, 1) :: (31, .iconst 4, 0, 0, 0) :: (32, .iload_n 1, 0, 0, 0) :: (33, .imul, 0, 0, 0) :: (34, .iload_n 2, 0, 0, 0) :: (35, .iadd, 0, 0, 0) :: (36, .iaload, 0, 0, 0) :: (37, .iaload, 0, 0, 0) :: (38, .iconst 5, 0, 0, 0) :: (39, .if_icmp .ne 9, 0, 0, 0) :: (42, .iinc 2 1, 0, 0, 0) :: (45, .goto (-32), 0, 0, 0) :: am_c291_48
def am_c291_11 : AmCd := (11, .iconst 0, 0, 0, 0) :: (12, .istore_n 2, 0, 0, 0) :: am_c291_13
def am_c291_0 : AmCd := (0, .aload_n 0, 0, 0, 0) :: (1, .iload_n 1, 0, 0, 0) :: (2, .invokevirtual 295, 268, 2, 0) :: (5, .ifCond .ne 6, 0, 0, 0) :: (8, .bipush (-2), 0, 0, 0) :: (10, .ireturn, 0, 0, 0) :: am_c291_11
def am_c292_149 : AmCd := (149, .iconst (-1), 0, 0, 0) :: (150, .ireturn, 0, 0, 0) :: []
def am_c292_141 : AmCd := (141, .aload_n 0, 0, 0, 0) :: (142, .getfield 7, 10, 0, 1) :: (145, .bipush 6, 0, 0, 0) :: (147, .iaload, 0, 0, 0) :: (148, .ireturn, 0, 0, 0) :: am_c292_149
def am_c292_134 : AmCd := (134, .aload_n 0, 0, 0, 0) :: (135, .getfield 7, 10, 0, 1) :: (138, .iconst 4, 0, 0, 0) :: (139, .iaload, 0, 0, 0) :: (140, .ireturn, 0, 0, 0) :: am_c292_141
def am_c292_127 : AmCd := (127, .aload_n 0, 0, 0, 0) :: (128, .getfield 7, 10, 0, 1) :: (131, .iconst 3, 0, 0, 0) :: (132, .iaload, 0, 0, 0) :: (133, .ireturn, 0, 0, 0) :: am_c292_134
def am_c292_120 : AmCd := (120, .aload_n 0, 0, 0, 0) :: (121, .getfield 7, 10, 0, 1) :: (124, .iconst 2, 0, 0, 0) :: (125, .iaload, 0, 0, 0) :: (126, .ireturn, 0, 0, 0) :: am_c292_127
def am_c292_113 : AmCd := (113, .aload_n 0, 0, 0, 0) :: (114, .getfield 7, 10, 0, 1) :: (117, .iconst 1, 0, 0, 0) :: (118, .iaload, 0, 0, 0) :: (119, .ireturn, 0, 0, 0) :: am_c292_120
def am_c292_106 : AmCd := (106, .aload_n 0, 0, 0, 0) :: (107, .getfield 7, 10, 0, 1) :: (110, .iconst 0, 0, 0, 0) :: (111, .iaload, 0, 0, 0) :: (112, .ireturn, 0, 0, 0) :: am_c292_113
def am_c292_101 : AmCd := (101, .aload_n 0, 0, 0, 0) :: (102, .getfield 205, 10, 36, 0) :: (105, .ireturn, 0, 0, 0) :: am_c292_106
def am_c292_93 : AmCd := (93, .aload_n 0, 0, 0, 0) :: (94, .getfield 7, 10, 0, 1) :: (97, .bipush 8, 0, 0, 0) :: (99, .iaload, 0, 0, 0) :: (100, .ireturn, 0, 0, 0) :: am_c292_101
def am_c292_88 : AmCd := (88, .aload_n 0, 0, 0, 0) :: (89, .getfield 304, 10, 34, 0) :: (92, .ireturn, 0, 0, 0) :: am_c292_93
def am_c292_83 : AmCd := (83, .aload_n 0, 0, 0, 0) :: (84, .getfield 307, 10, 33, 0) :: (87, .ireturn, 0, 0, 0) :: am_c292_88
def am_c292_78 : AmCd := (78, .aload_n 0, 0, 0, 0) :: (79, .getfield 313, 10, 32, 0) :: (82, .ireturn, 0, 0, 0) :: am_c292_83
def am_c292_73 : AmCd := (73, .aload_n 0, 0, 0, 0) :: (74, .getfield 145, 10, 31, 0) :: (77, .ireturn, 0, 0, 0) :: am_c292_78
def am_c292_68 : AmCd := (68, .aload_n 0, 0, 0, 0) :: (69, .getfield 141, 10, 30, 0) :: (72, .ireturn, 0, 0, 0) :: am_c292_73
def am_c292_0 : AmCd := (0, .iload_n 1, 0, 0, 0) :: (1, .tableswitch 148 0 12 #[67, 72, 77, 82, 87, 92, 100, 105, 112, 119, 126, 133, 140], 0, 0, 0) :: am_c292_68
def am_c293_49 : AmCd := (49, .ireturn, 0, 0, 0) :: []
def am_c293_47 : AmCd := (47, .bipush (-2), 0, 0, 0) :: am_c293_49
def am_c293_20 : AmCd := (20, .iconst 1, 0, 0, 0) :: (21, .isub, 0, 0, 0) :: (22, .invokestatic 152, 197, 3, 1) :: (25, .ifCond .eq 22, 0, 0, 0) :: (28, .aload_n 0, 0, 0, 0) :: (29, .getfield 98, 10, 37, 1) :: (32, .aload_n 0, 0, 0, 0) :: (33, .getfield 205, 10, 36, 0) :: (36, .iconst 1, 0, 0, 0) :: (37, .isub, 0, 0, 0) :: (38, .iload_n 1, 0, 0, 0) :: (39, .isub, 0, 0, 0) :: (40, .bipush 40, 0, 0, 0) :: (42, .irem, 0, 0, 0) :: (43, .iaload, 0, 0, 0) :: (44, .goto 5, 0, 0, 0) :: am_c293_47
def am_c293_18 : AmCd := (18, .bipush 40, 0, 0, 0) :: am_c293_20
def am_c293_0 : AmCd := (0, .iload_n 1, 0, 0, 0) :: (1, .iconst 0, 0, 0, 0) :: (2, .aload_n 0, 0, 0, 0) :: (3, .getfield 205, 10, 36, 0) :: (6, .bipush 40, 0, 0, 0) :: (8, .if_icmp .ge 10, 0, 0, 0) :: (11, .aload_n 0, 0, 0, 0) :: (12, .getfield 205, 10, 36, 0) :: (15, .goto 5, 0, 0, 0) :: am_c293_18
def am_c294_53 : AmCd := (53, .ireturn, 0, 0, 0) :: []
def am_c294_52 : AmCd := (52, .iconst (-1), 0, 0, 0) :: am_c294_53
def am_c294_38 : AmCd := (38, .iload_n 2, 0, 0, 0) :: (39, .iconst 2, 0, 0, 0) :: (40, .if_icmp .ne 12, 0, 0, 0) :: (43, .aload_n 0, 0, 0, 0) :: (44, .getfield 19, 10, 3, 1) :: (47, .iload_n 1, 0, 0, 0) :: (48, .iaload, 0, 0, 0) :: (49, .goto 4, 0, 0, 0) :: am_c294_52
def am_c294_24 : AmCd := (24, .iload_n 2, 0, 0, 0) :: (25, .iconst 1, 0, 0, 0) :: (26, .if_icmp .ne 12, 0, 0, 0) :: (29, .aload_n 0, 0, 0, 0) :: (30, .getfield 16, 10, 2, 1) :: (33, .iload_n 1, 0, 0, 0) :: (34, .iaload, 0, 0, 0) :: (35, .goto 18, 0, 0, 0) :: am_c294_38
def am_c294_11 : AmCd := (11, .iload_n 2, 0, 0, 0) :: (12, .ifCond .ne 12, 0, 0, 0) :: (15, .aload_n 0, 0, 0, 0) :: (16, .getfield 13, 10, 1, 1) :: (19, .iload_n 1, 0, 0, 0) :: (20, .iaload, 0, 0, 0) :: (21, .goto 32, 0, 0, 0) :: am_c294_24
def am_c294_0 : AmCd := (0, .aload_n 0, 0, 0, 0) :: (1, .iload_n 1, 0, 0, 0) :: (2, .invokevirtual 156, 205, 2, 0) :: (5, .ifCond .ne 6, 0, 0, 0) :: (8, .bipush (-2), 0, 0, 0) :: (10, .ireturn, 0, 0, 0) :: am_c294_11
def am_c295_18 : AmCd := (18, .iload_n 2, 0, 0, 0) :: (19, .ireturn, 0, 0, 0) :: []
def am_c295_0 : AmCd := (0, .iload_n 0, 0, 0, 0) :: (1, .iload_n 1, 0, 0, 0) :: (2, .irem, 0, 0, 0) :: (3, .istore_n 2, 0, 0, 0) :: (4, .iload_n 0, 0, 0, 0) :: (5, .iload_n 1, 0, 0, 0) :: (6, .ixor, 0, 0, 0) :: (7, .ifCond .ge 11, 0, 0, 0) :: (10, .iload_n 2, 0, 0, 0) :: (11, .ifCond .eq 7, 0, 0, 0) :: (14, .iload_n 2, 0, 0, 0) :: (15, .iload_n 1, 0, 0, 0) :: (16, .iadd, 0, 0, 0) :: (17, .ireturn, 0, 0, 0) :: am_c295_18
def am_c296_10 : AmCd := (10, .ireturn, 0, 0, 0) :: []
def am_c296_9 : AmCd := (9, .iload_n 1, 0, 0, 0) :: am_c296_10
def am_c296_0 : AmCd := (0, .iload_n 0, 0, 0, 0) :: (1, .iload_n 1, 0, 0, 0) :: (2, .if_icmp .lt 7, 0, 0, 0) :: (5, .iload_n 0, 0, 0, 0) :: (6, .goto 4, 0, 0, 0) :: am_c296_9
def am_c297_10 : AmCd := (10, .ireturn, 0, 0, 0) :: []
def am_c297_9 : AmCd := (9, .iload_n 1, 0, 0, 0) :: am_c297_10
def am_c297_0 : AmCd := (0, .iload_n 0, 0, 0, 0) :: (1, .iload_n 1, 0, 0, 0) :: (2, .if_icmp .gt 7, 0, 0, 0) :: (5, .iload_n 0, 0, 0, 0) :: (6, .goto 4, 0, 0, 0) :: am_c297_9
def am_c298_2185 : AmCd := (2185, .iconst 1, 0, 0, 0) :: (2186, .ireturn, 0, 0, 0) :: []
def am_c298_2179 : AmCd := (2179, .iinc 3 9, 0, 0, 0) :: (2182, .goto (-2164), 0, 0, 0) :: am_c298_2185
def am_c298_2146 : AmCd := (2146, .aload_n 1, 0, 0, 0) :: (2147, .aload_n 0, 0, 0, 0) :: (2148, .iload_n 3, 0, 0, 0) :: (2149, .iconst 1, 0, 0, 0) :: (2150, .iadd, 0, 0, 0) :: (2151, .iaload, 0, 0, 0) :: (2152, .aload_n 0, 0, 0, 0) :: (2153, .iload_n 3, 0, 0, 0) :: (2154, .iconst 2, 0, 0, 0) :: (2155, .iadd, 0, 0, 0) :: (2156, .iaload, 0, 0, 0) :: (2157, .invokevirtual 222, 193, 3, 0) :: (2160, .aload_n 2, 0, 0, 0) :: (2161, .aload_n 0, 0, 0, 0) :: (2162, .iload_n 3, 0, 0, 0) :: (2163, .iconst 1, 0, 0, 0) :: (2164, .iadd, 0, 0, 0) :: (2165, .iaload, 0, 0, 0) :: (2166, .aload_n 0, 0, 0, 0) :: (2167, .iload_n 3, 0, 0, 0) :: (2168, .iconst 2, 0, 0, 0) :: (2169, .iadd, 0, 0, 0) :: (2170, .iaload, 0, 0, 0) :: (2171, .invokevirtual 225, 294, 3, 0) :: (2174, .if_icmp .eq 5, 0, 0, 0) :: (2177, .iconst 0, 0, 0, 0) :: (2178, .ireturn, 0, 0, 0) :: am_c298_2179
def am_c298_2123 : AmCd := (2123, .aload_n 1, 0, 0, 0) :: (2124, .aload_n 0, 0, 0, 0) :: (2125, .iload_n 3, 0, 0, 0) :: (2126, .iconst 1, 0, 0, 0) :: (2127, .iadd, 0, 0, 0) :: (2128, .iaload, 0, 0, 0) :: (2129, .invokevirtual 218, 192, 2, 0) :: (2132, .aload_n 2, 0, 0, 0) :: (2133, .aload_n 0, 0, 0, 0) :: (2134, .iload_n 3, 0, 0, 0) :: (2135, .iconst 1, 0, 0, 0) :: (2136, .iadd, 0, 0, 0) :: (2137, .iaload, 0, 0, 0) :: (2138, .invokevirtual 221, 293, 2, 0) :: (2141, .if_icmp .eq 38, 0, 0, 0) :: (2144, .iconst 0, 0, 0, 0) :: (2145, .ireturn, 0, 0, 0) :: am_c298_2146
def am_c298_2100 : AmCd := (2100, .aload_n 1, 0, 0, 0) :: (2101, .aload_n 0, 0, 0, 0) :: (2102, .iload_n 3, 0, 0, 0) :: (2103, .iconst 1, 0, 0, 0) :: (2104, .iadd, 0, 0, 0) :: (2105, .iaload, 0, 0, 0) :: (2106, .invokevirtual 214, 191, 2, 0) :: (2109, .aload_n 2, 0, 0, 0) :: (2110, .aload_n 0, 0, 0, 0) :: (2111, .iload_n 3, 0, 0, 0) :: (2112, .iconst 1, 0, 0, 0) :: (2113, .iadd, 0, 0, 0) :: (2114, .iaload, 0, 0, 0) :: (2115, .invokevirtual 217, 292, 2, 0) :: (2118, .if_icmp .eq 61, 0, 0, 0) :: (2121, .iconst 0, 0, 0, 0) :: (2122, .ireturn, 0, 0, 0) :: am_c298_2123
def am_c298_2087 : AmCd := (2087, .aload_n 1, 0, 0, 0) :: (2088, .invokevirtual 210, 190, 1, 0) :: (2091, .aload_n 2, 0, 0, 0) :: (2092, .invokevirtual 213, 204, 1, 0) :: (2095, .if_icmp .eq 84, 0, 0, 0) :: (2098, .iconst 0, 0, 0, 0) :: (2099, .ireturn, 0, 0, 0) :: am_c298_2100
def am_c298_2064 : AmCd := (2064, .aload_n 1, 0, 0, 0) :: (2065, .aload_n 0, 0, 0, 0) :: (2066, .iload_n 3, 0, 0, 0) :: (2067, .iconst 1, 0, 0, 0) :: (2068, .iadd, 0, 0, 0) :: (2069, .iaload, 0, 0, 0) :: (2070, .invokevirtual 206, 189, 2, 0) :: (2073, .aload_n 2, 0, 0, 0) :: (2074, .aload_n 0, 0, 0, 0) :: (2075, .iload_n 3, 0, 0, 0) :: (2076, .iconst 1, 0, 0, 0) :: (2077, .iadd, 0, 0, 0) :: (2078, .iaload, 0, 0, 0) :: (2079, .invokevirtual 209, 291, 2, 0) :: (2082, .if_icmp .eq 97, 0, 0, 0) :: (2085, .iconst 0, 0, 0, 0) :: (2086, .ireturn, 0, 0, 0) :: am_c298_2087
def am_c298_2031 : AmCd := (2031, .aload_n 1, 0, 0, 0) :: (2032, .aload_n 0, 0, 0, 0) :: (2033, .iload_n 3, 0, 0, 0) :: (2034, .iconst 1, 0, 0, 0) :: (2035, .iadd, 0, 0, 0) :: (2036, .iaload, 0, 0, 0) :: (2037, .aload_n 0, 0, 0, 0) :: (2038, .iload_n 3, 0, 0, 0) :: (2039, .iconst 2, 0, 0, 0) :: (2040, .iadd, 0, 0, 0) :: (2041, .iaload, 0, 0, 0) :: (2042, .invokevirtual 202, 188, 3, 0) :: (2045, .aload_n 2, 0, 0, 0) :: (2046, .aload_n 0, 0, 0, 0) :: (2047, .iload_n 3, 0, 0, 0) :: (2048, .iconst 1, 0, 0, 0) :: (2049, .iadd, 0, 0, 0) :: (2050, .iaload, 0, 0, 0) :: (2051, .aload_n 0, 0, 0, 0) :: (2052, .iload_n 3, 0, 0, 0) :: (2053, .iconst 2, 0, 0, 0) :: (2054, .iadd, 0, 0, 0) :: (2055, .iaload, 0, 0, 0) :: (2056, .invokevirtual 205, 290, 3, 0) :: (2059, .if_icmp .eq 120, 0, 0, 0) :: (2062, .iconst 0, 0, 0, 0) :: (2063, .ireturn, 0, 0, 0) :: am_c298_2064
def am_c298_2018 : AmCd := (2018, .aload_n 1, 0, 0, 0) :: (2019, .invokevirtual 198, 187, 1, 0) :: (2022, .aload_n 2, 0, 0, 0) :: (2023, .invokevirtual 201, 289, 1, 0) :: (2026, .if_icmp .eq 153, 0, 0, 0) :: (2029, .iconst 0, 0, 0, 0) :: (2030, .ireturn, 0, 0, 0) :: am_c298_2031
def am_c298_1995 : AmCd := (1995, .aload_n 1, 0, 0, 0) :: (1996, .aload_n 0, 0, 0, 0) :: (1997, .iload_n 3, 0, 0, 0) :: (1998, .iconst 1, 0, 0, 0) :: (1999, .iadd, 0, 0, 0) :: (2000, .iaload, 0, 0, 0) :: (2001, .invokevirtual 194, 186, 2, 0) :: (2004, .aload_n 2, 0, 0, 0) :: (2005, .aload_n 0, 0, 0, 0) :: (2006, .iload_n 3, 0, 0, 0) :: (2007, .iconst 1, 0, 0, 0) :: (2008, .iadd, 0, 0, 0) :: (2009, .iaload, 0, 0, 0) :: (2010, .invokevirtual 197, 288, 2, 0) :: (2013, .if_icmp .eq 166, 0, 0, 0) :: (2016, .iconst 0, 0, 0, 0) :: (2017, .ireturn, 0, 0, 0) :: am_c298_2018
def am_c298_1982 : AmCd := (1982, .aload_n 1, 0, 0, 0) :: (1983, .invokevirtual 190, 185, 1, 0) :: (1986, .aload_n 2, 0, 0, 0) :: (1987, .invokevirtual 193, 287, 1, 0) :: (1990, .if_icmp .eq 189, 0, 0, 0) :: (1993, .iconst 0, 0, 0, 0) :: (1994, .ireturn, 0, 0, 0) :: am_c298_1995
def am_c298_1959 : AmCd := (1959, .aload_n 1, 0, 0, 0) :: (1960, .aload_n 0, 0, 0, 0) :: (1961, .iload_n 3, 0, 0, 0) :: (1962, .iconst 1, 0, 0, 0) :: (1963, .iadd, 0, 0, 0) :: (1964, .iaload, 0, 0, 0) :: (1965, .invokevirtual 186, 184, 2, 0) :: (1968, .aload_n 2, 0, 0, 0) :: (1969, .aload_n 0, 0, 0, 0) :: (1970, .iload_n 3, 0, 0, 0) :: (1971, .iconst 1, 0, 0, 0) :: (1972, .iadd, 0, 0, 0) :: (1973, .iaload, 0, 0, 0) :: (1974, .invokevirtual 189, 283, 2, 0) :: (1977, .if_icmp .eq 202, 0, 0, 0) :: (1980, .iconst 0, 0, 0, 0) :: (1981, .ireturn, 0, 0, 0) :: am_c298_1982
def am_c298_1946 : AmCd := (1946, .aload_n 1, 0, 0, 0) :: (1947, .invokevirtual 182, 183, 1, 0) :: (1950, .aload_n 2, 0, 0, 0) :: (1951, .invokevirtual 185, 282, 1, 0) :: (1954, .if_icmp .eq 225, 0, 0, 0) :: (1957, .iconst 0, 0, 0, 0) :: (1958, .ireturn, 0, 0, 0) :: am_c298_1959
def am_c298_1923 : AmCd := (1923, .aload_n 1, 0, 0, 0) :: (1924, .aload_n 0, 0, 0, 0) :: (1925, .iload_n 3, 0, 0, 0) :: (1926, .iconst 1, 0, 0, 0) :: (1927, .iadd, 0, 0, 0) :: (1928, .iaload, 0, 0, 0) :: (1929, .invokevirtual 178, 182, 2, 0) :: (1932, .aload_n 2, 0, 0, 0) :: (1933, .aload_n 0, 0, 0, 0) :: (1934, .iload_n 3, 0, 0, 0) :: (1935, .iconst 1, 0, 0, 0) :: (1936, .iadd, 0, 0, 0) :: (1937, .iaload, 0, 0, 0) :: (1938, .invokevirtual 181, 281, 2, 0) :: (1941, .if_icmp .eq 238, 0, 0, 0) :: (1944, .iconst 0, 0, 0, 0) :: (1945, .ireturn, 0, 0, 0) :: am_c298_1946
def am_c298_1900 : AmCd := (1900, .aload_n 1, 0, 0, 0) :: (1901, .aload_n 0, 0, 0, 0) :: (1902, .iload_n 3, 0, 0, 0) :: (1903, .iconst 1, 0, 0, 0) :: (1904, .iadd, 0, 0, 0) :: (1905, .iaload, 0, 0, 0) :: (1906, .invokevirtual 174, 181, 2, 0) :: (1909, .aload_n 2, 0, 0, 0) :: (1910, .aload_n 0, 0, 0, 0) :: (1911, .iload_n 3, 0, 0, 0) :: (1912, .iconst 1, 0, 0, 0) :: (1913, .iadd, 0, 0, 0) :: (1914, .iaload, 0, 0, 0) :: (1915, .invokevirtual 177, 279, 2, 0) :: (1918, .if_icmp .eq 261, 0, 0, 0) :: (1921, .iconst 0, 0, 0, 0) :: (1922, .ireturn, 0, 0, 0) :: am_c298_1923
def am_c298_1867 : AmCd := (1867, .aload_n 1, 0, 0, 0) :: (1868, .aload_n 0, 0, 0, 0) :: (1869, .iload_n 3, 0, 0, 0) :: (1870, .iconst 1, 0, 0, 0) :: (1871, .iadd, 0, 0, 0) :: (1872, .iaload, 0, 0, 0) :: (1873, .aload_n 0, 0, 0, 0) :: (1874, .iload_n 3, 0, 0, 0) :: (1875, .iconst 2, 0, 0, 0) :: (1876, .iadd, 0, 0, 0) :: (1877, .iaload, 0, 0, 0) :: (1878, .invokevirtual 170, 180, 3, 0) :: (1881, .aload_n 2, 0, 0, 0) :: (1882, .aload_n 0, 0, 0, 0) :: (1883, .iload_n 3, 0, 0, 0) :: (1884, .iconst 1, 0, 0, 0) :: (1885, .iadd, 0, 0, 0) :: (1886, .iaload, 0, 0, 0) :: (1887, .aload_n 0, 0, 0, 0) :: (1888, .iload_n 3, 0, 0, 0) :: (1889, .iconst 2, 0, 0, 0) :: (1890, .iadd, 0, 0, 0) :: (1891, .iaload, 0, 0, 0) :: (1892, .invokevirtual 173, 278, 3, 0) :: (1895, .if_icmp .eq 284, 0, 0, 0) :: (1898, .iconst 0, 0, 0, 0) :: (1899, .ireturn, 0, 0, 0) :: am_c298_1900
def am_c298_1834 : AmCd := (1834, .aload_n 1, 0, 0, 0) :: (1835, .aload_n 0, 0, 0, 0) :: (1836, .iload_n 3, 0, 0, 0) :: (1837, .iconst 1, 0, 0, 0) :: (1838, .iadd, 0, 0, 0) :: (1839, .iaload, 0, 0, 0) :: (1840, .aload_n 0, 0, 0, 0) :: (1841, .iload_n 3, 0, 0, 0) :: (1842, .iconst 2, 0, 0, 0) :: (1843, .iadd, 0, 0, 0) :: (1844, .iaload, 0, 0, 0) :: (1845, .invokevirtual 166, 179, 3, 0) :: (1848, .aload_n 2, 0, 0, 0) :: (1849, .aload_n 0, 0, 0, 0) :: (1850, .iload_n 3, 0, 0, 0) :: (1851, .iconst 1, 0, 0, 0) :: (1852, .iadd, 0, 0, 0) :: (1853, .iaload, 0, 0, 0) :: (1854, .aload_n 0, 0, 0, 0) :: (1855, .iload_n 3, 0, 0, 0) :: (1856, .iconst 2, 0, 0, 0) :: (1857, .iadd, 0, 0, 0) :: (1858, .iaload, 0, 0, 0) :: (1859, .invokevirtual 169, 277, 3, 0) :: (1862, .if_icmp .eq 317, 0, 0, 0) :: (1865, .iconst 0, 0, 0, 0) :: (1866, .ireturn, 0, 0, 0) :: am_c298_1867
def am_c298_1801 : AmCd := (1801, .aload_n 1, 0, 0, 0) :: (1802, .aload_n 0, 0, 0, 0) :: (1803, .iload_n 3, 0, 0, 0) :: (1804, .iconst 1, 0, 0, 0) :: (1805, .iadd, 0, 0, 0) :: (1806, .iaload, 0, 0, 0) :: (1807, .aload_n 0, 0, 0, 0) :: (1808, .iload_n 3, 0, 0, 0) :: (1809, .iconst 2, 0, 0, 0) :: (1810, .iadd, 0, 0, 0) :: (1811, .iaload, 0, 0, 0) :: (1812, .invokevirtual 162, 178, 3, 0) :: (1815, .aload_n 2, 0, 0, 0) :: (1816, .aload_n 0, 0, 0, 0) :: (1817, .iload_n 3, 0, 0, 0) :: (1818, .iconst 1, 0, 0, 0) :: (1819, .iadd, 0, 0, 0) :: (1820, .iaload, 0, 0, 0) :: (1821, .aload_n 0, 0, 0, 0) :: (1822, .iload_n 3, 0, 0, 0) :: (1823, .iconst 2, 0, 0, 0) :: (1824, .iadd, 0, 0, 0) :: (1825, .iaload, 0, 0, 0) :: (1826, .invokevirtual 165, 276, 3, 0) :: (1829, .if_icmp .eq 350, 0, 0, 0) :: (1832, .iconst 0, 0, 0, 0) :: (1833, .ireturn, 0, 0, 0) :: am_c298_1834
def am_c298_1778 : AmCd := (1778, .aload_n 1, 0, 0, 0) :: (1779, .aload_n 0, 0, 0, 0) :: (1780, .iload_n 3, 0, 0, 0) :: (1781, .iconst 1, 0, 0, 0) :: (1782, .iadd, 0, 0, 0) :: (1783, .iaload, 0, 0, 0) :: (1784, .invokevirtual 158, 177, 2, 0) :: (1787, .aload_n 2, 0, 0, 0) :: (1788, .aload_n 0, 0, 0, 0) :: (1789, .iload_n 3, 0, 0, 0) :: (1790, .iconst 1, 0, 0, 0) :: (1791, .iadd, 0, 0, 0) :: (1792, .iaload, 0, 0, 0) :: (1793, .invokevirtual 161, 275, 2, 0) :: (1796, .if_icmp .eq 383, 0, 0, 0) :: (1799, .iconst 0, 0, 0, 0) :: (1800, .ireturn, 0, 0, 0) :: am_c298_1801
def am_c298_1755 : AmCd := (1755, .aload_n 1, 0, 0, 0) :: (1756, .aload_n 0, 0, 0, 0) :: (1757, .iload_n 3, 0, 0, 0) :: (1758, .iconst 1, 0, 0, 0) :: (1759, .iadd, 0, 0, 0) :: (1760, .iaload, 0, 0, 0) :: (1761, .invokevirtual 154, 176, 2, 0) :: (1764, .aload_n 2, 0, 0, 0) :: (1765, .aload_n 0, 0, 0, 0) :: (1766, .iload_n 3, 0, 0, 0) :: (1767, .iconst 1, 0, 0, 0) :: (1768, .iadd, 0, 0, 0) :: (1769, .iaload, 0, 0, 0) :: (1770, .invokevirtual 157, 274, 2, 0) :: (1773, .if_icmp .eq 406, 0, 0, 0) :: (1776, .iconst 0, 0, 0, 0) :: (1777, .ireturn, 0, 0, 0) :: am_c298_1778
def am_c298_1712 : AmCd := (1712, .aload_n 1, 0, 0, 0) :: (1713, .aload_n 0, 0, 0, 0) :: (1714, .iload_n 3, 0, 0, 0) :: (1715, .iconst 1, 0, 0, 0) :: (1716, .iadd, 0, 0, 0) :: (1717, .iaload, 0, 0, 0) :: (1718, .aload_n 0, 0, 0, 0) :: (1719, .iload_n 3, 0, 0, 0) :: (1720, .iconst 2, 0, 0, 0) :: (1721, .iadd, 0, 0, 0) :: (1722, .iaload, 0, 0, 0) :: (1723, .aload_n 0, 0, 0, 0) :: (1724, .iload_n 3, 0, 0, 0) :: (1725, .iconst 3, 0, 0, 0) :: (1726, .iadd, 0, 0, 0) :: (1727, .iaload, 0, 0, 0) :: (1728, .invokevirtual 150, 175, 4, 0) :: (1731, .aload_n 2, 0, 0, 0) :: (1732, .aload_n 0, 0, 0, 0) :: (1733, .iload_n 3, 0, 0, 0) :: (1734, .iconst 1, 0, 0, 0) :: (1735, .iadd, 0, 0, 0) :: (1736, .iaload, 0, 0, 0) :: (1737, .aload_n 0, 0, 0, 0) :: (1738, .iload_n 3, 0, 0, 0) :: (1739, .iconst 2, 0, 0, 0) :: (1740, .iadd, 0, 0, 0) :: (1741, .iaload, 0, 0, 0) :: (1742, .aload_n 0, 0, 0, 0) :: (1743, .iload_n 3, 0, 0, 0) :: (1744, .iconst 3, 0, 0, 0) :: (1745, .iadd, 0, 0, 0) :: (1746, .iaload, 0, 0, 0) :: (1747, .invokevirtual 153, 273, 4, 0) :: (1750, .if_icmp .eq 429, 0, 0, 0) :: (1753, .iconst 0, 0, 0, 0) :: (1754, .ireturn, 0, 0, 0) :: am_c298_1755
def am_c298_1659 : AmCd := (1659, .aload_n 1, 0, 0, 0) :: (1660, .aload_n 0, 0, 0, 0) :: (1661, .iload_n 3, 0, 0, 0) :: (1662, .iconst 1, 0, 0, 0) :: (1663, .iadd, 0, 0, 0) :: (1664, .iaload, 0, 0, 0) :: (1665, .aload_n 0, 0, 0, 0) :: (1666, .iload_n 3, 0, 0, 0) :: (1667, .iconst 2, 0, 0, 0) :: (1668, .iadd, 0, 0, 0) :: (1669, .iaload, 0, 0, 0) :: (1670, .aload_n 0, 0, 0, 0) :: (1671, .iload_n 3, 0, 0, 0) :: (1672, .iconst 3, 0, 0, 0) :: (1673, .iadd, 0, 0, 0) :: (1674, .iaload, 0, 0, 0) :: (1675, .aload_n 0, 0, 0, 0) :: (1676, .iload_n 3, 0, 0, 0) :: (1677, .iconst 4, 0, 0, 0) :: (1678, .iadd, 0, 0, 0) :: (1679, .iaload, 0, 0, 0) :: (1680, .invokevirtual 146, 174, 5, 0) :: (1683, .aload_n 2, 0, 0, 0) :: (1684, .aload_n 0, 0, 0, 0) :: (1685, .iload_n 3, 0, 0, 0) :: (1686, .iconst 1, 0, 0, 0) :: (1687, .iadd, 0, 0, 0) :: (1688, .iaload, 0, 0, 0) :: (1689, .aload_n 0, 0, 0, 0) :: (1690, .iload_n 3, 0, 0, 0) :: (1691, .iconst 2, 0, 0, 0) :: (1692, .iadd, 0, 0, 0) :: (1693, .iaload, 0, 0, 0) :: (1694, .aload_n 0, 0, 0, 0) :: (1695, .iload_n 3, 0, 0, 0) :: (1696, .iconst 3, 0, 0, 0) :: (1697, .iadd, 0, 0, 0) :: (1698, .iaload, 0, 0, 0) :: (1699, .aload_n 0, 0, 0, 0) :: (1700, .iload_n 3, 0, 0, 0) :: (1701, .iconst 4, 0, 0, 0) :: (1702, .iadd, 0, 0, 0) :: (1703, .iaload, 0, 0, 0) :: (1704, .invokevirtual 149, 272, 5, 0) :: (1707, .if_icmp .eq 472, 0, 0, 0) :: (1710, .iconst 0, 0, 0, 0) :: (1711, .ireturn, 0, 0, 0) :: am_c298_1712
def am_c298_1616 : AmCd := (1616, .aload_n 1, 0, 0, 0) :: (1617, .aload_n 0, 0, 0, 0) :: (1618, .iload_n 3, 0, 0, 0) :: (1619, .iconst 1, 0, 0, 0) :: (1620, .iadd, 0, 0, 0) :: (1621, .iaload, 0, 0, 0) :: (1622, .aload_n 0, 0, 0, 0) :: (1623, .iload_n 3, 0, 0, 0) :: (1624, .iconst 2, 0, 0, 0) :: (1625, .iadd, 0, 0, 0) :: (1626, .iaload, 0, 0, 0) :: (1627, .aload_n 0, 0, 0, 0) :: (1628, .iload_n 3, 0, 0, 0) :: (1629, .iconst 3, 0, 0, 0) :: (1630, .iadd, 0, 0, 0) :: (1631, .iaload, 0, 0, 0) :: (1632, .invokevirtual 142, 173, 4, 0) :: (1635, .aload_n 2, 0, 0, 0) :: (1636, .aload_n 0, 0, 0, 0) :: (1637, .iload_n 3, 0, 0, 0) :: (1638, .iconst 1, 0, 0, 0) :: (1639, .iadd, 0, 0, 0) :: (1640, .iaload, 0, 0, 0) :: (1641, .aload_n 0, 0, 0, 0) :: (1642, .iload_n 3, 0, 0, 0) :: (1643, .iconst 2, 0, 0, 0) :: (1644, .iadd, 0, 0, 0) :: (1645, .iaload, 0, 0, 0) :: (1646, .aload_n 0, 0, 0, 0) :: (1647, .iload_n 3, 0, 0, 0) :: (1648, .iconst 3, 0, 0, 0) :: (1649, .iadd, 0, 0, 0) :: (1650, .iaload, 0, 0, 0) :: (1651, .invokevirtual 145, 271, 4, 0) :: (1654, .if_icmp .eq 525, 0, 0, 0) :: (1657, .iconst 0, 0, 0, 0) :: (1658, .ireturn, 0, 0, 0) :: am_c298_1659
def am_c298_1583 : AmCd := (1583, .aload_n 1, 0, 0, 0) :: (1584, .aload_n 0, 0, 0, 0) :: (1585, .iload_n 3, 0, 0, 0) :: (1586, .iconst 1, 0, 0, 0) :: (1587, .iadd, 0, 0, 0) :: (1588, .iaload, 0, 0, 0) :: (1589, .aload_n 0, 0, 0, 0) :: (1590, .iload_n 3, 0, 0, 0) :: (1591, .iconst 2, 0, 0, 0) :: (1592, .iadd, 0, 0, 0) :: (1593, .iaload, 0, 0, 0) :: (1594, .invokevirtual 138, 172, 3, 0) :: (1597, .aload_n 2, 0, 0, 0) :: (1598, .aload_n 0, 0, 0, 0) :: (1599, .iload_n 3, 0, 0, 0) :: (1600, .iconst 1, 0, 0, 0) :: (1601, .iadd, 0, 0, 0) :: (1602, .iaload, 0, 0, 0) :: (1603, .aload_n 0, 0, 0, 0) :: (1604, .iload_n 3, 0, 0, 0) :: (1605, .iconst 2, 0, 0, 0) :: (1606, .iadd, 0, 0, 0) :: (1607, .iaload, 0, 0, 0) :: (1608, .invokevirtual 141, 270, 3, 0) :: (1611, .if_icmp .eq 568, 0, 0, 0) :: (1614, .iconst 0, 0, 0, 0) :: (1615, .ireturn, 0, 0, 0) :: am_c298_1616
def am_c298_1560 : AmCd := (1560, .aload_n 1, 0, 0, 0) :: (1561, .aload_n 0, 0, 0, 0) :: (1562, .iload_n 3, 0, 0, 0) :: (1563, .iconst 1, 0, 0, 0) :: (1564, .iadd, 0, 0, 0) :: (1565, .iaload, 0, 0, 0) :: (1566, .invokevirtual 134, 171, 2, 0) :: (1569, .aload_n 2, 0, 0, 0) :: (1570, .aload_n 0, 0, 0, 0) :: (1571, .iload_n 3, 0, 0, 0) :: (1572, .iconst 1, 0, 0, 0) :: (1573, .iadd, 0, 0, 0) :: (1574, .iaload, 0, 0, 0) :: (1575, .invokevirtual 137, 269, 2, 0) :: (1578, .if_icmp .eq 601, 0, 0, 0) :: (1581, .iconst 0, 0, 0, 0) :: (1582, .ireturn, 0, 0, 0) :: am_c298_1583
def am_c298_1485 : AmCd := (1485, .aload_n 1, 0, 0, 0) :: (1486, .aload_n 0, 0, 0, 0) :: (1487, .iload_n 3, 0, 0, 0) :: (1488, .iconst 1, 0, 0, 0) :: (1489, .iadd, 0, 0, 0) :: (1490, .iaload, 0, 0, 0) :: (1491, .aload_n 0, 0, 0, 0) :: (1492, .iload_n 3, 0, 0, 0) :: (1493, .iconst 2, 0, 0, 0) :: (1494, .iadd, 0, 0, 0) :: (1495, .iaload, 0, 0, 0) :: (1496, .aload_n 0, 0, 0, 0) :: (1497, .iload_n 3, 0, 0, 0) :: (1498, .iconst 3, 0, 0, 0) :: (1499, .iadd, 0, 0, 0) :: (1500, .iaload, 0, 0, 0) :: (1501, .aload_n 0, 0, 0, 0) :: (1502, .iload_n 3, 0, 0, 0) :: (1503, .iconst 4, 0, 0, 0) :: (1504, .iadd, 0, 0, 0) :: (1505, .iaload, 0, 0, 0) :: (1506, .aload_n 0, 0, 0, 0) :: (1507, .iload_n 3, 0, 0, 0) :: (1508, .iconst 5, 0, 0, 0) :: (1509, .iadd, 0, 0, 0) :: (1510, .iaload, 0, 0, 0) :: (1511, .aload_n 0, 0, 0, 0) :: (1512, .iload_n 3, 0, 0, 0) :: (1513, .bipush 6, 0, 0, 0) :: (1515, .iadd, 0, 0, 0) :: (1516, .iaload, 0, 0, 0) :: (1517, .invokevirtual 130, 170, 7, 0) :: (1520, .aload_n 2, 0, 0, 0) :: (1521, .aload_n 0, 0, 0, 0) :: (1522, .iload_n 3, 0, 0, 0) :: (1523, .iconst 1, 0, 0, 0) :: (1524, .iadd, 0, 0, 0) :: (1525, .iaload, 0, 0, 0) :: (1526, .aload_n 0, 0, 0, 0) :: (1527, .iload_n 3, 0, 0, 0) :: (1528, .iconst 2, 0, 0, 0) :: (1529, .iadd, 0, 0, 0) :: (1530, .iaload, 0, 0, 0) :: (1531, .aload_n 0, 0, 0, 0) :: (1532, .iload_n 3, 0, 0, 0) :: (1533, .iconst 3, 0, 0, 0) :: (1534, .iadd, 0, 0, 0) :: (1535, .iaload, 0, 0, 0) :: (1536, .aload_n 0, 0, 0, 0) :: (1537, .iload_n 3, 0, 0, 0) :: (1538, .iconst 4, 0, 0, 0) :: (1539, .iadd, 0, 0, 0) :: (1540, .iaload, 0, 0, 0) :: (1541, .aload_n 0, 0, 0, 0) :: (1542, .iload_n 3, 0, 0, 0) :: (1543, .iconst 5, 0, 0, 0) :: (1544, .iadd, 0, 0, 0) :: (1545, .iaload, 0, 0, 0) :: (1546, .aload_n 0, 0, 0, 0) :: (1547, .iload_n 3, 0, 0, 0) :: (1548, .bipush 6, 0, 0, 0) :: (1550, .iadd, 0, 0, 0) :: (1551, .iaload, 0, 0, 0) :: (1552, .invokevirtual 133, 267, 7, 0) :: (1555, .if_icmp .eq 624, 0, 0, 0) :: (1558, .iconst 0, 0, 0, 0) :: (1559, .ireturn, 0, 0, 0) :: am_c298_1560
def am_c298_1442 : AmCd := (1442, .aload_n 1, 0, 0, 0) :: (1443, .aload_n 0, 0, 0, 0) :: (1444, .iload_n 3, 0, 0, 0) :: (1445, .iconst 1, 0, 0, 0) :: (1446, .iadd, 0, 0, 0) :: (1447, .iaload, 0, 0, 0) :: (1448, .aload_n 0, 0, 0, 0) :: (1449, .iload_n 3, 0, 0, 0) :: (1450, .iconst 2, 0, 0, 0) :: (1451, .iadd, 0, 0, 0) :: (1452, .iaload, 0, 0, 0) :: (1453, .aload_n 0, 0, 0, 0) :: (1454, .iload_n 3, 0, 0, 0) :: (1455, .iconst 3, 0, 0, 0) :: (1456, .iadd, 0, 0, 0) :: (1457, .iaload, 0, 0, 0) :: (1458, .invokevirtual 126, 169, 4, 0) :: (1461, .aload_n 2, 0, 0, 0) :: (1462, .aload_n 0, 0, 0, 0) :: (1463, .iload_n 3, 0, 0, 0) :: (1464, .iconst 1, 0, 0, 0) :: (1465, .iadd, 0, 0, 0) :: (1466, .iaload, 0, 0, 0) :: (1467, .aload_n 0, 0, 0, 0) :: (1468, .iload_n 3, 0, 0, 0) :: (1469, .iconst 2, 0, 0, 0) :: (1470, .iadd, 0, 0, 0) :: (1471, .iaload, 0, 0, 0) :: (1472, .aload_n 0, 0, 0, 0) :: (1473, .iload_n 3, 0, 0, 0) :: (1474, .iconst 3, 0, 0, 0) :: (1475, .iadd, 0, 0, 0) :: (1476, .iaload, 0, 0, 0) :: (1477, .invokevirtual 129, 265, 4, 0) :: (1480, .if_icmp .eq 699, 0, 0, 0) :: (1483, .iconst 0, 0, 0, 0) :: (1484, .ireturn, 0, 0, 0) :: am_c298_1485
def am_c298_1399 : AmCd := (1399, .aload_n 1, 0, 0, 0) :: (1400, .aload_n 0, 0, 0, 0) :: (1401, .iload_n 3, 0, 0, 0) :: (1402, .iconst 1, 0, 0, 0) :: (1403, .iadd, 0, 0, 0) :: (1404, .iaload, 0, 0, 0) :: (1405, .aload_n 0, 0, 0, 0) :: (1406, .iload_n 3, 0, 0, 0) :: (1407, .iconst 2, 0, 0, 0) :: (1408, .iadd, 0, 0, 0) :: (1409, .iaload, 0, 0, 0) :: (1410, .aload_n 0, 0, 0, 0) :: (1411, .iload_n 3, 0, 0, 0) :: (1412, .iconst 3, 0, 0, 0) :: (1413, .iadd, 0, 0, 0) :: (1414, .iaload, 0, 0, 0) :: (1415, .invokevirtual 122, 168, 4, 0) :: (1418, .aload_n 2, 0, 0, 0) :: (1419, .aload_n 0, 0, 0, 0) :: (1420, .iload_n 3, 0, 0, 0) :: (1421, .iconst 1, 0, 0, 0) :: (1422, .iadd, 0, 0, 0) :: (1423, .iaload, 0, 0, 0) :: (1424, .aload_n 0, 0, 0, 0) :: (1425, .iload_n 3, 0, 0, 0) :: (1426, .iconst 2, 0, 0, 0) :: (1427, .iadd, 0, 0, 0) :: (1428, .iaload, 0, 0, 0) :: (1429, .aload_n 0, 0, 0, 0) :: (1430, .iload_n 3, 0, 0, 0) :: (1431, .iconst 3, 0, 0, 0) :: (1432, .iadd, 0, 0, 0) :: (1433, .iaload, 0, 0, 0) :: (1434, .invokevirtual 125, 264, 4, 0) :: (1437, .if_icmp .eq 742, 0, 0, 0) :: (1440, .iconst 0, 0, 0, 0) :: (1441, .ireturn, 0, 0, 0) :: am_c298_1442
def am_c298_1300 : AmCd := (1300, .aload_n 1, 0, 0, 0) :: (1301, .aload_n 0, 0, 0, 0) :: (1302, .iload_n 3, 0, 0, 0) :: (1303, .iconst 1, 0, 0, 0) :: (1304, .iadd, 0, 0, 0) :: (1305, .iaload, 0, 0, 0) :: (1306, .aload_n 0, 0, 0, 0) :: (1307, .iload_n 3, 0, 0, 0) :: (1308, .iconst 2, 0, 0, 0) :: (1309, .iadd, 0, 0, 0) :: (1310, .iaload, 0, 0, 0) :: (1311, .aload_n 0, 0, 0, 0) :: (1312, .iload_n 3, 0, 0, 0) :: (1313, .iconst 3, 0, 0, 0) :: (1314, .iadd, 0, 0, 0) :: (1315, .iaload, 0, 0, 0) :: (1316, .aload_n 0, 0, 0, 0) :: (1317, .iload_n 3, 0, 0, 0) :: (1318, .iconst 4, 0, 0, 0) :: (1319, .iadd, 0, 0, 0) :: (1320, .iaload, 0, 0, 0) :: (1321, .aload_n 0, 0, 0, 0) :: (1322, .iload_n 3, 0, 0, 0) :: (1323, .iconst 5, 0, 0, 0) :: (1324, .iadd, 0, 0, 0) :: (1325, .iaload, 0, 0, 0) :: (1326, .aload_n 0, 0, 0, 0) :: (1327, .iload_n 3, 0, 0, 0) :: (1328, .bipush 6, 0, 0, 0) :: (1330, .iadd, 0, 0, 0) :: (1331, .iaload, 0, 0, 0) :: (1332, .aload_n 0, 0, 0, 0) :: (1333, .iload_n 3, 0, 0, 0) :: (1334, .bipush 7, 0, 0, 0) :: (1336, .iadd, 0, 0, 0) :: (1337, .iaload, 0, 0, 0) :: (1338, .aload_n 0, 0, 0, 0) :: (1339, .iload_n 3, 0, 0, 0) :: (1340, .bipush 8, 0, 0, 0) :: (1342, .iadd, 0, 0, 0) :: (1343, .iaload, 0, 0, 0) :: (1344, .invokevirtual 117, 167, 9, 0) :: (1347, .aload_n 2, 0, 0, 0) :: (1348, .aload_n 0, 0, 0, 0) :: (1349, .iload_n 3, 0, 0, 0) :: (1350, .iconst 1, 0, 0, 0) :: (1351, .iadd, 0, 0, 0) :: (1352, .iaload, 0, 0, 0) :: (1353, .aload_n 0, 0, 0, 0) :: (1354, .iload_n 3, 0, 0, 0) :: (1355, .iconst 2, 0, 0, 0) :: (1356, .iadd, 0, 0, 0) :: (1357, .iaload, 0, 0, 0) :: (1358, .aload_n 0, 0, 0, 0) :: (1359, .iload_n 3, 0, 0, 0) :: (1360, .iconst 3, 0, 0, 0) :: (1361, .iadd, 0, 0, 0) :: (1362, .iaload, 0, 0, 0) :: (1363, .aload_n 0, 0, 0, 0) :: (1364, .iload_n 3, 0, 0, 0) :: (1365, .iconst 4, 0, 0, 0) :: (1366, .iadd, 0, 0, 0) :: (1367, .iaload, 0, 0, 0) :: (1368, .aload_n 0, 0, 0, 0) :: (1369, .iload_n 3, 0, 0, 0) :: (1370, .iconst 5, 0, 0, 0) :: (1371, .iadd, 0, 0, 0) :: (1372, .iaload, 0, 0, 0) :: (1373, .aload_n 0, 0, 0, 0) :: (1374, .iload_n 3, 0, 0, 0) :: (1375, .bipush 6, 0, 0, 0) :: (1377, .iadd, 0, 0, 0) :: (1378, .iaload, 0, 0, 0) :: (1379, .aload_n 0, 0, 0, 0) :: (1380, .iload_n 3, 0, 0, 0) :: (1381, .bipush 7, 0, 0, 0) :: (1383, .iadd, 0, 0, 0) :: (1384, .iaload, 0, 0, 0) :: (1385, .aload_n 0, 0, 0, 0) :: (1386, .iload_n 3, 0, 0, 0) :: (1387, .bipush 8, 0, 0, 0) :: (1389, .iadd, 0, 0, 0) :: (1390, .iaload, 0, 0, 0) :: (1391, .invokevirtual 121, 258, 9, 0) :: (1394, .if_icmp .eq 785, 0, 0, 0) :: (1397, .iconst 0, 0, 0, 0) :: (1398, .ireturn, 0, 0, 0) :: am_c298_1399
def am_c298_1237 : AmCd := (1237, .aload_n 1, 0, 0, 0) :: (1238, .aload_n 0, 0, 0, 0) :: (1239, .iload_n 3, 0, 0, 0) :: (1240, .iconst 1, 0, 0, 0) :: (1241, .iadd, 0, 0, 0) :: (1242, .iaload, 0, 0, 0) :: (1243, .aload_n 0, 0, 0, 0) :: (1244, .iload_n 3, 0, 0, 0) :: (1245, .iconst 2, 0, 0, 0) :: (1246, .iadd, 0, 0, 0) :: (1247, .iaload, 0, 0, 0) :: (1248, .aload_n 0, 0, 0, 0) :: (1249, .iload_n 3, 0, 0, 0) :: (1250, .iconst 3, 0, 0, 0) :: (1251, .iadd, 0, 0, 0) :: (1252, .iaload, 0, 0, 0) :: (1253, .aload_n 0, 0, 0, 0) :: (1254, .iload_n 3, 0, 0, 0) :: (1255, .iconst 4, 0, 0, 0) :: (1256, .iadd, 0, 0, 0) :: (1257, .iaload, 0, 0, 0) :: (1258, .aload_n 0, 0, 0, 0) :: (1259, .iload_n 3, 0, 0, 0) :: (1260, .iconst 5, 0, 0, 0) :: (1261, .iadd, 0, 0, 0) :: (1262, .iaload, 0, 0, 0) :: (1263, .invokevirtual 113, 166, 6, 0) :: (1266, .aload_n 2, 0, 0, 0) :: (1267, .aload_n 0, 0, 0, 0) :: (1268, .iload_n 3, 0, 0, 0) :: (1269, .iconst 1, 0, 0, 0) :: (1270, .iadd, 0, 0, 0) :: (1271, .iaload, 0, 0, 0) :: (1272, .aload_n 0, 0, 0, 0) :: (1273, .iload_n 3, 0, 0, 0) :: (1274, .iconst 2, 0, 0, 0) :: (1275, .iadd, 0, 0, 0) :: (1276, .iaload, 0, 0, 0) :: (1277, .aload_n 0, 0, 0, 0) :: (1278, .iload_n 3, 0, 0, 0) :: (1279, .iconst 3, 0, 0, 0) :: (1280, .iadd, 0, 0, 0) :: (1281, .iaload, 0, 0, 0) :: (1282, .aload_n 0, 0, 0, 0) :: (1283, .iload_n 3, 0, 0, 0) :: (1284, .iconst 4, 0, 0, 0) :: (1285, .iadd, 0, 0, 0) :: (1286, .iaload, 0, 0, 0) :: (1287, .aload_n 0, 0, 0, 0) :: (1288, .iload_n 3, 0, 0, 0) :: (1289, .iconst 5, 0, 0, 0) :: (1290, .iadd, 0, 0, 0) :: (1291, .iaload, 0, 0, 0) :: (1292, .invokevirtual 116, 256, 6, 0) :: (1295, .if_icmp .eq 884, 0, 0, 0) :: (1298, .iconst 0, 0, 0, 0) :: (1299, .ireturn, 0, 0, 0) :: am_c298_1300
def am_c298_1162 : AmCd := (1162, .aload_n 1, 0, 0, 0) :: (1163, .aload_n 0, 0, 0, 0) :: (1164, .iload_n 3, 0, 0, 0) :: (1165, .iconst 1, 0, 0, 0) :: (1166, .iadd, 0, 0, 0) :: (1167, .iaload, 0, 0, 0) :: (1168, .aload_n 0, 0, 0, 0) :: (1169, .iload_n 3, 0, 0, 0) :: (1170, .iconst 2, 0, 0, 0) :: (1171, .iadd, 0, 0, 0) :: (1172, .iaload, 0, 0, 0) :: (1173, .aload_n 0, 0, 0, 0) :: (1174, .iload_n 3, 0, 0, 0) :: (1175, .iconst 3, 0, 0, 0) :: (1176, .iadd, 0, 0, 0) :: (1177, .iaload, 0, 0, 0) :: (1178, .aload_n 0, 0, 0, 0) :: (1179, .iload_n 3, 0, 0, 0) :: (1180, .iconst 4, 0, 0, 0) :: (1181, .iadd, 0, 0, 0) :: (1182, .iaload, 0, 0, 0) :: (1183, .aload_n 0, 0, 0, 0) :: (1184, .iload_n 3, 0, 0, 0) :: (1185, .iconst 5, 0, 0, 0) :: (1186, .iadd, 0, 0, 0) :: (1187, .iaload, 0, 0, 0) :: (1188, .aload_n 0, 0, 0, 0) :: (1189, .iload_n 3, 0, 0, 0) :: (1190, .bipush 6, 0, 0, 0) :: (1192, .iadd, 0, 0, 0) :: (1193, .iaload, 0, 0, 0) :: (1194, .invokevirtual 108, 165, 7, 0) :: (1197, .aload_n 2, 0, 0, 0) :: (1198, .aload_n 0, 0, 0, 0) :: (1199, .iload_n 3, 0, 0, 0) :: (1200, .iconst 1, 0, 0, 0) :: (1201, .iadd, 0, 0, 0) :: (1202, .iaload, 0, 0, 0) :: (1203, .aload_n 0, 0, 0, 0) :: (1204, .iload_n 3, 0, 0, 0) :: (1205, .iconst 2, 0, 0, 0) :: (1206, .iadd, 0, 0, 0) :: (1207, .iaload, 0, 0, 0) :: (1208, .aload_n 0, 0, 0, 0) :: (1209, .iload_n 3, 0, 0, 0) :: (1210, .iconst 3, 0, 0, 0) :: (1211, .iadd, 0, 0, 0) :: (1212, .iaload, 0, 0, 0) :: (1213, .aload_n 0, 0, 0, 0) :: (1214, .iload_n 3, 0, 0, 0) :: (1215, .iconst 4, 0, 0, 0) :: (1216, .iadd, 0, 0, 0) :: (1217, .iaload, 0, 0, 0) :: (1218, .aload_n 0, 0, 0, 0) :: (1219, .iload_n 3, 0, 0, 0) :: (1220, .iconst 5, 0, 0, 0) :: (1221, .iadd, 0, 0, 0) :: (1222, .iaload, 0, 0, 0) :: (1223, .aload_n 0, 0, 0, 0) :: (1224, .iload_n 3, 0, 0, 0) :: (1225, .bipush 6, 0, 0, 0) :: (1227, .iadd, 0, 0, 0) :: (1228, .iaload, 0, 0, 0) :: (1229, .invokevirtual 112, 255, 7, 0) :: (1232, .if_icmp .eq 947, 0, 0, 0) :: (1235, .iconst 0, 0, 0, 0) :: (1236, .ireturn, 0, 0, 0) :: am_c298_1237
def am_c298_1119 : AmCd := (1119, .aload_n 1, 0, 0, 0) :: (1120, .aload_n 0, 0, 0, 0) :: (1121, .iload_n 3, 0, 0, 0) :: (1122, .iconst 1, 0, 0, 0) :: (1123, .iadd, 0, 0, 0) :: (1124, .iaload, 0, 0, 0) :: (1125, .aload_n 0, 0, 0, 0) :: (1126, .iload_n 3, 0, 0, 0) :: (1127, .iconst 2, 0, 0, 0) :: (1128, .iadd, 0, 0, 0) :: (1129, .iaload, 0, 0, 0) :: (1130, .aload_n 0, 0, 0, 0) :: (1131, .iload_n 3, 0, 0, 0) :: (1132, .iconst 3, 0, 0, 0) :: (1133, .iadd, 0, 0, 0) :: (1134, .iaload, 0, 0, 0) :: (1135, .invokevirtual 104, 164, 4, 0) :: (1138, .aload_n 2, 0, 0, 0) :: (1139, .aload_n 0, 0, 0, 0) :: (1140, .iload_n 3, 0, 0, 0) :: (1141, .iconst 1, 0, 0, 0) :: (1142, .iadd, 0, 0, 0) :: (1143, .iaload, 0, 0, 0) :: (1144, .aload_n 0, 0, 0, 0) :: (1145, .iload_n 3, 0, 0, 0) :: (1146, .iconst 2, 0, 0, 0) :: (1147, .iadd, 0, 0, 0) :: (1148, .iaload, 0, 0, 0) :: (1149, .aload_n 0, 0, 0, 0) :: (1150, .iload_n 3, 0, 0, 0) :: (1151, .iconst 3, 0, 0, 0) :: (1152, .iadd, 0, 0, 0) :: (1153, .iaload, 0, 0, 0) :: (1154, .invokevirtual 107, 253, 4, 0) :: (1157, .if_icmp .eq 1022, 0, 0, 0) :: (1160, .iconst 0, 0, 0, 0) :: (1161, .ireturn, 0, 0, 0) :: am_c298_1162
def am_c298_1076 : AmCd := (1076, .aload_n 1, 0, 0, 0) :: (1077, .aload_n 0, 0, 0, 0) :: (1078, .iload_n 3, 0, 0, 0) :: (1079, .iconst 1, 0, 0, 0) :: (1080, .iadd, 0, 0, 0) :: (1081, .iaload, 0, 0, 0) :: (1082, .aload_n 0, 0, 0, 0) :: (1083, .iload_n 3, 0, 0, 0) :: (1084, .iconst 2, 0, 0, 0) :: (1085, .iadd, 0, 0, 0) :: (1086, .iaload, 0, 0, 0) :: (1087, .aload_n 0, 0, 0, 0) :: (1088, .iload_n 3, 0, 0, 0) :: (1089, .iconst 3, 0, 0, 0) :: (1090, .iadd, 0, 0, 0) :: (1091, .iaload, 0, 0, 0) :: (1092, .invokevirtual 100, 163, 4, 0) :: (1095, .aload_n 2, 0, 0, 0) :: (1096, .aload_n 0, 0, 0, 0) :: (1097, .iload_n 3, 0, 0, 0) :: (1098, .iconst 1, 0, 0, 0) :: (1099, .iadd, 0, 0, 0) :: (1100, .iaload, 0, 0, 0) :: (1101, .aload_n 0, 0, 0, 0) :: (1102, .iload_n 3, 0, 0, 0) :: (1103, .iconst 2, 0, 0, 0) :: (1104, .iadd, 0, 0, 0) :: (1105, .iaload, 0, 0, 0) :: (1106, .aload_n 0, 0, 0, 0) :: (1107, .iload_n 3, 0, 0, 0) :: (1108, .iconst 3, 0, 0, 0) :: (1109, .iadd, 0, 0, 0) :: (1110, .iaload, 0, 0, 0) :: (1111, .invokevirtual 103, 252, 4, 0) :: (1114, .if_icmp .eq 1065, 0, 0, 0) :: (1117, .iconst 0, 0, 0, 0) :: (1118, .ireturn, 0, 0, 0) :: am_c298_1119
def am_c298_1033 : AmCd := (1033, .aload_n 1, 0, 0, 0) :: (1034, .aload_n 0, 0, 0, 0) :: (1035, .iload_n 3, 0, 0, 0) :: (1036, .iconst 1, 0, 0, 0) :: (1037, .iadd, 0, 0, 0) :: (1038, .iaload, 0, 0, 0) :: (1039, .aload_n 0, 0, 0, 0) :: (1040, .iload_n 3, 0, 0, 0) :: (1041, .iconst 2, 0, 0, 0) :: (1042, .iadd, 0, 0, 0) :: (1043, .iaload, 0, 0, 0) :: (1044, .aload_n 0, 0, 0, 0) :: (1045, .iload_n 3, 0, 0, 0) :: (1046, .iconst 3, 0, 0, 0) :: (1047, .iadd, 0, 0, 0) :: (1048, .iaload, 0, 0, 0) :: (1049, .invokevirtual 96, 160, 4, 0) :: (1052, .aload_n 2, 0, 0, 0) :: (1053, .aload_n 0, 0, 0, 0) :: (1054, .iload_n 3, 0, 0, 0) :: (1055, .iconst 1, 0, 0, 0) :: (1056, .iadd, 0, 0, 0) :: (1057, .iaload, 0, 0, 0) :: (1058, .aload_n 0, 0, 0, 0) :: (1059, .iload_n 3, 0, 0, 0) :: (1060, .iconst 2, 0, 0, 0) :: (1061, .iadd, 0, 0, 0) :: (1062, .iaload, 0, 0, 0) :: (1063, .aload_n 0, 0, 0, 0) :: (1064, .iload_n 3, 0, 0, 0) :: (1065, .iconst 3, 0, 0, 0) :: (1066, .iadd, 0, 0, 0) :: (1067, .iaload, 0, 0, 0) :: (1068, .invokevirtual 99, 248, 4, 0) :: (1071, .if_icmp .eq 1108, 0, 0, 0) :: (1074, .iconst 0, 0, 0, 0) :: (1075, .ireturn, 0, 0, 0) :: am_c298_1076
def am_c298_970 : AmCd := (970, .aload_n 1, 0, 0, 0) :: (971, .aload_n 0, 0, 0, 0) :: (972, .iload_n 3, 0, 0, 0) :: (973, .iconst 1, 0, 0, 0) :: (974, .iadd, 0, 0, 0) :: (975, .iaload, 0, 0, 0) :: (976, .aload_n 0, 0, 0, 0) :: (977, .iload_n 3, 0, 0, 0) :: (978, .iconst 2, 0, 0, 0) :: (979, .iadd, 0, 0, 0) :: (980, .iaload, 0, 0, 0) :: (981, .aload_n 0, 0, 0, 0) :: (982, .iload_n 3, 0, 0, 0) :: (983, .iconst 3, 0, 0, 0) :: (984, .iadd, 0, 0, 0) :: (985, .iaload, 0, 0, 0) :: (986, .aload_n 0, 0, 0, 0) :: (987, .iload_n 3, 0, 0, 0) :: (988, .iconst 4, 0, 0, 0) :: (989, .iadd, 0, 0, 0) :: (990, .iaload, 0, 0, 0) :: (991, .aload_n 0, 0, 0, 0) :: (992, .iload_n 3, 0, 0, 0) :: (993, .iconst 5, 0, 0, 0) :: (994, .iadd, 0, 0, 0) :: (995, .iaload, 0, 0, 0) :: (996, .invokevirtual 92, 159, 6, 0) :: (999, .aload_n 2, 0, 0, 0) :: (1000, .aload_n 0, 0, 0, 0) :: (1001, .iload_n 3, 0, 0, 0) :: (1002, .iconst 1, 0, 0, 0) :: (1003, .iadd, 0, 0, 0) :: (1004, .iaload, 0, 0, 0) :: (1005, .aload_n 0, 0, 0, 0) :: (1006, .iload_n 3, 0, 0, 0) :: (1007, .iconst 2, 0, 0, 0) :: (1008, .iadd, 0, 0, 0) :: (1009, .iaload, 0, 0, 0) :: (1010, .aload_n 0, 0, 0, 0) :: (1011, .iload_n 3, 0, 0, 0) :: (1012, .iconst 3, 0, 0, 0) :: (1013, .iadd, 0, 0, 0) :: (1014, .iaload, 0, 0, 0) :: (1015, .aload_n 0, 0, 0, 0) :: (1016, .iload_n 3, 0, 0, 0) :: (1017, .iconst 4, 0, 0, 0) :: (1018, .iadd, 0, 0, 0) :: (1019, .iaload, 0, 0, 0) :: (1020, .aload_n 0, 0, 0, 0) :: (1021, .iload_n 3, 0, 0, 0) :: (1022, .iconst 5, 0, 0, 0) :: (1023, .iadd, 0, 0, 0) :: (1024, .iaload, 0, 0, 0) :: (1025, .invokevirtual 95, 247, 6, 0) :: (1028, .if_icmp .eq 1151, 0, 0, 0) :: (1031, .iconst 0, 0, 0, 0) :: (1032, .ireturn, 0, 0, 0) :: am_c298_1033
def am_c298_937 : AmCd := (937, .aload_n 1, 0, 0, 0) :: (938, .aload_n 0, 0, 0, 0) :: (939, .iload_n 3, 0, 0, 0) :: (940, .iconst 1, 0, 0, 0) :: (941, .iadd, 0, 0, 0) :: (942, .iaload, 0, 0, 0) :: (943, .aload_n 0, 0, 0, 0) :: (944, .iload_n 3, 0, 0, 0) :: (945, .iconst 2, 0, 0, 0) :: (946, .iadd, 0, 0, 0) :: (947, .iaload, 0, 0, 0) :: (948, .invokevirtual 88, 158, 3, 0) :: (951, .aload_n 2, 0, 0, 0) :: (952, .aload_n 0, 0, 0, 0) :: (953, .iload_n 3, 0, 0, 0) :: (954, .iconst 1, 0, 0, 0) :: (955, .iadd, 0, 0, 0) :: (956, .iaload, 0, 0, 0) :: (957, .aload_n 0, 0, 0, 0) :: (958, .iload_n 3, 0, 0, 0) :: (959, .iconst 2, 0, 0, 0) :: (960, .iadd, 0, 0, 0) :: (961, .iaload, 0, 0, 0) :: (962, .invokevirtual 91, 232, 3, 0) :: (965, .if_icmp .eq 1214, 0, 0, 0) :: (968, .iconst 0, 0, 0, 0) :: (969, .ireturn, 0, 0, 0) :: am_c298_970
def am_c298_904 : AmCd := (904, .aload_n 1, 0, 0, 0) :: (905, .aload_n 0, 0, 0, 0) :: (906, .iload_n 3, 0, 0, 0) :: (907, .iconst 1, 0, 0, 0) :: (908, .iadd, 0, 0, 0) :: (909, .iaload, 0, 0, 0) :: (910, .aload_n 0, 0, 0, 0) :: (911, .iload_n 3, 0, 0, 0) :: (912, .iconst 2, 0, 0, 0) :: (913, .iadd, 0, 0, 0) :: (914, .iaload, 0, 0, 0) :: (915, .invokevirtual 84, 157, 3, 0) :: (918, .aload_n 2, 0, 0, 0) :: (919, .aload_n 0, 0, 0, 0) :: (920, .iload_n 3, 0, 0, 0) :: (921, .iconst 1, 0, 0, 0) :: (922, .iadd, 0, 0, 0) :: (923, .iaload, 0, 0, 0) :: (924, .aload_n 0, 0, 0, 0) :: (925, .iload_n 3, 0, 0, 0) :: (926, .iconst 2, 0, 0, 0) :: (927, .iadd, 0, 0, 0) :: (928, .iaload, 0, 0, 0) :: (929, .invokevirtual 87, 229, 3, 0) :: (932, .if_icmp .eq 1247, 0, 0, 0) :: (935, .iconst 0, 0, 0, 0) :: (936, .ireturn, 0, 0, 0) :: am_c298_937
def am_c298_881 : AmCd := (881, .aload_n 1, 0, 0, 0) :: (882, .aload_n 0, 0, 0, 0) :: (883, .iload_n 3, 0, 0, 0) :: (884, .iconst 1, 0, 0, 0) :: (885, .iadd, 0, 0, 0) :: (886, .iaload, 0, 0, 0) :: (887, .invokevirtual 80, 156, 2, 0) :: (890, .aload_n 2, 0, 0, 0) :: (891, .aload_n 0, 0, 0, 0) :: (892, .iload_n 3, 0, 0, 0) :: (893, .iconst 1, 0, 0, 0) :: (894, .iadd, 0, 0, 0) :: (895, .iaload, 0, 0, 0) :: (896, .invokevirtual 83, 228, 2, 0) :: (899, .if_icmp .eq 1280, 0, 0, 0) :: (902, .iconst 0, 0, 0, 0) :: (903, .ireturn, 0, 0, 0) :: am_c298_904
def am_c298_848 : AmCd := (848, .aload_n 1, 0, 0, 0) :: (849, .aload_n 0, 0, 0, 0) :: (850, .iload_n 3, 0, 0, 0) :: (851, .iconst 1, 0, 0, 0) :: (852, .iadd, 0, 0, 0) :: (853, .iaload, 0, 0, 0) :: (854, .aload_n 0, 0, 0, 0) :: (855, .iload_n 3, 0, 0, 0) :: (856, .iconst 2, 0, 0, 0) :: (857, .iadd, 0, 0, 0) :: (858, .iaload, 0, 0, 0) :: (859, .invokevirtual 76, 155, 3, 0) :: (862, .aload_n 2, 0, 0, 0) :: (863, .aload_n 0, 0, 0, 0) :: (864, .iload_n 3, 0, 0, 0) :: (865, .iconst 1, 0, 0, 0) :: (866, .iadd, 0, 0, 0) :: (867, .iaload, 0, 0, 0) :: (868, .aload_n 0, 0, 0, 0) :: (869, .iload_n 3, 0, 0, 0) :: (870, .iconst 2, 0, 0, 0) :: (871, .iadd, 0, 0, 0) :: (872, .iaload, 0, 0, 0) :: (873, .invokevirtual 79, 227, 3, 0) :: (876, .if_icmp .eq 1303, 0, 0, 0) :: (879, .iconst 0, 0, 0, 0) :: (880, .ireturn, 0, 0, 0) :: am_c298_881
def am_c298_815 : AmCd := (815, .aload_n 1, 0, 0, 0) :: (816, .aload_n 0, 0, 0, 0) :: (817, .iload_n 3, 0, 0, 0) :: (818, .iconst 1, 0, 0, 0) :: (819, .iadd, 0, 0, 0) :: (820, .iaload, 0, 0, 0) :: (821, .aload_n 0, 0, 0, 0) :: (822, .iload_n 3, 0, 0, 0) :: (823, .iconst 2, 0, 0, 0) :: (824, .iadd, 0, 0, 0) :: (825, .iaload, 0, 0, 0) :: (826, .invokevirtual 72, 154, 3, 0) :: (829, .aload_n 2, 0, 0, 0) :: (830, .aload_n 0, 0, 0, 0) :: (831, .iload_n 3, 0, 0, 0) :: (832, .iconst 1, 0, 0, 0) :: (833, .iadd, 0, 0, 0) :: (834, .iaload, 0, 0, 0) :: (835, .aload_n 0, 0, 0, 0) :: (836, .iload_n 3, 0, 0, 0) :: (837, .iconst 2, 0, 0, 0) :: (838, .iadd, 0, 0, 0) :: (839, .iaload, 0, 0, 0) :: (840, .invokevirtual 75, 226, 3, 0) :: (843, .if_icmp .eq 1336, 0, 0, 0) :: (846, .iconst 0, 0, 0, 0) :: (847, .ireturn, 0, 0, 0) :: am_c298_848
def am_c298_782 : AmCd := (782, .aload_n 1, 0, 0, 0) :: (783, .aload_n 0, 0, 0, 0) :: (784, .iload_n 3, 0, 0, 0) :: (785, .iconst 1, 0, 0, 0) :: (786, .iadd, 0, 0, 0) :: (787, .iaload, 0, 0, 0) :: (788, .aload_n 0, 0, 0, 0) :: (789, .iload_n 3, 0, 0, 0) :: (790, .iconst 2, 0, 0, 0) :: (791, .iadd, 0, 0, 0) :: (792, .iaload, 0, 0, 0) :: (793, .invokevirtual 68, 153, 3, 0) :: (796, .aload_n 2, 0, 0, 0) :: (797, .aload_n 0, 0, 0, 0) :: (798, .iload_n 3, 0, 0, 0) :: (799, .iconst 1, 0, 0, 0) :: (800, .iadd, 0, 0, 0) :: (801, .iaload, 0, 0, 0) :: (802, .aload_n 0, 0, 0, 0) :: (803, .iload_n 3, 0, 0, 0) :: (804, .iconst 2, 0, 0, 0) :: (805, .iadd, 0, 0, 0) :: (806, .iaload, 0, 0, 0) :: (807, .invokevirtual 71, 223, 3, 0) :: (810, .if_icmp .eq 1369, 0, 0, 0) :: (813, .iconst 0, 0, 0, 0) :: (814, .ireturn, 0, 0, 0) :: am_c298_815
def am_c298_739 : AmCd := (739, .aload_n 1, 0, 0, 0) :: (740, .aload_n 0, 0, 0, 0) :: (741, .iload_n 3, 0, 0, 0) :: (742, .iconst 1, 0, 0, 0) :: (743, .iadd, 0, 0, 0) :: (744, .iaload, 0, 0, 0) :: (745, .aload_n 0, 0, 0, 0) :: (746, .iload_n 3, 0, 0, 0) :: (747, .iconst 2, 0, 0, 0) :: (748, .iadd, 0, 0, 0) :: (749, .iaload, 0, 0, 0) :: (750, .aload_n 0, 0, 0, 0) :: (751, .iload_n 3, 0, 0, 0) :: (752, .iconst 3, 0, 0, 0) :: (753, .iadd, 0, 0, 0) :: (754, .iaload, 0, 0, 0) :: (755, .invokevirtual 64, 152, 4, 0) :: (758, .aload_n 2, 0, 0, 0) :: (759, .aload_n 0, 0, 0, 0) :: (760, .iload_n 3, 0, 0, 0) :: (761, .iconst 1, 0, 0, 0) :: (762, .iadd, 0, 0, 0) :: (763, .iaload, 0, 0, 0) :: (764, .aload_n 0, 0, 0, 0) :: (765, .iload_n 3, 0, 0, 0) :: (766, .iconst 2, 0, 0, 0) :: (767, .iadd, 0, 0, 0) :: (768, .iaload, 0, 0, 0) :: (769, .aload_n 0, 0, 0, 0) :: (770, .iload_n 3, 0, 0, 0) :: (771, .iconst 3, 0, 0, 0) :: (772, .iadd, 0, 0, 0) :: (773, .iaload, 0, 0, 0) :: (774, .invokevirtual 67, 222, 4, 0) :: (777, .if_icmp .eq 1402, 0, 0, 0) :: (780, .iconst 0, 0, 0, 0) :: (781, .ireturn, 0, 0, 0) :: am_c298_782
def am_c298_726 : AmCd := (726, .aload_n 1, 0, 0, 0) :: (727, .invokevirtual 59, 151, 1, 0) :: (730, .aload_n 2, 0, 0, 0) :: (731, .invokevirtual 63, 221, 1, 0) :: (734, .if_icmp .eq 1445, 0, 0, 0) :: (737, .iconst 0, 0, 0, 0) :: (738, .ireturn, 0, 0, 0) :: am_c298_739
def am_c298_639 : AmCd := (639, .aload_n 1, 0, 0, 0) :: (640, .aload_n 0, 0, 0, 0) :: (641, .iload_n 3, 0, 0, 0) :: (642, .iconst 1, 0, 0, 0) :: (643, .iadd, 0, 0, 0) :: (644, .iaload, 0, 0, 0) :: (645, .aload_n 0, 0, 0, 0) :: (646, .iload_n 3, 0, 0, 0) :: (647, .iconst 2, 0, 0, 0) :: (648, .iadd, 0, 0, 0) :: (649, .iaload, 0, 0, 0) :: (650, .aload_n 0, 0, 0, 0) :: (651, .iload_n 3, 0, 0, 0) :: (652, .iconst 3, 0, 0, 0) :: (653, .iadd, 0, 0, 0) :: (654, .iaload, 0, 0, 0) :: (655, .aload_n 0, 0, 0, 0) :: (656, .iload_n 3, 0, 0, 0) :: (657, .iconst 4, 0, 0, 0) :: (658, .iadd, 0, 0, 0) :: (659, .iaload, 0, 0, 0) :: (660, .aload_n 0, 0, 0, 0) :: (661, .iload_n 3, 0, 0, 0) :: (662, .iconst 5, 0, 0, 0) :: (663, .iadd, 0, 0, 0) :: (664, .iaload, 0, 0, 0) :: (665, .aload_n 0, 0, 0, 0) :: (666, .iload_n 3, 0, 0, 0) :: (667, .bipush 6, 0, 0, 0) :: (669, .iadd, 0, 0, 0) :: (670, .iaload, 0, 0, 0) :: (671, .aload_n 0, 0, 0, 0) :: (672, .iload_n 3, 0, 0, 0) :: (673, .bipush 7, 0, 0, 0) :: (675, .iadd, 0, 0, 0) :: (676, .iaload, 0, 0, 0) :: (677, .invokevirtual 54, 150, 8, 0) :: (680, .aload_n 2, 0, 0, 0) :: (681, .aload_n 0, 0, 0, 0) :: (682, .iload_n 3, 0, 0, 0) :: (683, .iconst 1, 0, 0, 0) :: (684, .iadd, 0, 0, 0) :: (685, .iaload, 0, 0, 0) :: (686, .aload_n 0, 0, 0, 0) :: (687, .iload_n 3, 0, 0, 0) :: (688, .iconst 2, 0, 0, 0) :: (689, .iadd, 0, 0, 0) :: (690, .iaload, 0, 0, 0) :: (691, .aload_n 0, 0, 0, 0) :: (692, .iload_n 3, 0, 0, 0) :: (693, .iconst 3, 0, 0, 0) :: (694, .iadd, 0, 0, 0) :: (695, .iaload, 0, 0, 0) :: (696, .aload_n 0, 0, 0, 0) :: (697, .iload_n 3, 0, 0, 0) :: (698, .iconst 4, 0, 0, 0) :: (699, .iadd, 0, 0, 0) :: (700, .iaload, 0, 0, 0) :: (701, .aload_n 0, 0, 0, 0) :: (702, .iload_n 3, 0, 0, 0) :: (703, .iconst 5, 0, 0, 0) :: (704, .iadd, 0, 0, 0) :: (705, .iaload, 0, 0, 0) :: (706, .aload_n 0, 0, 0, 0) :: (707, .iload_n 3, 0, 0, 0) :: (708, .bipush 6, 0, 0, 0) :: (710, .iadd, 0, 0, 0) :: (711, .iaload, 0, 0, 0) :: (712, .aload_n 0, 0, 0, 0) :: (713, .iload_n 3, 0, 0, 0) :: (714, .bipush 7, 0, 0, 0) :: (716, .iadd, 0, 0, 0) :: (717, .iaload, 0, 0, 0) :: (718, .invokevirtual 58, 220, 8, 0) :: (721, .if_icmp .eq 1458, 0, 0, 0) :: (724, .iconst 0, 0, 0, 0) :: (725, .ireturn, 0, 0, 0) :: am_c298_726
def am_c298_596 : AmCd := (596, .aload_n 1, 0, 0, 0) :: (597, .aload_n 0, 0, 0, 0) :: (598, .iload_n 3, 0, 0, 0) :: (599, .iconst 1, 0, 0, 0) :: (600, .iadd, 0, 0, 0) :: (601, .iaload, 0, 0, 0) :: (602, .aload_n 0, 0, 0, 0) :: (603, .iload_n 3, 0, 0, 0) :: (604, .iconst 2, 0, 0, 0) :: (605, .iadd, 0, 0, 0) :: (606, .iaload, 0, 0, 0) :: (607, .aload_n 0, 0, 0, 0) :: (608, .iload_n 3, 0, 0, 0) :: (609, .iconst 3, 0, 0, 0) :: (610, .iadd, 0, 0, 0) :: (611, .iaload, 0, 0, 0) :: (612, .invokevirtual 50, 149, 4, 0) :: (615, .aload_n 2, 0, 0, 0) :: (616, .aload_n 0, 0, 0, 0) :: (617, .iload_n 3, 0, 0, 0) :: (618, .iconst 1, 0, 0, 0) :: (619, .iadd, 0, 0, 0) :: (620, .iaload, 0, 0, 0) :: (621, .aload_n 0, 0, 0, 0) :: (622, .iload_n 3, 0, 0, 0) :: (623, .iconst 2, 0, 0, 0) :: (624, .iadd, 0, 0, 0) :: (625, .iaload, 0, 0, 0) :: (626, .aload_n 0, 0, 0, 0) :: (627, .iload_n 3, 0, 0, 0) :: (628, .iconst 3, 0, 0, 0) :: (629, .iadd, 0, 0, 0) :: (630, .iaload, 0, 0, 0) :: (631, .invokevirtual 53, 218, 4, 0) :: (634, .if_icmp .eq 1545, 0, 0, 0) :: (637, .iconst 0, 0, 0, 0) :: (638, .ireturn, 0, 0, 0) :: am_c298_639
def am_c298_543 : AmCd := (543, .aload_n 1, 0, 0, 0) :: (544, .aload_n 0, 0, 0, 0) :: (545, .iload_n 3, 0, 0, 0) :: (546, .iconst 1, 0, 0, 0) :: (547, .iadd, 0, 0, 0) :: (548, .iaload, 0, 0, 0) :: (549, .aload_n 0, 0, 0, 0) :: (550, .iload_n 3, 0, 0, 0) :: (551, .iconst 2, 0, 0, 0) :: (552, .iadd, 0, 0, 0) :: (553, .iaload, 0, 0, 0) :: (554, .aload_n 0, 0, 0, 0) :: (555, .iload_n 3, 0, 0, 0) :: (556, .iconst 3, 0, 0, 0) :: (557, .iadd, 0, 0, 0) :: (558, .iaload, 0, 0, 0) :: (559, .aload_n 0, 0, 0, 0) :: (560, .iload_n 3, 0, 0, 0) :: (561, .iconst 4, 0, 0, 0) :: (562, .iadd, 0, 0, 0) :: (563, .iaload, 0, 0, 0) :: (564, .invokevirtual 46, 148, 5, 0) :: (567, .aload_n 2, 0, 0, 0) :: (568, .aload_n 0, 0, 0, 0) :: (569, .iload_n 3, 0, 0, 0) :: (570, .iconst 1, 0, 0, 0) :: (571, .iadd, 0, 0, 0) :: (572, .iaload, 0, 0, 0) :: (573, .aload_n 0, 0, 0, 0) :: (574, .iload_n 3, 0, 0, 0) :: (575, .iconst 2, 0, 0, 0) :: (576, .iadd, 0, 0, 0) :: (577, .iaload, 0, 0, 0) :: (578, .aload_n 0, 0, 0, 0) :: (579, .iload_n 3, 0, 0, 0) :: (580, .iconst 3, 0, 0, 0) :: (581, .iadd, 0, 0, 0) :: (582, .iaload, 0, 0, 0) :: (583, .aload_n 0, 0, 0, 0) :: (584, .iload_n 3, 0, 0, 0) :: (585, .iconst 4, 0, 0, 0) :: (586, .iadd, 0, 0, 0) :: (587, .iaload, 0, 0, 0) :: (588, .invokevirtual 49, 217, 5, 0) :: (591, .if_icmp .eq 1588, 0, 0, 0) :: (594, .iconst 0, 0, 0, 0) :: (595, .ireturn, 0, 0, 0) :: am_c298_596
def am_c298_480 : AmCd := (480, .aload_n 1, 0, 0, 0) :: (481, .aload_n 0, 0, 0, 0) :: (482, .iload_n 3, 0, 0, 0) :: (483, .iconst 1, 0, 0, 0) :: (484, .iadd, 0, 0, 0) :: (485, .iaload, 0, 0, 0) :: (486, .aload_n 0, 0, 0, 0) :: (487, .iload_n 3, 0, 0, 0) :: (488, .iconst 2, 0, 0, 0) :: (489, .iadd, 0, 0, 0) :: (490, .iaload, 0, 0, 0) :: (491, .aload_n 0, 0, 0, 0) :: (492, .iload_n 3, 0, 0, 0) :: (493, .iconst 3, 0, 0, 0) :: (494, .iadd, 0, 0, 0) :: (495, .iaload, 0, 0, 0) :: (496, .aload_n 0, 0, 0, 0) :: (497, .iload_n 3, 0, 0, 0) :: (498, .iconst 4, 0, 0, 0) :: (499, .iadd, 0, 0, 0) :: (500, .iaload, 0, 0, 0) :: (501, .aload_n 0, 0, 0, 0) :: (502, .iload_n 3, 0, 0, 0) :: (503, .iconst 5, 0, 0, 0) :: (504, .iadd, 0, 0, 0) :: (505, .iaload, 0, 0, 0) :: (506, .invokevirtual 41, 147, 6, 0) :: (509, .aload_n 2, 0, 0, 0) :: (510, .aload_n 0, 0, 0, 0) :: (511, .iload_n 3, 0, 0, 0) :: (512, .iconst 1, 0, 0, 0) :: (513, .iadd, 0, 0, 0) :: (514, .iaload, 0, 0, 0) :: (515, .aload_n 0, 0, 0, 0) :: (516, .iload_n 3, 0, 0, 0) :: (517, .iconst 2, 0, 0, 0) :: (518, .iadd, 0, 0, 0) :: (519, .iaload, 0, 0, 0) :: (520, .aload_n 0, 0, 0, 0) :: (521, .iload_n 3, 0, 0, 0) :: (522, .iconst 3, 0, 0, 0) :: (523, .iadd, 0, 0, 0) :: (524, .iaload, 0, 0, 0) :: (525, .aload_n 0, 0, 0, 0) :: (526, .iload_n 3, 0, 0, 0) :: (527, .iconst 4, 0, 0, 0) :: (528, .iadd, 0, 0, 0) :: (529, .iaload, 0, 0, 0) :: (530, .aload_n 0, 0, 0, 0) :: (531, .iload_n 3, 0, 0, 0) :: (532, .iconst 5, 0, 0, 0) :: (533, .iadd, 0, 0, 0) :: (534, .iaload, 0, 0, 0) :: (535, .invokevirtual 45, 216, 6, 0) :: (538, .if_icmp .eq 1641, 0, 0, 0) :: (541, .iconst 0, 0, 0, 0) :: (542, .ireturn, 0, 0, 0) :: am_c298_543
def am_c298_437 : AmCd := (437, .aload_n 1, 0, 0, 0) :: (438, .aload_n 0, 0, 0, 0) :: (439, .iload_n 3, 0, 0, 0) :: (440, .iconst 1, 0, 0, 0) :: (441, .iadd, 0, 0, 0) :: (442, .iaload, 0, 0, 0) :: (443, .aload_n 0, 0, 0, 0) :: (444, .iload_n 3, 0, 0, 0) :: (445, .iconst 2, 0, 0, 0) :: (446, .iadd, 0, 0, 0) :: (447, .iaload, 0, 0, 0) :: (448, .aload_n 0, 0, 0, 0) :: (449, .iload_n 3, 0, 0, 0) :: (450, .iconst 3, 0, 0, 0) :: (451, .iadd, 0, 0, 0) :: (452, .iaload, 0, 0, 0) :: (453, .invokevirtual 37, 146, 4, 0) :: (456, .aload_n 2, 0, 0, 0) :: (457, .aload_n 0, 0, 0, 0) :: (458, .iload_n 3, 0, 0, 0) :: (459, .iconst 1, 0, 0, 0) :: (460, .iadd, 0, 0, 0) :: (461, .iaload, 0, 0, 0) :: (462, .aload_n 0, 0, 0, 0) :: (463, .iload_n 3, 0, 0, 0) :: (464, .iconst 2, 0, 0, 0) :: (465, .iadd, 0, 0, 0) :: (466, .iaload, 0, 0, 0) :: (467, .aload_n 0, 0, 0, 0) :: (468, .iload_n 3, 0, 0, 0) :: (469, .iconst 3, 0, 0, 0) :: (470, .iadd, 0, 0, 0) :: (471, .iaload, 0, 0, 0) :: (472, .invokevirtual 40, 215, 4, 0) :: (475, .if_icmp .eq 1704, 0, 0, 0) :: (478, .iconst 0, 0, 0, 0) :: (479, .ireturn, 0, 0, 0) :: am_c298_480
def am_c298_384 : AmCd := (384, .aload_n 1, 0, 0, 0) :: (385, .aload_n 0, 0, 0, 0) :: (386, .iload_n 3, 0, 0, 0) :: (387, .iconst 1, 0, 0, 0) :: (388, .iadd, 0, 0, 0) :: (389, .iaload, 0, 0, 0) :: (390, .aload_n 0, 0, 0, 0) :: (391, .iload_n 3, 0, 0, 0) :: (392, .iconst 2, 0, 0, 0) :: (393, .iadd, 0, 0, 0) :: (394, .iaload, 0, 0, 0) :: (395, .aload_n 0, 0, 0, 0) :: (396, .iload_n 3, 0, 0, 0) :: (397, .iconst 3, 0, 0, 0) :: (398, .iadd, 0, 0, 0) :: (399, .iaload, 0, 0, 0) :: (400, .aload_n 0, 0, 0, 0) :: (401, .iload_n 3, 0, 0, 0) :: (402, .iconst 4, 0, 0, 0) :: (403, .iadd, 0, 0, 0) :: (404, .iaload, 0, 0, 0) :: (405, .invokevirtual 32, 145, 5, 0) :: (408, .aload_n 2, 0, 0, 0) :: (409, .aload_n 0, 0, 0, 0) :: (410, .iload_n 3, 0, 0, 0) :: (411, .iconst 1, 0, 0, 0) :: (412, .iadd, 0, 0, 0) :: (413, .iaload, 0, 0, 0) :: (414, .aload_n 0, 0, 0, 0) :: (415, .iload_n 3, 0, 0, 0) :: (416, .iconst 2, 0, 0, 0) :: (417, .iadd, 0, 0, 0) :: (418, .iaload, 0, 0, 0) :: (419, .aload_n 0, 0, 0, 0) :: (420, .iload_n 3, 0, 0, 0) :: (421, .iconst 3, 0, 0, 0) :: (422, .iadd, 0, 0, 0) :: (423, .iaload, 0, 0, 0) :: (424, .aload_n 0, 0, 0, 0) :: (425, .iload_n 3, 0, 0, 0) :: (426, .iconst 4, 0, 0, 0) :: (427, .iadd, 0, 0, 0) :: (428, .iaload, 0, 0, 0) :: (429, .invokevirtual 36, 214, 5, 0) :: (432, .if_icmp .eq 1747, 0, 0, 0) :: (435, .iconst 0, 0, 0, 0) :: (436, .ireturn, 0, 0, 0) :: am_c298_437
def am_c298_341 : AmCd := (341, .aload_n 1, 0, 0, 0) :: (342, .aload_n 0, 0, 0, 0) :: (343, .iload_n 3, 0, 0, 0) :: (344, .iconst 1, 0, 0, 0) :: (345, .iadd, 0, 0, 0) :: (346, .iaload, 0, 0, 0) :: (347, .aload_n 0, 0, 0, 0) :: (348, .iload_n 3, 0, 0, 0) :: (349, .iconst 2, 0, 0, 0) :: (350, .iadd, 0, 0, 0) :: (351, .iaload, 0, 0, 0) :: (352, .aload_n 0, 0, 0, 0) :: (353, .iload_n 3, 0, 0, 0) :: (354, .iconst 3, 0, 0, 0) :: (355, .iadd, 0, 0, 0) :: (356, .iaload, 0, 0, 0) :: (357, .invokevirtual 27, 144, 4, 0) :: (360, .aload_n 2, 0, 0, 0) :: (361, .aload_n 0, 0, 0, 0) :: (362, .iload_n 3, 0, 0, 0) :: (363, .iconst 1, 0, 0, 0) :: (364, .iadd, 0, 0, 0) :: (365, .iaload, 0, 0, 0) :: (366, .aload_n 0, 0, 0, 0) :: (367, .iload_n 3, 0, 0, 0) :: (368, .iconst 2, 0, 0, 0) :: (369, .iadd, 0, 0, 0) :: (370, .iaload, 0, 0, 0) :: (371, .aload_n 0, 0, 0, 0) :: (372, .iload_n 3, 0, 0, 0) :: (373, .iconst 3, 0, 0, 0) :: (374, .iadd, 0, 0, 0) :: (375, .iaload, 0, 0, 0) :: (376, .invokevirtual 31, 211, 4, 0) :: (379, .if_icmp .eq 1800, 0, 0, 0) :: (382, .iconst 0, 0, 0, 0) :: (383, .ireturn, 0, 0, 0) :: am_c298_384
def am_c298_308 : AmCd := (308, .aload_n 1, 0, 0, 0) :: (309, .aload_n 0, 0, 0, 0) :: (310, .iload_n 3, 0, 0, 0) :: (311, .iconst 1, 0, 0, 0) :: (312, .iadd, 0, 0, 0) :: (313, .iaload, 0, 0, 0) :: (314, .aload_n 0, 0, 0, 0) :: (315, .iload_n 3, 0, 0, 0) :: (316, .iconst 2, 0, 0, 0) :: (317, .iadd, 0, 0, 0) :: (318, .iaload, 0, 0, 0) :: (319, .invokevirtual 23, 143, 3, 0) :: (322, .aload_n 2, 0, 0, 0) :: (323, .aload_n 0, 0, 0, 0) :: (324, .iload_n 3, 0, 0, 0) :: (325, .iconst 1, 0, 0, 0) :: (326, .iadd, 0, 0, 0) :: (327, .iaload, 0, 0, 0) :: (328, .aload_n 0, 0, 0, 0) :: (329, .iload_n 3, 0, 0, 0) :: (330, .iconst 2, 0, 0, 0) :: (331, .iadd, 0, 0, 0) :: (332, .iaload, 0, 0, 0) :: (333, .invokevirtual 26, 210, 3, 0) :: (336, .if_icmp .eq 1843, 0, 0, 0) :: (339, .iconst 0, 0, 0, 0) :: (340, .ireturn, 0, 0, 0) :: am_c298_341
def am_c298_285 : AmCd := (285, .aload_n 1, 0, 0, 0) :: (286, .aload_n 0, 0, 0, 0) :: (287, .iload_n 3, 0, 0, 0) :: (288, .iconst 1, 0, 0, 0) :: (289, .iadd, 0, 0, 0) :: (290, .iaload, 0, 0, 0) :: (291, .invokevirtual 18, 142, 2, 0) :: (294, .aload_n 2, 0, 0, 0) :: (295, .aload_n 0, 0, 0, 0) :: (296, .iload_n 3, 0, 0, 0) :: (297, .iconst 1, 0, 0, 0) :: (298, .iadd, 0, 0, 0) :: (299, .iaload, 0, 0, 0) :: (300, .invokevirtual 22, 209, 2, 0) :: (303, .if_icmp .eq 1876, 0, 0, 0) :: (306, .iconst 0, 0, 0, 0) :: (307, .ireturn, 0, 0, 0) :: am_c298_308
def am_c298_252 : AmCd := (252, .aload_n 1, 0, 0, 0) :: (253, .aload_n 0, 0, 0, 0) :: (254, .iload_n 3, 0, 0, 0) :: (255, .iconst 1, 0, 0, 0) :: (256, .iadd, 0, 0, 0) :: (257, .iaload, 0, 0, 0) :: (258, .aload_n 0, 0, 0, 0) :: (259, .iload_n 3, 0, 0, 0) :: (260, .iconst 2, 0, 0, 0) :: (261, .iadd, 0, 0, 0) :: (262, .iaload, 0, 0, 0) :: (263, .invokevirtual 13, 141, 3, 0) :: (266, .aload_n 2, 0, 0, 0) :: (267, .aload_n 0, 0, 0, 0) :: (268, .iload_n 3, 0, 0, 0) :: (269, .iconst 1, 0, 0, 0) :: (270, .iadd, 0, 0, 0) :: (271, .iaload, 0, 0, 0) :: (272, .aload_n 0, 0, 0, 0) :: (273, .iload_n 3, 0, 0, 0) :: (274, .iconst 2, 0, 0, 0) :: (275, .iadd, 0, 0, 0) :: (276, .iaload, 0, 0, 0) :: (277, .invokevirtual 17, 208, 3, 0) :: (280, .if_icmp .eq 1899, 0, 0, 0) :: (283, .iconst 0, 0, 0, 0) :: (284, .ireturn, 0, 0, 0) :: am_c298_285
def am_c298_18 : AmCd := (18, .iload_n 3, 0, 0, 0) :: (19, .aload_n 0, 0, 0, 0) :: (20, .arraylength, 0, 0, 0) :: (21, .bipush 9, 0, 0, 0) :: (23, .isub, 0, 0, 0) :: (24, .if_icmp .gt 2161, 0, 0, 0) :: (27, .aload_n 0, 0, 0, 0) :: (28, .iload_n 3, 0, 0, 0) :: (29, .iaload, 0, 0, 0) :: (30, .bipush 63, 0, 0, 0) :: (32, .iand, 0, 0, 0) :: (33, .tableswitch 2146 0 50 #[219, 252, 275, 308, 351, 404, 447, 510, 563, 606, 693, 706, 749, 782, 815, 848, 871, 904, 937, 1000, 1043, 1086, 1129, 1204, 1267, 1366, 1409, 1452, 1527, 1550, 1583, 1626, 1679, 1722, 1745, 1768, 1801, 1834, 1867, 1890, 1913, 1926, 1949, 1962, 1985, 1998, 2031, 2054, 2067, 2090, 2113], 0, 0, 0) :: am_c298_252
def am_c298_0 : AmCd := (0, .new 7, 9, 0, 0) :: (3, .dup, 0, 0, 0) :: (4, .invokespecial 9, 140, 1, 2) :: (7, .astore_n 1, 0, 0, 0) :: (8, .new 10, 10, 0, 0) :: (11, .dup, 0, 0, 0) :: (12, .invokespecial 12, 196, 1, 2) :: (15, .astore_n 2, 0, 0, 0) :: (16, .iconst 0, 0, 0, 0) :: (17, .istore_n 3, 0, 0, 0) :: am_c298_18
def am_Ps : List AmCd := [am_c0_0, am_c1_0, am_c2_0, am_c3_0, am_c4_0, am_c5_0, am_c6_0, am_c7_0, am_c8_0, am_c9_0, am_c10_0, am_c11_0, am_c12_0, am_c13_0, am_c14_0, am_c15_0, am_c16_0, am_c17_0, am_c18_0, am_c19_0, am_c20_0, am_c21_0, am_c22_0, am_c23_0, am_c24_0, am_c25_0, am_c26_0, am_c27_0, am_c28_0, am_c29_0, am_c30_0, am_c31_0, am_c32_0, am_c33_0, am_c34_0, am_c35_0, am_c36_0, am_c37_0, am_c38_0, am_c39_0, am_c40_0, am_c41_0, am_c42_0, am_c43_0, am_c44_0, am_c45_0, am_c46_0, am_c47_0, am_c48_0, am_c49_0, am_c50_0, am_c51_0, am_c52_0, am_c53_0, am_c54_0, am_c55_0, am_c56_0, am_c57_0, am_c58_0, am_c59_0, am_c60_0, am_c61_0, am_c62_0, am_c63_0, am_c64_0, am_c65_0, am_c66_0, am_c67_0, am_c68_0, am_c69_0, am_c70_0, am_c71_0, am_c72_0, am_c73_0, am_c74_0, am_c75_0, am_c76_0, am_c77_0, am_c78_0, am_c79_0, am_c80_0, am_c81_0, am_c82_0, am_c83_0, am_c84_0, am_c85_0, am_c86_0, am_c87_0, am_c88_0, am_c89_0, am_c90_0, am_c91_0, am_c92_0, am_c93_0, am_c94_0, am_c95_0, am_c96_0, am_c97_0, am_c98_0, am_c99_0, am_c100_0, am_c101_0, am_c102_0, am_c103_0, am_c104_0, am_c105_0, am_c106_0, am_c107_0, am_c108_0, am_c109_0, am_c110_0, am_c111_0, am_c112_0, am_c113_0, am_c114_0, am_c115_0, am_c116_0, am_c117_0, am_c118_0, am_c119_0, am_c120_0, am_c121_0, am_c122_0, am_c123_0, am_c124_0, am_c125_0, am_c126_0, am_c127_0, am_c128_0, am_c129_0, am_c130_0, am_c131_0, am_c132_0, am_c133_0, am_c134_0, am_c135_0, am_c136_0, am_c137_0, am_c138_0, am_c139_0, am_c140_0, am_c141_0, am_c142_0, am_c143_0, am_c144_0, am_c145_0, am_c146_0, am_c147_0, am_c148_0, am_c149_0, am_c150_0, am_c151_0, am_c152_0, am_c153_0, am_c154_0, am_c155_0, am_c156_0, am_c157_0, am_c158_0, am_c159_0, am_c160_0, am_c161_0, am_c162_0, am_c163_0, am_c164_0, am_c165_0, am_c166_0, am_c167_0, am_c168_0, am_c169_0, am_c170_0, am_c171_0, am_c172_0, am_c173_0, am_c174_0, am_c175_0, am_c176_0, am_c177_0, am_c178_0, am_c179_0, am_c180_0, am_c181_0, am_c182_0, am_c183_0, am_c184_0, am_c185_0, am_c186_0, am_c187_0, am_c188_0, am_c189_0, am_c190_0, am_c191_0, am_c192_0, am_c193_0, am_c194_0, am_c195_0, am_c196_0, am_c197_0, am_c198_0, am_c199_0, am_c200_0, am_c201_0, am_c202_0, am_c203_0, am_c204_0, am_c205_0, am_c206_0, am_c207_0, am_c208_0, am_c209_0, am_c210_0, am_c211_0, am_c212_0, am_c213_0, am_c214_0, am_c215_0, am_c216_0, am_c217_0, am_c218_0, am_c219_0, am_c220_0, am_c221_0, am_c222_0, am_c223_0, am_c224_0, am_c225_0, am_c226_0, am_c227_0, am_c228_0, am_c229_0, am_c230_0, am_c231_0, am_c232_0, am_c233_0, am_c234_0, am_c235_0, am_c236_0, am_c237_0, am_c238_0, am_c239_0, am_c240_0, am_c241_0, am_c242_0, am_c243_0, am_c244_0, am_c245_0, am_c246_0, am_c247_0, am_c248_0, am_c249_0, am_c250_0, am_c251_0, am_c252_0, am_c253_0, am_c254_0, am_c255_0, am_c256_0, am_c257_0, am_c258_0, am_c259_0, am_c260_0, am_c261_0, am_c262_0, am_c263_0, am_c264_0, am_c265_0, am_c266_0, am_c267_0, am_c268_0, am_c269_0, am_c270_0, am_c271_0, am_c272_0, am_c273_0, am_c274_0, am_c275_0, am_c276_0, am_c277_0, am_c278_0, am_c279_0, am_c280_0, am_c281_0, am_c282_0, am_c283_0, am_c284_0, am_c285_0, am_c286_0, am_c287_0, am_c288_0, am_c289_0, am_c290_0, am_c291_0, am_c292_0, am_c293_0, am_c294_0, am_c295_0, am_c296_0, am_c297_0, am_c298_0]
def am_P (M : Nat) : AmCd := am_Ps.getD M []
end
section
/-! printed by wip/gen/tables.py: what links to what, with the places among the words of the claim -/
def am_FLp : List (Nat × Nat × Nat × Nat × Nat) := [(0, 9, 0, 0, 302), (0, 15, 0, 1, 303), (0, 24, 0, 2, 304), (0, 28, 0, 3, 305), (0, 31, 0, 4, 306), (0, 34, 0, 5, 307), (0, 37, 0, 6, 308), (0, 40, 0, 7, 309), (0, 43, 0, 8, 310), (0, 46, 0, 9, 311), (1, 9, 1, 2, 210), (1, 15, 1, 0, 208), (1, 24, 1, 1, 209), (1, 33, 1, 3, 211), (1, 37, 1, 4, 212), (1, 40, 1, 5, 213), (1, 43, 1, 6, 214), (1, 46, 1, 7, 215), (1, 49, 1, 8, 216), (1, 52, 1, 9, 217), (1, 55, 1, 10, 218), (2, 14, 2, 0, 153), (2, 20, 2, 1, 154), (2, 23, 2, 2, 155), (2, 26, 2, 3, 156), (2, 29, 2, 4, 157), (2, 32, 2, 5, 158), (2, 35, 2, 6, 159), (3, 11, 3, 0, 83), (3, 15, 3, 1, 84), (3, 19, 3, 2, 85), (3, 22, 3, 3, 86), (3, 26, 3, 4, 87), (4, 7, 4, 0, 146), (4, 19, 4, 1, 147), (5, 9, 5, 1, 188), (5, 15, 5, 2, 189), (5, 18, 5, 3, 190), (5, 21, 5, 4, 191), (5, 24, 5, 5, 192), (5, 27, 5, 0, 187), (6, 9, 6, 0, 342), (6, 15, 6, 1, 343), (6, 19, 6, 2, 344), (6, 28, 6, 3, 345), (6, 32, 6, 4, 346), (6, 35, 6, 5, 347), (6, 38, 6, 6, 348), (7, 9, 7, 0, 250), (7, 15, 7, 1, 251), (7, 24, 7, 2, 252), (7, 28, 7, 3, 253), (7, 31, 7, 4, 254), (7, 34, 7, 5, 255), (7, 37, 7, 6, 256), (7, 40, 7, 7, 257), (7, 43, 7, 8, 258), (7, 46, 7, 9, 259), (7, 49, 7, 10, 260), (7, 52, 7, 11, 261), (7, 55, 7, 12, 262), (8, 11, 8, 0, 106), (8, 15, 8, 1, 107), (8, 19, 8, 2, 108), (8, 22, 8, 3, 109), (8, 25, 8, 4, 110), (8, 28, 8, 5, 111), (8, 31, 8, 6, 112), (8, 34, 8, 7, 113), (9, 12, 9, 0, 364), (9, 19, 9, 1, 365), (9, 28, 9, 2, 366), (9, 37, 9, 3, 367), (9, 46, 9, 4, 368), (9, 55, 9, 5, 369), (9, 64, 9, 6, 370), (10, 7, 10, 0, 1177), (10, 13, 10, 1, 1178), (10, 16, 10, 2, 1179), (10, 19, 10, 3, 1180), (10, 22, 10, 4, 1181), (10, 25, 10, 5, 1182), (10, 28, 10, 6, 1183), (10, 31, 10, 7, 1184), (10, 34, 10, 8, 1185), (10, 37, 10, 9, 1186), (10, 40, 10, 10, 1187), (10, 43, 10, 11, 1188), (10, 46, 10, 12, 1189), (10, 49, 10, 13, 1190), (10, 52, 10, 14, 1191), (10, 55, 10, 15, 1192), (10, 58, 10, 16, 1193), (10, 61, 10, 17, 1194), (10, 64, 10, 18, 1195), (10, 67, 10, 19, 1196), (10, 70, 10, 20, 1197), (10, 74, 10, 21, 1198), (10, 77, 10, 22, 1199), (10, 80, 10, 23, 1200), (10, 83, 10, 24, 1201), (10, 86, 10, 25, 1202), (10, 89, 10, 26, 1203), (10, 92, 10, 27, 1204), (10, 95, 10, 28, 1205), (10, 98, 10, 37, 1214), (10, 101, 10, 38, 1215), (10, 104, 10, 42, 1219), (10, 107, 10, 43, 1220), (10, 110, 10, 44, 1221), (10, 113, 10, 45, 1222), (10, 116, 10, 46, 1223), (10, 119, 10, 48, 1225), (10, 122, 10, 49, 1226), (10, 137, 10, 29, 1206), (10, 141, 10, 30, 1207), (10, 145, 10, 31, 1208), (10, 182, 10, 35, 1212), (10, 195, 10, 39, 1216), (10, 205, 10, 36, 1213), (10, 208, 10, 40, 1217), (10, 211, 10, 41, 1218), (10, 274, 10, 47, 1224), (10, 289, 10, 50, 1227), (10, 304, 10, 34, 1211), (10, 307, 10, 33, 1210), (10, 313, 10, 32, 1209)]
def am_MLp : List (Nat × Nat × Nat × Nat) := [(0, 21, 61, 297), (0, 49, 64, 298), (0, 53, 62, 861), (0, 57, 63, 866), (0, 60, 117, 887), (0, 66, 7, 903), (0, 70, 97, 907), (0, 73, 98, 911), (0, 76, 29, 915), (0, 82, 5, 920), (0, 86, 99, 924), (0, 89, 8, 899), (0, 92, 9, 916), (0, 95, 111, 928), (0, 99, 114, 968), (0, 102, 15, 969), (0, 105, 120, 1130), (1, 21, 65, 183), (1, 30, 61, 207), (1, 58, 62, 583), (1, 62, 63, 588), (1, 72, 70, 652), (1, 75, 30, 656), (1, 79, 71, 696), (1, 83, 79, 700), (1, 87, 72, 660), (1, 90, 73, 687), (1, 93, 74, 691), (1, 96, 131, 695), (1, 102, 66, 708), (1, 105, 68, 711), (1, 108, 69, 714), (1, 111, 67, 717), (2, 11, 61, 139), (2, 38, 62, 405), (2, 42, 34, 450), (2, 46, 63, 414), (2, 50, 39, 438), (2, 54, 50, 479), (2, 57, 51, 499), (2, 60, 54, 555), (2, 64, 297, 559), (2, 69, 56, 570), (2, 72, 64, 574), (3, 30, 297, 1139), (3, 36, 64, 1140), (4, 13, 296, 143), (4, 23, 59, 418), (5, 31, 131, 664), (5, 37, 75, 671), (5, 41, 77, 675), (5, 45, 76, 683), (5, 49, 78, 679), (6, 25, 61, 340), (6, 41, 64, 341), (6, 45, 62, 394), (6, 49, 63, 997), (6, 52, 123, 1042), (6, 57, 134, 1043), (6, 62, 88, 1047), (6, 65, 89, 1051), (6, 69, 129, 1084), (6, 72, 130, 1085), (6, 75, 126, 1086), (6, 78, 125, 1090), (6, 82, 90, 1055), (6, 86, 91, 1059), (6, 89, 119, 1073), (6, 92, 21, 1077), (6, 98, 97, 1063), (6, 101, 98, 1065), (6, 104, 29, 1078), (6, 108, 92, 1079), (6, 111, 102, 1064), (6, 115, 104, 1066), (6, 118, 106, 1067), (6, 121, 115, 1068), (6, 124, 135, 1069), (6, 127, 24, 1083), (7, 21, 61, 249), (7, 58, 62, 732), (7, 62, 63, 737), (7, 66, 100, 757), (7, 70, 101, 753), (7, 74, 102, 768), (7, 78, 29, 808), (7, 84, 111, 809), (7, 87, 112, 813), (7, 91, 35, 819), (7, 96, 31, 817), (7, 99, 105, 820), (7, 102, 104, 818), (7, 105, 114, 829), (7, 108, 106, 833), (7, 111, 39, 842), (7, 114, 107, 843), (7, 117, 47, 844), (7, 120, 37, 845), (7, 123, 38, 849), (8, 37, 130, 468), (8, 41, 295, 668), (9, 25, 32, 133), (9, 34, 19, 177), (9, 43, 93, 244), (9, 52, 0, 292), (9, 61, 80, 335), (9, 68, 81, 390), (9, 72, 194, 398), (9, 76, 33, 401), (9, 80, 58, 406), (9, 83, 40, 410), (9, 87, 34, 426), (9, 91, 36, 430), (9, 95, 41, 434), (9, 98, 35, 446), (9, 102, 39, 451), (9, 105, 42, 452), (9, 108, 43, 460), (9, 111, 129, 464), (9, 114, 44, 475), (9, 118, 45, 487), (9, 121, 46, 495), (9, 125, 47, 507), (9, 128, 48, 515), (9, 131, 49, 519), (9, 134, 137, 527), (9, 137, 52, 531), (9, 141, 138, 535), (9, 144, 139, 543), (9, 147, 53, 551), (9, 150, 55, 566), (9, 153, 20, 579), (9, 154, 27, 584), (9, 157, 21, 597), (9, 158, 22, 601), (9, 161, 28, 605), (9, 164, 25, 613), (9, 167, 26, 621), (9, 170, 23, 629), (9, 173, 24, 633), (9, 176, 161, 641), (9, 179, 31, 704), (9, 182, 162, 645), (9, 185, 29, 648), (9, 188, 94, 728), (9, 189, 96, 733), (9, 191, 95, 742), (9, 192, 195, 746), (9, 195, 103, 749), (9, 198, 104, 764), (9, 201, 105, 772), (9, 204, 106, 780), (9, 207, 107, 784), (9, 210, 108, 792), (9, 213, 109, 796), (9, 217, 110, 804), (9, 220, 113, 825), (9, 223, 115, 838), (9, 226, 1, 857), (9, 227, 3, 862), (9, 229, 2, 871), (9, 230, 116, 875), (9, 233, 4, 879), (9, 236, 6, 883), (9, 239, 10, 895), (9, 240, 8, 933), (9, 243, 9, 934), (9, 246, 5, 939), (9, 249, 11, 944), (9, 252, 13, 948), (9, 254, 16, 956), (9, 257, 14, 964), (9, 259, 17, 977), (9, 262, 118, 985), (9, 265, 84, 993), (9, 268, 120, 1002), (9, 271, 123, 1006), (9, 274, 136, 1010), (9, 277, 124, 1014), (9, 280, 85, 1022), (9, 283, 86, 1030), (9, 286, 87, 1038), (9, 289, 127, 1098), (9, 292, 82, 1106), (9, 295, 121, 1114), (9, 298, 122, 1118), (9, 301, 18, 1126), (9, 304, 60, 1135), (9, 307, 12, 1145), (9, 310, 83, 1149), (9, 313, 133, 1153), (9, 316, 132, 1161), (9, 319, 37, 1169), (9, 322, 38, 1170), (10, 125, 198, 1344), (10, 129, 199, 1347), (10, 133, 200, 1340), (10, 148, 202, 1336), (10, 152, 197, 1354), (10, 156, 205, 1365), (10, 160, 201, 1357), (10, 163, 207, 1369), (10, 167, 206, 1376), (10, 171, 203, 1384), (10, 175, 212, 1392), (10, 178, 213, 1404), (10, 185, 219, 1420), (10, 188, 225, 1440), (10, 192, 224, 1448), (10, 198, 230, 1468), (10, 202, 231, 1464), (10, 214, 235, 1499), (10, 217, 236, 1502), (10, 221, 237, 1506), (10, 224, 233, 1487), (10, 227, 238, 1495), (10, 230, 234, 1483), (10, 234, 239, 1491), (10, 237, 246, 1476), (10, 240, 240, 1479), (10, 243, 241, 1510), (10, 246, 242, 1514), (10, 249, 243, 1517), (10, 252, 244, 1520), (10, 255, 245, 1523), (10, 258, 250, 1542), (10, 261, 249, 1538), (10, 264, 254, 1549), (10, 268, 251, 1553), (10, 271, 257, 1564), (10, 277, 259, 1576), (10, 280, 260, 1572), (10, 283, 262, 1580), (10, 286, 263, 1588), (10, 292, 266, 1596), (10, 295, 268, 1608), (10, 298, 261, 1616), (10, 301, 280, 1656), (10, 310, 284, 1680), (10, 316, 286, 1672), (10, 319, 285, 1676), (12, 9, 140, 69), (12, 12, 196, 1173), (12, 13, 141, 386), (12, 17, 208, 1350), (12, 18, 142, 422), (12, 22, 209, 1361), (12, 23, 143, 442), (12, 26, 210, 1372), (12, 27, 144, 456), (12, 31, 211, 1380), (12, 32, 145, 471), (12, 36, 214, 1388), (12, 37, 146, 483), (12, 40, 215, 1396), (12, 41, 147, 491), (12, 45, 216, 1400), (12, 46, 148, 503), (12, 49, 217, 1408), (12, 50, 149, 511), (12, 53, 218, 1412), (12, 54, 150, 523), (12, 58, 220, 1416), (12, 59, 151, 539), (12, 63, 221, 1424), (12, 64, 152, 547), (12, 67, 222, 1428), (12, 68, 153, 562), (12, 71, 223, 1432), (12, 72, 154, 575), (12, 75, 226, 1436), (12, 76, 155, 593), (12, 79, 227, 1444), (12, 80, 156, 609), (12, 83, 228, 1452), (12, 84, 157, 617), (12, 87, 229, 1456), (12, 88, 158, 625), (12, 91, 232, 1460), (12, 92, 159, 637), (12, 95, 247, 1472), (12, 96, 160, 720), (12, 99, 248, 1526), (12, 100, 163, 724), (12, 103, 252, 1530), (12, 104, 164, 738), (12, 107, 253, 1534), (12, 108, 165, 760), (12, 112, 255, 1545), (12, 113, 166, 776), (12, 116, 256, 1556), (12, 117, 167, 788), (12, 121, 258, 1560), (12, 122, 168, 800), (12, 125, 264, 1568), (12, 126, 169, 821), (12, 129, 265, 1584), (12, 130, 170, 834), (12, 133, 267, 1592), (12, 134, 171, 853), (12, 137, 269, 1600), (12, 138, 172, 867), (12, 141, 270, 1604), (12, 142, 173, 891), (12, 145, 271, 1612), (12, 146, 174, 929), (12, 149, 272, 1620), (12, 150, 175, 935), (12, 153, 273, 1624), (12, 154, 176, 940), (12, 157, 274, 1628), (12, 158, 177, 952), (12, 161, 275, 1632), (12, 162, 178, 960), (12, 165, 276, 1636), (12, 166, 179, 973), (12, 169, 277, 1640), (12, 170, 180, 981), (12, 173, 278, 1644), (12, 174, 181, 989), (12, 177, 279, 1648), (12, 178, 182, 998), (12, 181, 281, 1652), (12, 182, 183, 1018), (12, 185, 282, 1660), (12, 186, 184, 1026), (12, 189, 283, 1664), (12, 190, 185, 1034), (12, 193, 287, 1668), (12, 194, 186, 1094), (12, 197, 288, 1684), (12, 198, 187, 1102), (12, 201, 289, 1688), (12, 202, 188, 1110), (12, 205, 290, 1692), (12, 206, 189, 1122), (12, 209, 291, 1696), (12, 210, 190, 1131), (12, 213, 204, 1332), (12, 214, 191, 1141), (12, 217, 292, 1700), (12, 218, 192, 1157), (12, 221, 293, 1704), (12, 222, 193, 1165), (12, 225, 294, 1708)]
def am_OLp : List (Nat × Nat × Nat) := [(0, 3, 295), (1, 3, 180), (2, 3, 136), (3, 1, 80), (4, 1, 142), (5, 3, 186), (6, 3, 338), (7, 3, 247), (8, 3, 105), (9, 3, 72), (10, 1, 1176)]
def am_KLp : List (Nat × Nat × Nat × Nat) := [(0, 19, 4, 296), (1, 19, 5, 181), (1, 28, 4, 206), (2, 9, 4, 137), (3, 9, 4, 81), (6, 23, 4, 339), (7, 19, 4, 248), (9, 9, 3, 75), (9, 16, 8, 100), (9, 23, 2, 131), (9, 32, 1, 175), (9, 41, 7, 242), (9, 50, 0, 290), (9, 59, 6, 333), (12, 7, 9, 67), (12, 10, 10, 1171)]
def am_NLp : List (Nat × Nat × Nat × String × Nat) := [(9, 11, 57, "FoldPress", 77), (9, 18, 128, "FoldPress", 102)]
def am_SLp : List (Nat × Nat × Nat × Nat) := [(1, 66, 1, 589), (1, 69, 2, 591)]
def am_MPp : List (Nat × Nat × Nat × Nat) := [(0, 294, 293, 0), (1, 860, 858, 859), (2, 874, 872, 873), (3, 865, 863, 864), (4, 882, 880, 881), (5, 923, 921, 922), (6, 886, 884, 885), (7, 906, 905, 12), (8, 902, 900, 901), (9, 919, 917, 918), (10, 898, 896, 897), (11, 947, 945, 946), (12, 1148, 1146, 1147), (13, 951, 949, 950), (14, 967, 965, 966), (15, 972, 971, 13), (16, 959, 957, 958), (17, 980, 978, 979), (18, 1129, 1127, 1128), (19, 179, 178, 0), (20, 582, 580, 581), (21, 600, 598, 599), (22, 604, 602, 603), (23, 632, 630, 631), (24, 636, 634, 635), (25, 616, 614, 615), (26, 624, 622, 623), (27, 587, 585, 586), (28, 608, 606, 607), (29, 651, 649, 650), (30, 659, 658, 5), (31, 707, 705, 706), (32, 135, 134, 0), (33, 404, 402, 403), (34, 429, 427, 428), (35, 449, 447, 448), (36, 433, 431, 432), (37, 848, 846, 847), (38, 852, 850, 851), (39, 441, 439, 440), (40, 413, 411, 412), (41, 437, 435, 436), (42, 455, 453, 454), (43, 463, 461, 462), (44, 478, 476, 477), (45, 490, 488, 489), (46, 498, 496, 497), (47, 510, 508, 509), (48, 518, 516, 517), (49, 522, 520, 521), (50, 482, 481, 0), (51, 502, 501, 1), (52, 534, 532, 533), (53, 554, 552, 553), (54, 558, 557, 2), (55, 569, 567, 568), (56, 573, 572, 3), (57, 79, 78, 0), (58, 409, 407, 408), (59, 421, 419, 420), (60, 1138, 1136, 1137), (61, 141, 140, 0), (62, 397, 395, 396), (63, 417, 415, 416), (64, 301, 299, 300), (65, 185, 184, 0), (66, 710, 709, 0), (67, 719, 718, 0), (68, 713, 712, 0), (69, 716, 715, 0), (70, 655, 653, 654), (71, 699, 697, 698), (72, 663, 661, 662), (73, 690, 688, 689), (74, 694, 692, 693), (75, 674, 673, 6), (76, 686, 685, 9), (77, 678, 677, 7), (78, 682, 681, 8), (79, 703, 701, 702), (80, 337, 336, 0), (81, 393, 391, 392), (82, 1109, 1107, 1108), (83, 1152, 1150, 1151), (84, 996, 994, 995), (85, 1025, 1023, 1024), (86, 1033, 1031, 1032), (87, 1041, 1039, 1040), (88, 1050, 1049, 14), (89, 1054, 1053, 15), (90, 1058, 1057, 16), (91, 1062, 1061, 17), (92, 1082, 1081, 18), (93, 246, 245, 0), (94, 731, 729, 730), (95, 745, 743, 744), (96, 736, 734, 735), (97, 910, 908, 909), (98, 914, 912, 913), (99, 927, 925, 926), (100, 759, 758, 0), (101, 756, 755, 10), (102, 771, 769, 770), (103, 752, 750, 751), (104, 767, 765, 766), (105, 775, 773, 774), (106, 783, 781, 782), (107, 787, 785, 786), (108, 795, 793, 794), (109, 799, 797, 798), (110, 807, 805, 806), (111, 812, 810, 811), (112, 816, 815, 11), (113, 828, 826, 827), (114, 832, 830, 831), (115, 841, 839, 840), (116, 878, 876, 877), (117, 890, 888, 889), (118, 988, 986, 987), (119, 1076, 1074, 1075), (120, 1005, 1003, 1004), (121, 1117, 1115, 1116), (122, 1121, 1119, 1120), (123, 1009, 1007, 1008), (124, 1017, 1015, 1016), (125, 1093, 1091, 1092), (126, 1089, 1087, 1088), (127, 1101, 1099, 1100), (128, 104, 103, 0), (129, 467, 465, 466), (130, 470, 469, 0), (131, 667, 665, 666), (132, 1164, 1162, 1163), (133, 1156, 1154, 1155), (134, 1046, 1044, 1045), (135, 1072, 1070, 1071), (136, 1013, 1011, 1012), (137, 530, 528, 529), (138, 538, 536, 537), (139, 546, 544, 545), (140, 71, 70, 0), (141, 389, 387, 388), (142, 425, 423, 424), (143, 445, 443, 444), (144, 459, 457, 458), (145, 474, 472, 473), (146, 486, 484, 485), (147, 494, 492, 493), (148, 506, 504, 505), (149, 514, 512, 513), (150, 526, 524, 525), (151, 542, 540, 541), (152, 550, 548, 549), (153, 565, 563, 564), (154, 578, 576, 577), (155, 596, 594, 595), (156, 612, 610, 611), (157, 620, 618, 619), (158, 628, 626, 627), (159, 640, 638, 639), (160, 723, 721, 722), (161, 644, 643, 4), (162, 647, 646, 0), (163, 727, 725, 726), (164, 741, 739, 740), (165, 763, 761, 762), (166, 779, 777, 778), (167, 791, 789, 790), (168, 803, 801, 802), (169, 824, 822, 823), (170, 837, 835, 836), (171, 856, 854, 855), (172, 870, 868, 869), (173, 894, 892, 893), (174, 932, 930, 931), (175, 938, 936, 937), (176, 943, 941, 942), (177, 955, 953, 954), (178, 963, 961, 962), (179, 976, 974, 975), (180, 984, 982, 983), (181, 992, 990, 991), (182, 1001, 999, 1000), (183, 1021, 1019, 1020), (184, 1029, 1027, 1028), (185, 1037, 1035, 1036), (186, 1097, 1095, 1096), (187, 1105, 1103, 1104), (188, 1113, 1111, 1112), (189, 1125, 1123, 1124), (190, 1134, 1132, 1133), (191, 1144, 1142, 1143), (192, 1160, 1158, 1159), (193, 1168, 1166, 1167), (194, 400, 399, 0), (195, 748, 747, 0), (196, 1175, 1174, 0), (197, 1356, 1355, 0), (198, 1346, 1345, 0), (199, 1349, 1348, 0), (200, 1343, 1342, 20), (201, 1360, 1359, 21), (202, 1339, 1338, 19), (203, 1387, 1386, 24), (204, 1335, 1333, 1334), (205, 1368, 1367, 22), (206, 1379, 1378, 23), (207, 1371, 1370, 0), (208, 1353, 1351, 1352), (209, 1364, 1362, 1363), (210, 1375, 1373, 1374), (211, 1383, 1381, 1382), (212, 1395, 1394, 25), (213, 1407, 1406, 26), (214, 1391, 1389, 1390), (215, 1399, 1397, 1398), (216, 1403, 1401, 1402), (217, 1411, 1409, 1410), (218, 1415, 1413, 1414), (219, 1423, 1422, 27), (220, 1419, 1417, 1418), (221, 1427, 1425, 1426), (222, 1431, 1429, 1430), (223, 1435, 1433, 1434), (224, 1451, 1450, 29), (225, 1443, 1442, 28), (226, 1439, 1437, 1438), (227, 1447, 1445, 1446), (228, 1455, 1453, 1454), (229, 1459, 1457, 1458), (230, 1471, 1470, 31), (231, 1467, 1466, 30), (232, 1463, 1461, 1462), (233, 1490, 1489, 34), (234, 1486, 1485, 33), (235, 1501, 1500, 0), (236, 1505, 1504, 37), (237, 1509, 1508, 38), (238, 1498, 1497, 36), (239, 1494, 1493, 35), (240, 1482, 1481, 32), (241, 1513, 1512, 39), (242, 1516, 1515, 0), (243, 1519, 1518, 0), (244, 1522, 1521, 0), (245, 1525, 1524, 0), (246, 1478, 1477, 0), (247, 1475, 1473, 1474), (248, 1529, 1527, 1528), (249, 1541, 1540, 40), (250, 1544, 1543, 0), (251, 1555, 1554, 0), (252, 1533, 1531, 1532), (253, 1537, 1535, 1536), (254, 1552, 1551, 41), (255, 1548, 1546, 1547), (256, 1559, 1557, 1558), (257, 1567, 1566, 42), (258, 1563, 1561, 1562), (259, 1579, 1578, 44), (260, 1575, 1574, 43), (261, 1619, 1618, 49), (262, 1583, 1582, 45), (263, 1591, 1590, 46), (264, 1571, 1569, 1570), (265, 1587, 1585, 1586), (266, 1599, 1598, 47), (267, 1595, 1593, 1594), (268, 1611, 1610, 48), (269, 1603, 1601, 1602), (270, 1607, 1605, 1606), (271, 1615, 1613, 1614), (272, 1623, 1621, 1622), (273, 1627, 1625, 1626), (274, 1631, 1629, 1630), (275, 1635, 1633, 1634), (276, 1639, 1637, 1638), (277, 1643, 1641, 1642), (278, 1647, 1645, 1646), (279, 1651, 1649, 1650), (280, 1659, 1658, 50), (281, 1655, 1653, 1654), (282, 1663, 1661, 1662), (283, 1667, 1665, 1666), (284, 1683, 1682, 53), (285, 1679, 1678, 52), (286, 1675, 1674, 51), (287, 1671, 1669, 1670), (288, 1687, 1685, 1686), (289, 1691, 1689, 1690), (290, 1695, 1693, 1694), (291, 1699, 1697, 1698), (292, 1703, 1701, 1702), (293, 1707, 1705, 1706), (294, 1711, 1709, 1710), (295, 670, 669, 0), (296, 145, 144, 0), (297, 561, 560, 0)]
def am_INp : List (Nat × Nat) := [(0, 64), (1, 61), (2, 58), (3, 56), (4, 59), (5, 62), (6, 65), (7, 63), (8, 57), (9, 55), (10, 66), (11, 60), (12, 54)]
def am_ISp : List (Nat × Nat × Nat) := [(0, 10, 291), (1, 11, 176), (2, 7, 132), (3, 5, 76), (4, 2, 138), (5, 6, 182), (6, 7, 334), (7, 13, 243), (8, 8, 101), (9, 7, 68), (10, 51, 1172)]
def am_LYp : List (Nat × Nat × Nat) := [(0, 0, 312), (0, 1, 314), (0, 2, 316), (0, 3, 318), (0, 4, 320), (0, 5, 322), (0, 6, 324), (0, 7, 326), (0, 8, 328), (0, 9, 330), (1, 0, 219), (1, 1, 221), (1, 2, 223), (1, 3, 225), (1, 4, 227), (1, 5, 229), (1, 6, 231), (1, 7, 233), (1, 8, 235), (1, 9, 237), (1, 10, 239), (2, 0, 160), (2, 1, 162), (2, 2, 164), (2, 3, 166), (2, 4, 168), (2, 5, 170), (2, 6, 172), (3, 0, 88), (3, 1, 90), (3, 2, 92), (3, 3, 94), (3, 4, 96), (4, 0, 148), (4, 1, 150), (5, 0, 193), (5, 1, 195), (5, 2, 197), (5, 3, 199), (5, 4, 201), (5, 5, 203), (6, 0, 349), (6, 1, 351), (6, 2, 353), (6, 3, 355), (6, 4, 357), (6, 5, 359), (6, 6, 361), (7, 0, 263), (7, 1, 265), (7, 2, 267), (7, 3, 269), (7, 4, 271), (7, 5, 273), (7, 6, 275), (7, 7, 277), (7, 8, 279), (7, 9, 281), (7, 10, 283), (7, 11, 285), (7, 12, 287), (8, 0, 114), (8, 1, 116), (8, 2, 118), (8, 3, 120), (8, 4, 122), (8, 5, 124), (8, 6, 126), (8, 7, 128), (9, 0, 371), (9, 1, 373), (9, 2, 375), (9, 3, 377), (9, 4, 379), (9, 5, 381), (9, 6, 383), (10, 0, 1228), (10, 1, 1230), (10, 2, 1232), (10, 3, 1234), (10, 4, 1236), (10, 5, 1238), (10, 6, 1240), (10, 7, 1242), (10, 8, 1244), (10, 9, 1246), (10, 10, 1248), (10, 11, 1250), (10, 12, 1252), (10, 13, 1254), (10, 14, 1256), (10, 15, 1258), (10, 16, 1260), (10, 17, 1262), (10, 18, 1264), (10, 19, 1266), (10, 20, 1268), (10, 21, 1270), (10, 22, 1272), (10, 23, 1274), (10, 24, 1276), (10, 25, 1278), (10, 26, 1280), (10, 27, 1282), (10, 28, 1284), (10, 29, 1286), (10, 30, 1288), (10, 31, 1290), (10, 32, 1292), (10, 33, 1294), (10, 34, 1296), (10, 35, 1298), (10, 36, 1300), (10, 37, 1302), (10, 38, 1304), (10, 39, 1306), (10, 40, 1308), (10, 41, 1310), (10, 42, 1312), (10, 43, 1314), (10, 44, 1316), (10, 45, 1318), (10, 46, 1320), (10, 47, 1322), (10, 48, 1324), (10, 49, 1326), (10, 50, 1328)]
-- objectInit, arrayClass int, boolean, arrayOver Kept, laysStatic
end
section
/-! what is decided by program of the tables -/
def am_ln (i : Instr) : Nat := match i with
  | .iload _ => 2
  | .aload _ => 2
  | .istore _ => 2
  | .astore _ => 2
  | .bipush _ => 2
  | .newarray _ => 2
  | .sipush _ => 3
  | .iinc _ _ => 3
  | .goto _ => 3
  | .ifCond _ _ => 3
  | .if_icmp _ _ => 3
  | .ifnull _ => 3
  | .getfield _ => 3
  | .putfield _ => 3
  | .getstatic _ => 3
  | .invokevirtual _ => 3
  | .invokestatic _ => 3
  | .invokespecial _ => 3
  | .new _ => 3
  | .anewarray _ => 3
  | _ => 1
def am_isSw (i : Instr) : Bool := match i with
  | .tableswitch _ _ _ _ => true
  | .lookupswitch _ _ => true
  | _ => false
-- nothing falls through
def am_fin (i : Instr) : Bool := match i with
  | .tableswitch _ _ _ _ => true
  | .lookupswitch _ _ => true
  | .goto _ => true
  | .ireturn => true
  | .return_ => true
  | _ => false
def am_tgOk (pc : Nat) (i : Instr) : Bool := match i with
  | .goto o => decide (0 ≤ (pc : Int) + o)
  | .ifCond _ o => decide (0 ≤ (pc : Int) + o)
  | .if_icmp _ o => decide (0 ≤ (pc : Int) + o)
  | .ifnull o => decide (0 ≤ (pc : Int) + o)
  | .tableswitch df lo hi offs => decide (0 ≤ (pc : Int) + df) && offs.toList.all (fun o => decide (0 ≤ (pc : Int) + o)) && decide (hi - lo + 1 = (offs.size : Int))
  | .lookupswitch df ps => decide (0 ≤ (pc : Int) + df) && ps.toList.all (fun o => decide (0 ≤ (pc : Int) + o.2)) && (ps.toList.zip (ps.toList.drop 1)).all (fun (a, next) => a.1 < next.1)
  | _ => true
def am_res (own : Nat) (ini : Bool) (i : Instr) (a b c : Nat) : Bool := match i with
  | .getfield idx => am_FLp.any (fun q => q.1 == own && q.2.1 == idx && q.2.2.1 == a && q.2.2.2.1 == b) && am_fk a b == c
  | .putfield idx => am_FLp.any (fun q => q.1 == own && q.2.1 == idx && q.2.2.1 == a && q.2.2.2.1 == b) && am_fk a b == c && (!(am_T a b).2.2.2 || (ini && own == a))
  | .invokevirtual idx => am_MLp.any (fun q => q.1 == own && q.2.1 == idx && q.2.2.1 == a) && am_na a == b && am_ct a == 0 && decide (a < 298)
  | .invokestatic idx => am_MLp.any (fun q => q.1 == own && q.2.1 == idx && q.2.2.1 == a) && am_na a == b && am_ct a == 1 && decide (a < 298)
  | .invokespecial idx => if c == 4 then am_OLp.any (fun q => q.1 == own && q.2.1 == idx) else am_na a == b && am_ct a == 2 && decide (a < 298) &&
      (if c == 3 then am_NLp.any (fun q => q.1 == own && q.2.1 == idx && q.2.2.1 == a) else am_MLp.any (fun q => q.1 == own && q.2.1 == idx && q.2.2.1 == a))
  | .new idx => am_KLp.any (fun q => q.1 == own && q.2.1 == idx && q.2.2.1 == a)
  | .anewarray idx => am_KLp.any (fun q => q.1 == own && q.2.1 == idx && q.2.2.1 == 4)
  | .aastore => a == 4
  | .getstatic idx => am_SLp.any (fun q => q.1 == own && q.2.1 == idx && q.2.2.1 == a)
  | _ => true
def am_dec (cc : ByteArray) (pc : Nat) (i : Instr) : Bool := match decode cc pc with
  | .ok (j, ln) => decide (j = i) && (am_isSw i || ln == am_ln i)
  | _ => false
def am_okL (own : Nat) (ini : Bool) (cc : ByteArray) : AmCd → Bool
  | [] => true
  | (pc, i, a, b, c) :: cs => am_dec cc pc i && (am_fin i || (cs.head?.map (fun q => q.1)) == some (pc + am_ln i)) && am_tgOk pc i && am_res own ini i a b c && am_okL own ini cc cs
def am_okM (M : Nat) : Bool := am_okL (am_o M) (am_ct M == 2) (am_b M) (am_P M) && (am_P M).head?.map (fun q => q.1) == some 0 && decide (am_L M ≤ 45) && decide (am_na M ≤ am_L M) && am_Mi M == (am_L M, am_o M, am_kd M) && am_r M == (if am_kd M = 0 then none else if am_kd M = 1 then some .int else some .boolean)
-- one place of a method's code
def am_okA (M i : Nat) : Bool := match (am_P M).drop i with
  | [] => true
  | (pc, j, a, b, c) :: cs => am_dec (am_b M) pc j && (am_fin j || (cs.head?.map (fun q => q.1)) == some (pc + am_ln j)) && am_tgOk pc j && am_res (am_o M) (am_ct M == 2) j a b c
def am_okH (M : Nat) : Bool := (am_P M).head?.map (fun q => q.1) == some 0 && decide (am_L M ≤ 45) && decide (am_na M ≤ am_L M) && am_Mi M == (am_L M, am_o M, am_kd M) && am_r M == (if am_kd M = 0 then none else if am_kd M = 1 then some .int else some .boolean) && am_cn (am_o M) == (am_y M).cls && decide (am_kd M < 3)
end
section
theorem am_k0 : (List.range 10).all (fun k => am_okM (0 + k)) = true := by decide +kernel
end
section
theorem am_k1 : (List.range 16).all (fun k => am_okM (10 + k)) = true := by decide +kernel
end
section
theorem am_k2 : (List.range 6).all (fun k => am_okM (26 + k)) = true := by decide +kernel
end
section
theorem am_k3 : (List.range 18).all (fun k => am_okM (32 + k)) = true := by decide +kernel
end
section
theorem am_k4 : (List.range 9).all (fun k => am_okM (50 + k)) = true := by decide +kernel
end
section
theorem am_k5 : (List.range 14).all (fun k => am_okM (59 + k)) = true := by decide +kernel
end
section
theorem am_k6 : (List.range 7).all (fun k => am_okM (73 + k)) = true := by decide +kernel
end
section
theorem am_k7 : (List.range 13).all (fun k => am_okM (80 + k)) = true := by decide +kernel
end
section
theorem am_k8 : (List.range 17).all (fun k => am_okM (93 + k)) = true := by decide +kernel
end
section
theorem am_k9 : (List.range 19).all (fun k => am_okM (110 + k)) = true := by decide +kernel
end
section
theorem am_k10 : (List.range 17).all (fun k => am_okM (129 + k)) = true := by decide +kernel
end
section
theorem am_k11 : (List.range 9).all (fun k => am_okM (146 + k)) = true := by decide +kernel
end
section
theorem am_k12 : (List.range 11).all (fun k => am_okM (155 + k)) = true := by decide +kernel
end
section
theorem am_k13 : (List.range 7).all (fun k => am_okM (166 + k)) = true := by decide +kernel
end
section
theorem am_k14 : (List.range 11).all (fun k => am_okM (173 + k)) = true := by decide +kernel
end
section
theorem am_k15 : (List.range 12).all (fun k => am_okM (184 + k)) = true := by decide +kernel
end
section
theorem am_k16 : (List.range 4).all (fun k => am_okM (196 + k)) = true := by decide +kernel
end
section
theorem am_k17 : (List.range 10).all (fun k => am_okM (200 + k)) = true := by decide +kernel
end
section
theorem am_k18 : (List.range 7).all (fun k => am_okM (210 + k)) = true := by decide +kernel
end
section
theorem am_k19 : (List.range 5).all (fun k => am_okM (217 + k)) = true := by decide +kernel
end
section
theorem am_k20 : (List.range 5).all (fun k => am_okM (222 + k)) = true := by decide +kernel
end
section
theorem am_k21 : (List.range 9).all (fun k => am_okM (227 + k)) = true := by decide +kernel
end
section
theorem am_k22 : (List.range 2).all (fun k => am_okM (236 + k)) = true := by decide +kernel
end
section
theorem am_k23 : (List.range 7).all (fun k => am_okM (238 + k)) = true := by decide +kernel
end
section
theorem am_k24 : (List.range 8).all (fun k => am_okM (245 + k)) = true := by decide +kernel
end
section
theorem am_k25 : (List.range 5).all (fun k => am_okM (253 + k)) = true := by decide +kernel
end
section
theorem am_k26 : (List.range 3).all (fun k => am_okM (258 + k)) = true := by decide +kernel
end
section
theorem am_k27 : (List.range 3).all (fun k => am_okM (261 + k)) = true := by decide +kernel
end
section
theorem am_k28 : (List.range 7).all (fun k => am_okM (264 + k)) = true := by decide +kernel
end
section
theorem am_k29 : (List.range 8).all (fun k => am_okM (271 + k)) = true := by decide +kernel
end
section
theorem am_k30 : (List.range 8).all (fun k => am_okM (279 + k)) = true := by decide +kernel
end
section
theorem am_k31 : (List.range 11).all (fun k => am_okM (287 + k)) = true := by decide +kernel
end
section
theorem am_kl0 : (List.range 120).all (fun k => am_okA 298 (0 + k)) = true := by decide +kernel
end
section
theorem am_kl1 : (List.range 120).all (fun k => am_okA 298 (120 + k)) = true := by decide +kernel
end
section
theorem am_kl2 : (List.range 120).all (fun k => am_okA 298 (240 + k)) = true := by decide +kernel
end
section
theorem am_kl3 : (List.range 120).all (fun k => am_okA 298 (360 + k)) = true := by decide +kernel
end
section
theorem am_kl4 : (List.range 120).all (fun k => am_okA 298 (480 + k)) = true := by decide +kernel
end
section
theorem am_kl5 : (List.range 120).all (fun k => am_okA 298 (600 + k)) = true := by decide +kernel
end
section
theorem am_kl6 : (List.range 120).all (fun k => am_okA 298 (720 + k)) = true := by decide +kernel
end
section
theorem am_kl7 : (List.range 120).all (fun k => am_okA 298 (840 + k)) = true := by decide +kernel
end
section
theorem am_kl8 : (List.range 120).all (fun k => am_okA 298 (960 + k)) = true := by decide +kernel
end
section
theorem am_kl9 : (List.range 120).all (fun k => am_okA 298 (1080 + k)) = true := by decide +kernel
end
section
theorem am_kl10 : (List.range 120).all (fun k => am_okA 298 (1200 + k)) = true := by decide +kernel
end
section
theorem am_kl11 : (List.range 120).all (fun k => am_okA 298 (1320 + k)) = true := by decide +kernel
end
section
theorem am_kl12 : (List.range 50).all (fun k => am_okA 298 (1440 + k)) = true := by decide +kernel
end
section
theorem am_kl13 : (List.range 50).all (fun k => am_okA 298 (1490 + k)) = true := by decide +kernel
end
section
theorem am_kl14 : (List.range 50).all (fun k => am_okA 298 (1540 + k)) = true := by decide +kernel
end
section
theorem am_kl15 : (List.range 43).all (fun k => am_okA 298 (1590 + k)) = true := by decide +kernel
end
section
theorem am_okH_all : (List.range 299).all am_okH = true := by decide +kernel
theorem am_FL_ok : am_FLp.all (fun q => decide (lw_tbl[q.2.2.2.2]? = some (.fieldLink (am_cn q.1) q.2.1 (am_cn q.2.2.1) (am_T q.2.2.1 q.2.2.2.1).2.1 (am_T q.2.2.1 q.2.2.2.1).2.2.1)) && decide (q.2.2.2.1 < am_Nf q.2.2.1) && decide (q.2.2.1 < 11)) = true := by decide +kernel
theorem am_ML_ok : am_MLp.all (fun q => decide (lw_tbl[q.2.2.2]? = some (.methodLink (am_cn q.1) q.2.1 (am_y q.2.2.1)))) = true := by decide +kernel
theorem am_OL_ok : am_OLp.all (fun q => decide (lw_tbl[q.2.2]? = some (.methodLink (am_cn q.1) q.2.1 objectInit))) = true := by decide +kernel
theorem am_KL_ok : am_KLp.all (fun q => decide (lw_tbl[q.2.2.2]? = some (.classLink (am_cn q.1) q.2.1 (am_cn q.2.2.1))) && decide (q.2.2.1 < 11)) = true := by decide +kernel
theorem am_NL_ok : am_NLp.all (fun q => decide (lw_tbl[q.2.2.2.2]? = some (.methodLinkNest (am_cn q.1) q.2.1 (am_y q.2.2.1) q.2.2.2.1))) = true := by decide +kernel
theorem am_SL_ok : am_SLp.all (fun q => decide (lw_tbl[q.2.2.2]? = some (.fieldLink (am_cn q.1) q.2.1 "FoldPress$Folds" (if q.2.2.1 = 1 then "THICK" else "TRIMS") "[I")) && decide (q.2.2.1 = 1 ∨ q.2.2.1 = 2)) = true := by decide +kernel
theorem am_IN_ok : am_INp.all (fun q => decide (lw_tbl[q.2]? = some (.initialized (am_cn q.1)))) = true := by decide +kernel
theorem am_IS_ok : am_ISp.all (fun q => decide (lw_tbl[q.2.2]? = some (.instantiable (am_cn q.1) q.2.1)) && decide (q.2.1 = am_Nf q.1)) = true := by decide +kernel
theorem am_LY_ok : am_LYp.all (fun q => decide (lw_tbl[q.2.2]? = some (u_lay (am_cn q.1) (am_T q.1) q.2.1))) = true := by decide +kernel
def am_mp (M : Nat) : Nat × Nat × Nat × Nat := am_MPp.getD M (0, 0, 0, 0)
def am_okS (M : Nat) : Bool := decide (lw_tbl[(am_mp M).2.2.1]? = some (if am_ct M = 1 then .static (am_y M) else .instanceMethod (am_y M))) && (if am_ct M = 0 then decide (lw_tbl[(am_mp M).2.2.2]? = some (.selects (am_cn (am_o M)) (am_y M) (am_y M))) else true)
theorem am_okS_all : (List.range 298).all am_okS = true := by decide +kernel
-- names and descriptors
def am_okN (M : Nat) : Bool := plainFor (am_y M) && decide ((am_y M).cls ≠ "java/lang/invoke/MethodHandle") && decide ((am_y M).cls ≠ "java/lang/invoke/VarHandle") && decide ((parseMethodDescriptor (am_y M).desc).map (fun d => d.parameters.length) = some (am_na M - (if am_ct M = 1 then 0 else 1))) && (if am_ct M = 2 then decide ((am_y M).name = "<init>") && decide (am_kd M = 0) else true) && decide (am_ct M < 3) && decide (am_ct M = 1 ∨ 1 ≤ am_na M) && decide (am_o M < 13) && (decide (am_ct M = 1) || decide (am_o M < 11))
theorem am_okN_all : (List.range 298).all am_okN = true := by decide +kernel
theorem am_w73 : lw_tbl[73]? = some (.instanceMethod objectInit) := by decide +kernel
theorem am_w74 : lw_tbl[74]? = some (.code objectInit ⟨#[0xb1]⟩ 1 none) := by decide +kernel
theorem am_w82 : lw_tbl[82]? = some (.arrayOver (.object "FoldPress$Kept")) := by decide +kernel
theorem am_w99 : lw_tbl[99]? = some (.arrayClass .int) := by decide +kernel
theorem am_w1331 : lw_tbl[1331]? = some (.arrayClass .boolean) := by decide +kernel
theorem am_w590 : lw_tbl[590]? = some (.laysStatic "FoldPress$Folds" "THICK" "[I") := by decide +kernel
theorem am_w592 : lw_tbl[592]? = some (.laysStatic "FoldPress$Folds" "TRIMS" "[I") := by decide +kernel
-- the words that every method may ask for
def am_tbl : List Cond := lw_tbl.filter goodWord
theorem am_in {w : Cond} {k : Nat} (h : lw_tbl[k]? = some w) (hg : goodWord w = true) : w ∈ am_tbl := List.mem_filter.mpr ⟨List.mem_of_getElem? h, hg⟩
end
section
/-! each method's code word stands in the table -/
set_option maxRecDepth 100000 in
theorem am_kc_0 : lw_tbl[(am_mp 0).2.1]? = some (.code (am_y 0) (am_b 0) (am_L 0) (am_r 0)) := rfl
set_option maxRecDepth 100000 in
theorem am_kc_1 : lw_tbl[(am_mp 1).2.1]? = some (.code (am_y 1) (am_b 1) (am_L 1) (am_r 1)) := rfl
set_option maxRecDepth 100000 in
theorem am_kc_2 : lw_tbl[(am_mp 2).2.1]? = some (.code (am_y 2) (am_b 2) (am_L 2) (am_r 2)) := rfl
set_option maxRecDepth 100000 in
theorem am_kc_3 : lw_tbl[(am_mp 3).2.1]? = some (.code (am_y 3) (am_b 3) (am_L 3) (am_r 3)) := rfl
set_option maxRecDepth 100000 in
theorem am_kc_4 : lw_tbl[(am_mp 4).2.1]? = some (.code (am_y 4) (am_b 4) (am_L 4) (am_r 4)) := rfl
set_option maxRecDepth 100000 in
theorem am_kc_5 : lw_tbl[(am_mp 5).2.1]? = some (.code (am_y 5) (am_b 5) (am_L 5) (am_r 5)) := rfl
set_option maxRecDepth 100000 in
theorem am_kc_6 : lw_tbl[(am_mp 6).2.1]? = some (.code (am_y 6) (am_b 6) (am_L 6) (am_r 6)) := rfl
set_option maxRecDepth 100000 in
theorem am_kc_7 : lw_tbl[(am_mp 7).2.1]? = some (.code (am_y 7) (am_b 7) (am_L 7) (am_r 7)) := rfl
set_option maxRecDepth 100000 in
theorem am_kc_8 : lw_tbl[(am_mp 8).2.1]? = some (.code (am_y 8) (am_b 8) (am_L 8) (am_r 8)) := rfl
set_option maxRecDepth 100000 in
theorem am_kc_9 : lw_tbl[(am_mp 9).2.1]? = some (.code (am_y 9) (am_b 9) (am_L 9) (am_r 9)) := rfl
set_option maxRecDepth 100000 in
theorem am_kc_10 : lw_tbl[(am_mp 10).2.1]? = some (.code (am_y 10) (am_b 10) (am_L 10) (am_r 10)) := rfl
set_option maxRecDepth 100000 in
theorem am_kc_11 : lw_tbl[(am_mp 11).2.1]? = some (.code (am_y 11) (am_b 11) (am_L 11) (am_r 11)) := rfl
set_option maxRecDepth 100000 in
theorem am_kc_12 : lw_tbl[(am_mp 12).2.1]? = some (.code (am_y 12) (am_b 12) (am_L 12) (am_r 12)) := rfl
set_option maxRecDepth 100000 in
theorem am_kc_13 : lw_tbl[(am_mp 13).2.1]? = some (.code (am_y 13) (am_b 13) (am_L 13) (am_r 13)) := rfl
set_option maxRecDepth 100000 in
theorem am_kc_14 : lw_tbl[(am_mp 14).2.1]? = some (.code (am_y 14) (am_b 14) (am_L 14) (am_r 14)) := rfl
set_option maxRecDepth 100000 in
theorem am_kc_15 : lw_tbl[(am_mp 15).2.1]? = some (.code (am_y 15) (am_b 15) (am_L 15) (am_r 15)) := rfl
set_option maxRecDepth 100000 in
theorem am_kc_16 : lw_tbl[(am_mp 16).2.1]? = some (.code (am_y 16) (am_b 16) (am_L 16) (am_r 16)) := rfl
set_option maxRecDepth 100000 in
theorem am_kc_17 : lw_tbl[(am_mp 17).2.1]? = some (.code (am_y 17) (am_b 17) (am_L 17) (am_r 17)) := rfl
set_option maxRecDepth 100000 in
theorem am_kc_18 : lw_tbl[(am_mp 18).2.1]? = some (.code (am_y 18) (am_b 18) (am_L 18) (am_r 18)) := rfl
set_option maxRecDepth 100000 in
theorem am_kc_19 : lw_tbl[(am_mp 19).2.1]? = some (.code (am_y 19) (am_b 19) (am_L 19) (am_r 19)) := rfl
set_option maxRecDepth 100000 in
theorem am_kc_20 : lw_tbl[(am_mp 20).2.1]? = some (.code (am_y 20) (am_b 20) (am_L 20) (am_r 20)) := rfl
set_option maxRecDepth 100000 in
theorem am_kc_21 : lw_tbl[(am_mp 21).2.1]? = some (.code (am_y 21) (am_b 21) (am_L 21) (am_r 21)) := rfl
set_option maxRecDepth 100000 in
theorem am_kc_22 : lw_tbl[(am_mp 22).2.1]? = some (.code (am_y 22) (am_b 22) (am_L 22) (am_r 22)) := rfl
set_option maxRecDepth 100000 in
theorem am_kc_23 : lw_tbl[(am_mp 23).2.1]? = some (.code (am_y 23) (am_b 23) (am_L 23) (am_r 23)) := rfl
set_option maxRecDepth 100000 in
theorem am_kc_24 : lw_tbl[(am_mp 24).2.1]? = some (.code (am_y 24) (am_b 24) (am_L 24) (am_r 24)) := rfl
set_option maxRecDepth 100000 in
theorem am_kc_25 : lw_tbl[(am_mp 25).2.1]? = some (.code (am_y 25) (am_b 25) (am_L 25) (am_r 25)) := rfl
set_option maxRecDepth 100000 in
theorem am_kc_26 : lw_tbl[(am_mp 26).2.1]? = some (.code (am_y 26) (am_b 26) (am_L 26) (am_r 26)) := rfl
set_option maxRecDepth 100000 in
theorem am_kc_27 : lw_tbl[(am_mp 27).2.1]? = some (.code (am_y 27) (am_b 27) (am_L 27) (am_r 27)) := rfl
set_option maxRecDepth 100000 in
theorem am_kc_28 : lw_tbl[(am_mp 28).2.1]? = some (.code (am_y 28) (am_b 28) (am_L 28) (am_r 28)) := rfl
set_option maxRecDepth 100000 in
theorem am_kc_29 : lw_tbl[(am_mp 29).2.1]? = some (.code (am_y 29) (am_b 29) (am_L 29) (am_r 29)) := rfl
set_option maxRecDepth 100000 in
theorem am_kc_30 : lw_tbl[(am_mp 30).2.1]? = some (.code (am_y 30) (am_b 30) (am_L 30) (am_r 30)) := rfl
set_option maxRecDepth 100000 in
theorem am_kc_31 : lw_tbl[(am_mp 31).2.1]? = some (.code (am_y 31) (am_b 31) (am_L 31) (am_r 31)) := rfl
set_option maxRecDepth 100000 in
theorem am_kc_32 : lw_tbl[(am_mp 32).2.1]? = some (.code (am_y 32) (am_b 32) (am_L 32) (am_r 32)) := rfl
set_option maxRecDepth 100000 in
theorem am_kc_33 : lw_tbl[(am_mp 33).2.1]? = some (.code (am_y 33) (am_b 33) (am_L 33) (am_r 33)) := rfl
set_option maxRecDepth 100000 in
theorem am_kc_34 : lw_tbl[(am_mp 34).2.1]? = some (.code (am_y 34) (am_b 34) (am_L 34) (am_r 34)) := rfl
set_option maxRecDepth 100000 in
theorem am_kc_35 : lw_tbl[(am_mp 35).2.1]? = some (.code (am_y 35) (am_b 35) (am_L 35) (am_r 35)) := rfl
set_option maxRecDepth 100000 in
theorem am_kc_36 : lw_tbl[(am_mp 36).2.1]? = some (.code (am_y 36) (am_b 36) (am_L 36) (am_r 36)) := rfl
set_option maxRecDepth 100000 in
theorem am_kc_37 : lw_tbl[(am_mp 37).2.1]? = some (.code (am_y 37) (am_b 37) (am_L 37) (am_r 37)) := rfl
set_option maxRecDepth 100000 in
theorem am_kc_38 : lw_tbl[(am_mp 38).2.1]? = some (.code (am_y 38) (am_b 38) (am_L 38) (am_r 38)) := rfl
set_option maxRecDepth 100000 in
theorem am_kc_39 : lw_tbl[(am_mp 39).2.1]? = some (.code (am_y 39) (am_b 39) (am_L 39) (am_r 39)) := rfl
set_option maxRecDepth 100000 in
theorem am_kc_40 : lw_tbl[(am_mp 40).2.1]? = some (.code (am_y 40) (am_b 40) (am_L 40) (am_r 40)) := rfl
set_option maxRecDepth 100000 in
theorem am_kc_41 : lw_tbl[(am_mp 41).2.1]? = some (.code (am_y 41) (am_b 41) (am_L 41) (am_r 41)) := rfl
set_option maxRecDepth 100000 in
theorem am_kc_42 : lw_tbl[(am_mp 42).2.1]? = some (.code (am_y 42) (am_b 42) (am_L 42) (am_r 42)) := rfl
set_option maxRecDepth 100000 in
theorem am_kc_43 : lw_tbl[(am_mp 43).2.1]? = some (.code (am_y 43) (am_b 43) (am_L 43) (am_r 43)) := rfl
set_option maxRecDepth 100000 in
theorem am_kc_44 : lw_tbl[(am_mp 44).2.1]? = some (.code (am_y 44) (am_b 44) (am_L 44) (am_r 44)) := rfl
set_option maxRecDepth 100000 in
theorem am_kc_45 : lw_tbl[(am_mp 45).2.1]? = some (.code (am_y 45) (am_b 45) (am_L 45) (am_r 45)) := rfl
set_option maxRecDepth 100000 in
theorem am_kc_46 : lw_tbl[(am_mp 46).2.1]? = some (.code (am_y 46) (am_b 46) (am_L 46) (am_r 46)) := rfl
set_option maxRecDepth 100000 in
theorem am_kc_47 : lw_tbl[(am_mp 47).2.1]? = some (.code (am_y 47) (am_b 47) (am_L 47) (am_r 47)) := rfl
set_option maxRecDepth 100000 in
theorem am_kc_48 : lw_tbl[(am_mp 48).2.1]? = some (.code (am_y 48) (am_b 48) (am_L 48) (am_r 48)) := rfl
set_option maxRecDepth 100000 in
theorem am_kc_49 : lw_tbl[(am_mp 49).2.1]? = some (.code (am_y 49) (am_b 49) (am_L 49) (am_r 49)) := rfl
set_option maxRecDepth 100000 in
theorem am_kc0 : ∀ k, k < 50 → lw_tbl[(am_mp (0 + k)).2.1]? = some (.code (am_y (0 + k)) (am_b (0 + k)) (am_L (0 + k)) (am_r (0 + k))) := by
  intro k hk
  match k, hk with
  | 0, _ => exact am_kc_0
  | 1, _ => exact am_kc_1
  | 2, _ => exact am_kc_2
  | 3, _ => exact am_kc_3
  | 4, _ => exact am_kc_4
  | 5, _ => exact am_kc_5
  | 6, _ => exact am_kc_6
  | 7, _ => exact am_kc_7
  | 8, _ => exact am_kc_8
  | 9, _ => exact am_kc_9
  | 10, _ => exact am_kc_10
  | 11, _ => exact am_kc_11
  | 12, _ => exact am_kc_12
  | 13, _ => exact am_kc_13
  | 14, _ => exact am_kc_14
  | 15, _ => exact am_kc_15
  | 16, _ => exact am_kc_16
  | 17, _ => exact am_kc_17
  | 18, _ => exact am_kc_18
  | 19, _ => exact am_kc_19
  | 20, _ => exact am_kc_20
  | 21, _ => exact am_kc_21
  | 22, _ => exact am_kc_22
  | 23, _ => exact am_kc_23
  | 24, _ => exact am_kc_24
  | 25, _ => exact am_kc_25
  | 26, _ => exact am_kc_26
  | 27, _ => exact am_kc_27
  | 28, _ => exact am_kc_28
  | 29, _ => exact am_kc_29
  | 30, _ => exact am_kc_30
  | 31, _ => exact am_kc_31
  | 32, _ => exact am_kc_32
  | 33, _ => exact am_kc_33
  | 34, _ => exact am_kc_34
  | 35, _ => exact am_kc_35
  | 36, _ => exact am_kc_36
  | 37, _ => exact am_kc_37
  | 38, _ => exact am_kc_38
  | 39, _ => exact am_kc_39
  | 40, _ => exact am_kc_40
  | 41, _ => exact am_kc_41
  | 42, _ => exact am_kc_42
  | 43, _ => exact am_kc_43
  | 44, _ => exact am_kc_44
  | 45, _ => exact am_kc_45
  | 46, _ => exact am_kc_46
  | 47, _ => exact am_kc_47
  | 48, _ => exact am_kc_48
  | 49, _ => exact am_kc_49
  | k + 50, h => exact absurd h (by omega)
end
section
/-! each method's code word stands in the table -/
set_option maxRecDepth 100000 in
theorem am_kc_50 : lw_tbl[(am_mp 50).2.1]? = some (.code (am_y 50) (am_b 50) (am_L 50) (am_r 50)) := rfl
set_option maxRecDepth 100000 in
theorem am_kc_51 : lw_tbl[(am_mp 51).2.1]? = some (.code (am_y 51) (am_b 51) (am_L 51) (am_r 51)) := rfl
set_option maxRecDepth 100000 in
theorem am_kc_52 : lw_tbl[(am_mp 52).2.1]? = some (.code (am_y 52) (am_b 52) (am_L 52) (am_r 52)) := rfl
set_option maxRecDepth 100000 in
theorem am_kc_53 : lw_tbl[(am_mp 53).2.1]? = some (.code (am_y 53) (am_b 53) (am_L 53) (am_r 53)) := rfl
set_option maxRecDepth 100000 in
theorem am_kc_54 : lw_tbl[(am_mp 54).2.1]? = some (.code (am_y 54) (am_b 54) (am_L 54) (am_r 54)) := rfl
set_option maxRecDepth 100000 in
theorem am_kc_55 : lw_tbl[(am_mp 55).2.1]? = some (.code (am_y 55) (am_b 55) (am_L 55) (am_r 55)) := rfl
set_option maxRecDepth 100000 in
theorem am_kc_56 : lw_tbl[(am_mp 56).2.1]? = some (.code (am_y 56) (am_b 56) (am_L 56) (am_r 56)) := rfl
set_option maxRecDepth 100000 in
theorem am_kc_57 : lw_tbl[(am_mp 57).2.1]? = some (.code (am_y 57) (am_b 57) (am_L 57) (am_r 57)) := rfl
set_option maxRecDepth 100000 in
theorem am_kc_58 : lw_tbl[(am_mp 58).2.1]? = some (.code (am_y 58) (am_b 58) (am_L 58) (am_r 58)) := rfl
set_option maxRecDepth 100000 in
theorem am_kc_59 : lw_tbl[(am_mp 59).2.1]? = some (.code (am_y 59) (am_b 59) (am_L 59) (am_r 59)) := rfl
set_option maxRecDepth 100000 in
theorem am_kc_60 : lw_tbl[(am_mp 60).2.1]? = some (.code (am_y 60) (am_b 60) (am_L 60) (am_r 60)) := rfl
set_option maxRecDepth 100000 in
theorem am_kc_61 : lw_tbl[(am_mp 61).2.1]? = some (.code (am_y 61) (am_b 61) (am_L 61) (am_r 61)) := rfl
set_option maxRecDepth 100000 in
theorem am_kc_62 : lw_tbl[(am_mp 62).2.1]? = some (.code (am_y 62) (am_b 62) (am_L 62) (am_r 62)) := rfl
set_option maxRecDepth 100000 in
theorem am_kc_63 : lw_tbl[(am_mp 63).2.1]? = some (.code (am_y 63) (am_b 63) (am_L 63) (am_r 63)) := rfl
set_option maxRecDepth 100000 in
theorem am_kc_64 : lw_tbl[(am_mp 64).2.1]? = some (.code (am_y 64) (am_b 64) (am_L 64) (am_r 64)) := rfl
set_option maxRecDepth 100000 in
theorem am_kc_65 : lw_tbl[(am_mp 65).2.1]? = some (.code (am_y 65) (am_b 65) (am_L 65) (am_r 65)) := rfl
set_option maxRecDepth 100000 in
theorem am_kc_66 : lw_tbl[(am_mp 66).2.1]? = some (.code (am_y 66) (am_b 66) (am_L 66) (am_r 66)) := rfl
set_option maxRecDepth 100000 in
theorem am_kc_67 : lw_tbl[(am_mp 67).2.1]? = some (.code (am_y 67) (am_b 67) (am_L 67) (am_r 67)) := rfl
set_option maxRecDepth 100000 in
theorem am_kc_68 : lw_tbl[(am_mp 68).2.1]? = some (.code (am_y 68) (am_b 68) (am_L 68) (am_r 68)) := rfl
set_option maxRecDepth 100000 in
theorem am_kc_69 : lw_tbl[(am_mp 69).2.1]? = some (.code (am_y 69) (am_b 69) (am_L 69) (am_r 69)) := rfl
set_option maxRecDepth 100000 in
theorem am_kc_70 : lw_tbl[(am_mp 70).2.1]? = some (.code (am_y 70) (am_b 70) (am_L 70) (am_r 70)) := rfl
set_option maxRecDepth 100000 in
theorem am_kc_71 : lw_tbl[(am_mp 71).2.1]? = some (.code (am_y 71) (am_b 71) (am_L 71) (am_r 71)) := rfl
set_option maxRecDepth 100000 in
theorem am_kc_72 : lw_tbl[(am_mp 72).2.1]? = some (.code (am_y 72) (am_b 72) (am_L 72) (am_r 72)) := rfl
set_option maxRecDepth 100000 in
theorem am_kc_73 : lw_tbl[(am_mp 73).2.1]? = some (.code (am_y 73) (am_b 73) (am_L 73) (am_r 73)) := rfl
set_option maxRecDepth 100000 in
theorem am_kc_74 : lw_tbl[(am_mp 74).2.1]? = some (.code (am_y 74) (am_b 74) (am_L 74) (am_r 74)) := rfl
set_option maxRecDepth 100000 in
theorem am_kc_75 : lw_tbl[(am_mp 75).2.1]? = some (.code (am_y 75) (am_b 75) (am_L 75) (am_r 75)) := rfl
set_option maxRecDepth 100000 in
theorem am_kc_76 : lw_tbl[(am_mp 76).2.1]? = some (.code (am_y 76) (am_b 76) (am_L 76) (am_r 76)) := rfl
set_option maxRecDepth 100000 in
theorem am_kc_77 : lw_tbl[(am_mp 77).2.1]? = some (.code (am_y 77) (am_b 77) (am_L 77) (am_r 77)) := rfl
set_option maxRecDepth 100000 in
theorem am_kc_78 : lw_tbl[(am_mp 78).2.1]? = some (.code (am_y 78) (am_b 78) (am_L 78) (am_r 78)) := rfl
set_option maxRecDepth 100000 in
theorem am_kc_79 : lw_tbl[(am_mp 79).2.1]? = some (.code (am_y 79) (am_b 79) (am_L 79) (am_r 79)) := rfl
set_option maxRecDepth 100000 in
theorem am_kc_80 : lw_tbl[(am_mp 80).2.1]? = some (.code (am_y 80) (am_b 80) (am_L 80) (am_r 80)) := rfl
set_option maxRecDepth 100000 in
theorem am_kc_81 : lw_tbl[(am_mp 81).2.1]? = some (.code (am_y 81) (am_b 81) (am_L 81) (am_r 81)) := rfl
set_option maxRecDepth 100000 in
theorem am_kc_82 : lw_tbl[(am_mp 82).2.1]? = some (.code (am_y 82) (am_b 82) (am_L 82) (am_r 82)) := rfl
set_option maxRecDepth 100000 in
theorem am_kc_83 : lw_tbl[(am_mp 83).2.1]? = some (.code (am_y 83) (am_b 83) (am_L 83) (am_r 83)) := rfl
set_option maxRecDepth 100000 in
theorem am_kc_84 : lw_tbl[(am_mp 84).2.1]? = some (.code (am_y 84) (am_b 84) (am_L 84) (am_r 84)) := rfl
set_option maxRecDepth 100000 in
theorem am_kc_85 : lw_tbl[(am_mp 85).2.1]? = some (.code (am_y 85) (am_b 85) (am_L 85) (am_r 85)) := rfl
set_option maxRecDepth 100000 in
theorem am_kc_86 : lw_tbl[(am_mp 86).2.1]? = some (.code (am_y 86) (am_b 86) (am_L 86) (am_r 86)) := rfl
set_option maxRecDepth 100000 in
theorem am_kc_87 : lw_tbl[(am_mp 87).2.1]? = some (.code (am_y 87) (am_b 87) (am_L 87) (am_r 87)) := rfl
set_option maxRecDepth 100000 in
theorem am_kc_88 : lw_tbl[(am_mp 88).2.1]? = some (.code (am_y 88) (am_b 88) (am_L 88) (am_r 88)) := rfl
set_option maxRecDepth 100000 in
theorem am_kc_89 : lw_tbl[(am_mp 89).2.1]? = some (.code (am_y 89) (am_b 89) (am_L 89) (am_r 89)) := rfl
set_option maxRecDepth 100000 in
theorem am_kc_90 : lw_tbl[(am_mp 90).2.1]? = some (.code (am_y 90) (am_b 90) (am_L 90) (am_r 90)) := rfl
set_option maxRecDepth 100000 in
theorem am_kc_91 : lw_tbl[(am_mp 91).2.1]? = some (.code (am_y 91) (am_b 91) (am_L 91) (am_r 91)) := rfl
set_option maxRecDepth 100000 in
theorem am_kc_92 : lw_tbl[(am_mp 92).2.1]? = some (.code (am_y 92) (am_b 92) (am_L 92) (am_r 92)) := rfl
set_option maxRecDepth 100000 in
theorem am_kc_93 : lw_tbl[(am_mp 93).2.1]? = some (.code (am_y 93) (am_b 93) (am_L 93) (am_r 93)) := rfl
set_option maxRecDepth 100000 in
theorem am_kc_94 : lw_tbl[(am_mp 94).2.1]? = some (.code (am_y 94) (am_b 94) (am_L 94) (am_r 94)) := rfl
set_option maxRecDepth 100000 in
theorem am_kc_95 : lw_tbl[(am_mp 95).2.1]? = some (.code (am_y 95) (am_b 95) (am_L 95) (am_r 95)) := rfl
set_option maxRecDepth 100000 in
theorem am_kc_96 : lw_tbl[(am_mp 96).2.1]? = some (.code (am_y 96) (am_b 96) (am_L 96) (am_r 96)) := rfl
set_option maxRecDepth 100000 in
theorem am_kc_97 : lw_tbl[(am_mp 97).2.1]? = some (.code (am_y 97) (am_b 97) (am_L 97) (am_r 97)) := rfl
set_option maxRecDepth 100000 in
theorem am_kc_98 : lw_tbl[(am_mp 98).2.1]? = some (.code (am_y 98) (am_b 98) (am_L 98) (am_r 98)) := rfl
set_option maxRecDepth 100000 in
theorem am_kc_99 : lw_tbl[(am_mp 99).2.1]? = some (.code (am_y 99) (am_b 99) (am_L 99) (am_r 99)) := rfl
set_option maxRecDepth 100000 in
theorem am_kc1 : ∀ k, k < 50 → lw_tbl[(am_mp (50 + k)).2.1]? = some (.code (am_y (50 + k)) (am_b (50 + k)) (am_L (50 + k)) (am_r (50 + k))) := by
  intro k hk
  match k, hk with
  | 0, _ => exact am_kc_50
  | 1, _ => exact am_kc_51
  | 2, _ => exact am_kc_52
  | 3, _ => exact am_kc_53
  | 4, _ => exact am_kc_54
  | 5, _ => exact am_kc_55
  | 6, _ => exact am_kc_56
  | 7, _ => exact am_kc_57
  | 8, _ => exact am_kc_58
  | 9, _ => exact am_kc_59
  | 10, _ => exact am_kc_60
  | 11, _ => exact am_kc_61
  | 12, _ => exact am_kc_62
  | 13, _ => exact am_kc_63
  | 14, _ => exact am_kc_64
  | 15, _ => exact am_kc_65
  | 16, _ => exact am_kc_66
  | 17, _ => exact am_kc_67
  | 18, _ => exact am_kc_68
  | 19, _ => exact am_kc_69
  | 20, _ => exact am_kc_70
  | 21, _ => exact am_kc_71
  | 22, _ => exact am_kc_72
  | 23, _ => exact am_kc_73
  | 24, _ => exact am_kc_74
  | 25, _ => exact am_kc_75
  | 26, _ => exact am_kc_76
  | 27, _ => exact am_kc_77
  | 28, _ => exact am_kc_78
  | 29, _ => exact am_kc_79
  | 30, _ => exact am_kc_80
  | 31, _ => exact am_kc_81
  | 32, _ => exact am_kc_82
  | 33, _ => exact am_kc_83
  | 34, _ => exact am_kc_84
  | 35, _ => exact am_kc_85
  | 36, _ => exact am_kc_86
  | 37, _ => exact am_kc_87
  | 38, _ => exact am_kc_88
  | 39, _ => exact am_kc_89
  | 40, _ => exact am_kc_90
  | 41, _ => exact am_kc_91
  | 42, _ => exact am_kc_92
  | 43, _ => exact am_kc_93
  | 44, _ => exact am_kc_94
  | 45, _ => exact am_kc_95
  | 46, _ => exact am_kc_96
  | 47, _ => exact am_kc_97
  | 48, _ => exact am_kc_98
  | 49, _ => exact am_kc_99
  | k + 50, h => exact absurd h (by omega)
end
section
/-! each method's code word stands in the table -/
set_option maxRecDepth 100000 in
theorem am_kc_100 : lw_tbl[(am_mp 100).2.1]? = some (.code (am_y 100) (am_b 100) (am_L 100) (am_r 100)) := rfl
set_option maxRecDepth 100000 in
theorem am_kc_101 : lw_tbl[(am_mp 101).2.1]? = some (.code (am_y 101) (am_b 101) (am_L 101) (am_r 101)) := rfl
set_option maxRecDepth 100000 in
theorem am_kc_102 : lw_tbl[(am_mp 102).2.1]? = some (.code (am_y 102) (am_b 102) (am_L 102) (am_r 102)) := rfl
set_option maxRecDepth 100000 in
theorem am_kc_103 : lw_tbl[(am_mp 103).2.1]? = some (.code (am_y 103) (am_b 103) (am_L 103) (am_r 103)) := rfl
set_option maxRecDepth 100000 in
theorem am_kc_104 : lw_tbl[(am_mp 104).2.1]? = some (.code (am_y 104) (am_b 104) (am_L 104) (am_r 104)) := rfl
set_option maxRecDepth 100000 in
theorem am_kc_105 : lw_tbl[(am_mp 105).2.1]? = some (.code (am_y 105) (am_b 105) (am_L 105) (am_r 105)) := rfl
set_option maxRecDepth 100000 in
theorem am_kc_106 : lw_tbl[(am_mp 106).2.1]? = some (.code (am_y 106) (am_b 106) (am_L 106) (am_r 106)) := rfl
set_option maxRecDepth 100000 in
theorem am_kc_107 : lw_tbl[(am_mp 107).2.1]? = some (.code (am_y 107) (am_b 107) (am_L 107) (am_r 107)) := rfl
set_option maxRecDepth 100000 in
theorem am_kc_108 : lw_tbl[(am_mp 108).2.1]? = some (.code (am_y 108) (am_b 108) (am_L 108) (am_r 108)) := rfl
set_option maxRecDepth 100000 in
theorem am_kc_109 : lw_tbl[(am_mp 109).2.1]? = some (.code (am_y 109) (am_b 109) (am_L 109) (am_r 109)) := rfl
set_option maxRecDepth 100000 in
theorem am_kc_110 : lw_tbl[(am_mp 110).2.1]? = some (.code (am_y 110) (am_b 110) (am_L 110) (am_r 110)) := rfl
set_option maxRecDepth 100000 in
theorem am_kc_111 : lw_tbl[(am_mp 111).2.1]? = some (.code (am_y 111) (am_b 111) (am_L 111) (am_r 111)) := rfl
set_option maxRecDepth 100000 in
theorem am_kc_112 : lw_tbl[(am_mp 112).2.1]? = some (.code (am_y 112) (am_b 112) (am_L 112) (am_r 112)) := rfl
set_option maxRecDepth 100000 in
theorem am_kc_113 : lw_tbl[(am_mp 113).2.1]? = some (.code (am_y 113) (am_b 113) (am_L 113) (am_r 113)) := rfl
set_option maxRecDepth 100000 in
theorem am_kc_114 : lw_tbl[(am_mp 114).2.1]? = some (.code (am_y 114) (am_b 114) (am_L 114) (am_r 114)) := rfl
set_option maxRecDepth 100000 in
theorem am_kc_115 : lw_tbl[(am_mp 115).2.1]? = some (.code (am_y 115) (am_b 115) (am_L 115) (am_r 115)) := rfl
set_option maxRecDepth 100000 in
theorem am_kc_116 : lw_tbl[(am_mp 116).2.1]? = some (.code (am_y 116) (am_b 116) (am_L 116) (am_r 116)) := rfl
set_option maxRecDepth 100000 in
theorem am_kc_117 : lw_tbl[(am_mp 117).2.1]? = some (.code (am_y 117) (am_b 117) (am_L 117) (am_r 117)) := rfl
set_option maxRecDepth 100000 in
theorem am_kc_118 : lw_tbl[(am_mp 118).2.1]? = some (.code (am_y 118) (am_b 118) (am_L 118) (am_r 118)) := rfl
set_option maxRecDepth 100000 in
theorem am_kc_119 : lw_tbl[(am_mp 119).2.1]? = some (.code (am_y 119) (am_b 119) (am_L 119) (am_r 119)) := rfl
set_option maxRecDepth 100000 in
theorem am_kc_120 : lw_tbl[(am_mp 120).2.1]? = some (.code (am_y 120) (am_b 120) (am_L 120) (am_r 120)) := rfl
set_option maxRecDepth 100000 in
theorem am_kc_121 : lw_tbl[(am_mp 121).2.1]? = some (.code (am_y 121) (am_b 121) (am_L 121) (am_r 121)) := rfl
set_option maxRecDepth 100000 in
theorem am_kc_122 : lw_tbl[(am_mp 122).2.1]? = some (.code (am_y 122) (am_b 122) (am_L 122) (am_r 122)) := rfl
set_option maxRecDepth 100000 in
theorem am_kc_123 : lw_tbl[(am_mp 123).2.1]? = some (.code (am_y 123) (am_b 123) (am_L 123) (am_r 123)) := rfl
set_option maxRecDepth 100000 in
theorem am_kc_124 : lw_tbl[(am_mp 124).2.1]? = some (.code (am_y 124) (am_b 124) (am_L 124) (am_r 124)) := rfl
set_option maxRecDepth 100000 in
theorem am_kc_125 : lw_tbl[(am_mp 125).2.1]? = some (.code (am_y 125) (am_b 125) (am_L 125) (am_r 125)) := rfl
set_option maxRecDepth 100000 in
theorem am_kc_126 : lw_tbl[(am_mp 126).2.1]? = some (.code (am_y 126) (am_b 126) (am_L 126) (am_r 126)) := rfl
set_option maxRecDepth 100000 in
theorem am_kc_127 : lw_tbl[(am_mp 127).2.1]? = some (.code (am_y 127) (am_b 127) (am_L 127) (am_r 127)) := rfl
set_option maxRecDepth 100000 in
theorem am_kc_128 : lw_tbl[(am_mp 128).2.1]? = some (.code (am_y 128) (am_b 128) (am_L 128) (am_r 128)) := rfl
set_option maxRecDepth 100000 in
theorem am_kc_129 : lw_tbl[(am_mp 129).2.1]? = some (.code (am_y 129) (am_b 129) (am_L 129) (am_r 129)) := rfl
set_option maxRecDepth 100000 in
theorem am_kc_130 : lw_tbl[(am_mp 130).2.1]? = some (.code (am_y 130) (am_b 130) (am_L 130) (am_r 130)) := rfl
set_option maxRecDepth 100000 in
theorem am_kc_131 : lw_tbl[(am_mp 131).2.1]? = some (.code (am_y 131) (am_b 131) (am_L 131) (am_r 131)) := rfl
set_option maxRecDepth 100000 in
theorem am_kc_132 : lw_tbl[(am_mp 132).2.1]? = some (.code (am_y 132) (am_b 132) (am_L 132) (am_r 132)) := rfl
set_option maxRecDepth 100000 in
theorem am_kc_133 : lw_tbl[(am_mp 133).2.1]? = some (.code (am_y 133) (am_b 133) (am_L 133) (am_r 133)) := rfl
set_option maxRecDepth 100000 in
theorem am_kc_134 : lw_tbl[(am_mp 134).2.1]? = some (.code (am_y 134) (am_b 134) (am_L 134) (am_r 134)) := rfl
set_option maxRecDepth 100000 in
theorem am_kc_135 : lw_tbl[(am_mp 135).2.1]? = some (.code (am_y 135) (am_b 135) (am_L 135) (am_r 135)) := rfl
set_option maxRecDepth 100000 in
theorem am_kc_136 : lw_tbl[(am_mp 136).2.1]? = some (.code (am_y 136) (am_b 136) (am_L 136) (am_r 136)) := rfl
set_option maxRecDepth 100000 in
theorem am_kc_137 : lw_tbl[(am_mp 137).2.1]? = some (.code (am_y 137) (am_b 137) (am_L 137) (am_r 137)) := rfl
set_option maxRecDepth 100000 in
theorem am_kc_138 : lw_tbl[(am_mp 138).2.1]? = some (.code (am_y 138) (am_b 138) (am_L 138) (am_r 138)) := rfl
set_option maxRecDepth 100000 in
theorem am_kc_139 : lw_tbl[(am_mp 139).2.1]? = some (.code (am_y 139) (am_b 139) (am_L 139) (am_r 139)) := rfl
set_option maxRecDepth 100000 in
theorem am_kc_140 : lw_tbl[(am_mp 140).2.1]? = some (.code (am_y 140) (am_b 140) (am_L 140) (am_r 140)) := rfl
set_option maxRecDepth 100000 in
theorem am_kc_141 : lw_tbl[(am_mp 141).2.1]? = some (.code (am_y 141) (am_b 141) (am_L 141) (am_r 141)) := rfl
set_option maxRecDepth 100000 in
theorem am_kc_142 : lw_tbl[(am_mp 142).2.1]? = some (.code (am_y 142) (am_b 142) (am_L 142) (am_r 142)) := rfl
set_option maxRecDepth 100000 in
theorem am_kc_143 : lw_tbl[(am_mp 143).2.1]? = some (.code (am_y 143) (am_b 143) (am_L 143) (am_r 143)) := rfl
set_option maxRecDepth 100000 in
theorem am_kc_144 : lw_tbl[(am_mp 144).2.1]? = some (.code (am_y 144) (am_b 144) (am_L 144) (am_r 144)) := rfl
set_option maxRecDepth 100000 in
theorem am_kc_145 : lw_tbl[(am_mp 145).2.1]? = some (.code (am_y 145) (am_b 145) (am_L 145) (am_r 145)) := rfl
set_option maxRecDepth 100000 in
theorem am_kc_146 : lw_tbl[(am_mp 146).2.1]? = some (.code (am_y 146) (am_b 146) (am_L 146) (am_r 146)) := rfl
set_option maxRecDepth 100000 in
theorem am_kc_147 : lw_tbl[(am_mp 147).2.1]? = some (.code (am_y 147) (am_b 147) (am_L 147) (am_r 147)) := rfl
set_option maxRecDepth 100000 in
theorem am_kc_148 : lw_tbl[(am_mp 148).2.1]? = some (.code (am_y 148) (am_b 148) (am_L 148) (am_r 148)) := rfl
set_option maxRecDepth 100000 in
theorem am_kc_149 : lw_tbl[(am_mp 149).2.1]? = some (.code (am_y 149) (am_b 149) (am_L 149) (am_r 149)) := rfl
set_option maxRecDepth 100000 in
theorem am_kc2 : ∀ k, k < 50 → lw_tbl[(am_mp (100 + k)).2.1]? = some (.code (am_y (100 + k)) (am_b (100 + k)) (am_L (100 + k)) (am_r (100 + k))) := by
  intro k hk
  match k, hk with
  | 0, _ => exact am_kc_100
  | 1, _ => exact am_kc_101
  | 2, _ => exact am_kc_102
  | 3, _ => exact am_kc_103
  | 4, _ => exact am_kc_104
  | 5, _ => exact am_kc_105
  | 6, _ => exact am_kc_106
  | 7, _ => exact am_kc_107
  | 8, _ => exact am_kc_108
  | 9, _ => exact am_kc_109
  | 10, _ => exact am_kc_110
  | 11, _ => exact am_kc_111
  | 12, _ => exact am_kc_112
  | 13, _ => exact am_kc_113
  | 14, _ => exact am_kc_114
  | 15, _ => exact am_kc_115
  | 16, _ => exact am_kc_116
  | 17, _ => exact am_kc_117
  | 18, _ => exact am_kc_118
  | 19, _ => exact am_kc_119
  | 20, _ => exact am_kc_120
  | 21, _ => exact am_kc_121
  | 22, _ => exact am_kc_122
  | 23, _ => exact am_kc_123
  | 24, _ => exact am_kc_124
  | 25, _ => exact am_kc_125
  | 26, _ => exact am_kc_126
  | 27, _ => exact am_kc_127
  | 28, _ => exact am_kc_128
  | 29, _ => exact am_kc_129
  | 30, _ => exact am_kc_130
  | 31, _ => exact am_kc_131
  | 32, _ => exact am_kc_132
  | 33, _ => exact am_kc_133
  | 34, _ => exact am_kc_134
  | 35, _ => exact am_kc_135
  | 36, _ => exact am_kc_136
  | 37, _ => exact am_kc_137
  | 38, _ => exact am_kc_138
  | 39, _ => exact am_kc_139
  | 40, _ => exact am_kc_140
  | 41, _ => exact am_kc_141
  | 42, _ => exact am_kc_142
  | 43, _ => exact am_kc_143
  | 44, _ => exact am_kc_144
  | 45, _ => exact am_kc_145
  | 46, _ => exact am_kc_146
  | 47, _ => exact am_kc_147
  | 48, _ => exact am_kc_148
  | 49, _ => exact am_kc_149
  | k + 50, h => exact absurd h (by omega)
end
section
/-! each method's code word stands in the table -/
set_option maxRecDepth 100000 in
theorem am_kc_150 : lw_tbl[(am_mp 150).2.1]? = some (.code (am_y 150) (am_b 150) (am_L 150) (am_r 150)) := rfl
set_option maxRecDepth 100000 in
theorem am_kc_151 : lw_tbl[(am_mp 151).2.1]? = some (.code (am_y 151) (am_b 151) (am_L 151) (am_r 151)) := rfl
set_option maxRecDepth 100000 in
theorem am_kc_152 : lw_tbl[(am_mp 152).2.1]? = some (.code (am_y 152) (am_b 152) (am_L 152) (am_r 152)) := rfl
set_option maxRecDepth 100000 in
theorem am_kc_153 : lw_tbl[(am_mp 153).2.1]? = some (.code (am_y 153) (am_b 153) (am_L 153) (am_r 153)) := rfl
set_option maxRecDepth 100000 in
theorem am_kc_154 : lw_tbl[(am_mp 154).2.1]? = some (.code (am_y 154) (am_b 154) (am_L 154) (am_r 154)) := rfl
set_option maxRecDepth 100000 in
theorem am_kc_155 : lw_tbl[(am_mp 155).2.1]? = some (.code (am_y 155) (am_b 155) (am_L 155) (am_r 155)) := rfl
set_option maxRecDepth 100000 in
theorem am_kc_156 : lw_tbl[(am_mp 156).2.1]? = some (.code (am_y 156) (am_b 156) (am_L 156) (am_r 156)) := rfl
set_option maxRecDepth 100000 in
theorem am_kc_157 : lw_tbl[(am_mp 157).2.1]? = some (.code (am_y 157) (am_b 157) (am_L 157) (am_r 157)) := rfl
set_option maxRecDepth 100000 in
theorem am_kc_158 : lw_tbl[(am_mp 158).2.1]? = some (.code (am_y 158) (am_b 158) (am_L 158) (am_r 158)) := rfl
set_option maxRecDepth 100000 in
theorem am_kc_159 : lw_tbl[(am_mp 159).2.1]? = some (.code (am_y 159) (am_b 159) (am_L 159) (am_r 159)) := rfl
set_option maxRecDepth 100000 in
theorem am_kc_160 : lw_tbl[(am_mp 160).2.1]? = some (.code (am_y 160) (am_b 160) (am_L 160) (am_r 160)) := rfl
set_option maxRecDepth 100000 in
theorem am_kc_161 : lw_tbl[(am_mp 161).2.1]? = some (.code (am_y 161) (am_b 161) (am_L 161) (am_r 161)) := rfl
set_option maxRecDepth 100000 in
theorem am_kc_162 : lw_tbl[(am_mp 162).2.1]? = some (.code (am_y 162) (am_b 162) (am_L 162) (am_r 162)) := rfl
set_option maxRecDepth 100000 in
theorem am_kc_163 : lw_tbl[(am_mp 163).2.1]? = some (.code (am_y 163) (am_b 163) (am_L 163) (am_r 163)) := rfl
set_option maxRecDepth 100000 in
theorem am_kc_164 : lw_tbl[(am_mp 164).2.1]? = some (.code (am_y 164) (am_b 164) (am_L 164) (am_r 164)) := rfl
set_option maxRecDepth 100000 in
theorem am_kc_165 : lw_tbl[(am_mp 165).2.1]? = some (.code (am_y 165) (am_b 165) (am_L 165) (am_r 165)) := rfl
set_option maxRecDepth 100000 in
theorem am_kc_166 : lw_tbl[(am_mp 166).2.1]? = some (.code (am_y 166) (am_b 166) (am_L 166) (am_r 166)) := rfl
set_option maxRecDepth 100000 in
theorem am_kc_167 : lw_tbl[(am_mp 167).2.1]? = some (.code (am_y 167) (am_b 167) (am_L 167) (am_r 167)) := rfl
set_option maxRecDepth 100000 in
theorem am_kc_168 : lw_tbl[(am_mp 168).2.1]? = some (.code (am_y 168) (am_b 168) (am_L 168) (am_r 168)) := rfl
set_option maxRecDepth 100000 in
theorem am_kc_169 : lw_tbl[(am_mp 169).2.1]? = some (.code (am_y 169) (am_b 169) (am_L 169) (am_r 169)) := rfl
set_option maxRecDepth 100000 in
theorem am_kc_170 : lw_tbl[(am_mp 170).2.1]? = some (.code (am_y 170) (am_b 170) (am_L 170) (am_r 170)) := rfl
set_option maxRecDepth 100000 in
theorem am_kc_171 : lw_tbl[(am_mp 171).2.1]? = some (.code (am_y 171) (am_b 171) (am_L 171) (am_r 171)) := rfl
set_option maxRecDepth 100000 in
theorem am_kc_172 : lw_tbl[(am_mp 172).2.1]? = some (.code (am_y 172) (am_b 172) (am_L 172) (am_r 172)) := rfl
set_option maxRecDepth 100000 in
theorem am_kc_173 : lw_tbl[(am_mp 173).2.1]? = some (.code (am_y 173) (am_b 173) (am_L 173) (am_r 173)) := rfl
set_option maxRecDepth 100000 in
theorem am_kc_174 : lw_tbl[(am_mp 174).2.1]? = some (.code (am_y 174) (am_b 174) (am_L 174) (am_r 174)) := rfl
set_option maxRecDepth 100000 in
theorem am_kc_175 : lw_tbl[(am_mp 175).2.1]? = some (.code (am_y 175) (am_b 175) (am_L 175) (am_r 175)) := rfl
set_option maxRecDepth 100000 in
theorem am_kc_176 : lw_tbl[(am_mp 176).2.1]? = some (.code (am_y 176) (am_b 176) (am_L 176) (am_r 176)) := rfl
set_option maxRecDepth 100000 in
theorem am_kc_177 : lw_tbl[(am_mp 177).2.1]? = some (.code (am_y 177) (am_b 177) (am_L 177) (am_r 177)) := rfl
set_option maxRecDepth 100000 in
theorem am_kc_178 : lw_tbl[(am_mp 178).2.1]? = some (.code (am_y 178) (am_b 178) (am_L 178) (am_r 178)) := rfl
set_option maxRecDepth 100000 in
theorem am_kc_179 : lw_tbl[(am_mp 179).2.1]? = some (.code (am_y 179) (am_b 179) (am_L 179) (am_r 179)) := rfl
set_option maxRecDepth 100000 in
theorem am_kc_180 : lw_tbl[(am_mp 180).2.1]? = some (.code (am_y 180) (am_b 180) (am_L 180) (am_r 180)) := rfl
set_option maxRecDepth 100000 in
theorem am_kc_181 : lw_tbl[(am_mp 181).2.1]? = some (.code (am_y 181) (am_b 181) (am_L 181) (am_r 181)) := rfl
set_option maxRecDepth 100000 in
theorem am_kc_182 : lw_tbl[(am_mp 182).2.1]? = some (.code (am_y 182) (am_b 182) (am_L 182) (am_r 182)) := rfl
set_option maxRecDepth 100000 in
theorem am_kc_183 : lw_tbl[(am_mp 183).2.1]? = some (.code (am_y 183) (am_b 183) (am_L 183) (am_r 183)) := rfl
set_option maxRecDepth 100000 in
theorem am_kc_184 : lw_tbl[(am_mp 184).2.1]? = some (.code (am_y 184) (am_b 184) (am_L 184) (am_r 184)) := rfl
set_option maxRecDepth 100000 in
theorem am_kc_185 : lw_tbl[(am_mp 185).2.1]? = some (.code (am_y 185) (am_b 185) (am_L 185) (am_r 185)) := rfl
set_option maxRecDepth 100000 in
theorem am_kc_186 : lw_tbl[(am_mp 186).2.1]? = some (.code (am_y 186) (am_b 186) (am_L 186) (am_r 186)) := rfl
set_option maxRecDepth 100000 in
theorem am_kc_187 : lw_tbl[(am_mp 187).2.1]? = some (.code (am_y 187) (am_b 187) (am_L 187) (am_r 187)) := rfl
set_option maxRecDepth 100000 in
theorem am_kc_188 : lw_tbl[(am_mp 188).2.1]? = some (.code (am_y 188) (am_b 188) (am_L 188) (am_r 188)) := rfl
set_option maxRecDepth 100000 in
theorem am_kc_189 : lw_tbl[(am_mp 189).2.1]? = some (.code (am_y 189) (am_b 189) (am_L 189) (am_r 189)) := rfl
set_option maxRecDepth 100000 in
theorem am_kc_190 : lw_tbl[(am_mp 190).2.1]? = some (.code (am_y 190) (am_b 190) (am_L 190) (am_r 190)) := rfl
set_option maxRecDepth 100000 in
theorem am_kc_191 : lw_tbl[(am_mp 191).2.1]? = some (.code (am_y 191) (am_b 191) (am_L 191) (am_r 191)) := rfl
set_option maxRecDepth 100000 in
theorem am_kc_192 : lw_tbl[(am_mp 192).2.1]? = some (.code (am_y 192) (am_b 192) (am_L 192) (am_r 192)) := rfl
set_option maxRecDepth 100000 in
theorem am_kc_193 : lw_tbl[(am_mp 193).2.1]? = some (.code (am_y 193) (am_b 193) (am_L 193) (am_r 193)) := rfl
set_option maxRecDepth 100000 in
theorem am_kc_194 : lw_tbl[(am_mp 194).2.1]? = some (.code (am_y 194) (am_b 194) (am_L 194) (am_r 194)) := rfl
set_option maxRecDepth 100000 in
theorem am_kc_195 : lw_tbl[(am_mp 195).2.1]? = some (.code (am_y 195) (am_b 195) (am_L 195) (am_r 195)) := rfl
set_option maxRecDepth 100000 in
theorem am_kc_196 : lw_tbl[(am_mp 196).2.1]? = some (.code (am_y 196) (am_b 196) (am_L 196) (am_r 196)) := rfl
set_option maxRecDepth 100000 in
theorem am_kc_197 : lw_tbl[(am_mp 197).2.1]? = some (.code (am_y 197) (am_b 197) (am_L 197) (am_r 197)) := rfl
set_option maxRecDepth 100000 in
theorem am_kc_198 : lw_tbl[(am_mp 198).2.1]? = some (.code (am_y 198) (am_b 198) (am_L 198) (am_r 198)) := rfl
set_option maxRecDepth 100000 in
theorem am_kc_199 : lw_tbl[(am_mp 199).2.1]? = some (.code (am_y 199) (am_b 199) (am_L 199) (am_r 199)) := rfl
set_option maxRecDepth 100000 in
theorem am_kc3 : ∀ k, k < 50 → lw_tbl[(am_mp (150 + k)).2.1]? = some (.code (am_y (150 + k)) (am_b (150 + k)) (am_L (150 + k)) (am_r (150 + k))) := by
  intro k hk
  match k, hk with
  | 0, _ => exact am_kc_150
  | 1, _ => exact am_kc_151
  | 2, _ => exact am_kc_152
  | 3, _ => exact am_kc_153
  | 4, _ => exact am_kc_154
  | 5, _ => exact am_kc_155
  | 6, _ => exact am_kc_156
  | 7, _ => exact am_kc_157
  | 8, _ => exact am_kc_158
  | 9, _ => exact am_kc_159
  | 10, _ => exact am_kc_160
  | 11, _ => exact am_kc_161
  | 12, _ => exact am_kc_162
  | 13, _ => exact am_kc_163
  | 14, _ => exact am_kc_164
  | 15, _ => exact am_kc_165
  | 16, _ => exact am_kc_166
  | 17, _ => exact am_kc_167
  | 18, _ => exact am_kc_168
  | 19, _ => exact am_kc_169
  | 20, _ => exact am_kc_170
  | 21, _ => exact am_kc_171
  | 22, _ => exact am_kc_172
  | 23, _ => exact am_kc_173
  | 24, _ => exact am_kc_174
  | 25, _ => exact am_kc_175
  | 26, _ => exact am_kc_176
  | 27, _ => exact am_kc_177
  | 28, _ => exact am_kc_178
  | 29, _ => exact am_kc_179
  | 30, _ => exact am_kc_180
  | 31, _ => exact am_kc_181
  | 32, _ => exact am_kc_182
  | 33, _ => exact am_kc_183
  | 34, _ => exact am_kc_184
  | 35, _ => exact am_kc_185
  | 36, _ => exact am_kc_186
  | 37, _ => exact am_kc_187
  | 38, _ => exact am_kc_188
  | 39, _ => exact am_kc_189
  | 40, _ => exact am_kc_190
  | 41, _ => exact am_kc_191
  | 42, _ => exact am_kc_192
  | 43, _ => exact am_kc_193
  | 44, _ => exact am_kc_194
  | 45, _ => exact am_kc_195
  | 46, _ => exact am_kc_196
  | 47, _ => exact am_kc_197
  | 48, _ => exact am_kc_198
  | 49, _ => exact am_kc_199
  | k + 50, h => exact absurd h (by omega)
end
section
/-! each method's code word stands in the table -/
set_option maxRecDepth 100000 in
theorem am_kc_200 : lw_tbl[(am_mp 200).2.1]? = some (.code (am_y 200) (am_b 200) (am_L 200) (am_r 200)) := rfl
set_option maxRecDepth 100000 in
theorem am_kc_201 : lw_tbl[(am_mp 201).2.1]? = some (.code (am_y 201) (am_b 201) (am_L 201) (am_r 201)) := rfl
set_option maxRecDepth 100000 in
theorem am_kc_202 : lw_tbl[(am_mp 202).2.1]? = some (.code (am_y 202) (am_b 202) (am_L 202) (am_r 202)) := rfl
set_option maxRecDepth 100000 in
theorem am_kc_203 : lw_tbl[(am_mp 203).2.1]? = some (.code (am_y 203) (am_b 203) (am_L 203) (am_r 203)) := rfl
set_option maxRecDepth 100000 in
theorem am_kc_204 : lw_tbl[(am_mp 204).2.1]? = some (.code (am_y 204) (am_b 204) (am_L 204) (am_r 204)) := rfl
set_option maxRecDepth 100000 in
theorem am_kc_205 : lw_tbl[(am_mp 205).2.1]? = some (.code (am_y 205) (am_b 205) (am_L 205) (am_r 205)) := rfl
set_option maxRecDepth 100000 in
theorem am_kc_206 : lw_tbl[(am_mp 206).2.1]? = some (.code (am_y 206) (am_b 206) (am_L 206) (am_r 206)) := rfl
set_option maxRecDepth 100000 in
theorem am_kc_207 : lw_tbl[(am_mp 207).2.1]? = some (.code (am_y 207) (am_b 207) (am_L 207) (am_r 207)) := rfl
set_option maxRecDepth 100000 in
theorem am_kc_208 : lw_tbl[(am_mp 208).2.1]? = some (.code (am_y 208) (am_b 208) (am_L 208) (am_r 208)) := rfl
set_option maxRecDepth 100000 in
theorem am_kc_209 : lw_tbl[(am_mp 209).2.1]? = some (.code (am_y 209) (am_b 209) (am_L 209) (am_r 209)) := rfl
set_option maxRecDepth 100000 in
theorem am_kc_210 : lw_tbl[(am_mp 210).2.1]? = some (.code (am_y 210) (am_b 210) (am_L 210) (am_r 210)) := rfl
set_option maxRecDepth 100000 in
theorem am_kc_211 : lw_tbl[(am_mp 211).2.1]? = some (.code (am_y 211) (am_b 211) (am_L 211) (am_r 211)) := rfl
set_option maxRecDepth 100000 in
theorem am_kc_212 : lw_tbl[(am_mp 212).2.1]? = some (.code (am_y 212) (am_b 212) (am_L 212) (am_r 212)) := rfl
set_option maxRecDepth 100000 in
theorem am_kc_213 : lw_tbl[(am_mp 213).2.1]? = some (.code (am_y 213) (am_b 213) (am_L 213) (am_r 213)) := rfl
set_option maxRecDepth 100000 in
theorem am_kc_214 : lw_tbl[(am_mp 214).2.1]? = some (.code (am_y 214) (am_b 214) (am_L 214) (am_r 214)) := rfl
set_option maxRecDepth 100000 in
theorem am_kc_215 : lw_tbl[(am_mp 215).2.1]? = some (.code (am_y 215) (am_b 215) (am_L 215) (am_r 215)) := rfl
set_option maxRecDepth 100000 in
theorem am_kc_216 : lw_tbl[(am_mp 216).2.1]? = some (.code (am_y 216) (am_b 216) (am_L 216) (am_r 216)) := rfl
set_option maxRecDepth 100000 in
theorem am_kc_217 : lw_tbl[(am_mp 217).2.1]? = some (.code (am_y 217) (am_b 217) (am_L 217) (am_r 217)) := rfl
set_option maxRecDepth 100000 in
theorem am_kc_218 : lw_tbl[(am_mp 218).2.1]? = some (.code (am_y 218) (am_b 218) (am_L 218) (am_r 218)) := rfl
set_option maxRecDepth 100000 in
theorem am_kc_219 : lw_tbl[(am_mp 219).2.1]? = some (.code (am_y 219) (am_b 219) (am_L 219) (am_r 219)) := rfl
set_option maxRecDepth 100000 in
theorem am_kc_220 : lw_tbl[(am_mp 220).2.1]? = some (.code (am_y 220) (am_b 220) (am_L 220) (am_r 220)) := rfl
set_option maxRecDepth 100000 in
theorem am_kc_221 : lw_tbl[(am_mp 221).2.1]? = some (.code (am_y 221) (am_b 221) (am_L 221) (am_r 221)) := rfl
set_option maxRecDepth 100000 in
theorem am_kc_222 : lw_tbl[(am_mp 222).2.1]? = some (.code (am_y 222) (am_b 222) (am_L 222) (am_r 222)) := rfl
set_option maxRecDepth 100000 in
theorem am_kc_223 : lw_tbl[(am_mp 223).2.1]? = some (.code (am_y 223) (am_b 223) (am_L 223) (am_r 223)) := rfl
set_option maxRecDepth 100000 in
theorem am_kc_224 : lw_tbl[(am_mp 224).2.1]? = some (.code (am_y 224) (am_b 224) (am_L 224) (am_r 224)) := rfl
set_option maxRecDepth 100000 in
theorem am_kc_225 : lw_tbl[(am_mp 225).2.1]? = some (.code (am_y 225) (am_b 225) (am_L 225) (am_r 225)) := rfl
set_option maxRecDepth 100000 in
theorem am_kc_226 : lw_tbl[(am_mp 226).2.1]? = some (.code (am_y 226) (am_b 226) (am_L 226) (am_r 226)) := rfl
set_option maxRecDepth 100000 in
theorem am_kc_227 : lw_tbl[(am_mp 227).2.1]? = some (.code (am_y 227) (am_b 227) (am_L 227) (am_r 227)) := rfl
set_option maxRecDepth 100000 in
theorem am_kc_228 : lw_tbl[(am_mp 228).2.1]? = some (.code (am_y 228) (am_b 228) (am_L 228) (am_r 228)) := rfl
set_option maxRecDepth 100000 in
theorem am_kc_229 : lw_tbl[(am_mp 229).2.1]? = some (.code (am_y 229) (am_b 229) (am_L 229) (am_r 229)) := rfl
set_option maxRecDepth 100000 in
theorem am_kc_230 : lw_tbl[(am_mp 230).2.1]? = some (.code (am_y 230) (am_b 230) (am_L 230) (am_r 230)) := rfl
set_option maxRecDepth 100000 in
theorem am_kc_231 : lw_tbl[(am_mp 231).2.1]? = some (.code (am_y 231) (am_b 231) (am_L 231) (am_r 231)) := rfl
set_option maxRecDepth 100000 in
theorem am_kc_232 : lw_tbl[(am_mp 232).2.1]? = some (.code (am_y 232) (am_b 232) (am_L 232) (am_r 232)) := rfl
set_option maxRecDepth 100000 in
theorem am_kc_233 : lw_tbl[(am_mp 233).2.1]? = some (.code (am_y 233) (am_b 233) (am_L 233) (am_r 233)) := rfl
set_option maxRecDepth 100000 in
theorem am_kc_234 : lw_tbl[(am_mp 234).2.1]? = some (.code (am_y 234) (am_b 234) (am_L 234) (am_r 234)) := rfl
set_option maxRecDepth 100000 in
theorem am_kc_235 : lw_tbl[(am_mp 235).2.1]? = some (.code (am_y 235) (am_b 235) (am_L 235) (am_r 235)) := rfl
set_option maxRecDepth 100000 in
theorem am_kc_236 : lw_tbl[(am_mp 236).2.1]? = some (.code (am_y 236) (am_b 236) (am_L 236) (am_r 236)) := rfl
set_option maxRecDepth 100000 in
theorem am_kc_237 : lw_tbl[(am_mp 237).2.1]? = some (.code (am_y 237) (am_b 237) (am_L 237) (am_r 237)) := rfl
set_option maxRecDepth 100000 in
theorem am_kc_238 : lw_tbl[(am_mp 238).2.1]? = some (.code (am_y 238) (am_b 238) (am_L 238) (am_r 238)) := rfl
set_option maxRecDepth 100000 in
theorem am_kc_239 : lw_tbl[(am_mp 239).2.1]? = some (.code (am_y 239) (am_b 239) (am_L 239) (am_r 239)) := rfl
set_option maxRecDepth 100000 in
theorem am_kc_240 : lw_tbl[(am_mp 240).2.1]? = some (.code (am_y 240) (am_b 240) (am_L 240) (am_r 240)) := rfl
set_option maxRecDepth 100000 in
theorem am_kc_241 : lw_tbl[(am_mp 241).2.1]? = some (.code (am_y 241) (am_b 241) (am_L 241) (am_r 241)) := rfl
set_option maxRecDepth 100000 in
theorem am_kc_242 : lw_tbl[(am_mp 242).2.1]? = some (.code (am_y 242) (am_b 242) (am_L 242) (am_r 242)) := rfl
set_option maxRecDepth 100000 in
theorem am_kc_243 : lw_tbl[(am_mp 243).2.1]? = some (.code (am_y 243) (am_b 243) (am_L 243) (am_r 243)) := rfl
set_option maxRecDepth 100000 in
theorem am_kc_244 : lw_tbl[(am_mp 244).2.1]? = some (.code (am_y 244) (am_b 244) (am_L 244) (am_r 244)) := rfl
set_option maxRecDepth 100000 in
theorem am_kc_245 : lw_tbl[(am_mp 245).2.1]? = some (.code (am_y 245) (am_b 245) (am_L 245) (am_r 245)) := rfl
set_option maxRecDepth 100000 in
theorem am_kc_246 : lw_tbl[(am_mp 246).2.1]? = some (.code (am_y 246) (am_b 246) (am_L 246) (am_r 246)) := rfl
set_option maxRecDepth 100000 in
theorem am_kc_247 : lw_tbl[(am_mp 247).2.1]? = some (.code (am_y 247) (am_b 247) (am_L 247) (am_r 247)) := rfl
set_option maxRecDepth 100000 in
theorem am_kc_248 : lw_tbl[(am_mp 248).2.1]? = some (.code (am_y 248) (am_b 248) (am_L 248) (am_r 248)) := rfl
set_option maxRecDepth 100000 in
theorem am_kc_249 : lw_tbl[(am_mp 249).2.1]? = some (.code (am_y 249) (am_b 249) (am_L 249) (am_r 249)) := rfl
set_option maxRecDepth 100000 in
theorem am_kc4 : ∀ k, k < 50 → lw_tbl[(am_mp (200 + k)).2.1]? = some (.code (am_y (200 + k)) (am_b (200 + k)) (am_L (200 + k)) (am_r (200 + k))) := by
  intro k hk
  match k, hk with
  | 0, _ => exact am_kc_200
  | 1, _ => exact am_kc_201
  | 2, _ => exact am_kc_202
  | 3, _ => exact am_kc_203
  | 4, _ => exact am_kc_204
  | 5, _ => exact am_kc_205
  | 6, _ => exact am_kc_206
  | 7, _ => exact am_kc_207
  | 8, _ => exact am_kc_208
  | 9, _ => exact am_kc_209
  | 10, _ => exact am_kc_210
  | 11, _ => exact am_kc_211
  | 12, _ => exact am_kc_212
  | 13, _ => exact am_kc_213
  | 14, _ => exact am_kc_214
  | 15, _ => exact am_kc_215
  | 16, _ => exact am_kc_216
  | 17, _ => exact am_kc_217
  | 18, _ => exact am_kc_218
  | 19, _ => exact am_kc_219
  | 20, _ => exact am_kc_220
  | 21, _ => exact am_kc_221
  | 22, _ => exact am_kc_222
  | 23, _ => exact am_kc_223
  | 24, _ => exact am_kc_224
  | 25, _ => exact am_kc_225
  | 26, _ => exact am_kc_226
  | 27, _ => exact am_kc_227
  | 28, _ => exact am_kc_228
  | 29, _ => exact am_kc_229
  | 30, _ => exact am_kc_230
  | 31, _ => exact am_kc_231
  | 32, _ => exact am_kc_232
  | 33, _ => exact am_kc_233
  | 34, _ => exact am_kc_234
  | 35, _ => exact am_kc_235
  | 36, _ => exact am_kc_236
  | 37, _ => exact am_kc_237
  | 38, _ => exact am_kc_238
  | 39, _ => exact am_kc_239
  | 40, _ => exact am_kc_240
  | 41, _ => exact am_kc_241
  | 42, _ => exact am_kc_242
  | 43, _ => exact am_kc_243
  | 44, _ => exact am_kc_244
  | 45, _ => exact am_kc_245
  | 46, _ => exact am_kc_246
  | 47, _ => exact am_kc_247
  | 48, _ => exact am_kc_248
  | 49, _ => exact am_kc_249
  | k + 50, h => exact absurd h (by omega)
end
section
/-! each method's code word stands in the table -/
set_option maxRecDepth 100000 in
theorem am_kc_250 : lw_tbl[(am_mp 250).2.1]? = some (.code (am_y 250) (am_b 250) (am_L 250) (am_r 250)) := rfl
set_option maxRecDepth 100000 in
theorem am_kc_251 : lw_tbl[(am_mp 251).2.1]? = some (.code (am_y 251) (am_b 251) (am_L 251) (am_r 251)) := rfl
set_option maxRecDepth 100000 in
theorem am_kc_252 : lw_tbl[(am_mp 252).2.1]? = some (.code (am_y 252) (am_b 252) (am_L 252) (am_r 252)) := rfl
set_option maxRecDepth 100000 in
theorem am_kc_253 : lw_tbl[(am_mp 253).2.1]? = some (.code (am_y 253) (am_b 253) (am_L 253) (am_r 253)) := rfl
set_option maxRecDepth 100000 in
theorem am_kc_254 : lw_tbl[(am_mp 254).2.1]? = some (.code (am_y 254) (am_b 254) (am_L 254) (am_r 254)) := rfl
set_option maxRecDepth 100000 in
theorem am_kc_255 : lw_tbl[(am_mp 255).2.1]? = some (.code (am_y 255) (am_b 255) (am_L 255) (am_r 255)) := rfl
set_option maxRecDepth 100000 in
theorem am_kc_256 : lw_tbl[(am_mp 256).2.1]? = some (.code (am_y 256) (am_b 256) (am_L 256) (am_r 256)) := rfl
set_option maxRecDepth 100000 in
theorem am_kc_257 : lw_tbl[(am_mp 257).2.1]? = some (.code (am_y 257) (am_b 257) (am_L 257) (am_r 257)) := rfl
set_option maxRecDepth 100000 in
theorem am_kc_258 : lw_tbl[(am_mp 258).2.1]? = some (.code (am_y 258) (am_b 258) (am_L 258) (am_r 258)) := rfl
set_option maxRecDepth 100000 in
theorem am_kc_259 : lw_tbl[(am_mp 259).2.1]? = some (.code (am_y 259) (am_b 259) (am_L 259) (am_r 259)) := rfl
set_option maxRecDepth 100000 in
theorem am_kc_260 : lw_tbl[(am_mp 260).2.1]? = some (.code (am_y 260) (am_b 260) (am_L 260) (am_r 260)) := rfl
set_option maxRecDepth 100000 in
theorem am_kc_261 : lw_tbl[(am_mp 261).2.1]? = some (.code (am_y 261) (am_b 261) (am_L 261) (am_r 261)) := rfl
set_option maxRecDepth 100000 in
theorem am_kc_262 : lw_tbl[(am_mp 262).2.1]? = some (.code (am_y 262) (am_b 262) (am_L 262) (am_r 262)) := rfl
set_option maxRecDepth 100000 in
theorem am_kc_263 : lw_tbl[(am_mp 263).2.1]? = some (.code (am_y 263) (am_b 263) (am_L 263) (am_r 263)) := rfl
set_option maxRecDepth 100000 in
theorem am_kc_264 : lw_tbl[(am_mp 264).2.1]? = some (.code (am_y 264) (am_b 264) (am_L 264) (am_r 264)) := rfl
set_option maxRecDepth 100000 in
theorem am_kc_265 : lw_tbl[(am_mp 265).2.1]? = some (.code (am_y 265) (am_b 265) (am_L 265) (am_r 265)) := rfl
set_option maxRecDepth 100000 in
theorem am_kc_266 : lw_tbl[(am_mp 266).2.1]? = some (.code (am_y 266) (am_b 266) (am_L 266) (am_r 266)) := rfl
set_option maxRecDepth 100000 in
theorem am_kc_267 : lw_tbl[(am_mp 267).2.1]? = some (.code (am_y 267) (am_b 267) (am_L 267) (am_r 267)) := rfl
set_option maxRecDepth 100000 in
theorem am_kc_268 : lw_tbl[(am_mp 268).2.1]? = some (.code (am_y 268) (am_b 268) (am_L 268) (am_r 268)) := rfl
set_option maxRecDepth 100000 in
theorem am_kc_269 : lw_tbl[(am_mp 269).2.1]? = some (.code (am_y 269) (am_b 269) (am_L 269) (am_r 269)) := rfl
set_option maxRecDepth 100000 in
theorem am_kc_270 : lw_tbl[(am_mp 270).2.1]? = some (.code (am_y 270) (am_b 270) (am_L 270) (am_r 270)) := rfl
set_option maxRecDepth 100000 in
theorem am_kc_271 : lw_tbl[(am_mp 271).2.1]? = some (.code (am_y 271) (am_b 271) (am_L 271) (am_r 271)) := rfl
set_option maxRecDepth 100000 in
theorem am_kc_272 : lw_tbl[(am_mp 272).2.1]? = some (.code (am_y 272) (am_b 272) (am_L 272) (am_r 272)) := rfl
set_option maxRecDepth 100000 in
theorem am_kc_273 : lw_tbl[(am_mp 273).2.1]? = some (.code (am_y 273) (am_b 273) (am_L 273) (am_r 273)) := rfl
set_option maxRecDepth 100000 in
theorem am_kc_274 : lw_tbl[(am_mp 274).2.1]? = some (.code (am_y 274) (am_b 274) (am_L 274) (am_r 274)) := rfl
set_option maxRecDepth 100000 in
theorem am_kc_275 : lw_tbl[(am_mp 275).2.1]? = some (.code (am_y 275) (am_b 275) (am_L 275) (am_r 275)) := rfl
set_option maxRecDepth 100000 in
theorem am_kc_276 : lw_tbl[(am_mp 276).2.1]? = some (.code (am_y 276) (am_b 276) (am_L 276) (am_r 276)) := rfl
set_option maxRecDepth 100000 in
theorem am_kc_277 : lw_tbl[(am_mp 277).2.1]? = some (.code (am_y 277) (am_b 277) (am_L 277) (am_r 277)) := rfl
set_option maxRecDepth 100000 in
theorem am_kc_278 : lw_tbl[(am_mp 278).2.1]? = some (.code (am_y 278) (am_b 278) (am_L 278) (am_r 278)) := rfl
set_option maxRecDepth 100000 in
theorem am_kc_279 : lw_tbl[(am_mp 279).2.1]? = some (.code (am_y 279) (am_b 279) (am_L 279) (am_r 279)) := rfl
set_option maxRecDepth 100000 in
theorem am_kc_280 : lw_tbl[(am_mp 280).2.1]? = some (.code (am_y 280) (am_b 280) (am_L 280) (am_r 280)) := rfl
set_option maxRecDepth 100000 in
theorem am_kc_281 : lw_tbl[(am_mp 281).2.1]? = some (.code (am_y 281) (am_b 281) (am_L 281) (am_r 281)) := rfl
set_option maxRecDepth 100000 in
theorem am_kc_282 : lw_tbl[(am_mp 282).2.1]? = some (.code (am_y 282) (am_b 282) (am_L 282) (am_r 282)) := rfl
set_option maxRecDepth 100000 in
theorem am_kc_283 : lw_tbl[(am_mp 283).2.1]? = some (.code (am_y 283) (am_b 283) (am_L 283) (am_r 283)) := rfl
set_option maxRecDepth 100000 in
theorem am_kc_284 : lw_tbl[(am_mp 284).2.1]? = some (.code (am_y 284) (am_b 284) (am_L 284) (am_r 284)) := rfl
set_option maxRecDepth 100000 in
theorem am_kc_285 : lw_tbl[(am_mp 285).2.1]? = some (.code (am_y 285) (am_b 285) (am_L 285) (am_r 285)) := rfl
set_option maxRecDepth 100000 in
theorem am_kc_286 : lw_tbl[(am_mp 286).2.1]? = some (.code (am_y 286) (am_b 286) (am_L 286) (am_r 286)) := rfl
set_option maxRecDepth 100000 in
theorem am_kc_287 : lw_tbl[(am_mp 287).2.1]? = some (.code (am_y 287) (am_b 287) (am_L 287) (am_r 287)) := rfl
set_option maxRecDepth 100000 in
theorem am_kc_288 : lw_tbl[(am_mp 288).2.1]? = some (.code (am_y 288) (am_b 288) (am_L 288) (am_r 288)) := rfl
set_option maxRecDepth 100000 in
theorem am_kc_289 : lw_tbl[(am_mp 289).2.1]? = some (.code (am_y 289) (am_b 289) (am_L 289) (am_r 289)) := rfl
set_option maxRecDepth 100000 in
theorem am_kc_290 : lw_tbl[(am_mp 290).2.1]? = some (.code (am_y 290) (am_b 290) (am_L 290) (am_r 290)) := rfl
set_option maxRecDepth 100000 in
theorem am_kc_291 : lw_tbl[(am_mp 291).2.1]? = some (.code (am_y 291) (am_b 291) (am_L 291) (am_r 291)) := rfl
set_option maxRecDepth 100000 in
theorem am_kc_292 : lw_tbl[(am_mp 292).2.1]? = some (.code (am_y 292) (am_b 292) (am_L 292) (am_r 292)) := rfl
set_option maxRecDepth 100000 in
theorem am_kc_293 : lw_tbl[(am_mp 293).2.1]? = some (.code (am_y 293) (am_b 293) (am_L 293) (am_r 293)) := rfl
set_option maxRecDepth 100000 in
theorem am_kc_294 : lw_tbl[(am_mp 294).2.1]? = some (.code (am_y 294) (am_b 294) (am_L 294) (am_r 294)) := rfl
set_option maxRecDepth 100000 in
theorem am_kc_295 : lw_tbl[(am_mp 295).2.1]? = some (.code (am_y 295) (am_b 295) (am_L 295) (am_r 295)) := rfl
set_option maxRecDepth 100000 in
theorem am_kc_296 : lw_tbl[(am_mp 296).2.1]? = some (.code (am_y 296) (am_b 296) (am_L 296) (am_r 296)) := rfl
set_option maxRecDepth 100000 in
theorem am_kc_297 : lw_tbl[(am_mp 297).2.1]? = some (.code (am_y 297) (am_b 297) (am_L 297) (am_r 297)) := rfl
set_option maxRecDepth 100000 in
theorem am_kc5 : ∀ k, k < 48 → lw_tbl[(am_mp (250 + k)).2.1]? = some (.code (am_y (250 + k)) (am_b (250 + k)) (am_L (250 + k)) (am_r (250 + k))) := by
  intro k hk
  match k, hk with
  | 0, _ => exact am_kc_250
  | 1, _ => exact am_kc_251
  | 2, _ => exact am_kc_252
  | 3, _ => exact am_kc_253
  | 4, _ => exact am_kc_254
  | 5, _ => exact am_kc_255
  | 6, _ => exact am_kc_256
  | 7, _ => exact am_kc_257
  | 8, _ => exact am_kc_258
  | 9, _ => exact am_kc_259
  | 10, _ => exact am_kc_260
  | 11, _ => exact am_kc_261
  | 12, _ => exact am_kc_262
  | 13, _ => exact am_kc_263
  | 14, _ => exact am_kc_264
  | 15, _ => exact am_kc_265
  | 16, _ => exact am_kc_266
  | 17, _ => exact am_kc_267
  | 18, _ => exact am_kc_268
  | 19, _ => exact am_kc_269
  | 20, _ => exact am_kc_270
  | 21, _ => exact am_kc_271
  | 22, _ => exact am_kc_272
  | 23, _ => exact am_kc_273
  | 24, _ => exact am_kc_274
  | 25, _ => exact am_kc_275
  | 26, _ => exact am_kc_276
  | 27, _ => exact am_kc_277
  | 28, _ => exact am_kc_278
  | 29, _ => exact am_kc_279
  | 30, _ => exact am_kc_280
  | 31, _ => exact am_kc_281
  | 32, _ => exact am_kc_282
  | 33, _ => exact am_kc_283
  | 34, _ => exact am_kc_284
  | 35, _ => exact am_kc_285
  | 36, _ => exact am_kc_286
  | 37, _ => exact am_kc_287
  | 38, _ => exact am_kc_288
  | 39, _ => exact am_kc_289
  | 40, _ => exact am_kc_290
  | 41, _ => exact am_kc_291
  | 42, _ => exact am_kc_292
  | 43, _ => exact am_kc_293
  | 44, _ => exact am_kc_294
  | 45, _ => exact am_kc_295
  | 46, _ => exact am_kc_296
  | 47, _ => exact am_kc_297
  | k + 48, h => exact absurd h (by omega)
end
section
/-! the small machine's heap as cells of the Java machine -/
-- first address, addresses of the arrays from outside, the array classes of int, boolean, Kept
abbrev AmE : Type := Nat × (Nat → Nat) × ClassId × ClassId × ClassId
def am_ad (E : AmE) (k : Nat) : Nat := if k < 1000000 then E.1 + k else E.2.1 (k - 1000000)
def am_rv (E : AmE) (v : Value) : Value := match v with
  | .ref k => .ref (am_ad E k)
  | v => v
def am_cell (E : AmE) (t n : Nat) (f : Nat → Int32) (g : Nat → Option Nat) : va_E := match t with
  | 0 => .inl (E.2.2.1, n, .inl f)
  | 1 => .inl (E.2.2.2.1, n, .inl f)
  | 2 => .inl (E.2.2.2.2, n, .inr (.inr (.inr (.inr (fun j => (g j).map (am_ad E))))))
  | ci + 3 => .inr (ci, (List.range (am_Nf ci)).map (fun j => if am_fk ci j = 1 then va_rf ((g j).map (am_ad E)) else .int (f j)))
def am_ws (E : AmE) (h : AmH) : va_W := h.1.mapIdx (fun k q => (E.1 + k, am_cell E q.1 q.2 (h.2.1 k) (h.2.2 k)))
def am_t3 (E : AmE) : List (ClassId × FieldType) := [(E.2.2.1, .int), (E.2.2.2.1, .boolean), (E.2.2.2.2, .object "FoldPress$Kept")]
abbrev am_A (E : AmE) : Nat → Prop := fun q => E.1 ≤ q
def am_sl (h : AmH) : Nat := (h.1.map (fun q => q.2)).sum
theorem am_ad_in {E : AmE} {k : Nat} (h : k < 1000000) : am_ad E k = E.1 + k := by simp [am_ad, h]
theorem am_ad_out {E : AmE} {k : Nat} (h : ¬ k < 1000000) : am_ad E k = E.2.1 (k - 1000000) := by simp [am_ad, h]
theorem am_rv_rf {E : AmE} (x : Option Nat) : am_rv E (va_rf x) = va_rf (x.map (am_ad E)) := by cases x <;> rfl
theorem am_rv_cat {E : AmE} (v : Value) : (am_rv E v).category = v.category := by cases v <;> rfl
theorem am_ws_at {E : AmE} {h : AmH} {k t n : Nat} (hk : h.1[k]? = some (t, n)) : (am_ws E h)[k]? = some (E.1 + k, am_cell E t n (h.2.1 k) (h.2.2 k)) := by
  simp [am_ws, List.getElem?_mapIdx, hk]
theorem am_ws_of {E : AmE} {h : AmH} {k : Nat} {q : Nat × va_E} (hk : (am_ws E h)[k]? = some q) : k < h.1.length ∧ q.1 = E.1 + k := by
  rw [am_ws, List.getElem?_mapIdx] at hk
  cases hq : h.1[k]? with
  | none => rw [hq] at hk; cases hk
  | some x =>
    rw [hq] at hk
    cases hk
    exact ⟨(List.getElem?_eq_some_iff.mp hq).1, rfl⟩
theorem am_ws_D {E : AmE} {h : AmH} : va_D (am_A E) (am_ws E h) := by
  refine ⟨fun i j p q hi hj hpq => ?_, fun k q hk => ?_⟩
  · have h1 := (am_ws_of hi).2
    have h2 := (am_ws_of hj).2
    omega
  · have h1 := (am_ws_of hk).2
    show E.1 ≤ q.1
    omega
theorem am_ws_set {E : AmE} {h h' : AmH} {a t n : Nat} {e0 : va_E} (ha : h.1[a]? = some (t, n)) (hs : h'.1 = h.1) (hI : ∀ k, k ≠ a → h'.2.1 k = h.2.1 k) (hG : ∀ k, k ≠ a → h'.2.2 k = h.2.2 k) (he : e0 = am_cell E t n (h'.2.1 a) (h'.2.2 a)) :
    (am_ws E h).set a (E.1 + a, e0) = am_ws E h' := by
  have hal : a < h.1.length := (List.getElem?_eq_some_iff.mp ha).1
  apply List.ext_getElem?
  intro k
  by_cases hk : k = a
  · subst hk
    rw [List.getElem?_set_self (by simpa [am_ws] using hal), am_ws_at (h := h') (by rw [hs]; exact ha), he]
  · rw [List.getElem?_set_ne (Ne.symm hk), am_ws, am_ws, List.getElem?_mapIdx, List.getElem?_mapIdx, hs, hI k hk, hG k hk]
theorem am_ws_new {E : AmE} {h : AmH} {t n : Nat} {e0 : va_E} (he : e0 = am_cell E t n (fun _ => 0) (fun _ => none)) :
    am_ws E h ++ [(E.1 + h.1.length, e0)] = am_ws E (h.1 ++ [(t, n)], am_zI h.2.1 h.1.length, am_zG h.2.2 h.1.length) := by
  apply List.ext_getElem?
  intro k
  have hl : (am_ws E h).length = h.1.length := by simp [am_ws]
  rcases Nat.lt_trichotomy k h.1.length with hk | hk | hk
  · rw [List.getElem?_append_left (by omega), am_ws, am_ws, List.getElem?_mapIdx, List.getElem?_mapIdx]
    show _ = Option.map _ (h.1 ++ [(t, n)])[k]?
    rw [List.getElem?_append_left hk]
    have h1 : am_zI h.2.1 h.1.length k = h.2.1 k := by funext j; simp [am_zI, Nat.ne_of_lt hk]
    have h2 : am_zG h.2.2 h.1.length k = h.2.2 k := by funext j; simp [am_zG, Nat.ne_of_lt hk]
    show _ = Option.map (fun (q : Nat × Nat) => (E.1 + k, am_cell E q.1 q.2 (am_zI h.2.1 h.1.length k) (am_zG h.2.2 h.1.length k))) _
    rw [h1, h2]
  · subst hk
    rw [List.getElem?_append_right (by omega), hl, Nat.sub_self, List.getElem?_cons_zero]
    rw [am_ws_at (t := t) (n := n) (by show (h.1 ++ [(t, n)])[h.1.length]? = _; rw [List.getElem?_append_right (by omega), Nat.sub_self]; rfl), he]
    have h1 : am_zI h.2.1 h.1.length h.1.length = fun _ => 0 := by funext j; simp [am_zI]
    have h2 : am_zG h.2.2 h.1.length h.1.length = fun _ => none := by funext j; simp [am_zG]
    show _ = some (_, am_cell E t n (am_zI h.2.1 h.1.length h.1.length) (am_zG h.2.2 h.1.length h.1.length))
    rw [h1, h2]
  · rw [List.getElem?_eq_none (by simp; omega), List.getElem?_eq_none (by simp [am_ws]; omega)]
theorem am_is_of {h : AmH} {a t : Nat} (hh : am_is h a t = true) : a < 1000000 ∧ ∃ n, h.1[a]? = some (t, n) := by
  unfold am_is at hh
  simp only [Bool.and_eq_true, decide_eq_true_eq] at hh
  obtain ⟨h1, h2⟩ := hh
  refine ⟨h1, ?_⟩
  cases hq : h.1[a]? with
  | none => rw [hq] at h2; cases h2
  | some q =>
    obtain ⟨t', n⟩ := q
    rw [hq] at h2
    have h3 : t' = t := by simpa using h2
    subst h3
    exact ⟨n, rfl⟩
-- locals
def am_lr (E : AmE) (ls : Array Slot) (nL : Nat) (L : List Value) : Prop := L.length = nL ∧ ls.size = nL ∧ lv_wf ls ∧ ∀ (i : Nat) (v : Value), L[i]? = some v → v.category = 1 → ls[i]? = some (.val (am_rv E v))
def am_asc (E : AmE) (L : List Value) : List (Nat × Value) := (List.range L.length).filterMap (fun i => match L[i]? with
  | some v => if v.category = 1 then some (i, am_rv E v) else none
  | none => none)
theorem am_asc_of {E : AmE} {L : List Value} {q : Nat × Value} (h : q ∈ am_asc E L) : ∃ v, L[q.1]? = some v ∧ v.category = 1 ∧ q.2 = am_rv E v := by
  obtain ⟨i, -, hi⟩ := List.mem_filterMap.mp h
  cases hv : L[i]? with
  | none => simp [hv] at hi
  | some v =>
    by_cases hc : v.category = 1
    · simp [hv, hc] at hi
      subst hi
      exact ⟨v, hv, hc, rfl⟩
    · simp [hv, hc] at hi
theorem am_asc_in {E : AmE} {L : List Value} {i : Nat} {v : Value} (h : L[i]? = some v) (hc : v.category = 1) : (i, am_rv E v) ∈ am_asc E L :=
  List.mem_filterMap.mpr ⟨i, List.mem_range.mpr (List.getElem?_eq_some_iff.mp h).1, by simp [h, hc]⟩
theorem am_lr.has {E : AmE} {ls : Array Slot} {nL : Nat} {L : List Value} (h : am_lr E ls nL L) : lv_has ls nL (am_asc E L) :=
  ⟨h.2.1, h.2.2.1, fun q hq => by
    obtain ⟨v, h1, h2, h3⟩ := am_asc_of hq
    rw [h3]
    exact h.2.2.2 q.1 v h1 h2⟩
theorem am_lr.put {E : AmE} {ls ls' : Array Slot} {nL i : Nat} {L : List Value} {v : Value} (h : am_lr E ls nL L) (hi : i < nL) (h' : lv_has ls' nL ((i, am_rv E v) :: (am_asc E L).filter (fun q => !(q.1 == i) && !(q.1 + 1 == i && q.2.category == 2)))) : am_lr E ls' nL (L.set i v) := by
  refine ⟨by rw [List.length_set]; exact h.1, h'.1, h'.2.1, fun j w hj hw => ?_⟩
  by_cases hji : j = i
  · subst hji
    rw [List.getElem?_set_self (by rw [h.1]; exact hi)] at hj
    cases hj
    exact h'.2.2 (j, am_rv E v) List.mem_cons_self
  · rw [List.getElem?_set_ne (Ne.symm hji)] at hj
    refine h'.2.2 (j, am_rv E w) (List.mem_cons_of_mem _ (List.mem_filter.mpr ⟨am_asc_in hj hw, ?_⟩))
    have : (am_rv E w).category = 1 := by rw [am_rv_cat]; exact hw
    simp [hji, this]
theorem am_args_in : ∀ (vs : List Value) (k i : Nat) (v : Value), (∀ w ∈ vs, w.category = 1) → vs[i]? = some v → (k + i, v) ∈ lv_args k vs
  | [], k, i, v, _, h => by simp at h
  | w :: vs, k, i, v, hc, h => by
    have hw : w.category = 1 := hc w List.mem_cons_self
    have hne : ¬ w.category = 2 := by omega
    show (k + i, v) ∈ (k, w) :: lv_args (if w.category = 2 then k + 2 else k + 1) vs
    rw [if_neg hne]
    cases i with
    | zero =>
      rw [List.getElem?_cons_zero] at h
      cases h
      exact List.mem_cons_self
    | succ i =>
      rw [List.getElem?_cons_succ] at h
      have := am_args_in vs (k + 1) i v (fun x hx => hc x (List.mem_cons_of_mem _ hx)) h
      rw [show k + (i + 1) = k + 1 + i by omega]
      exact List.mem_cons_of_mem _ this
theorem am_lgsl : ∀ (vs : List Value), (∀ w ∈ vs, w.category = 1) → (lg_sl vs).length = vs.length
  | [], _ => rfl
  | w :: vs, hc => by
    have hw : w.category = 1 := hc w List.mem_cons_self
    have hne : ¬ w.category = 2 := by omega
    have ih := am_lgsl vs (fun x hx => hc x (List.mem_cons_of_mem _ hx))
    show (List.flatMap _ (w :: vs)).length = _
    rw [List.flatMap_cons, List.length_append, if_neg hne]
    show 1 + (lg_sl vs).length = _
    rw [ih]
    simp
    omega
theorem am_entry {E : AmE} {m : MethodId} {vs : List Value} {n : Nat} (hc : ∀ w ∈ vs, w.category = 1) (hn : vs.length ≤ n) : ∃ ls : Array Slot, entryFrame m (vs.map (am_rv E)).toArray n = F0 m 0 ls [] ∧ am_lr E ls n (am_ini n vs) := by
  have hc' : ∀ w ∈ vs.map (am_rv E), w.category = 1 := by
    intro w hw
    obtain ⟨x, hx, rfl⟩ := List.mem_map.mp hw
    rw [am_rv_cat]
    exact hc x hx
  have hl : (lg_sl (vs.map (am_rv E))).length = vs.length := by rw [am_lgsl _ hc', List.length_map]
  refine ⟨_, lg_entry_eq m (vs.map (am_rv E)) n, ?_⟩
  have h0 := lv_entry (vs.map (am_rv E)) (n := n) (by omega)
  refine ⟨by simp [am_ini]; omega, h0.1, h0.2.1, fun i v hi hv => ?_⟩
  by_cases hlt : i < vs.length
  · rw [am_ini, List.getElem?_append_left hlt] at hi
    have := h0.2.2 (0 + i, am_rv E v) (am_args_in _ 0 i _ hc' (by rw [List.getElem?_map, hi]; rfl))
    rw [Nat.zero_add] at this
    exact this
  · rw [am_ini, List.getElem?_append_right (by omega), List.getElem?_replicate] at hi
    by_cases h3 : i - vs.length < n - vs.length
    · rw [if_pos h3] at hi
      cases hi
      cases hv
    · rw [if_neg h3] at hi
      cases hi
-- what stands outside
def am_GL (E : AmE) (X : AmX) (s : State) : Prop := (∀ (e n : Nat) (f : Nat → Int32), X e = some (n, f) → va_X (E.2.1 e) n f s s.heap ∧ E.2.1 e < E.1) ∧ va_Z "FoldPress$Folds" "THICK" "[I" (.ref (E.2.1 1)) (am_A E) s s.heap ∧ va_Z "FoldPress$Folds" "TRIMS" "[I" (.ref (E.2.1 2)) (am_A E) s s.heap ∧ va_AO "FoldPress$Kept" s ∧ ∀ q ∈ am_NLp, va_Nw (.methodLinkNest (am_cn q.1) q.2.1 (am_y q.2.2.1) q.2.2.2.1) s
theorem am_GL.go {E : AmE} {X : AmX} {s U : State} {H : Heap} {locs : List Loc} (h : am_GL E X s) (hb : E.1 ≤ s.heap.size) (hS : va_S (am_A E) s.heap H locs) (hU : U.heap = H) (hW : s.WarmedH U.vm) : am_GL E X U := by
  have hvm := hW.alike
  refine ⟨fun e n f hX => ?_, ?_, ?_, h.2.2.2.1.moved hvm, fun q hq => va_Nw.warmM hW (h.2.2.2.2 q hq)⟩
  · obtain ⟨h1, h2⟩ := h.1 e n f hX
    refine ⟨?_, h2⟩
    rw [hU]
    exact (h1.moved hvm).kept (hS.2.1 _ (by omega) (fun q => absurd (show E.1 ≤ E.2.1 e from q) (by omega)))
  · rw [hU]
    exact (h.2.1.moved hvm).kept (fun a h1 h2 => hS.2.1 a h1 h2)
  · rw [hU]
    exact (h.2.2.1.moved hvm).kept (fun a h1 h2 => hS.2.1 a h1 h2)
theorem am_sz {p : Program} {l : Launch} {e : Env} {R : Room} {s : State} {m : MethodId} {args : Array Value} {below : List Frame} {meth : Method} {c : Code} {H : Heap} {locs : List Loc} {cells slots : Nat} {Q : State → Prop} {g : JFrame} (k : H.size ≤ s.heap.size + cells → W p l e R s m args below meth c H locs cells slots Q g) : W p l e R s m args below meth c H locs cells slots Q g := by
  intro T hT X
  have h1 := X.heapSize
  rw [hT] at h1
  exact k h1 T hT X
theorem am_aft {p : Program} {l : Launch} {e : Env} {R : Room} {s : State} {m : MethodId} {args : Array Value} {below : List Frame} {meth : Method} {c : Code} {H : Heap} {locs : List Loc} {cells slots mc ms pc : Nat} {ls : Array Slot} {st0 rest : List Value} {Q : State → Prop} {Qa : State → Outcome → State → Prop} {free : Addr → Prop}
    (hr : va_Run p l e R s m args below meth c H locs cells slots mc ms (F0 m pc ls st0) rest Qa free)
    (kk : ∀ (v : Option Value) (st1 t : State) (H1 : Heap) (L : List Loc), st1.heap = H → Qa st1 (.returned v) t → t.heap = H1 → (∀ q ∈ L, free q.base) → W p l e R s m args below meth c H1 (locs ++ L) (cells + mc) (slots + ms) Q (F0 m (pc + 3) ls (v.toList ++ rest))) : W p l e R s m args below meth c H locs cells slots Q (F0 m pc ls st0) := by
  intro T hT X
  obtain ⟨v, st₀, t, T', L, h0, X', hL, e1, e2, hq, st⟩ := hr T hT X
  obtain ⟨t2, a1, b1⟩ := kk v st₀ t T'.heap L h0 hq e1.symm hL T' rfl X'
  exact ⟨t2, st t2 a1, b1⟩
end
section
/-! judgements: from here on the small machine's run is the Java machine's -/
def am_pc (cs : AmCd) : Nat := match cs with
  | [] => 0
  | q :: _ => q.1
def am_okq (M : Nat) (q : Nat × Instr × Nat × Nat × Nat) (cs : AmCd) : Bool := am_dec (am_b M) q.1 q.2.1 && (am_fin q.2.1 || (cs.head?.map (fun q => q.1)) == some (q.1 + am_ln q.2.1)) && am_tgOk q.1 q.2.1 && am_res (am_o M) (am_ct M == 2) q.2.1 q.2.2.1 q.2.2.2.1 q.2.2.2.2
theorem am_okq_4 {M : Nat} {q : Nat × Instr × Nat × Nat × Nat} {cs : AmCd} (h : am_okq M q cs = true) : am_dec (am_b M) q.1 q.2.1 = true ∧ (am_fin q.2.1 || (cs.head?.map (fun q => q.1)) == some (q.1 + am_ln q.2.1)) = true ∧ am_tgOk q.1 q.2.1 = true ∧ am_res (am_o M) (am_ct M == 2) q.2.1 q.2.2.1 q.2.2.2.1 q.2.2.2.2 = true := by
  simp only [am_okq, Bool.and_eq_true] at h
  exact ⟨h.1.1.1, h.1.1.2, h.1.2, h.2⟩
theorem am_dec_of {cc : ByteArray} {pc : Nat} {i : Instr} (h : am_dec cc pc i = true) : ∃ ln, decode cc pc = .ok (i, ln) ∧ (am_isSw i = false → ln = am_ln i) := by
  unfold am_dec at h
  cases hd : decode cc pc with
  | error e => rw [hd] at h; cases h
  | ok q =>
    obtain ⟨j, ln⟩ := q
    rw [hd] at h
    simp only [Bool.and_eq_true, decide_eq_true_eq] at h
    obtain ⟨rfl, h2⟩ := h
    refine ⟨ln, rfl, fun h3 => ?_⟩
    rw [h3] at h2
    simpa using h2
theorem am_okq_d {M pc a b c : Nat} {i : Instr} {cs : AmCd} (h : am_okq M (pc, i, a, b, c) cs = true) (hs : am_isSw i = false) : decode (am_b M) pc = .ok (i, am_ln i) := by
  obtain ⟨ln, h1, h2⟩ := am_dec_of (am_okq_4 h).1
  rw [← h2 hs]
  exact h1
theorem am_okq_n {M pc a b c : Nat} {i : Instr} {cs : AmCd} (h : am_okq M (pc, i, a, b, c) cs = true) (hs : am_fin i = false) : am_pc cs = pc + am_ln i := by
  have h1 := (am_okq_4 h).2.1
  rw [show am_fin (pc, i, a, b, c).2.1 = false from hs, Bool.false_or] at h1
  cases cs with
  | nil => simp at h1
  | cons q cs => simpa [am_pc] using h1
def am_CX (E : AmE) (D : va_G) (X : AmX) (M : Nat) (p : Program) (s : State) (m : MethodId) (args : Array Value) (meth : Method) (c : Code) : Prop :=
  p.tables.exec = Jvm.exec ∧ c.code = am_b M ∧ meth.sig.returnType = am_r M ∧ meth.locks = false ∧ c.maxLocals = am_L M ∧ s.vm.findClass (am_cn (am_o M)) = some m.cls ∧ (∀ w ∈ am_tbl, w.before args s = true) ∧ va_K D am_cl (am_t3 E) s ∧ am_GL E X s ∧ (am_ct M = 2 → meth.name = "<init>") ∧ E.1 ≤ s.heap.size
def am_J (l : Launch) (E : AmE) (D : va_G) (X : AmX) (d M : Nat) (cs : AmCd) (L st : List Value) (h : AmH) (res : Option Int32 × AmH) : Prop :=
  ∀ (p : Program) (e : Env) (R : Room) (s : State) (m : MethodId) (args : Array Value) (below : List Frame) (meth : Method) (c : Code) (H : Heap) (locs : List Loc) (cells slots cF sF : Nat) (ls : Array Slot) (Q : State → Prop),
    am_CX E D X M p s m args meth c → d ≤ R.frames → 64 * d ≤ R.locals → cF ≤ R.cells → sF ≤ R.slots →
    va_P D am_cl (am_ws E h) H → va_S (am_A E) s.heap H locs → am_lr E ls (am_L M) L → s.heap.size + cells = E.1 + h.1.length → cells + res.2.1.length = cF + h.1.length → slots + am_sl res.2 = sF + am_sl h →
    (∀ (H1 : Heap) (locs1 : List Loc) (pc1 : Nat) (ls1 : Array Slot), va_P D am_cl (am_ws E res.2) H1 → va_S (am_A E) s.heap H1 locs1 →
      (∀ v, res.1 = some v → decode (am_b M) pc1 = .ok (.ireturn, 1) → (am_kd M = 1 ∨ (am_kd M = 2 ∧ (v = 0 ∨ v = 1))) → W p l e R s m args below meth c H1 locs1 cF sF Q (F0 m pc1 ls1 [.int v])) ∧
      (res.1 = none → decode (am_b M) pc1 = .ok (.return_, 1) → am_kd M = 0 → W p l e R s m args below meth c H1 locs1 cF sF Q (F0 m pc1 ls1 []))) →
    W p l e R s m args below meth c H locs cells slots Q (F0 m (am_pc cs) ls (st.map (am_rv E)))
section AMJ
variable {l : Launch} {E : AmE} {D : va_G} {X : AmX} {d M : Nat} {cs : AmCd} {L st : List Value} {h : AmH} {res : Option Int32 × AmH} {pc a b c0 : Nat}
theorem am_j_iload {k : Nat} {x : Int32} (ok : am_okq M (pc, .iload k, a, b, c0) cs = true) (hL : L[k]? = some (.int x)) (hk : am_J l E D X d M cs L (.int x :: st) h res) : am_J l E D X d M ((pc, .iload k, a, b, c0) :: cs) L st h res := by
  intro p e R s m args below meth c H locs cells slots cF sF ls Q C hfr hlo hcF hsF hP hS hl hz hc1 hs1 kr
  have hdg := am_okq_d ok rfl
  have hn := am_okq_n ok rfl
  refine lv_iload C.1 C.2.1 hdg (hl.2.2.2 k _ hL rfl) ?_
  have k2 := hk p e R s m args below meth c H locs cells slots cF sF ls Q C hfr hlo hcF hsF hP hS hl hz hc1 hs1 kr
  rw [hn] at k2
  exact k2
theorem am_j_iload_n {k : Fin 4} {x : Int32} (ok : am_okq M (pc, .iload_n k, a, b, c0) cs = true) (hL : L[k.val]? = some (.int x)) (hk : am_J l E D X d M cs L (.int x :: st) h res) : am_J l E D X d M ((pc, .iload_n k, a, b, c0) :: cs) L st h res := by
  intro p e R s m args below meth c H locs cells slots cF sF ls Q C hfr hlo hcF hsF hP hS hl hz hc1 hs1 kr
  have hdg := am_okq_d ok rfl
  have hn := am_okq_n ok rfl
  refine lv_iload_n C.1 C.2.1 hdg rfl (hl.2.2.2 k.val _ hL rfl) ?_
  have k2 := hk p e R s m args below meth c H locs cells slots cF sF ls Q C hfr hlo hcF hsF hP hS hl hz hc1 hs1 kr
  rw [hn] at k2
  exact k2
theorem am_j_aload {k : Nat} {x : Option Nat} (ok : am_okq M (pc, .aload k, a, b, c0) cs = true) (hL : L[k]? = some (va_rf x)) (hk : am_J l E D X d M cs L (va_rf x :: st) h res) : am_J l E D X d M ((pc, .aload k, a, b, c0) :: cs) L st h res := by
  intro p e R s m args below meth c H locs cells slots cF sF ls Q C hfr hlo hcF hsF hP hS hl hz hc1 hs1 kr
  have hdg := am_okq_d ok rfl
  have hn := am_okq_n ok rfl
  cases x with
  | some x =>
    refine lv_aload C.1 C.2.1 hdg (hl.2.2.2 k _ hL rfl) ?_
    have k2 := hk p e R s m args below meth c H locs cells slots cF sF ls Q C hfr hlo hcF hsF hP hS hl hz hc1 hs1 kr
    rw [hn] at k2
    exact k2
  | none =>
    refine lv_aloadN C.1 C.2.1 hdg (hl.2.2.2 k _ hL rfl) ?_
    have k2 := hk p e R s m args below meth c H locs cells slots cF sF ls Q C hfr hlo hcF hsF hP hS hl hz hc1 hs1 kr
    rw [hn] at k2
    exact k2
theorem am_j_aload_n {k : Fin 4} {x : Option Nat} (ok : am_okq M (pc, .aload_n k, a, b, c0) cs = true) (hL : L[k.val]? = some (va_rf x)) (hk : am_J l E D X d M cs L (va_rf x :: st) h res) : am_J l E D X d M ((pc, .aload_n k, a, b, c0) :: cs) L st h res := by
  intro p e R s m args below meth c H locs cells slots cF sF ls Q C hfr hlo hcF hsF hP hS hl hz hc1 hs1 kr
  have hdg := am_okq_d ok rfl
  have hn := am_okq_n ok rfl
  cases x with
  | some x =>
    refine lv_aload_n C.1 C.2.1 hdg rfl (hl.2.2.2 k.val _ hL rfl) ?_
    have k2 := hk p e R s m args below meth c H locs cells slots cF sF ls Q C hfr hlo hcF hsF hP hS hl hz hc1 hs1 kr
    rw [hn] at k2
    exact k2
  | none =>
    refine lv_aload_nN C.1 C.2.1 hdg rfl (hl.2.2.2 k.val _ hL rfl) ?_
    have k2 := hk p e R s m args below meth c H locs cells slots cF sF ls Q C hfr hlo hcF hsF hP hS hl hz hc1 hs1 kr
    rw [hn] at k2
    exact k2
theorem am_j_istore {k : Nat} {x : Int32} (ok : am_okq M (pc, .istore k, a, b, c0) cs = true) (hi : k < L.length) (hk : am_J l E D X d M cs (L.set k (.int x)) st h res) : am_J l E D X d M ((pc, .istore k, a, b, c0) :: cs) L (.int x :: st) h res := by
  intro p e R s m args below meth c H locs cells slots cF sF ls Q C hfr hlo hcF hsF hP hS hl hz hc1 hs1 kr
  have hdg := am_okq_d ok rfl
  have hn := am_okq_n ok rfl
  have hi2 : k < am_L M := by rw [← hl.1]; exact hi
  refine lv_istore C.1 C.2.1 hdg hl.has hi2 rfl (fun ls2 hl2 => ?_)
  have hl3 := hl.put (v := .int x) hi2 hl2
  have k2 := hk p e R s m args below meth c H locs cells slots cF sF ls2 Q C hfr hlo hcF hsF hP hS hl3 hz hc1 hs1 kr
  rw [hn] at k2
  exact k2
theorem am_j_istore_n {k : Fin 4} {x : Int32} (ok : am_okq M (pc, .istore_n k, a, b, c0) cs = true) (hi : k.val < L.length) (hk : am_J l E D X d M cs (L.set k.val (.int x)) st h res) : am_J l E D X d M ((pc, .istore_n k, a, b, c0) :: cs) L (.int x :: st) h res := by
  intro p e R s m args below meth c H locs cells slots cF sF ls Q C hfr hlo hcF hsF hP hS hl hz hc1 hs1 kr
  have hdg := am_okq_d ok rfl
  have hn := am_okq_n ok rfl
  have hi2 : k.val < am_L M := by rw [← hl.1]; exact hi
  refine lv_istore_n C.1 C.2.1 hdg rfl hl.has hi2 rfl (fun ls2 hl2 => ?_)
  have hl3 := hl.put (v := .int x) hi2 hl2
  have k2 := hk p e R s m args below meth c H locs cells slots cF sF ls2 Q C hfr hlo hcF hsF hP hS hl3 hz hc1 hs1 kr
  rw [hn] at k2
  exact k2
theorem am_j_astore {k : Nat} {x : Option Nat} (ok : am_okq M (pc, .astore k, a, b, c0) cs = true) (hi : k < L.length) (hk : am_J l E D X d M cs (L.set k (va_rf x)) st h res) : am_J l E D X d M ((pc, .astore k, a, b, c0) :: cs) L (va_rf x :: st) h res := by
  intro p e R s m args below meth c H locs cells slots cF sF ls Q C hfr hlo hcF hsF hP hS hl hz hc1 hs1 kr
  have hdg := am_okq_d ok rfl
  have hn := am_okq_n ok rfl
  have hi2 : k < am_L M := by rw [← hl.1]; exact hi
  cases x with
  | some x =>
    refine lv_astore C.1 C.2.1 hdg hl.has hi2 rfl (fun ls2 hl2 => ?_)
    have hl3 := hl.put (v := .ref x) hi2 hl2
    have k2 := hk p e R s m args below meth c H locs cells slots cF sF ls2 Q C hfr hlo hcF hsF hP hS hl3 hz hc1 hs1 kr
    rw [hn] at k2
    exact k2
  | none =>
    refine lv_astoreN C.1 C.2.1 hdg hl.has hi2 rfl (fun ls2 hl2 => ?_)
    have hl3 := hl.put (v := .null) hi2 hl2
    have k2 := hk p e R s m args below meth c H locs cells slots cF sF ls2 Q C hfr hlo hcF hsF hP hS hl3 hz hc1 hs1 kr
    rw [hn] at k2
    exact k2
theorem am_j_astore_n {k : Fin 4} {x : Option Nat} (ok : am_okq M (pc, .astore_n k, a, b, c0) cs = true) (hi : k.val < L.length) (hk : am_J l E D X d M cs (L.set k.val (va_rf x)) st h res) : am_J l E D X d M ((pc, .astore_n k, a, b, c0) :: cs) L (va_rf x :: st) h res := by
  intro p e R s m args below meth c H locs cells slots cF sF ls Q C hfr hlo hcF hsF hP hS hl hz hc1 hs1 kr
  have hdg := am_okq_d ok rfl
  have hn := am_okq_n ok rfl
  have hi2 : k.val < am_L M := by rw [← hl.1]; exact hi
  cases x with
  | some x =>
    refine lv_astore_n C.1 C.2.1 hdg rfl hl.has hi2 rfl (fun ls2 hl2 => ?_)
    have hl3 := hl.put (v := .ref x) hi2 hl2
    have k2 := hk p e R s m args below meth c H locs cells slots cF sF ls2 Q C hfr hlo hcF hsF hP hS hl3 hz hc1 hs1 kr
    rw [hn] at k2
    exact k2
  | none =>
    refine lv_astore_nN C.1 C.2.1 hdg rfl hl.has hi2 rfl (fun ls2 hl2 => ?_)
    have hl3 := hl.put (v := .null) hi2 hl2
    have k2 := hk p e R s m args below meth c H locs cells slots cF sF ls2 Q C hfr hlo hcF hsF hP hS hl3 hz hc1 hs1 kr
    rw [hn] at k2
    exact k2
theorem am_j_iconst {k : Int} (ok : am_okq M (pc, .iconst k, a, b, c0) cs = true) (hk : am_J l E D X d M cs L (.int (Int32.ofInt k) :: st) h res) : am_J l E D X d M ((pc, .iconst k, a, b, c0) :: cs) L st h res := by
  intro p e R s m args below meth c H locs cells slots cF sF ls Q C hfr hlo hcF hsF hP hS hl hz hc1 hs1 kr
  have hdg := am_okq_d ok rfl
  have hn := am_okq_n ok rfl
  refine lv_iconst C.1 C.2.1 hdg rfl ?_
  have k2 := hk p e R s m args below meth c H locs cells slots cF sF ls Q C hfr hlo hcF hsF hP hS hl hz hc1 hs1 kr
  rw [hn] at k2
  exact k2
theorem am_j_bipush {k : Int} (ok : am_okq M (pc, .bipush k, a, b, c0) cs = true) (hk : am_J l E D X d M cs L (.int ((Int8.ofInt k).toInt32) :: st) h res) : am_J l E D X d M ((pc, .bipush k, a, b, c0) :: cs) L st h res := by
  intro p e R s m args below meth c H locs cells slots cF sF ls Q C hfr hlo hcF hsF hP hS hl hz hc1 hs1 kr
  have hdg := am_okq_d ok rfl
  have hn := am_okq_n ok rfl
  refine lv_bipush C.1 C.2.1 hdg rfl ?_
  have k2 := hk p e R s m args below meth c H locs cells slots cF sF ls Q C hfr hlo hcF hsF hP hS hl hz hc1 hs1 kr
  rw [hn] at k2
  exact k2
theorem am_j_sipush {k : Int} (ok : am_okq M (pc, .sipush k, a, b, c0) cs = true) (hk : am_J l E D X d M cs L (.int ((Int16.ofInt k).toInt32) :: st) h res) : am_J l E D X d M ((pc, .sipush k, a, b, c0) :: cs) L st h res := by
  intro p e R s m args below meth c H locs cells slots cF sF ls Q C hfr hlo hcF hsF hP hS hl hz hc1 hs1 kr
  have hdg := am_okq_d ok rfl
  have hn := am_okq_n ok rfl
  refine lv_sipush C.1 C.2.1 hdg rfl ?_
  have k2 := hk p e R s m args below meth c H locs cells slots cF sF ls Q C hfr hlo hcF hsF hP hS hl hz hc1 hs1 kr
  rw [hn] at k2
  exact k2
theorem am_j_iinc {k : Nat} {v : Int} {x : Int32} (ok : am_okq M (pc, .iinc k v, a, b, c0) cs = true) (hL : L[k]? = some (.int x)) (hk : am_J l E D X d M cs (L.set k (.int (x + Int32.ofInt v))) st h res) : am_J l E D X d M ((pc, .iinc k v, a, b, c0) :: cs) L st h res := by
  intro p e R s m args below meth c H locs cells slots cF sF ls Q C hfr hlo hcF hsF hP hS hl hz hc1 hs1 kr
  have hdg := am_okq_d ok rfl
  have hn := am_okq_n ok rfl
  have hi : k < L.length := (List.getElem?_eq_some_iff.mp hL).1
  have hi2 : k < am_L M := by rw [← hl.1]; exact hi
  obtain ⟨j, hj⟩ := List.getElem?_of_mem (am_asc_in (E := E) hL rfl)
  refine lv_iinc C.1 C.2.1 hdg hl.has (k := j) (x := x) hj rfl hi2 rfl (fun ls2 hl2 => ?_)
  have hl3 := hl.put (v := .int (x + Int32.ofInt v)) hi2 hl2
  have k2 := hk p e R s m args below meth c H locs cells slots cF sF ls2 Q C hfr hlo hcF hsF hP hS hl3 hz hc1 hs1 kr
  rw [hn] at k2
  exact k2
theorem am_j_iadd {x y : Int32} (ok : am_okq M (pc, .iadd, a, b, c0) cs = true) (hk : am_J l E D X d M cs L (.int (x + y) :: st) h res) : am_J l E D X d M ((pc, .iadd, a, b, c0) :: cs) L (.int y :: .int x :: st) h res := by
  intro p e R s m args below meth c H locs cells slots cF sF ls Q C hfr hlo hcF hsF hP hS hl hz hc1 hs1 kr
  have hdg := am_okq_d ok rfl
  have hn := am_okq_n ok rfl
  refine lv_iadd C.1 C.2.1 hdg ?_
  have k2 := hk p e R s m args below meth c H locs cells slots cF sF ls Q C hfr hlo hcF hsF hP hS hl hz hc1 hs1 kr
  rw [hn] at k2
  exact k2
theorem am_j_isub {x y : Int32} (ok : am_okq M (pc, .isub, a, b, c0) cs = true) (hk : am_J l E D X d M cs L (.int (x - y) :: st) h res) : am_J l E D X d M ((pc, .isub, a, b, c0) :: cs) L (.int y :: .int x :: st) h res := by
  intro p e R s m args below meth c H locs cells slots cF sF ls Q C hfr hlo hcF hsF hP hS hl hz hc1 hs1 kr
  have hdg := am_okq_d ok rfl
  have hn := am_okq_n ok rfl
  refine lv_isub C.1 C.2.1 hdg ?_
  have k2 := hk p e R s m args below meth c H locs cells slots cF sF ls Q C hfr hlo hcF hsF hP hS hl hz hc1 hs1 kr
  rw [hn] at k2
  exact k2
theorem am_j_imul {x y : Int32} (ok : am_okq M (pc, .imul, a, b, c0) cs = true) (hk : am_J l E D X d M cs L (.int (x * y) :: st) h res) : am_J l E D X d M ((pc, .imul, a, b, c0) :: cs) L (.int y :: .int x :: st) h res := by
  intro p e R s m args below meth c H locs cells slots cF sF ls Q C hfr hlo hcF hsF hP hS hl hz hc1 hs1 kr
  have hdg := am_okq_d ok rfl
  have hn := am_okq_n ok rfl
  refine lv_imul C.1 C.2.1 hdg ?_
  have k2 := hk p e R s m args below meth c H locs cells slots cF sF ls Q C hfr hlo hcF hsF hP hS hl hz hc1 hs1 kr
  rw [hn] at k2
  exact k2
theorem am_j_idiv {x y : Int32} (ok : am_okq M (pc, .idiv, a, b, c0) cs = true) (hne : ¬ y = 0) (hk : am_J l E D X d M cs L (.int (x / y) :: st) h res) : am_J l E D X d M ((pc, .idiv, a, b, c0) :: cs) L (.int y :: .int x :: st) h res := by
  intro p e R s m args below meth c H locs cells slots cF sF ls Q C hfr hlo hcF hsF hP hS hl hz hc1 hs1 kr
  have hdg := am_okq_d ok rfl
  have hn := am_okq_n ok rfl
  refine lv_idiv C.1 C.2.1 hdg hne ?_
  have k2 := hk p e R s m args below meth c H locs cells slots cF sF ls Q C hfr hlo hcF hsF hP hS hl hz hc1 hs1 kr
  rw [hn] at k2
  exact k2
theorem am_j_irem {x y : Int32} (ok : am_okq M (pc, .irem, a, b, c0) cs = true) (hne : ¬ y = 0) (hk : am_J l E D X d M cs L (.int (x - x / y * y) :: st) h res) : am_J l E D X d M ((pc, .irem, a, b, c0) :: cs) L (.int y :: .int x :: st) h res := by
  intro p e R s m args below meth c H locs cells slots cF sF ls Q C hfr hlo hcF hsF hP hS hl hz hc1 hs1 kr
  have hdg := am_okq_d ok rfl
  have hn := am_okq_n ok rfl
  refine lv_irem C.1 C.2.1 hdg hne ?_
  have k2 := hk p e R s m args below meth c H locs cells slots cF sF ls Q C hfr hlo hcF hsF hP hS hl hz hc1 hs1 kr
  rw [hn] at k2
  exact k2
theorem am_j_iand {x y : Int32} (ok : am_okq M (pc, .iand, a, b, c0) cs = true) (hk : am_J l E D X d M cs L (.int (x &&& y) :: st) h res) : am_J l E D X d M ((pc, .iand, a, b, c0) :: cs) L (.int y :: .int x :: st) h res := by
  intro p e R s m args below meth c H locs cells slots cF sF ls Q C hfr hlo hcF hsF hP hS hl hz hc1 hs1 kr
  have hdg := am_okq_d ok rfl
  have hn := am_okq_n ok rfl
  refine lv_iand C.1 C.2.1 hdg ?_
  have k2 := hk p e R s m args below meth c H locs cells slots cF sF ls Q C hfr hlo hcF hsF hP hS hl hz hc1 hs1 kr
  rw [hn] at k2
  exact k2
theorem am_j_ixor {x y : Int32} (ok : am_okq M (pc, .ixor, a, b, c0) cs = true) (hk : am_J l E D X d M cs L (.int (x ^^^ y) :: st) h res) : am_J l E D X d M ((pc, .ixor, a, b, c0) :: cs) L (.int y :: .int x :: st) h res := by
  intro p e R s m args below meth c H locs cells slots cF sF ls Q C hfr hlo hcF hsF hP hS hl hz hc1 hs1 kr
  have hdg := am_okq_d ok rfl
  have hn := am_okq_n ok rfl
  refine lv_ixor C.1 C.2.1 hdg ?_
  have k2 := hk p e R s m args below meth c H locs cells slots cF sF ls Q C hfr hlo hcF hsF hP hS hl hz hc1 hs1 kr
  rw [hn] at k2
  exact k2
theorem am_j_ishr {x y : Int32} (ok : am_okq M (pc, .ishr, a, b, c0) cs = true) (hk : am_J l E D X d M cs L (.int (x >>> (y &&& 31)) :: st) h res) : am_J l E D X d M ((pc, .ishr, a, b, c0) :: cs) L (.int y :: .int x :: st) h res := by
  intro p e R s m args below meth c H locs cells slots cF sF ls Q C hfr hlo hcF hsF hP hS hl hz hc1 hs1 kr
  have hdg := am_okq_d ok rfl
  have hn := am_okq_n ok rfl
  refine lv_ishr C.1 C.2.1 hdg ?_
  have k2 := hk p e R s m args below meth c H locs cells slots cF sF ls Q C hfr hlo hcF hsF hP hS hl hz hc1 hs1 kr
  rw [hn] at k2
  exact k2
theorem am_j_dupi {x : Int32} (ok : am_okq M (pc, .dup, a, b, c0) cs = true) (hk : am_J l E D X d M cs L (.int x :: .int x :: st) h res) : am_J l E D X d M ((pc, .dup, a, b, c0) :: cs) L (.int x :: st) h res := by
  intro p e R s m args below meth c H locs cells slots cF sF ls Q C hfr hlo hcF hsF hP hS hl hz hc1 hs1 kr
  have hdg := am_okq_d ok rfl
  have hn := am_okq_n ok rfl
  refine lv_dup C.1 C.2.1 hdg rfl ?_
  have k2 := hk p e R s m args below meth c H locs cells slots cF sF ls Q C hfr hlo hcF hsF hP hS hl hz hc1 hs1 kr
  rw [hn] at k2
  exact k2
theorem am_j_dupr {x : Nat} (ok : am_okq M (pc, .dup, a, b, c0) cs = true) (hk : am_J l E D X d M cs L (.ref x :: .ref x :: st) h res) : am_J l E D X d M ((pc, .dup, a, b, c0) :: cs) L (.ref x :: st) h res := by
  intro p e R s m args below meth c H locs cells slots cF sF ls Q C hfr hlo hcF hsF hP hS hl hz hc1 hs1 kr
  have hdg := am_okq_d ok rfl
  have hn := am_okq_n ok rfl
  refine lv_dup C.1 C.2.1 hdg rfl ?_
  have k2 := hk p e R s m args below meth c H locs cells slots cF sF ls Q C hfr hlo hcF hsF hP hS hl hz hc1 hs1 kr
  rw [hn] at k2
  exact k2
theorem am_j_dup2 {x : Nat} {j : Int32} (ok : am_okq M (pc, .dup2, a, b, c0) cs = true) (hk : am_J l E D X d M cs L (.int j :: .ref x :: .int j :: .ref x :: st) h res) : am_J l E D X d M ((pc, .dup2, a, b, c0) :: cs) L (.int j :: .ref x :: st) h res := by
  intro p e R s m args below meth c H locs cells slots cF sF ls Q C hfr hlo hcF hsF hP hS hl hz hc1 hs1 kr
  have hdg := am_okq_d ok rfl
  have hn := am_okq_n ok rfl
  refine lv_dup2_11 C.1 C.2.1 hdg rfl rfl ?_
  have k2 := hk p e R s m args below meth c H locs cells slots cF sF ls Q C hfr hlo hcF hsF hP hS hl hz hc1 hs1 kr
  rw [hn] at k2
  exact k2
theorem am_tg_of {pc : Nat} {o : Int} (h : 0 ≤ (pc : Int) + o) : (pc : Int) + o = (am_tg pc o : Int) := by
  unfold am_tg
  omega
theorem am_j_goto {o : Int} {ct : AmCd} (ok : am_okq M (pc, .goto o, a, b, c0) cs = true) (hp : am_pc ct = am_tg pc o) (hk : am_J l E D X d M ct L st h res) : am_J l E D X d M ((pc, .goto o, a, b, c0) :: cs) L st h res := by
  intro p e R s m args below meth c H locs cells slots cF sF ls Q C hfr hlo hcF hsF hP hS hl hz hc1 hs1 kr
  have hdg := am_okq_d ok rfl
  refine lv_goto C.1 C.2.1 hdg (am_tg_of (of_decide_eq_true (am_okq_4 ok).2.2.1)) ?_
  have k2 := hk p e R s m args below meth c H locs cells slots cF sF ls Q C hfr hlo hcF hsF hP hS hl hz hc1 hs1 kr
  rw [hp] at k2
  exact k2
theorem am_j_if_eq {o : Int} {x : Int32} {ct : AmCd} (ok : am_okq M (pc, .ifCond .eq o, a, b, c0) cs = true) (hp : x = 0 → am_pc ct = am_tg pc o) (kt : x = 0 → am_J l E D X d M ct L st h res) (kf : ¬ x = 0 → am_J l E D X d M cs L st h res) : am_J l E D X d M ((pc, .ifCond .eq o, a, b, c0) :: cs) L (.int x :: st) h res := by
  intro p e R s m args below meth c H locs cells slots cF sF ls Q C hfr hlo hcF hsF hP hS hl hz hc1 hs1 kr
  have hdg := am_okq_d ok rfl
  have hn := am_okq_n ok rfl
  refine lv_if_eq C.1 C.2.1 hdg (am_tg_of (of_decide_eq_true (am_okq_4 ok).2.2.1)) (fun q => ?_) (fun q => ?_)
  · have k2 := kt q p e R s m args below meth c H locs cells slots cF sF ls Q C hfr hlo hcF hsF hP hS hl hz hc1 hs1 kr
    rw [hp q] at k2
    exact k2
  · have k2 := kf q p e R s m args below meth c H locs cells slots cF sF ls Q C hfr hlo hcF hsF hP hS hl hz hc1 hs1 kr
    rw [hn] at k2
    exact k2
theorem am_j_if_ne {o : Int} {x : Int32} {ct : AmCd} (ok : am_okq M (pc, .ifCond .ne o, a, b, c0) cs = true) (hp : ¬ x = 0 → am_pc ct = am_tg pc o) (kt : ¬ x = 0 → am_J l E D X d M ct L st h res) (kf : x = 0 → am_J l E D X d M cs L st h res) : am_J l E D X d M ((pc, .ifCond .ne o, a, b, c0) :: cs) L (.int x :: st) h res := by
  intro p e R s m args below meth c H locs cells slots cF sF ls Q C hfr hlo hcF hsF hP hS hl hz hc1 hs1 kr
  have hdg := am_okq_d ok rfl
  have hn := am_okq_n ok rfl
  refine lv_if_ne C.1 C.2.1 hdg (am_tg_of (of_decide_eq_true (am_okq_4 ok).2.2.1)) (fun q => ?_) (fun q => ?_)
  · have k2 := kt q p e R s m args below meth c H locs cells slots cF sF ls Q C hfr hlo hcF hsF hP hS hl hz hc1 hs1 kr
    rw [hp q] at k2
    exact k2
  · have k2 := kf q p e R s m args below meth c H locs cells slots cF sF ls Q C hfr hlo hcF hsF hP hS hl hz hc1 hs1 kr
    rw [hn] at k2
    exact k2
theorem am_j_if_lt {o : Int} {x : Int32} {ct : AmCd} (ok : am_okq M (pc, .ifCond .lt o, a, b, c0) cs = true) (hp : x < 0 → am_pc ct = am_tg pc o) (kt : x < 0 → am_J l E D X d M ct L st h res) (kf : ¬ x < 0 → am_J l E D X d M cs L st h res) : am_J l E D X d M ((pc, .ifCond .lt o, a, b, c0) :: cs) L (.int x :: st) h res := by
  intro p e R s m args below meth c H locs cells slots cF sF ls Q C hfr hlo hcF hsF hP hS hl hz hc1 hs1 kr
  have hdg := am_okq_d ok rfl
  have hn := am_okq_n ok rfl
  refine lv_if_lt C.1 C.2.1 hdg (am_tg_of (of_decide_eq_true (am_okq_4 ok).2.2.1)) (fun q => ?_) (fun q => ?_)
  · have k2 := kt q p e R s m args below meth c H locs cells slots cF sF ls Q C hfr hlo hcF hsF hP hS hl hz hc1 hs1 kr
    rw [hp q] at k2
    exact k2
  · have k2 := kf q p e R s m args below meth c H locs cells slots cF sF ls Q C hfr hlo hcF hsF hP hS hl hz hc1 hs1 kr
    rw [hn] at k2
    exact k2
theorem am_j_if_ge {o : Int} {x : Int32} {ct : AmCd} (ok : am_okq M (pc, .ifCond .ge o, a, b, c0) cs = true) (hp : 0 ≤ x → am_pc ct = am_tg pc o) (kt : 0 ≤ x → am_J l E D X d M ct L st h res) (kf : ¬ 0 ≤ x → am_J l E D X d M cs L st h res) : am_J l E D X d M ((pc, .ifCond .ge o, a, b, c0) :: cs) L (.int x :: st) h res := by
  intro p e R s m args below meth c H locs cells slots cF sF ls Q C hfr hlo hcF hsF hP hS hl hz hc1 hs1 kr
  have hdg := am_okq_d ok rfl
  have hn := am_okq_n ok rfl
  refine lv_if_ge C.1 C.2.1 hdg (am_tg_of (of_decide_eq_true (am_okq_4 ok).2.2.1)) (fun q => ?_) (fun q => ?_)
  · have k2 := kt q p e R s m args below meth c H locs cells slots cF sF ls Q C hfr hlo hcF hsF hP hS hl hz hc1 hs1 kr
    rw [hp q] at k2
    exact k2
  · have k2 := kf q p e R s m args below meth c H locs cells slots cF sF ls Q C hfr hlo hcF hsF hP hS hl hz hc1 hs1 kr
    rw [hn] at k2
    exact k2
theorem am_j_if_gt {o : Int} {x : Int32} {ct : AmCd} (ok : am_okq M (pc, .ifCond .gt o, a, b, c0) cs = true) (hp : 0 < x → am_pc ct = am_tg pc o) (kt : 0 < x → am_J l E D X d M ct L st h res) (kf : ¬ 0 < x → am_J l E D X d M cs L st h res) : am_J l E D X d M ((pc, .ifCond .gt o, a, b, c0) :: cs) L (.int x :: st) h res := by
  intro p e R s m args below meth c H locs cells slots cF sF ls Q C hfr hlo hcF hsF hP hS hl hz hc1 hs1 kr
  have hdg := am_okq_d ok rfl
  have hn := am_okq_n ok rfl
  refine lv_if_gt C.1 C.2.1 hdg (am_tg_of (of_decide_eq_true (am_okq_4 ok).2.2.1)) (fun q => ?_) (fun q => ?_)
  · have k2 := kt q p e R s m args below meth c H locs cells slots cF sF ls Q C hfr hlo hcF hsF hP hS hl hz hc1 hs1 kr
    rw [hp q] at k2
    exact k2
  · have k2 := kf q p e R s m args below meth c H locs cells slots cF sF ls Q C hfr hlo hcF hsF hP hS hl hz hc1 hs1 kr
    rw [hn] at k2
    exact k2
theorem am_j_if_le {o : Int} {x : Int32} {ct : AmCd} (ok : am_okq M (pc, .ifCond .le o, a, b, c0) cs = true) (hp : x ≤ 0 → am_pc ct = am_tg pc o) (kt : x ≤ 0 → am_J l E D X d M ct L st h res) (kf : ¬ x ≤ 0 → am_J l E D X d M cs L st h res) : am_J l E D X d M ((pc, .ifCond .le o, a, b, c0) :: cs) L (.int x :: st) h res := by
  intro p e R s m args below meth c H locs cells slots cF sF ls Q C hfr hlo hcF hsF hP hS hl hz hc1 hs1 kr
  have hdg := am_okq_d ok rfl
  have hn := am_okq_n ok rfl
  refine lv_if_le C.1 C.2.1 hdg (am_tg_of (of_decide_eq_true (am_okq_4 ok).2.2.1)) (fun q => ?_) (fun q => ?_)
  · have k2 := kt q p e R s m args below meth c H locs cells slots cF sF ls Q C hfr hlo hcF hsF hP hS hl hz hc1 hs1 kr
    rw [hp q] at k2
    exact k2
  · have k2 := kf q p e R s m args below meth c H locs cells slots cF sF ls Q C hfr hlo hcF hsF hP hS hl hz hc1 hs1 kr
    rw [hn] at k2
    exact k2
theorem am_j_icmp_eq {o : Int} {x y : Int32} {ct : AmCd} (ok : am_okq M (pc, .if_icmp .eq o, a, b, c0) cs = true) (hp : x = y → am_pc ct = am_tg pc o) (kt : x = y → am_J l E D X d M ct L st h res) (kf : ¬ x = y → am_J l E D X d M cs L st h res) : am_J l E D X d M ((pc, .if_icmp .eq o, a, b, c0) :: cs) L (.int y :: .int x :: st) h res := by
  intro p e R s m args below meth c H locs cells slots cF sF ls Q C hfr hlo hcF hsF hP hS hl hz hc1 hs1 kr
  have hdg := am_okq_d ok rfl
  have hn := am_okq_n ok rfl
  refine lv_icmp_eq C.1 C.2.1 hdg (am_tg_of (of_decide_eq_true (am_okq_4 ok).2.2.1)) (fun q => ?_) (fun q => ?_)
  · have k2 := kt q p e R s m args below meth c H locs cells slots cF sF ls Q C hfr hlo hcF hsF hP hS hl hz hc1 hs1 kr
    rw [hp q] at k2
    exact k2
  · have k2 := kf q p e R s m args below meth c H locs cells slots cF sF ls Q C hfr hlo hcF hsF hP hS hl hz hc1 hs1 kr
    rw [hn] at k2
    exact k2
theorem am_j_icmp_ne {o : Int} {x y : Int32} {ct : AmCd} (ok : am_okq M (pc, .if_icmp .ne o, a, b, c0) cs = true) (hp : ¬ x = y → am_pc ct = am_tg pc o) (kt : ¬ x = y → am_J l E D X d M ct L st h res) (kf : x = y → am_J l E D X d M cs L st h res) : am_J l E D X d M ((pc, .if_icmp .ne o, a, b, c0) :: cs) L (.int y :: .int x :: st) h res := by
  intro p e R s m args below meth c H locs cells slots cF sF ls Q C hfr hlo hcF hsF hP hS hl hz hc1 hs1 kr
  have hdg := am_okq_d ok rfl
  have hn := am_okq_n ok rfl
  refine lv_icmp_ne C.1 C.2.1 hdg (am_tg_of (of_decide_eq_true (am_okq_4 ok).2.2.1)) (fun q => ?_) (fun q => ?_)
  · have k2 := kt q p e R s m args below meth c H locs cells slots cF sF ls Q C hfr hlo hcF hsF hP hS hl hz hc1 hs1 kr
    rw [hp q] at k2
    exact k2
  · have k2 := kf q p e R s m args below meth c H locs cells slots cF sF ls Q C hfr hlo hcF hsF hP hS hl hz hc1 hs1 kr
    rw [hn] at k2
    exact k2
theorem am_j_icmp_lt {o : Int} {x y : Int32} {ct : AmCd} (ok : am_okq M (pc, .if_icmp .lt o, a, b, c0) cs = true) (hp : x < y → am_pc ct = am_tg pc o) (kt : x < y → am_J l E D X d M ct L st h res) (kf : ¬ x < y → am_J l E D X d M cs L st h res) : am_J l E D X d M ((pc, .if_icmp .lt o, a, b, c0) :: cs) L (.int y :: .int x :: st) h res := by
  intro p e R s m args below meth c H locs cells slots cF sF ls Q C hfr hlo hcF hsF hP hS hl hz hc1 hs1 kr
  have hdg := am_okq_d ok rfl
  have hn := am_okq_n ok rfl
  refine lv_icmp_lt C.1 C.2.1 hdg (am_tg_of (of_decide_eq_true (am_okq_4 ok).2.2.1)) (fun q => ?_) (fun q => ?_)
  · have k2 := kt q p e R s m args below meth c H locs cells slots cF sF ls Q C hfr hlo hcF hsF hP hS hl hz hc1 hs1 kr
    rw [hp q] at k2
    exact k2
  · have k2 := kf q p e R s m args below meth c H locs cells slots cF sF ls Q C hfr hlo hcF hsF hP hS hl hz hc1 hs1 kr
    rw [hn] at k2
    exact k2
theorem am_j_icmp_ge {o : Int} {x y : Int32} {ct : AmCd} (ok : am_okq M (pc, .if_icmp .ge o, a, b, c0) cs = true) (hp : y ≤ x → am_pc ct = am_tg pc o) (kt : y ≤ x → am_J l E D X d M ct L st h res) (kf : ¬ y ≤ x → am_J l E D X d M cs L st h res) : am_J l E D X d M ((pc, .if_icmp .ge o, a, b, c0) :: cs) L (.int y :: .int x :: st) h res := by
  intro p e R s m args below meth c H locs cells slots cF sF ls Q C hfr hlo hcF hsF hP hS hl hz hc1 hs1 kr
  have hdg := am_okq_d ok rfl
  have hn := am_okq_n ok rfl
  refine lv_icmp_ge C.1 C.2.1 hdg (am_tg_of (of_decide_eq_true (am_okq_4 ok).2.2.1)) (fun q => ?_) (fun q => ?_)
  · have k2 := kt q p e R s m args below meth c H locs cells slots cF sF ls Q C hfr hlo hcF hsF hP hS hl hz hc1 hs1 kr
    rw [hp q] at k2
    exact k2
  · have k2 := kf q p e R s m args below meth c H locs cells slots cF sF ls Q C hfr hlo hcF hsF hP hS hl hz hc1 hs1 kr
    rw [hn] at k2
    exact k2
theorem am_j_icmp_gt {o : Int} {x y : Int32} {ct : AmCd} (ok : am_okq M (pc, .if_icmp .gt o, a, b, c0) cs = true) (hp : y < x → am_pc ct = am_tg pc o) (kt : y < x → am_J l E D X d M ct L st h res) (kf : ¬ y < x → am_J l E D X d M cs L st h res) : am_J l E D X d M ((pc, .if_icmp .gt o, a, b, c0) :: cs) L (.int y :: .int x :: st) h res := by
  intro p e R s m args below meth c H locs cells slots cF sF ls Q C hfr hlo hcF hsF hP hS hl hz hc1 hs1 kr
  have hdg := am_okq_d ok rfl
  have hn := am_okq_n ok rfl
  refine lv_icmp_gt C.1 C.2.1 hdg (am_tg_of (of_decide_eq_true (am_okq_4 ok).2.2.1)) (fun q => ?_) (fun q => ?_)
  · have k2 := kt q p e R s m args below meth c H locs cells slots cF sF ls Q C hfr hlo hcF hsF hP hS hl hz hc1 hs1 kr
    rw [hp q] at k2
    exact k2
  · have k2 := kf q p e R s m args below meth c H locs cells slots cF sF ls Q C hfr hlo hcF hsF hP hS hl hz hc1 hs1 kr
    rw [hn] at k2
    exact k2
theorem am_j_icmp_le {o : Int} {x y : Int32} {ct : AmCd} (ok : am_okq M (pc, .if_icmp .le o, a, b, c0) cs = true) (hp : x ≤ y → am_pc ct = am_tg pc o) (kt : x ≤ y → am_J l E D X d M ct L st h res) (kf : ¬ x ≤ y → am_J l E D X d M cs L st h res) : am_J l E D X d M ((pc, .if_icmp .le o, a, b, c0) :: cs) L (.int y :: .int x :: st) h res := by
  intro p e R s m args below meth c H locs cells slots cF sF ls Q C hfr hlo hcF hsF hP hS hl hz hc1 hs1 kr
  have hdg := am_okq_d ok rfl
  have hn := am_okq_n ok rfl
  refine lv_icmp_le C.1 C.2.1 hdg (am_tg_of (of_decide_eq_true (am_okq_4 ok).2.2.1)) (fun q => ?_) (fun q => ?_)
  · have k2 := kt q p e R s m args below meth c H locs cells slots cF sF ls Q C hfr hlo hcF hsF hP hS hl hz hc1 hs1 kr
    rw [hp q] at k2
    exact k2
  · have k2 := kf q p e R s m args below meth c H locs cells slots cF sF ls Q C hfr hlo hcF hsF hP hS hl hz hc1 hs1 kr
    rw [hn] at k2
    exact k2
theorem am_j_ifnullN {o : Int} {ct : AmCd} (ok : am_okq M (pc, .ifnull o, a, b, c0) cs = true) (hp : am_pc ct = am_tg pc o) (hk : am_J l E D X d M ct L st h res) : am_J l E D X d M ((pc, .ifnull o, a, b, c0) :: cs) L (.null :: st) h res := by
  intro p e R s m args below meth c H locs cells slots cF sF ls Q C hfr hlo hcF hsF hP hS hl hz hc1 hs1 kr
  have hdg := am_okq_d ok rfl
  refine lv_ifnullN C.1 C.2.1 hdg (am_tg_of (of_decide_eq_true (am_okq_4 ok).2.2.1)) ?_
  have k2 := hk p e R s m args below meth c H locs cells slots cF sF ls Q C hfr hlo hcF hsF hP hS hl hz hc1 hs1 kr
  rw [hp] at k2
  exact k2
theorem am_j_ifnullR {o : Int} {x : Nat} (ok : am_okq M (pc, .ifnull o, a, b, c0) cs = true) (hk : am_J l E D X d M cs L st h res) : am_J l E D X d M ((pc, .ifnull o, a, b, c0) :: cs) L (.ref x :: st) h res := by
  intro p e R s m args below meth c H locs cells slots cF sF ls Q C hfr hlo hcF hsF hP hS hl hz hc1 hs1 kr
  have hdg := am_okq_d ok rfl
  have hn := am_okq_n ok rfl
  refine lv_ifnull C.1 C.2.1 hdg ?_
  have k2 := hk p e R s m args below meth c H locs cells slots cF sF ls Q C hfr hlo hcF hsF hP hS hl hz hc1 hs1 kr
  rw [hn] at k2
  exact k2
theorem am_j_table {df lo hi : Int} {offs : Array Int} {x : Int32} {ct : AmCd} (ok : am_okq M (pc, .tableswitch df lo hi offs, a, b, c0) cs = true) (hp : am_pc ct = am_tg pc (am_sw df lo hi offs x)) (hk : am_J l E D X d M ct L st h res) : am_J l E D X d M ((pc, .tableswitch df lo hi offs, a, b, c0) :: cs) L (.int x :: st) h res := by
  intro p e R s m args below meth c H locs cells slots cF sF ls Q C hfr hlo hcF hsF hP hS hl hz hc1 hs1 kr
  obtain ⟨ln, hdg, -⟩ := am_dec_of (am_okq_4 ok).1
  have ht := (am_okq_4 ok).2.2.1
  simp only [am_tgOk, Bool.and_eq_true, decide_eq_true_eq, List.all_eq_true] at ht
  obtain ⟨⟨t1, t2⟩, t3⟩ := ht
  have k2 := hk p e R s m args below meth c H locs cells slots cF sF ls Q C hfr hlo hcF hsF hP hS hl hz hc1 hs1 kr
  rw [hp] at k2
  by_cases hx : x.toInt < lo ∨ hi < x.toInt
  · rw [am_sw, if_pos hx] at k2
    exact lv_tableOut C.1 C.2.1 hdg hx (am_tg_of t1) k2
  · rw [am_sw, if_neg hx] at k2
    have h1 : ¬ x.toInt < lo := fun q => hx (Or.inl q)
    have h2 : ¬ hi < x.toInt := fun q => hx (Or.inr q)
    have hlt : (x.toInt - lo).toNat < offs.size := by omega
    have he : offs[(x.toInt - lo).toNat]? = some offs[(x.toInt - lo).toNat] := Array.getElem?_eq_getElem hlt
    have hg : offs.getD (x.toInt - lo).toNat df = offs[(x.toInt - lo).toNat] := by simp [Array.getD, hlt]
    rw [hg] at k2
    exact lv_tableIn C.1 C.2.1 hdg h1 h2 he (am_tg_of (t2 _ (by simp))) k2
theorem am_look_in (ps : List (Int × Int)) (df x : Int) (P : Int → Prop) (h0 : P df) (h1 : ∀ q ∈ ps, P q.2) : P (Op.lookupswitch.offset ps df x) := by
  induction ps with
  | nil => exact h0
  | cons q ps ih =>
    have h2 := ih (fun z hz => h1 z (List.mem_cons_of_mem _ hz))
    have h3 := h1 q List.mem_cons_self
    unfold Op.lookupswitch.offset
    first
      | (split <;> first | exact h3 | exact h2)
      | (simp only []; split <;> first | exact h3 | exact h2)
theorem am_j_look {df : Int} {ps : Array (Int × Int)} {x : Int32} {ct : AmCd} (ok : am_okq M (pc, .lookupswitch df ps, a, b, c0) cs = true) (hp : am_pc ct = am_tg pc (Op.lookupswitch.offset ps.toList df x.toInt)) (hk : am_J l E D X d M ct L st h res) : am_J l E D X d M ((pc, .lookupswitch df ps, a, b, c0) :: cs) L (.int x :: st) h res := by
  intro p e R s m args below meth c H locs cells slots cF sF ls Q C hfr hlo hcF hsF hP hS hl hz hc1 hs1 kr
  obtain ⟨ln, hdg, -⟩ := am_dec_of (am_okq_4 ok).1
  have ht := (am_okq_4 ok).2.2.1
  simp only [am_tgOk, Bool.and_eq_true] at ht
  obtain ⟨⟨t1, t2⟩, t3⟩ := ht
  have k2 := hk p e R s m args below meth c H locs cells slots cF sF ls Q C hfr hlo hcF hsF hP hS hl hz hc1 hs1 kr
  rw [hp] at k2
  have hpos : 0 ≤ (pc : Int) + Op.lookupswitch.offset ps.toList df x.toInt := am_look_in ps.toList df x.toInt (fun o => 0 ≤ (pc : Int) + o) (of_decide_eq_true t1) (fun q hq => of_decide_eq_true (List.all_eq_true.mp t2 q hq))
  exact lv_lookup C.1 C.2.1 hdg t3 rfl (am_tg_of hpos) k2
end AMJ
end
section
/-! judgements: fields, arrays, new cells -/
-- the words of a class, by the checks of part 07
theorem am_cl_at {ci : Nat} (h : ci < 11) : am_cl[ci]? = some (am_cn ci, am_T ci, am_Nf ci) := by
  match ci, h with
  | 0, _ => rfl
  | 1, _ => rfl
  | 2, _ => rfl
  | 3, _ => rfl
  | 4, _ => rfl
  | 5, _ => rfl
  | 6, _ => rfl
  | 7, _ => rfl
  | 8, _ => rfl
  | 9, _ => rfl
  | 10, _ => rfl
theorem am_any {α : Type} {l : List α} {f g : α → Bool} (h : l.any f = true) (hg : l.all g = true) : ∃ q, q ∈ l ∧ f q = true ∧ g q = true := by
  obtain ⟨q, h1, h2⟩ := List.any_eq_true.mp h
  exact ⟨q, h1, h2, List.all_eq_true.mp hg q h1⟩
theorem am_FL_use {own idx ci k : Nat} (h : am_FLp.any (fun q => q.1 == own && q.2.1 == idx && q.2.2.1 == ci && q.2.2.2.1 == k) = true) : Cond.fieldLink (am_cn own) idx (am_cn ci) (am_T ci k).2.1 (am_T ci k).2.2.1 ∈ am_tbl ∧ k < am_Nf ci ∧ ci < 11 := by
  obtain ⟨q, -, h2, h3⟩ := am_any h am_FL_ok
  simp only [Bool.and_eq_true, beq_iff_eq, decide_eq_true_eq] at h2 h3
  obtain ⟨⟨⟨rfl, rfl⟩, rfl⟩, rfl⟩ := h2
  exact ⟨am_in h3.1.1 rfl, h3.1.2, h3.2⟩
theorem am_KL_use {own idx ci : Nat} (h : am_KLp.any (fun q => q.1 == own && q.2.1 == idx && q.2.2.1 == ci) = true) : Cond.classLink (am_cn own) idx (am_cn ci) ∈ am_tbl ∧ ci < 11 := by
  obtain ⟨q, -, h2, h3⟩ := am_any h am_KL_ok
  simp only [Bool.and_eq_true, beq_iff_eq, decide_eq_true_eq] at h2 h3
  obtain ⟨⟨rfl, rfl⟩, rfl⟩ := h2
  exact ⟨am_in h3.1 rfl, h3.2⟩
theorem am_SL_use {own idx e : Nat} (h : am_SLp.any (fun q => q.1 == own && q.2.1 == idx && q.2.2.1 == e) = true) : Cond.fieldLink (am_cn own) idx "FoldPress$Folds" (if e = 1 then "THICK" else "TRIMS") "[I" ∈ am_tbl ∧ (e = 1 ∨ e = 2) := by
  obtain ⟨q, -, h2, h3⟩ := am_any h am_SL_ok
  simp only [Bool.and_eq_true, beq_iff_eq, decide_eq_true_eq] at h2 h3
  obtain ⟨⟨rfl, rfl⟩, rfl⟩ := h2
  exact ⟨am_in h3.1 rfl, h3.2⟩
-- every field's lay stands among the words
theorem am_LY_all : (List.range 11).all (fun ci => (List.range (am_Nf ci)).all (fun k => am_LYp.any (fun q => q.1 == ci && q.2.1 == k))) = true := by decide +kernel
theorem am_IN_all : (List.range 13).all (fun ci => am_INp.any (fun q => q.1 == ci)) = true := by decide +kernel
theorem am_IS_all : (List.range 11).all (fun ci => am_ISp.any (fun q => q.1 == ci)) = true := by decide +kernel
theorem am_ty_all : (List.range 11).all (fun ci => (List.range (am_Nf ci)).all (fun k => decide (parseFieldDescriptor (am_T ci k).2.2.1 = some (am_ty ci k)) && decide ((am_T ci k).1 = am_cn ci) && decide (am_fk ci k = if am_ty ci k = .int then 0 else if am_ty ci k = .boolean then 2 else 1) && decide (am_ty ci k = .int ∨ am_ty ci k = .boolean ∨ (am_ty ci k).isReference = true))) = true := by decide +kernel
theorem am_nm_all : (List.range 11).all (fun ci => (List.range (am_Nf ci)).all (fun i => (List.range (am_Nf ci)).all (fun j => decide (i = j) || decide ((am_T ci i).2.1 ≠ (am_T ci j).2.1)))) = true := by decide +kernel
theorem am_ra {n : Nat} {f : Nat → Bool} (h : (List.range n).all f = true) {k : Nat} (hk : k < n) : f k = true := List.all_eq_true.mp h k (List.mem_range.mpr hk)
theorem am_cls_in {ci : Nat} (hc : ci < 11) : ∀ w ∈ u_ws (am_cn ci) (am_T ci) (am_Nf ci), w ∈ am_tbl := by
  intro w hw
  obtain ⟨k, hk, rfl⟩ := List.mem_map.mp hw
  obtain ⟨q, -, h2, h3⟩ := am_any (am_ra (am_ra am_LY_all hc) (List.mem_range.mp hk)) am_LY_ok
  simp only [Bool.and_eq_true, beq_iff_eq, decide_eq_true_eq] at h2 h3
  obtain ⟨rfl, rfl⟩ := h2
  refine am_in h3 ?_
  unfold u_lay
  split <;> rfl
theorem am_cls_ini {ci : Nat} (hc : ci < 13) : Cond.initialized (am_cn ci) ∈ am_tbl := by
  obtain ⟨q, -, h2, h3⟩ := am_any (am_ra am_IN_all hc) am_IN_ok
  simp only [beq_iff_eq, decide_eq_true_eq] at h2 h3
  subst h2
  exact am_in h3 rfl
theorem am_cls_ins {ci : Nat} (hc : ci < 11) : Cond.instantiable (am_cn ci) (am_Nf ci) ∈ am_tbl := by
  obtain ⟨q, -, h2, h3⟩ := am_any (am_ra am_IS_all hc) am_IS_ok
  simp only [Bool.and_eq_true, beq_iff_eq, decide_eq_true_eq] at h2 h3
  subst h2
  rw [← h3.2]
  exact am_in h3.1 rfl
theorem am_cls_ty {ci k : Nat} (hc : ci < 11) (hk : k < am_Nf ci) : parseFieldDescriptor (am_T ci k).2.2.1 = some (am_ty ci k) ∧ (am_T ci k).1 = am_cn ci ∧ am_fk ci k = (if am_ty ci k = .int then 0 else if am_ty ci k = .boolean then 2 else 1) ∧ (am_ty ci k = .int ∨ am_ty ci k = .boolean ∨ (am_ty ci k).isReference = true) := by
  have h := am_ra (am_ra am_ty_all hc) hk
  simp only [Bool.and_eq_true, decide_eq_true_eq] at h
  exact ⟨h.1.1.1, h.1.1.2, h.1.2, h.2⟩
theorem am_cls_nm {ci : Nat} (hc : ci < 11) : ∀ a, a < am_Nf ci → ∀ b, b < am_Nf ci → a ≠ b → (am_T ci a).2.1 ≠ (am_T ci b).2.1 := by
  intro a ha b hb hab
  have h := am_ra (am_ra (am_ra am_nm_all hc) ha) hb
  simp only [Bool.or_eq_true, decide_eq_true_eq] at h
  exact h.resolve_left hab
theorem am_ref_ok {ty : FieldType} (h : ty.isReference = true) (v : Nat) : narrow ty (.ref v) = .ref v ∧ fits ty (.ref v) = true := by
  cases ty <;> first | (exact ⟨rfl, rfl⟩) | (cases h)
def am_fs (E : AmE) (ci : Nat) (f : Nat → Int32) (g : Nat → Option Nat) : List Value := (List.range (am_Nf ci)).map (fun j => if am_fk ci j = 1 then va_rf ((g j).map (am_ad E)) else .int (f j))
theorem am_fs_at {E : AmE} {ci k : Nat} {f : Nat → Int32} {g : Nat → Option Nat} (hk : k < am_Nf ci) : (am_fs E ci f g)[k]? = some (if am_fk ci k = 1 then va_rf ((g k).map (am_ad E)) else .int (f k)) := by
  simp [am_fs, hk]
theorem am_fs_set {E : AmE} {ci k : Nat} {f f' : Nat → Int32} {g g' : Nat → Option Nat} {v : Value} (hf : ∀ j, j ≠ k → f' j = f j) (hg : ∀ j, j ≠ k → g' j = g j) (hv : (if am_fk ci k = 1 then va_rf ((g' k).map (am_ad E)) else .int (f' k)) = v) : (am_fs E ci f g).set k v = am_fs E ci f' g' := by
  apply List.ext_getElem?
  intro j
  by_cases hj : j < am_Nf ci
  · rw [am_fs_at hj]
    by_cases hjk : j = k
    · subst hjk
      rw [List.getElem?_set_self (by simp [am_fs]; exact hj), hv]
    · rw [List.getElem?_set_ne (Ne.symm hjk), am_fs_at hj, hf j hjk, hg j hjk]
  · rw [List.getElem?_eq_none (by simp [am_fs]; omega), List.getElem?_eq_none (by simp [am_fs]; omega)]
theorem am_upI_at {I : Nat → Nat → Int32} {a i : Nat} {x : Int32} : am_upI I a i x a = upd (I a) i x := by
  funext j
  by_cases hj : j = i <;> simp [am_upI, upd, hj]
theorem am_upI_ne {I : Nat → Nat → Int32} {a i k : Nat} {x : Int32} (h : k ≠ a) : am_upI I a i x k = I k := by
  funext j
  simp [am_upI, h]
theorem am_upG_ne {G : Nat → Nat → Option Nat} {a i k : Nat} {x : Option Nat} (h : k ≠ a) : am_upG G a i x k = G k := by
  funext j
  simp [am_upG, h]
section AMK
variable {l : Launch} {E : AmE} {D : va_G} {X : AmX} {d M : Nat} {cs : AmCd} {L st : List Value} {h : AmH} {res : Option Int32 × AmH} {pc a b c0 : Nat}
theorem am_ob {h : AmH} {o ci n : Nat} (hn : h.1[o]? = some (ci + 3, n)) : (am_ws E h)[o]? = some (E.1 + o, .inr (ci, am_fs E ci (h.2.1 o) (h.2.2 o))) := am_ws_at hn
theorem am_j_get {k o : Nat} (ok : am_okq M (pc, .getfield k, a, b, c0) cs = true) (ho : am_is h o (a + 3) = true) (hk : am_J l E D X d M cs L ((if c0 = 1 then va_rf (h.2.2 o b) else .int (h.2.1 o b)) :: st) h res) : am_J l E D X d M ((pc, .getfield k, a, b, c0) :: cs) L (.ref o :: st) h res := by
  intro p e R s m args below meth c H locs cells slots cF sF ls Q C hfr hlo hcF hsF hP hS hl hz hc1 hs1 kr
  have hdg := am_okq_d ok rfl
  have hn := am_okq_n ok rfl
  have hr := (am_okq_4 ok).2.2.2
  simp only [am_res, Bool.and_eq_true, beq_iff_eq] at hr
  obtain ⟨hlk, hkN, hci⟩ := am_FL_use hr.1
  obtain ⟨ho1, n, ho2⟩ := am_is_of ho
  have k2 := hk p e R s m args below meth c H locs cells slots cF sF ls Q C hfr hlo hcF hsF hP hS hl hz hc1 hs1 kr
  rw [hn] at k2
  show W p l e R s m args below meth c H locs cells slots Q (F0 m pc ls (.ref (am_ad E o) :: st.map (am_rv E)))
  rw [am_ad_in ho1]
  refine va_get (D := D) (cl := am_cl) (ci := a) (C := am_cn a) (T := am_T a) (N := am_Nf a) (v := if am_fk a b = 1 then va_rf ((h.2.2 o b).map (am_ad E)) else .int (h.2.1 o b)) C.1 C.2.1 C.2.2.2.2.2.2.1 (am_cls_in hci) C.2.2.2.2.2.1 C.2.2.2.2.2.2.2.1 hP o (am_ob ho2) (am_cl_at hci) b hkN (C.2.2.2.2.2.2.1 _ hlk) (fun x hx => by rw [(am_cls_ty hci hkN).2.1] at hx; exact hx) (am_fs_at hkN) hdg ?_
  rw [hr.2]
  by_cases hc : c0 = 1
  · rw [if_pos hc]
    rw [List.map_cons, if_pos hc, am_rv_rf] at k2
    exact k2
  · rw [if_neg hc]
    rw [List.map_cons, if_neg hc] at k2
    exact k2
theorem am_j_puti {k o : Nat} {x : Int32} (ok : am_okq M (pc, .putfield k, a, b, c0) cs = true) (hc : ¬ c0 = 1) (hx : c0 = 2 → (x = 0 ∨ x = 1)) (ho : am_is h o (a + 3) = true) (hk : am_J l E D X d M cs L st (h.1, am_upI h.2.1 o b x, h.2.2) res) : am_J l E D X d M ((pc, .putfield k, a, b, c0) :: cs) L (.int x :: .ref o :: st) h res := by
  intro p e R s m args below meth c H locs cells slots cF sF ls Q C hfr hlo hcF hsF hP hS hl hz hc1 hs1 kr
  have hdg := am_okq_d ok rfl
  have hn := am_okq_n ok rfl
  have hr := (am_okq_4 ok).2.2.2
  simp only [am_res, Bool.and_eq_true, beq_iff_eq, Bool.or_eq_true, Bool.not_eq_true'] at hr
  obtain ⟨hlk, hkN, hci⟩ := am_FL_use hr.1.1
  obtain ⟨ho1, n, ho2⟩ := am_is_of ho
  obtain ⟨t1, t2, t3, t4⟩ := am_cls_ty hci hkN
  have hsame : ∀ x, s.fieldFound? (am_T a b).1 (am_T a b).2.1 (am_T a b).2.2.1 = some x → s.fieldFound? (am_cn a) (am_T a b).2.1 (am_T a b).2.2.1 = some x := fun x hx => by rw [t2] at hx; exact hx
  have hty : ∀ k, k < am_Nf a → parseFieldDescriptor (am_T a k).2.2.1 = some (am_ty a k) := fun k hk => (am_cls_ty hci hk).1
  have hfk : ¬ am_fk a b = 1 := fun q => hc (hr.1.2.symm.trans q)
  have hnf : narrow (am_ty a b) (.int x) = .int x ∧ fits (am_ty a b) (.int x) = true := by
    rcases t4 with q | q | q
    · rw [q]; exact ⟨rfl, rfl⟩
    · rw [q]
      have h2 : c0 = 2 := by rw [← hr.1.2, t3, q]; simp
      rcases hx h2 with rfl | rfl <;> exact ⟨by decide, by decide⟩
    · exfalso
      apply hfk
      rw [t3]
      cases hq : am_ty a b <;> rw [hq] at q <;> first | exact absurd q (by decide) | simp
  have hset : (am_fs E a (h.2.1 o) (h.2.2 o)).set b (.int x) = am_fs E a (am_upI h.2.1 o b x o) (h.2.2 o) := am_fs_set (fun j hj => by simp [am_upI, hj]) (fun _ _ => rfl) (by rw [if_neg hfk]; simp [am_upI])
  show W p l e R s m args below meth c H locs cells slots Q (F0 m pc ls (.int x :: .ref (am_ad E o) :: st.map (am_rv E)))
  rw [am_ad_in ho1]
  have hkk : ∀ (H1 : Heap) (locs1 : List Loc), va_P D am_cl ((am_ws E h).set o (E.1 + o, .inr (a, (am_fs E a (h.2.1 o) (h.2.2 o)).set b (.int x)))) H1 → va_D (am_A E) ((am_ws E h).set o (E.1 + o, .inr (a, (am_fs E a (h.2.1 o) (h.2.2 o)).set b (.int x)))) → va_S (am_A E) s.heap H1 locs1 → W p l e R s m args below meth c H1 locs1 cells slots Q (F0 m (pc + 3) ls (st.map (am_rv E))) := by
    intro H1 locs1 hP1 _ hS1
    rw [am_ws_set (h' := (h.1, am_upI h.2.1 o b x, h.2.2)) ho2 rfl (fun k hk => am_upI_ne hk) (fun k hk => rfl) (by rw [hset]; rfl)] at hP1
    have k2 := hk p e R s m args below meth c H1 locs1 cells slots cF sF ls Q C hfr hlo hcF hsF hP1 hS1 hl hz hc1 hs1 kr
    rw [hn] at k2
    exact k2
  cases hfin : (am_T a b).2.2.2 with
  | false => exact va_put (D := D) (ci := a) (C := am_cn a) (T := am_T a) (N := am_Nf a) (ty := am_ty a b) C.1 C.2.1 C.2.2.2.2.2.2.1 (am_cls_in hci) (am_ty a) hty (am_cls_nm hci) C.2.2.2.2.2.1 C.2.2.2.2.2.2.2.1 hP am_ws_D hS o (am_ob ho2) (am_cl_at hci) b hkN (C.2.2.2.2.2.2.1 _ hlk) hsame hfin t1 hnf.1 hnf.2 (by simp [am_fs]; exact hkN) hdg hkk
  | true =>
    have hi := hr.2
    rw [hfin] at hi
    simp only [reduceCtorEq, false_or] at hi
    exact va_putF (D := D) (ci := a) (C := am_cn a) (T := am_T a) (N := am_Nf a) (ty := am_ty a b) C.1 C.2.1 C.2.2.2.2.2.2.1 (am_cls_in hci) (am_ty a) hty (am_cls_nm hci) C.2.2.2.2.2.1 C.2.2.2.2.2.2.2.1 hP am_ws_D hS o (am_ob ho2) (am_cl_at hci) b hkN (C.2.2.2.2.2.2.1 _ hlk) hsame hfin (C.2.2.2.2.2.2.2.2.2.1 hi.1) (by rw [t2, hi.2]) t1 hnf.1 hnf.2 (by simp [am_fs]; exact hkN) hdg hkk
theorem am_j_putr {k o v : Nat} (ok : am_okq M (pc, .putfield k, a, b, c0) cs = true) (hc : c0 = 1) (ho : am_is h o (a + 3) = true) (hk : am_J l E D X d M cs L st (h.1, h.2.1, am_upG h.2.2 o b (some v)) res) : am_J l E D X d M ((pc, .putfield k, a, b, c0) :: cs) L (.ref v :: .ref o :: st) h res := by
  intro p e R s m args below meth c H locs cells slots cF sF ls Q C hfr hlo hcF hsF hP hS hl hz hc1 hs1 kr
  have hdg := am_okq_d ok rfl
  have hn := am_okq_n ok rfl
  have hr := (am_okq_4 ok).2.2.2
  simp only [am_res, Bool.and_eq_true, beq_iff_eq, Bool.or_eq_true, Bool.not_eq_true'] at hr
  obtain ⟨hlk, hkN, hci⟩ := am_FL_use hr.1.1
  obtain ⟨ho1, n, ho2⟩ := am_is_of ho
  obtain ⟨t1, t2, t3, t4⟩ := am_cls_ty hci hkN
  have hsame : ∀ x, s.fieldFound? (am_T a b).1 (am_T a b).2.1 (am_T a b).2.2.1 = some x → s.fieldFound? (am_cn a) (am_T a b).2.1 (am_T a b).2.2.1 = some x := fun x hx => by rw [t2] at hx; exact hx
  have hty : ∀ k, k < am_Nf a → parseFieldDescriptor (am_T a k).2.2.1 = some (am_ty a k) := fun k hk => (am_cls_ty hci hk).1
  have hfk : am_fk a b = 1 := hr.1.2.trans hc
  have hR : (am_ty a b).isReference = true := by
    rcases t4 with q | q | q
    · rw [t3, if_pos q] at hfk; cases hfk
    · rw [t3, q] at hfk; simp at hfk
    · exact q
  have hnf := am_ref_ok hR (am_ad E v)
  have hset : (am_fs E a (h.2.1 o) (h.2.2 o)).set b (.ref (am_ad E v)) = am_fs E a (h.2.1 o) (am_upG h.2.2 o b (some v) o) := am_fs_set (fun _ _ => rfl) (fun j hj => by simp [am_upG, hj]) (by rw [if_pos hfk]; simp [am_upG, va_rf])
  show W p l e R s m args below meth c H locs cells slots Q (F0 m pc ls (.ref (am_ad E v) :: .ref (am_ad E o) :: st.map (am_rv E)))
  rw [am_ad_in ho1]
  have hkk : ∀ (H1 : Heap) (locs1 : List Loc), va_P D am_cl ((am_ws E h).set o (E.1 + o, .inr (a, (am_fs E a (h.2.1 o) (h.2.2 o)).set b (.ref (am_ad E v))))) H1 → va_D (am_A E) ((am_ws E h).set o (E.1 + o, .inr (a, (am_fs E a (h.2.1 o) (h.2.2 o)).set b (.ref (am_ad E v))))) → va_S (am_A E) s.heap H1 locs1 → W p l e R s m args below meth c H1 locs1 cells slots Q (F0 m (pc + 3) ls (st.map (am_rv E))) := by
    intro H1 locs1 hP1 _ hS1
    rw [am_ws_set (h' := (h.1, h.2.1, am_upG h.2.2 o b (some v))) ho2 rfl (fun k hk => rfl) (fun k hk => am_upG_ne hk) (by rw [hset]; rfl)] at hP1
    have k2 := hk p e R s m args below meth c H1 locs1 cells slots cF sF ls Q C hfr hlo hcF hsF hP1 hS1 hl hz hc1 hs1 kr
    rw [hn] at k2
    exact k2
  cases hfin : (am_T a b).2.2.2 with
  | false => exact va_put (D := D) (ci := a) (C := am_cn a) (T := am_T a) (N := am_Nf a) (ty := am_ty a b) C.1 C.2.1 C.2.2.2.2.2.2.1 (am_cls_in hci) (am_ty a) hty (am_cls_nm hci) C.2.2.2.2.2.1 C.2.2.2.2.2.2.2.1 hP am_ws_D hS o (am_ob ho2) (am_cl_at hci) b hkN (C.2.2.2.2.2.2.1 _ hlk) hsame hfin t1 hnf.1 hnf.2 (by simp [am_fs]; exact hkN) hdg hkk
  | true =>
    have hi := hr.2
    rw [hfin] at hi
    simp only [reduceCtorEq, false_or] at hi
    exact va_putF (D := D) (ci := a) (C := am_cn a) (T := am_T a) (N := am_Nf a) (ty := am_ty a b) C.1 C.2.1 C.2.2.2.2.2.2.1 (am_cls_in hci) (am_ty a) hty (am_cls_nm hci) C.2.2.2.2.2.1 C.2.2.2.2.2.2.2.1 hP am_ws_D hS o (am_ob ho2) (am_cl_at hci) b hkN (C.2.2.2.2.2.2.1 _ hlk) hsame hfin (C.2.2.2.2.2.2.2.2.2.1 hi.1) (by rw [t2, hi.2]) t1 hnf.1 hnf.2 (by simp [am_fs]; exact hkN) hdg hkk
theorem am_arr_of {X : AmX} {h : AmH} {t o k : Nat} {f : Nat → Int32} (hh : am_arr X h t o = some (k, f)) : (o < 1000000 ∧ h.1[o]? = some (t, k) ∧ f = h.2.1 o) ∨ (¬ o < 1000000 ∧ t = 0 ∧ X (o - 1000000) = some (k, f)) := by
  unfold am_arr at hh
  by_cases ho : o < 1000000
  · rw [if_pos ho] at hh
    refine Or.inl ⟨ho, ?_⟩
    cases hq : h.1[o]? with
    | none => rw [hq] at hh; cases hh
    | some q =>
      obtain ⟨t', n⟩ := q
      rw [hq] at hh
      by_cases ht : t' = t
      · simp only [ht, if_true] at hh
        cases hh
        exact ⟨by rw [ht], rfl⟩
      · simp only [ht, if_false] at hh
        cases hh
  · rw [if_neg ho] at hh
    by_cases ht : t = 0
    · rw [if_pos ht] at hh
      exact Or.inr ⟨ho, ht, hh⟩
    · rw [if_neg ht] at hh
      cases hh
theorem am_len_of {X : AmX} {h : AmH} {o k : Nat} (hh : am_len X h o = some k) : (o < 1000000 ∧ ∃ t, t < 3 ∧ h.1[o]? = some (t, k)) ∨ (¬ o < 1000000 ∧ ∃ f, X (o - 1000000) = some (k, f)) := by
  unfold am_len at hh
  by_cases ho : o < 1000000
  · rw [if_pos ho] at hh
    refine Or.inl ⟨ho, ?_⟩
    cases hq : h.1[o]? with
    | none => rw [hq] at hh; cases hh
    | some q =>
      obtain ⟨t', n⟩ := q
      rw [hq] at hh
      by_cases ht : t' < 3
      · simp only [ht, if_true] at hh
        cases hh
        exact ⟨t', ht, rfl⟩
      · simp only [ht, if_false] at hh
        cases hh
  · rw [if_neg ho] at hh
    cases hq : X (o - 1000000) with
    | none => rw [hq] at hh; cases hh
    | some q =>
      rw [hq] at hh
      cases hh
      exact Or.inr ⟨ho, q.2, rfl⟩
theorem am_len_is {X : AmX} {h : AmH} {o t k : Nat} (h1 : am_is h o t = true) (h2 : am_len X h o = some k) : o < 1000000 ∧ h.1[o]? = some (t, k) := by
  obtain ⟨a1, n, a2⟩ := am_is_of h1
  rcases am_len_of h2 with ⟨b1, t2, b2, b3⟩ | ⟨b1, -⟩
  · rw [a2] at b3
    cases b3
    exact ⟨a1, a2⟩
  · exact absurd a1 b1
theorem am_j_iaload {o k : Nat} {j : Int32} {f : Nat → Int32} (ok : am_okq M (pc, .iaload, a, b, c0) cs = true) (ha : am_arr X h 0 o = some (k, f)) (hj : ¬ (j < 0 ∨ k ≤ j.toNatClampNeg)) (hk : am_J l E D X d M cs L (.int (f j.toNatClampNeg) :: st) h res) : am_J l E D X d M ((pc, .iaload, a, b, c0) :: cs) L (.int j :: .ref o :: st) h res := by
  intro p e R s m args below meth c H locs cells slots cF sF ls Q C hfr hlo hcF hsF hP hS hl hz hc1 hs1 kr
  have hdg := am_okq_d ok rfl
  have hn := am_okq_n ok rfl
  show W p l e R s m args below meth c H locs cells slots Q (F0 m pc ls (.int j :: .ref (am_ad E o) :: st.map (am_rv E)))
  have k2 := hk p e R s m args below meth c H locs cells slots cF sF ls Q C hfr hlo hcF hsF hP hS hl hz hc1 hs1 kr
  rw [hn] at k2
  rcases am_arr_of ha with ⟨h1, h2, rfl⟩ | ⟨h1, -, h2⟩
  · rw [am_ad_in h1]
    exact va_iald (D := D) C.1 C.2.1 C.2.2.2.2.2.2.2.1 hP o 0 (am_ws_at h2) rfl hj hdg k2
  · rw [am_ad_out h1]
    obtain ⟨g1, g2⟩ := C.2.2.2.2.2.2.2.2.1.1 _ _ _ h2
    exact va_sld C.1 C.2.1 g1 (Nat.lt_of_lt_of_le g2 C.2.2.2.2.2.2.2.2.2.2) (Nat.not_le.mpr g2) hS hj hdg k2
theorem am_j_baload {o k : Nat} {j : Int32} {f : Nat → Int32} (ok : am_okq M (pc, .baload, a, b, c0) cs = true) (ha : am_arr X h 1 o = some (k, f)) (hj : ¬ (j < 0 ∨ k ≤ j.toNatClampNeg)) (hk : am_J l E D X d M cs L (.int (f j.toNatClampNeg) :: st) h res) : am_J l E D X d M ((pc, .baload, a, b, c0) :: cs) L (.int j :: .ref o :: st) h res := by
  intro p e R s m args below meth c H locs cells slots cF sF ls Q C hfr hlo hcF hsF hP hS hl hz hc1 hs1 kr
  have hdg := am_okq_d ok rfl
  have hn := am_okq_n ok rfl
  show W p l e R s m args below meth c H locs cells slots Q (F0 m pc ls (.int j :: .ref (am_ad E o) :: st.map (am_rv E)))
  have k2 := hk p e R s m args below meth c H locs cells slots cF sF ls Q C hfr hlo hcF hsF hP hS hl hz hc1 hs1 kr
  rw [hn] at k2
  rcases am_arr_of ha with ⟨h1, h2, rfl⟩ | ⟨h1, h2, -⟩
  · rw [am_ad_in h1]
    exact va_zald (D := D) C.1 C.2.1 C.2.2.2.2.2.2.2.1 hP o 1 (am_ws_at h2) rfl hj hdg k2
  · cases h2
theorem am_j_aaload {o k : Nat} {j : Int32} (ok : am_okq M (pc, .aaload, a, b, c0) cs = true) (h1 : am_is h o 2 = true) (h2 : am_len X h o = some k) (hj : ¬ (j < 0 ∨ k ≤ j.toNatClampNeg)) (hk : am_J l E D X d M cs L (va_rf (h.2.2 o j.toNatClampNeg) :: st) h res) : am_J l E D X d M ((pc, .aaload, a, b, c0) :: cs) L (.int j :: .ref o :: st) h res := by
  intro p e R s m args below meth c H locs cells slots cF sF ls Q C hfr hlo hcF hsF hP hS hl hz hc1 hs1 kr
  have hdg := am_okq_d ok rfl
  have hn := am_okq_n ok rfl
  show W p l e R s m args below meth c H locs cells slots Q (F0 m pc ls (.int j :: .ref (am_ad E o) :: st.map (am_rv E)))
  have k2 := hk p e R s m args below meth c H locs cells slots cF sF ls Q C hfr hlo hcF hsF hP hS hl hz hc1 hs1 kr
  rw [hn, List.map_cons, am_rv_rf] at k2
  obtain ⟨g1, g2⟩ := am_len_is h1 h2
  rw [am_ad_in g1]
  exact va_aldq (D := D) C.1 C.2.1 C.2.2.2.2.2.2.2.1 hP o 2 (am_ws_at g2) rfl hj hdg k2
theorem am_j_iastore {o k : Nat} {j x : Int32} (ok : am_okq M (pc, .iastore, a, b, c0) cs = true) (h1 : am_is h o 0 = true) (h2 : am_len X h o = some k) (hj : ¬ (j < 0 ∨ k ≤ j.toNatClampNeg)) (hk : am_J l E D X d M cs L st (h.1, am_upI h.2.1 o j.toNatClampNeg x, h.2.2) res) : am_J l E D X d M ((pc, .iastore, a, b, c0) :: cs) L (.int x :: .int j :: .ref o :: st) h res := by
  intro p e R s m args below meth c H locs cells slots cF sF ls Q C hfr hlo hcF hsF hP hS hl hz hc1 hs1 kr
  have hdg := am_okq_d ok rfl
  have hn := am_okq_n ok rfl
  show W p l e R s m args below meth c H locs cells slots Q (F0 m pc ls (.int x :: .int j :: .ref (am_ad E o) :: st.map (am_rv E)))
  obtain ⟨g1, g2⟩ := am_len_is h1 h2
  rw [am_ad_in g1]
  refine va_iast (D := D) C.1 C.2.1 C.2.2.2.2.2.2.2.1 hP am_ws_D hS o 0 (am_ws_at g2) rfl hj hdg (fun H1 locs1 hP1 _ hS1 => ?_)
  rw [am_ws_set (h' := (h.1, am_upI h.2.1 o j.toNatClampNeg x, h.2.2)) g2 rfl (fun k hk => am_upI_ne hk) (fun _ _ => rfl) (by show _ = am_cell E 0 k (am_upI h.2.1 o j.toNatClampNeg x o) (h.2.2 o); rw [am_upI_at]; rfl)] at hP1
  have k2 := hk p e R s m args below meth c H1 locs1 cells slots cF sF ls Q C hfr hlo hcF hsF hP1 hS1 hl hz hc1 hs1 kr
  rw [hn] at k2
  exact k2
theorem am_j_bastore {o k : Nat} {j x : Int32} (ok : am_okq M (pc, .bastore, a, b, c0) cs = true) (h1 : am_is h o 1 = true) (h2 : am_len X h o = some k) (hj : ¬ (j < 0 ∨ k ≤ j.toNatClampNeg)) (hx : x = 0 ∨ x = 1) (hk : am_J l E D X d M cs L st (h.1, am_upI h.2.1 o j.toNatClampNeg x, h.2.2) res) : am_J l E D X d M ((pc, .bastore, a, b, c0) :: cs) L (.int x :: .int j :: .ref o :: st) h res := by
  intro p e R s m args below meth c H locs cells slots cF sF ls Q C hfr hlo hcF hsF hP hS hl hz hc1 hs1 kr
  have hdg := am_okq_d ok rfl
  have hn := am_okq_n ok rfl
  show W p l e R s m args below meth c H locs cells slots Q (F0 m pc ls (.int x :: .int j :: .ref (am_ad E o) :: st.map (am_rv E)))
  obtain ⟨g1, g2⟩ := am_len_is h1 h2
  rw [am_ad_in g1]
  refine va_zast (D := D) C.1 C.2.1 C.2.2.2.2.2.2.2.1 hP am_ws_D hS o 1 (am_ws_at g2) rfl hj hdg (fun H1 locs1 hP1 _ hS1 => ?_)
  rw [show vp_nar .boolean x = x by rcases hx with rfl | rfl <;> decide] at hP1
  rw [am_ws_set (h' := (h.1, am_upI h.2.1 o j.toNatClampNeg x, h.2.2)) g2 rfl (fun k hk => am_upI_ne hk) (fun _ _ => rfl) (by show _ = am_cell E 1 k (am_upI h.2.1 o j.toNatClampNeg x o) (h.2.2 o); rw [am_upI_at]; rfl)] at hP1
  have k2 := hk p e R s m args below meth c H1 locs1 cells slots cF sF ls Q C hfr hlo hcF hsF hP1 hS1 hl hz hc1 hs1 kr
  rw [hn] at k2
  exact k2
theorem am_j_aastore {o k v : Nat} {j : Int32} (ok : am_okq M (pc, .aastore, a, b, c0) cs = true) (h1 : am_is h o 2 = true) (hv : am_is h v (a + 3) = true) (h2 : am_len X h o = some k) (hj : ¬ (j < 0 ∨ k ≤ j.toNatClampNeg)) (hk : am_J l E D X d M cs L st (h.1, h.2.1, am_upG h.2.2 o j.toNatClampNeg (some v)) res) : am_J l E D X d M ((pc, .aastore, a, b, c0) :: cs) L (.ref v :: .int j :: .ref o :: st) h res := by
  intro p e R s m args below meth c H locs cells slots cF sF ls Q C hfr hlo hcF hsF hP hS hl hz hc1 hs1 kr
  have hdg := am_okq_d ok rfl
  have hn := am_okq_n ok rfl
  show W p l e R s m args below meth c H locs cells slots Q (F0 m pc ls (.ref (am_ad E v) :: .int j :: .ref (am_ad E o) :: st.map (am_rv E)))
  have hr := (am_okq_4 ok).2.2.2
  simp only [am_res, beq_iff_eq] at hr
  subst hr
  obtain ⟨g1, g2⟩ := am_len_is h1 h2
  obtain ⟨v1, n, v2⟩ := am_is_of hv
  rw [am_ad_in g1, am_ad_in v1]
  refine va_astq (D := D) (r := (am_cn 4, am_T 4, am_Nf 4)) C.1 C.2.1 C.2.2.2.2.2.2.2.1 hP am_ws_D hS o 2 v 4 (am_ws_at g2) rfl (am_ob v2) (am_cl_at (by decide)) hj hdg (fun H1 locs1 hP1 _ hS1 => ?_)
  rw [am_ws_set (h' := (h.1, h.2.1, am_upG h.2.2 o j.toNatClampNeg (some v))) g2 rfl (fun _ _ => rfl) (fun k hk => am_upG_ne hk) (by
    show _ = am_cell E 2 k (h.2.1 o) (am_upG h.2.2 o j.toNatClampNeg (some v) o)
    show Sum.inl (E.2.2.2.2, k, Sum.inr (Sum.inr (Sum.inr (Sum.inr _)))) = Sum.inl (E.2.2.2.2, k, Sum.inr (Sum.inr (Sum.inr (Sum.inr _))))
    congr 6
    refine congrArg Sum.inr (funext fun q => ?_)
    by_cases hq : q = j.toNatClampNeg
    · subst hq; simp [va_up, am_upG, am_ad_in v1]
    · simp [va_up, am_upG, hq])] at hP1
  have k2 := hk p e R s m args below meth c H1 locs1 cells slots cF sF ls Q C hfr hlo hcF hsF hP1 hS1 hl hz hc1 hs1 kr
  rw [hn] at k2
  exact k2
theorem am_j_alen {o k : Nat} (ok : am_okq M (pc, .arraylength, a, b, c0) cs = true) (h2 : am_len X h o = some k) (hk : am_J l E D X d M cs L (.int (Int32.ofNat k) :: st) h res) : am_J l E D X d M ((pc, .arraylength, a, b, c0) :: cs) L (.ref o :: st) h res := by
  intro p e R s m args below meth c H locs cells slots cF sF ls Q C hfr hlo hcF hsF hP hS hl hz hc1 hs1 kr
  have hdg := am_okq_d ok rfl
  have hn := am_okq_n ok rfl
  show W p l e R s m args below meth c H locs cells slots Q (F0 m pc ls (.ref (am_ad E o) :: st.map (am_rv E)))
  have k2 := hk p e R s m args below meth c H locs cells slots cF sF ls Q C hfr hlo hcF hsF hP hS hl hz hc1 hs1 kr
  rw [hn] at k2
  rcases am_len_of h2 with ⟨g1, t, g2, g3⟩ | ⟨g1, f, g2⟩
  · rw [am_ad_in g1]
    match t, g2, g3 with
    | 0, _, g3 => exact va_alen (D := D) C.1 C.2.1 C.2.2.2.2.2.2.2.1 hP o 0 (am_ws_at g3) rfl rfl hdg k2
    | 1, _, g3 => exact va_alen (D := D) C.1 C.2.1 C.2.2.2.2.2.2.2.1 hP o 1 (am_ws_at g3) rfl rfl hdg k2
    | 2, _, g3 => exact va_alen (D := D) C.1 C.2.1 C.2.2.2.2.2.2.2.1 hP o 2 (am_ws_at g3) rfl rfl hdg k2
  · rw [am_ad_out g1]
    obtain ⟨q1, q2⟩ := C.2.2.2.2.2.2.2.2.1.1 _ _ _ g2
    exact va_slen C.1 C.2.1 q1 (Nat.lt_of_lt_of_le q2 C.2.2.2.2.2.2.2.2.2.2) (Nat.not_le.mpr q2) hS hdg k2
theorem am_j_getst {k : Nat} (ok : am_okq M (pc, .getstatic k, a, b, c0) cs = true) (hk : am_J l E D X d M cs L (.ref (1000000 + a) :: st) h res) : am_J l E D X d M ((pc, .getstatic k, a, b, c0) :: cs) L st h res := by
  intro p e R s m args below meth c H locs cells slots cF sF ls Q C hfr hlo hcF hsF hP hS hl hz hc1 hs1 kr
  have hdg := am_okq_d ok rfl
  have hn := am_okq_n ok rfl
  have hr := (am_okq_4 ok).2.2.2
  simp only [am_res] at hr
  obtain ⟨hlk, he⟩ := am_SL_use hr
  have k2 := hk p e R s m args below meth c H locs cells slots cF sF ls Q C hfr hlo hcF hsF hP hS hl hz hc1 hs1 kr
  rw [hn] at k2
  have had : am_ad E (1000000 + a) = E.2.1 a := by rw [am_ad_out (by omega), Nat.add_sub_cancel_left]
  have k3 : W p l e R s m args below meth c H locs cells slots Q (F0 m (pc + 3) ls (.ref (am_ad E (1000000 + a)) :: st.map (am_rv E))) := k2
  rw [had] at k3
  rcases he with rfl | rfl
  · exact va_gets C.1 C.2.1 C.2.2.2.2.2.2.2.2.1.2.1 hS C.2.2.2.2.2.1 (C.2.2.2.2.2.2.1 _ hlk) (fun _ hx => hx) hdg k3
  · exact va_gets C.1 C.2.1 C.2.2.2.2.2.2.2.2.1.2.2.1 hS C.2.2.2.2.2.1 (C.2.2.2.2.2.2.1 _ hlk) (fun _ hx => hx) hdg k3
end AMK
end
section
/-! judgements: new cells, calls, and the run of a method -/
theorem am_lenH {E : AmE} {D : va_G} {h : AmH} {H : Heap} (hP : va_P D am_cl (am_ws E h) H) (hb : E.1 ≤ H.size) : E.1 + h.1.length ≤ H.size := by
  rcases Nat.eq_zero_or_pos h.1.length with h0 | h0
  · omega
  · obtain ⟨⟨t, n⟩, hq⟩ : ∃ x, h.1[h.1.length - 1]? = some x := ⟨_, List.getElem?_eq_getElem (by omega)⟩
    have h1 : E.1 + (h.1.length - 1) < H.size := (hP _ _ (am_ws_at hq)).lt
    omega
theorem am_newq {E : AmE} {D : va_G} {h : AmH} {H1 : Heap} {q : Nat} {e0 : va_E} (hP : va_P D am_cl (am_ws E h ++ [(q, e0)]) H1) (hD : va_D (am_A E) (am_ws E h ++ [(q, e0)])) (hz : H1.size ≤ E.1 + h.1.length + 1) : q = E.1 + h.1.length := by
  have hl : (am_ws E h).length = h.1.length := by simp [am_ws]
  have hi : (am_ws E h ++ [(q, e0)])[h.1.length]? = some (q, e0) := by
    rw [← hl, List.getElem?_append_right (Nat.le_refl _), Nat.sub_self]
    rfl
  have h1 : q < H1.size := (hP _ _ hi).lt
  have h2 : E.1 ≤ q := hD.2 _ _ hi
  by_cases h3 : q < E.1 + h.1.length
  · exfalso
    have hk : q - E.1 < h.1.length := by omega
    obtain ⟨⟨t, n⟩, hq⟩ : ∃ x, h.1[q - E.1]? = some x := ⟨_, List.getElem?_eq_getElem hk⟩
    have hj : (am_ws E h ++ [(q, e0)])[q - E.1]? = some (E.1 + (q - E.1), am_cell E t n (h.2.1 (q - E.1)) (h.2.2 (q - E.1))) := by
      rw [List.getElem?_append_left (by omega)]
      exact am_ws_at hq
    have := hD.1 _ _ _ _ hj hi (by show E.1 + (q - E.1) = q; omega)
    omega
  · omega
theorem am_sl_new {h : AmH} {t n : Nat} {x : AmS} : am_sl (h.1 ++ [(t, n)], x) = am_sl h + n := by simp [am_sl]
theorem am_cats_rv {E : AmE} (st : List Value) : ((st.map (am_rv E)).map fun v => v.category).sum = am_cats st := by
  rw [am_cats, List.map_map]
  congr 1
  apply List.map_congr_left
  intro v _
  exact am_rv_cat v
section AMN
variable {l : Launch} {E : AmE} {D : va_G} {X : AmX} {d M : Nat} {cs : AmCd} {L st : List Value} {h : AmH} {res : Option Int32 × AmH} {pc a b c0 : Nat}
theorem am_j_new {k : Nat} (ok : am_okq M (pc, .new k, a, b, c0) cs = true) (hlen : h.1.length < 1000000) (mo : h.1.length + 1 ≤ res.2.1.length ∧ am_sl h + am_Nf a ≤ am_sl res.2) (hk : am_J l E D X d M cs L (.ref h.1.length :: st) (h.1 ++ [(a + 3, am_Nf a)], am_zI h.2.1 h.1.length, am_zG h.2.2 h.1.length) res) : am_J l E D X d M ((pc, .new k, a, b, c0) :: cs) L st h res := by
  intro p e R s m args below meth c H locs cells slots cF sF ls Q C hfr hlo hcF hsF hP hS hl hz hc1 hs1 kr
  have hdg := am_okq_d ok rfl
  have hn := am_okq_n ok rfl
  have hr := (am_okq_4 ok).2.2.2
  simp only [am_res] at hr
  obtain ⟨hlk, hci⟩ := am_KL_use hr
  have hfs : ∀ j, j < am_Nf a → defaultValue (am_ty a j) = vp_V (am_fs E a (fun _ => 0) (fun _ => none)) j := by
    intro j hj
    obtain ⟨t1, t2, t3, t4⟩ := am_cls_ty hci hj
    have h1 : vp_V (am_fs E a (fun _ => 0) (fun _ => none)) j = if am_fk a j = 1 then .null else .int 0 := by
      show List.getD _ j Value.null = _
      rw [List.getD_eq_getElem?_getD, am_fs_at hj]
      rfl
    rw [h1, t3]
    rcases t4 with q | q | q
    · rw [q]; rfl
    · rw [q]; rfl
    · cases hq : am_ty a j <;> rw [hq] at q <;> first | exact absurd q (by decide) | rfl
  refine va_new (D := D) (ci := a) (C := am_cn a) (T := am_T a) (N := am_Nf a) (fs := am_fs E a (fun _ => 0) (fun _ => none)) C.1 C.2.1 C.2.2.2.2.2.2.1 (am_cls_in hci) (am_ty a) (fun k hk => (am_cls_ty hci hk).1) C.2.2.2.2.2.1 (C.2.2.2.2.2.2.1 _ hlk) (C.2.2.2.2.2.2.1 _ (am_cls_ins hci)) (C.2.2.2.2.2.2.1 _ (am_cls_ini (by omega))) C.2.2.2.2.2.2.2.1 hP am_ws_D hS (fun q hq => Nat.le_trans C.2.2.2.2.2.2.2.2.2.2 hq) (am_cl_at hci) hfs (by omega) (by omega) hdg (fun q H1 hP1 hD1 hS1 => ?_)
  refine am_sz (fun hz1 => ?_)
  have hq := am_newq hP1 hD1 (by omega)
  subst hq
  rw [am_ws_new (t := a + 3) (n := am_Nf a) (e0 := Sum.inr (a, am_fs E a (fun _ => 0) (fun _ => none))) rfl] at hP1
  have k2 := hk p e R s m args below meth c H1 locs (cells + 1) (slots + am_Nf a) cF sF ls Q C hfr hlo hcF hsF hP1 hS1 hl (by simp only [List.length_append, List.length_singleton]; omega) (by simp only [List.length_append, List.length_singleton]; omega) (by rw [am_sl_new]; omega) kr
  rw [hn] at k2
  have k3 : W p l e R s m args below meth c H1 locs (cells + 1) (slots + am_Nf a) Q (F0 m (pc + 3) ls (.ref (am_ad E h.1.length) :: st.map (am_rv E))) := k2
  rw [am_ad_in hlen] at k3
  exact k3
theorem am_j_newI {x : Int32} (ok : am_okq M (pc, .newarray .int, a, b, c0) cs = true) (hx : ¬ (x < 0 ∨ 1000000 < x.toNatClampNeg ∨ 1000000 ≤ h.1.length)) (mo : h.1.length + 1 ≤ res.2.1.length ∧ am_sl h + x.toNatClampNeg ≤ am_sl res.2) (hk : am_J l E D X d M cs L (.ref h.1.length :: st) (h.1 ++ [(0, x.toNatClampNeg)], am_zI h.2.1 h.1.length, am_zG h.2.2 h.1.length) res) : am_J l E D X d M ((pc, .newarray .int, a, b, c0) :: cs) L (.int x :: st) h res := by
  intro p e R s m args below meth c H locs cells slots cF sF ls Q C hfr hlo hcF hsF hP hS hl hz hc1 hs1 kr
  have hdg := am_okq_d ok rfl
  have hn := am_okq_n ok rfl
  have x1 : ¬ x < 0 := fun q => hx (Or.inl q)
  have x2 : ¬ 1000000 < x.toNatClampNeg := fun q => hx (Or.inr (Or.inl q))
  have x3 : ¬ 1000000 ≤ h.1.length := fun q => hx (Or.inr (Or.inr q))
  refine va_newa (D := D) (ty := .int) (N' := x.toNatClampNeg) (a0 := (x.toNatClampNeg, .inl (fun _ => 0))) C.1 C.2.1 (C.2.2.2.2.2.2.1 _ (am_in am_w99 rfl)) rfl C.2.2.2.2.2.2.2.1 hP am_ws_D hS (fun q hq => Nat.le_trans C.2.2.2.2.2.2.2.2.2.2 hq) (fun cA => rfl) x1 rfl (by show x.toNatClampNeg * 4 ≤ 536870912; omega) (by omega) (by omega) hdg (fun q cA H1 hK1 hP1 hD1 hS1 => ?_)
  have hcA : cA = E.2.2.1 := by
    have h1 : s.vm.findClass _ = some cA := (hK1.2 3 (cA, .int) rfl).2
    have h2 : s.vm.findClass _ = some E.2.2.1 := (C.2.2.2.2.2.2.2.1.2 0 (E.2.2.1, .int) rfl).2
    exact Option.some.inj (h1.symm.trans h2)
  subst hcA
  refine am_sz (fun hz1 => ?_)
  have hq := am_newq hP1 hD1 (by omega)
  subst hq
  rw [am_ws_new (t := 0) (n := x.toNatClampNeg) (e0 := Sum.inl (E.2.2.1, x.toNatClampNeg, Sum.inl (fun _ => 0))) rfl] at hP1
  have k2 := hk p e R s m args below meth c H1 locs (cells + 1) (slots + x.toNatClampNeg) cF sF ls Q C hfr hlo hcF hsF hP1 hS1 hl (by simp only [List.length_append, List.length_singleton]; omega) (by simp only [List.length_append, List.length_singleton]; omega) (by rw [am_sl_new]; omega) kr
  rw [hn] at k2
  have k3 : W p l e R s m args below meth c H1 locs (cells + 1) (slots + x.toNatClampNeg) Q (F0 m (pc + 2) ls (.ref (am_ad E h.1.length) :: st.map (am_rv E))) := k2
  rw [am_ad_in (by omega)] at k3
  exact k3
theorem am_j_newZ {x : Int32} (ok : am_okq M (pc, .newarray .boolean, a, b, c0) cs = true) (hx : ¬ (x < 0 ∨ 1000000 < x.toNatClampNeg ∨ 1000000 ≤ h.1.length)) (mo : h.1.length + 1 ≤ res.2.1.length ∧ am_sl h + x.toNatClampNeg ≤ am_sl res.2) (hk : am_J l E D X d M cs L (.ref h.1.length :: st) (h.1 ++ [(1, x.toNatClampNeg)], am_zI h.2.1 h.1.length, am_zG h.2.2 h.1.length) res) : am_J l E D X d M ((pc, .newarray .boolean, a, b, c0) :: cs) L (.int x :: st) h res := by
  intro p e R s m args below meth c H locs cells slots cF sF ls Q C hfr hlo hcF hsF hP hS hl hz hc1 hs1 kr
  have hdg := am_okq_d ok rfl
  have hn := am_okq_n ok rfl
  have x1 : ¬ x < 0 := fun q => hx (Or.inl q)
  have x2 : ¬ 1000000 < x.toNatClampNeg := fun q => hx (Or.inr (Or.inl q))
  have x3 : ¬ 1000000 ≤ h.1.length := fun q => hx (Or.inr (Or.inr q))
  refine va_newa (D := D) (ty := .boolean) (N' := x.toNatClampNeg) (a0 := (x.toNatClampNeg, .inl (fun _ => 0))) C.1 C.2.1 (C.2.2.2.2.2.2.1 _ (am_in am_w1331 rfl)) rfl C.2.2.2.2.2.2.2.1 hP am_ws_D hS (fun q hq => Nat.le_trans C.2.2.2.2.2.2.2.2.2.2 hq) (fun cA => rfl) x1 rfl (by show x.toNatClampNeg * 1 ≤ 536870912; omega) (by omega) (by omega) hdg (fun q cA H1 hK1 hP1 hD1 hS1 => ?_)
  have hcA : cA = E.2.2.2.1 := by
    have h1 : s.vm.findClass _ = some cA := (hK1.2 3 (cA, .boolean) rfl).2
    have h2 : s.vm.findClass _ = some E.2.2.2.1 := (C.2.2.2.2.2.2.2.1.2 1 (E.2.2.2.1, .boolean) rfl).2
    exact Option.some.inj (h1.symm.trans h2)
  subst hcA
  refine am_sz (fun hz1 => ?_)
  have hq := am_newq hP1 hD1 (by omega)
  subst hq
  rw [am_ws_new (t := 1) (n := x.toNatClampNeg) (e0 := Sum.inl (E.2.2.2.1, x.toNatClampNeg, Sum.inl (fun _ => 0))) rfl] at hP1
  have k2 := hk p e R s m args below meth c H1 locs (cells + 1) (slots + x.toNatClampNeg) cF sF ls Q C hfr hlo hcF hsF hP1 hS1 hl (by simp only [List.length_append, List.length_singleton]; omega) (by simp only [List.length_append, List.length_singleton]; omega) (by rw [am_sl_new]; omega) kr
  rw [hn] at k2
  have k3 : W p l e R s m args below meth c H1 locs (cells + 1) (slots + x.toNatClampNeg) Q (F0 m (pc + 2) ls (.ref (am_ad E h.1.length) :: st.map (am_rv E))) := k2
  rw [am_ad_in (by omega)] at k3
  exact k3
theorem am_j_newQ {k : Nat} {x : Int32} (ok : am_okq M (pc, .anewarray k, a, b, c0) cs = true) (hx : ¬ (x < 0 ∨ 1000000 < x.toNatClampNeg ∨ 1000000 ≤ h.1.length)) (mo : h.1.length + 1 ≤ res.2.1.length ∧ am_sl h + x.toNatClampNeg ≤ am_sl res.2) (hk : am_J l E D X d M cs L (.ref h.1.length :: st) (h.1 ++ [(2, x.toNatClampNeg)], am_zI h.2.1 h.1.length, am_zG h.2.2 h.1.length) res) : am_J l E D X d M ((pc, .anewarray k, a, b, c0) :: cs) L (.int x :: st) h res := by
  intro p e R s m args below meth c H locs cells slots cF sF ls Q C hfr hlo hcF hsF hP hS hl hz hc1 hs1 kr
  have hdg := am_okq_d ok rfl
  have hn := am_okq_n ok rfl
  have hr := (am_okq_4 ok).2.2.2
  simp only [am_res] at hr
  obtain ⟨hlk, -⟩ := am_KL_use hr
  have x1 : ¬ x < 0 := fun q => hx (Or.inl q)
  have x2 : ¬ 1000000 < x.toNatClampNeg := fun q => hx (Or.inr (Or.inl q))
  have x3 : ¬ 1000000 ≤ h.1.length := fun q => hx (Or.inr (Or.inr q))
  refine va_newq (D := D) (C := "FoldPress$Kept") (N' := x.toNatClampNeg) C.1 C.2.1 C.2.2.2.2.2.1 (C.2.2.2.2.2.2.1 _ hlk) C.2.2.2.2.2.2.2.2.1.2.2.2.1 C.2.2.2.2.2.2.2.1 hP am_ws_D hS (fun q hq => Nat.le_trans C.2.2.2.2.2.2.2.2.2.2 hq) x1 rfl (by omega) (by omega) (by omega) hdg (fun q cA H1 hK1 hP1 hD1 hS1 => ?_)
  have hcA : cA = E.2.2.2.2 := by
    obtain ⟨_, _, -, -, -, h1⟩ := (hK1.2 3 (cA, .object "FoldPress$Kept") rfl).2
    obtain ⟨_, _, -, -, -, h2⟩ := (C.2.2.2.2.2.2.2.1.2 2 (E.2.2.2.2, .object "FoldPress$Kept") rfl).2
    exact Option.some.inj (h1.symm.trans h2)
  subst hcA
  refine am_sz (fun hz1 => ?_)
  have hq := am_newq hP1 hD1 (by omega)
  subst hq
  rw [am_ws_new (t := 2) (n := x.toNatClampNeg) (e0 := Sum.inl (E.2.2.2.2, x.toNatClampNeg, Sum.inr (Sum.inr (Sum.inr (Sum.inr (fun _ => none)))))) rfl] at hP1
  have k2 := hk p e R s m args below meth c H1 locs (cells + 1) (slots + x.toNatClampNeg) cF sF ls Q C hfr hlo hcF hsF hP1 hS1 hl (by simp only [List.length_append, List.length_singleton]; omega) (by simp only [List.length_append, List.length_singleton]; omega) (by rw [am_sl_new]; omega) kr
  rw [hn] at k2
  have k3 : W p l e R s m args below meth c H1 locs (cells + 1) (slots + x.toNatClampNeg) Q (F0 m (pc + 3) ls (.ref (am_ad E h.1.length) :: st.map (am_rv E))) := k2
  rw [am_ad_in (by omega)] at k3
  exact k3
theorem am_j_oinit {k o : Nat} (ok : am_okq M (pc, .invokespecial k, a, b, c0) cs = true) (hc4 : c0 = 4) (h8 : am_cats st ≤ 8) (hd : 0 < d) (hk : am_J l E D X d M cs L st h res) : am_J l E D X d M ((pc, .invokespecial k, a, b, c0) :: cs) L (.ref o :: st) h res := by
  intro p e R s m args below meth c H locs cells slots cF sF ls Q C hfr hlo hcF hsF hP hS hl hz hc1 hs1 kr
  have hdg := am_okq_d ok rfl
  have hn := am_okq_n ok rfl
  have hr := (am_okq_4 ok).2.2.2
  simp only [am_res, hc4] at hr
  have hr : am_OLp.any (fun q => q.1 == am_o M && q.2.1 == k) = true := hr
  obtain ⟨q, -, h2, h3⟩ := am_any hr am_OL_ok
  simp only [Bool.and_eq_true, beq_iff_eq, decide_eq_true_eq] at h2 h3
  have hlk : Cond.methodLink (am_cn (am_o M)) k objectInit ∈ am_tbl := by rw [← h2.1, ← h2.2]; exact am_in h3 rfl
  refine W.objInit C.1 C.2.1 C.2.2.2.2.2.1 (C.2.2.2.2.2.2.1 _ hlk) (C.2.2.2.2.2.2.1 _ (am_in am_w73 rfl)) (C.2.2.2.2.2.2.1 _ (am_in am_w74 rfl)) rfl (by rw [C.2.2.2.2.1]; exact hl.2.1) rfl hdg (by omega) (by
    show 2 * 0 + ((st.map (am_rv E)).map fun v => v.category).sum + 12 ≤ R.locals
    rw [am_cats_rv]
    omega) ?_
  have k2 := hk p e R s m args below meth c H locs cells slots cF sF ls Q C hfr hlo hcF hsF hP hS hl hz hc1 hs1 kr
  rw [hn] at k2
  exact k2
end AMN
-- a method's contract
def am_wsM (M : Nat) : List Cond := .code (am_y M) (am_b M) (am_L M) (am_r M) :: am_tbl
def am_PC (E : AmE) (D : va_G) (X : AmX) (as : List Value) (h : AmH) : Array Value → State → Prop := va_Pc (as.map (am_rv E)) (fun U => U.heap.size = E.1 + h.1.length ∧ va_P D am_cl (am_ws E h) U.heap ∧ va_K D am_cl (am_t3 E) U ∧ am_GL E X U)
def am_QC (E : AmE) (D : va_G) (q : Option Int32 × AmH) : Array Value → State → Outcome → State → Prop := fun _ st oc t => oc = .returned (q.1.map Value.int) ∧ va_P D am_cl (am_ws E q.2) t.heap ∧ va_F (am_A E) st t
theorem am_okN_of {a : Nat} (ha : a < 298) : plainFor (am_y a) = true ∧ ((am_y a).cls ≠ "java/lang/invoke/MethodHandle" ∧ (am_y a).cls ≠ "java/lang/invoke/VarHandle" ∧ (parseMethodDescriptor (am_y a).desc).map (fun d => d.parameters.length) = some (am_na a - (if am_ct a = 1 then 0 else 1))) ∧ (am_ct a = 2 → (am_y a).name = "<init>" ∧ am_kd a = 0) ∧ (am_ct a = 1 ∨ 1 ≤ am_na a) ∧ am_o a < 13 ∧ (am_ct a = 1 ∨ am_o a < 11) := by
  have h := am_ra am_okN_all ha
  simp only [am_okN, Bool.and_eq_true, Bool.or_eq_true, decide_eq_true_eq] at h
  obtain ⟨⟨⟨⟨⟨⟨⟨⟨h1, h2⟩, h3⟩, h4⟩, h5⟩, h6⟩, h7⟩, h8⟩, h9⟩ := h
  refine ⟨h1, ⟨h2, h3, h4⟩, fun hc => ?_, h7, h8, h9⟩
  rw [if_pos hc, Bool.and_eq_true, decide_eq_true_eq, decide_eq_true_eq] at h5
  exact h5
theorem am_okH_of {a : Nat} (ha : a < 299) : am_pc (am_P a) = 0 ∧ am_L a ≤ 45 ∧ am_na a ≤ am_L a ∧ am_Mi a = (am_L a, am_o a, am_kd a) ∧ am_r a = (if am_kd a = 0 then none else if am_kd a = 1 then some .int else some .boolean) ∧ am_cn (am_o a) = (am_y a).cls ∧ am_kd a < 3 := by
  have h := am_ra am_okH_all ha
  simp only [am_okH, Bool.and_eq_true, beq_iff_eq, decide_eq_true_eq] at h
  obtain ⟨⟨⟨⟨⟨⟨h1, h2⟩, h3⟩, h4⟩, h5⟩, h6⟩, h7⟩ := h
  refine ⟨?_, h2, h3, h4, h5, h6, h7⟩
  cases hP : am_P a with
  | nil => rfl
  | cons q r => rw [hP] at h1; simpa [am_pc] using h1
theorem am_okC_of {a : Nat} (ha : a < 298) : lw_tbl[(am_mp a).2.1]? = some (.code (am_y a) (am_b a) (am_L a) (am_r a)) := by
  rcases Nat.lt_or_ge a 50 with q | q
  · have := am_kc0 a q; rwa [Nat.zero_add] at this
  rcases Nat.lt_or_ge a 100 with q2 | q2
  · have := am_kc1 (a - 50) (by omega); rwa [show 50 + (a - 50) = a by omega] at this
  rcases Nat.lt_or_ge a 150 with q3 | q3
  · have := am_kc2 (a - 100) (by omega); rwa [show 100 + (a - 100) = a by omega] at this
  rcases Nat.lt_or_ge a 200 with q4 | q4
  · have := am_kc3 (a - 150) (by omega); rwa [show 150 + (a - 150) = a by omega] at this
  rcases Nat.lt_or_ge a 250 with q5 | q5
  · have := am_kc4 (a - 200) (by omega); rwa [show 200 + (a - 200) = a by omega] at this
  · have := am_kc5 (a - 250) (by omega); rwa [show 250 + (a - 250) = a by omega] at this
theorem am_MP_of {a : Nat} (ha : a < 298) : Cond.code (am_y a) (am_b a) (am_L a) (am_r a) ∈ am_tbl ∧ (am_ct a = 1 → Cond.static (am_y a) ∈ am_tbl) ∧ (am_ct a ≠ 1 → Cond.instanceMethod (am_y a) ∈ am_tbl) ∧ (am_ct a = 0 → Cond.selects (am_cn (am_o a)) (am_y a) (am_y a) ∈ am_tbl) := by
  have h3 := am_okC_of ha
  have h4 := am_ra am_okS_all ha
  simp only [am_okS, Bool.and_eq_true, decide_eq_true_eq] at h4
  obtain ⟨h4, h5⟩ := h4
  refine ⟨am_in h3 rfl, fun hc => ?_, fun hc => ?_, fun hc => ?_⟩
  · rw [if_pos hc] at h4
    exact am_in h4 rfl
  · rw [if_neg hc] at h4
    exact am_in h4 rfl
  · rw [if_pos hc, decide_eq_true_eq] at h5
    exact am_in h5 rfl
theorem am_goodIn {a : Nat} (ha : a < 298) : GoodIn am_tbl (am_wsM a) := by
  have hg : ∀ w ∈ am_tbl, goodWord w = true := fun w hw => (List.mem_filter.mp hw).2
  intro w hw
  rcases List.mem_cons.mp hw with rfl | hw
  · exact ⟨(am_MP_of ha).1, good_of_word (hg _ (am_MP_of ha).1)⟩
  · exact ⟨hw, good_of_word (hg _ hw)⟩
theorem am_met {l : Launch} {E : AmE} {D : va_G} {X : AmX} {a d : Nat} {as : List Value} {h : AmH} {q : Option Int32 × AmH} (ha : a < 298) (hcat : ∀ w ∈ as, w.category = 1) (hlen : as.length = am_na a) (mo : h.1.length ≤ q.2.1.length ∧ am_sl h ≤ am_sl q.2) (hJ : am_J l E D X d a (am_P a) (am_ini (am_L a) as) [] h q) :
    Met l (am_y a) (am_wsM a) { frames := d, cells := q.2.1.length - h.1.length, slots := am_sl q.2 - am_sl h, locals := 64 * d } (am_PC E D X as h) (am_QC E D q) (q.2.1.length - h.1.length) (am_sl q.2 - am_sl h) (am_A E) := by
  obtain ⟨h1, h2, h3, h4, h5, h6, h7⟩ := am_okH_of (show a < 299 by omega)
  obtain ⟨n1, n2, n3, n4, n5, n6⟩ := am_okN_of ha
  refine va_MetF (cc := am_b a) (maxL := am_L a) (ret := am_r a) n1 rfl ?_
  intro p e s m args below meth c s₁ B hml hv
  obtain ⟨rfl, hsz, hP, hK, hG⟩ := hv
  obtain ⟨ls, e1, hl⟩ := am_entry (E := E) (m := m) hcat (show as.length ≤ am_L a by omega)
  rw [e1]
  have hts := atoms_spec (ws := am_wsM a) B.pre
  have hown : s.vm.findClass (am_cn (am_o a)) = some m.cls := by rw [h6]; exact findClass_of_methodNamed B.named
  have hin : am_ct a = 2 → meth.name = "<init>" := fun hc => by rw [(name_of_methodNamed B.named B.method).1]; exact (n3 hc).1
  have k2 := hJ p e (headSpec (am_wsM a) { frames := d, cells := q.2.1.length - h.1.length, slots := am_sl q.2 - am_sl h, locals := 64 * d }).room s m (as.map (am_rv E)).toArray below meth c s.heap [] 0 0 (q.2.1.length - h.1.length) (am_sl q.2 - am_sl h) ls (MQ below (am_QC E D q) (as.map (am_rv E)).toArray s (q.2.1.length - h.1.length) (am_sl q.2 - am_sl h) (am_A E))
    ⟨B.exec, B.bytes, B.returns, B.notSynchronized, hml, hown, fun w hw => hts w (List.mem_cons_of_mem _ hw), hK, hG, hin, by omega⟩ (Nat.le_refl _) (Nat.le_refl _) (Nat.le_refl _) (Nat.le_refl _) hP va_S.rf hl (by omega) (by omega) (by omega) (by
      intro H1 locs1 pc1 ls1 hP1 hS1
      have hx := B.exec
      have hb := B.bytes
      have hr := B.returns
      have hlocks := B.notSynchronized
      refine ⟨fun v hv hdg hkd => ?_, fun hv hdg hkd => ?_⟩
      · rcases hkd with hkd | ⟨hkd, hv2⟩
        · have hr2 : meth.sig.returnType = some .int := by rw [hr, h5, if_neg (by omega), if_pos hkd]
          exact W.iret (v := v) hx hb hr2 (fun t ht hW => ⟨by rw [hv]; rfl, by rw [ht]; exact hP1, hS1.F ht⟩) hS1.2.2 hdg
        · have hr2 : meth.sig.returnType = some .boolean := by rw [hr, h5, if_neg (by omega), if_neg (by omega)]
          exact W.zret (v := v) (ty := .boolean) hx hb hr2 (by rcases hv2 with rfl | rfl <;> decide) (fun t ht hW => ⟨by rw [hv]; rfl, by rw [ht]; exact hP1, hS1.F ht⟩) hS1.2.2 hdg
      · have hr2 : meth.sig.returnType = none := by rw [hr, h5, if_pos hkd]
        exact W.vret hx hb hr2 (fun t ht hW => ⟨by rw [hv]; rfl, by rw [ht]; exact hP1, hS1.F ht⟩) hS1.2.2 hdg)
  rw [h1] at k2
  exact k2
section AMC
variable {l : Launch} {E : AmE} {D : va_G} {X : AmX} {d M : Nat} {cs : AmCd} {L : List Value} {h : AmH} {res : Option Int32 × AmH}
theorem am_blind {as : List Value} : FrameBlind (am_PC E D X as h) := fun a U g mk q => by
  obtain ⟨q0, q1, qP, qK, qG⟩ := q
  exact ⟨q0, q1, qP, va_K.moved (u := U) (U := U.calling g mk a) (Vm.Alike.refl U.vm) qK, ⟨fun e n f hx => ⟨(qG.1 e n f hx).1.moved (U := U.calling g mk a) (Vm.Alike.refl U.vm), (qG.1 e n f hx).2⟩, qG.2.1.moved (U := U.calling g mk a) (Vm.Alike.refl U.vm), qG.2.2.1.moved (U := U.calling g mk a) (Vm.Alike.refl U.vm), qG.2.2.2.1.moved (U := U.calling g mk a) (Vm.Alike.refl U.vm), fun q hq => va_Nw.same (U := U.calling g mk a) rfl rfl (qG.2.2.2.2 q hq)⟩⟩
theorem am_after {p : Program} {e : Env} {R : Room} {s : State} {m : MethodId} {args : Array Value} {below : List Frame} {meth : Method} {c : Code} {H : Heap} {locs : List Loc} {cells slots cF sF pc : Nat} {ls : Array Slot} {Q : State → Prop} {st0 rest : List Value} {arr : Array Value} {q : Option Int32 × AmH}
    (mo : h.1.length ≤ q.2.1.length ∧ am_sl h ≤ am_sl q.2) (mo2 : q.2.1.length ≤ res.2.1.length ∧ am_sl q.2 ≤ am_sl res.2)
    (hr : va_Run p l e R s m args below meth c H locs cells slots (q.2.1.length - h.1.length) (am_sl q.2 - am_sl h) (F0 m pc ls st0) (rest.map (am_rv E)) (am_QC E D q arr) (am_A E)) (hk : am_J l E D X d M cs L (am_push q.1 rest) q.2 res) (hn : am_pc cs = pc + 3)
    (C : am_CX E D X M p s m args meth c) (hfr : d ≤ R.frames) (hlo : 64 * d ≤ R.locals) (hcF : cF ≤ R.cells) (hsF : sF ≤ R.slots) (hS : va_S (am_A E) s.heap H locs) (hl : am_lr E ls (am_L M) L) (hz : s.heap.size + cells = E.1 + h.1.length) (hc1 : cells + res.2.1.length = cF + h.1.length) (hs1 : slots + am_sl res.2 = sF + am_sl h)
    (kr : ∀ (H1 : Heap) (locs1 : List Loc) (pc1 : Nat) (ls1 : Array Slot), va_P D am_cl (am_ws E res.2) H1 → va_S (am_A E) s.heap H1 locs1 →
      (∀ v, res.1 = some v → decode (am_b M) pc1 = .ok (.ireturn, 1) → (am_kd M = 1 ∨ (am_kd M = 2 ∧ (v = 0 ∨ v = 1))) → W p l e R s m args below meth c H1 locs1 cF sF Q (F0 m pc1 ls1 [.int v])) ∧
      (res.1 = none → decode (am_b M) pc1 = .ok (.return_, 1) → am_kd M = 0 → W p l e R s m args below meth c H1 locs1 cF sF Q (F0 m pc1 ls1 []))) :
    W p l e R s m args below meth c H locs cells slots Q (F0 m pc ls st0) := by
  refine am_aft hr (fun v st1 t H1 Lc e1 hq e2 hL => ?_)
  obtain ⟨hv, hP1, hF⟩ := hq
  have hv : v = q.1.map Value.int := by injection hv
  subst hv
  subst e2
  have hS1 : va_S (am_A E) s.heap t.heap (locs ++ Lc) := by
    refine ⟨Nat.le_trans hS.1 (by rw [← e1]; exact hF.1), fun x hx hA => ?_, fun x hx => (List.mem_append.mp hx).elim (hS.2.2 x) (hL x)⟩
    rw [hF.2 x (by rw [e1]; exact Nat.lt_of_lt_of_le hx hS.1) hA, e1]
    exact hS.2.1 x hx hA
  have k2 := hk p e R s m args below meth c t.heap (locs ++ Lc) (cells + (q.2.1.length - h.1.length)) (slots + (am_sl q.2 - am_sl h)) cF sF ls Q C hfr hlo hcF hsF hP1 hS1 hl (by omega) (by omega) (by omega) kr
  rw [hn] at k2
  have he : (am_push q.1 rest).map (am_rv E) = (q.1.map Value.int).toList ++ rest.map (am_rv E) := by cases q.1 <;> rfl
  rw [he] at k2
  exact k2
theorem am_pre {as : List Value} {p : Program} {s : State} {m : MethodId} {args : Array Value} {meth : Method} {c : Code} {H : Heap} {locs : List Loc} {cells : Nat} (C : am_CX E D X M p s m args meth c) (hP : va_P D am_cl (am_ws E h) H) (hS : va_S (am_A E) s.heap H locs) (hz : s.heap.size + cells = E.1 + h.1.length) (hsz : H.size ≤ s.heap.size + cells) :
    ∀ U : State, U.heap = H → s.WarmedH U.vm → am_PC E D X as h (as.map (am_rv E)).toArray U := by
  intro U hU hW
  have hb := C.2.2.2.2.2.2.2.2.2.2
  have h1 := am_lenH hP (Nat.le_trans hb hS.1)
  exact ⟨rfl, by rw [hU]; omega, by rw [hU]; exact hP, va_K.moved hW.alike C.2.2.2.2.2.2.2.1, C.2.2.2.2.2.2.2.2.1.go hb hS hU hW⟩
theorem am_j_callV {k pc a b c0 o : Nat} {as rest : List Value} {q : Option Int32 × AmH} (ok : am_okq M (pc, .invokevirtual k, a, b, c0) cs = true) (ha : a < 298) (hn1 : am_na a = b) (hct : am_ct a = 0) (hml : Cond.methodLink (am_cn (am_o M)) k (am_y a) ∈ am_tbl) (hlen : as.length + 1 = b) (h8 : am_cats rest ≤ 8) (ho : am_is h o (am_o a + 3) = true) (hcls : am_o a < 11) (hcat : ∀ w ∈ Value.ref o :: as, w.category = 1)
    (mo : h.1.length ≤ q.2.1.length ∧ am_sl h ≤ am_sl q.2) (mo2 : q.2.1.length ≤ res.2.1.length ∧ am_sl q.2 ≤ am_sl res.2) (hJ : am_J l E D X d a (am_P a) (am_ini (am_L a) (.ref o :: as)) [] h q) (hk : am_J l E D X (d + 1) M cs L (am_push q.1 rest) q.2 res) :
    am_J l E D X (d + 1) M ((pc, .invokevirtual k, a, b, c0) :: cs) L (as.reverse ++ .ref o :: rest) h res := by
  intro p e R s m args below meth c H locs cells slots cF sF ls Q C hfr hlo hcF hsF hP hS hl hz hc1 hs1 kr
  have hdg := am_okq_d ok rfl
  have hn := am_okq_n ok rfl
  obtain ⟨h1, h2, h3, h4, h5, h6, h7⟩ := am_okH_of (show a < 299 by omega)
  obtain ⟨n1, n2, n3, n4, n5, n6⟩ := am_okN_of ha
  obtain ⟨p1, p2, p3, p4⟩ := am_MP_of ha
  obtain ⟨o1, n, o2⟩ := am_is_of ho
  have hM := am_met ha hcat (by simp only [List.length_cons]; omega) mo hJ
  have hts := C.2.2.2.2.2.2.1
  refine am_sz (fun hsz => ?_)
  have hini : (Cond.initialized (am_y a).cls).before args s = true := by rw [← h6]; exact hts _ (am_cls_ini (by omega))
  have hcw : CallW R s args (am_cn (am_o M)) (am_cn (am_o a)) k (am_y a) (am_b a) (am_L a) (am_r a) (am_wsM a) { frames := d, cells := q.2.1.length - h.1.length, slots := am_sl q.2 - am_sl h, locals := 64 * d } (q.2.1.length - h.1.length) (am_sl q.2 - am_sl h) (am_na a - (if am_ct a = 1 then 0 else 1)) :=
    ⟨callB_of _ hts (am_goodIn ha) rfl rfl rfl hini (hts _ hml) n2 ⟨hfr, by show 8 + (am_L a + 11) + 64 * d ≤ R.locals; omega⟩, hts _ (p3 (by omega)), hts _ (p4 hct)⟩
  have hrecv : ∃ cellB : Cell, H[am_ad E o]? = some cellB ∧ cellB.vm.isStatics = false ∧ s.vm.findClass (am_cn (am_o a)) = some cellB.cls := by
    rw [am_ad_in o1]
    exact va_recv C.2.2.2.2.2.2.2.1 hP (am_cl_at hcls) (am_ob o2)
  have hpre := am_pre (as := .ref o :: as) C hP hS hz hsz
  refine am_after (q := q) mo mo2 (va_runV (As := as.map (am_rv E)) (b := am_ad E o) (rest := rest.map (am_rv E)) (nL := am_L M) ⟨C.1, C.2.1, C.2.2.2.2.1, C.2.2.2.2.2.1, hts⟩ hM hcw ⟨am_blind, hrecv, hpre⟩ rfl (by rw [List.length_map, if_neg (by omega)]; omega) hl.2.1 (by show List.map _ _ = _; rw [List.map_append, List.map_reverse, List.map_cons]; rfl) (lv_room (by rw [am_cats_rv]; exact h8)) hdg ⟨by omega, by omega⟩) hk hn C hfr hlo hcF hsF hS hl hz hc1 hs1 kr
theorem am_j_callS {k pc a b c0 : Nat} {as rest : List Value} {q : Option Int32 × AmH} (ok : am_okq M (pc, .invokestatic k, a, b, c0) cs = true) (ha : a < 298) (hn1 : am_na a = b) (hct : am_ct a = 1) (hml : Cond.methodLink (am_cn (am_o M)) k (am_y a) ∈ am_tbl) (hlen : as.length = b) (h8 : am_cats rest ≤ 8) (hcls : am_o a < 13) (hcat : ∀ w ∈ as, w.category = 1)
    (mo : h.1.length ≤ q.2.1.length ∧ am_sl h ≤ am_sl q.2) (mo2 : q.2.1.length ≤ res.2.1.length ∧ am_sl q.2 ≤ am_sl res.2) (hJ : am_J l E D X d a (am_P a) (am_ini (am_L a) as) [] h q) (hk : am_J l E D X (d + 1) M cs L (am_push q.1 rest) q.2 res) :
    am_J l E D X (d + 1) M ((pc, .invokestatic k, a, b, c0) :: cs) L (as.reverse ++ rest) h res := by
  intro p e R s m args below meth c H locs cells slots cF sF ls Q C hfr hlo hcF hsF hP hS hl hz hc1 hs1 kr
  have hdg := am_okq_d ok rfl
  have hn := am_okq_n ok rfl
  obtain ⟨h1, h2, h3, h4, h5, h6, h7⟩ := am_okH_of (show a < 299 by omega)
  obtain ⟨n1, n2, n3, n4, n5, n6⟩ := am_okN_of ha
  obtain ⟨p1, p2, p3, p4⟩ := am_MP_of ha
  have hM := am_met ha hcat (by omega) mo hJ
  have hts := C.2.2.2.2.2.2.1
  refine am_sz (fun hsz => ?_)
  have hini : (Cond.initialized (am_y a).cls).before args s = true := by rw [← h6]; exact hts _ (am_cls_ini hcls)
  have hcw := callB_of (R := R) (own := am_cn (am_o M)) (index := k) (rm := { frames := d, cells := q.2.1.length - h.1.length, slots := am_sl q.2 - am_sl h, locals := 64 * d }) _ hts (am_goodIn ha) rfl rfl rfl hini (hts _ hml) n2 ⟨hfr, by show 8 + (am_L a + 11) + 64 * d ≤ R.locals; omega⟩
  have hpre := am_pre (as := as) C hP hS hz hsz
  refine am_after (q := q) mo mo2 (va_runS (As := as.map (am_rv E)) (rest := rest.map (am_rv E)) (nL := am_L M) ⟨C.1, C.2.1, C.2.2.2.2.1, C.2.2.2.2.2.1, hts⟩ hM ⟨hcw, hts _ (p2 hct)⟩ ⟨am_blind, hpre⟩ rfl (by rw [List.length_map, if_pos hct]; omega) hl.2.1 (by show List.map _ _ = _; rw [List.map_append, List.map_reverse]) (lv_room (by rw [am_cats_rv]; exact h8)) hdg ⟨by omega, by omega⟩) hk hn C hfr hlo hcF hsF hS hl hz hc1 hs1 kr
theorem am_j_callI {k pc a b c0 o : Nat} {as rest : List Value} {q : Option Int32 × AmH} (ok : am_okq M (pc, .invokespecial k, a, b, c0) cs = true) (ha : a < 298) (hn1 : am_na a = b) (hct : am_ct a = 2) (hml : Cond.methodLink (am_cn (am_o M)) k (am_y a) ∈ am_tbl ∨ ∃ host, (am_o M, k, a, host) ∈ am_NLp.map (fun q => (q.1, q.2.1, q.2.2.1, q.2.2.2.1))) (hlen : as.length + 1 = b) (h8 : am_cats rest ≤ 8) (hcls : am_o a < 13) (hcat : ∀ w ∈ Value.ref o :: as, w.category = 1)
    (mo : h.1.length ≤ q.2.1.length ∧ am_sl h ≤ am_sl q.2) (mo2 : q.2.1.length ≤ res.2.1.length ∧ am_sl q.2 ≤ am_sl res.2) (hJ : am_J l E D X d a (am_P a) (am_ini (am_L a) (.ref o :: as)) [] h q) (hk : am_J l E D X (d + 1) M cs L (am_push q.1 rest) q.2 res) :
    am_J l E D X (d + 1) M ((pc, .invokespecial k, a, b, c0) :: cs) L (as.reverse ++ .ref o :: rest) h res := by
  intro p e R s m args below meth c H locs cells slots cF sF ls Q C hfr hlo hcF hsF hP hS hl hz hc1 hs1 kr
  have hdg := am_okq_d ok rfl
  have hn := am_okq_n ok rfl
  obtain ⟨h1, h2, h3, h4, h5, h6, h7⟩ := am_okH_of (show a < 299 by omega)
  obtain ⟨n1, n2, n3, n4, n5, n6⟩ := am_okN_of ha
  obtain ⟨p1, p2, p3, p4⟩ := am_MP_of ha
  have hM := am_met ha hcat (by simp only [List.length_cons]; omega) mo hJ
  have hts := C.2.2.2.2.2.2.1
  refine am_sz (fun hsz => ?_)
  have hini : (Cond.initialized (am_y a).cls).before args s = true := by rw [← h6]; exact hts _ (am_cls_ini hcls)
  have hret : am_r a = none := by rw [h5, if_pos (n3 hct).2]
  have hwM : am_wsM a = Cond.code (am_y a) (am_b a) (am_L a) none :: am_tbl := by rw [am_wsM, hret]
  have hpre := am_pre (as := .ref o :: as) C hP hS hz hsz
  rcases hml with hml | ⟨host, hml⟩
  · have hcw := callB_of (R := R) (own := am_cn (am_o M)) (index := k) (rm := { frames := d, cells := q.2.1.length - h.1.length, slots := am_sl q.2 - am_sl h, locals := 64 * d }) _ hts (am_goodIn ha) hwM rfl rfl hini (hts _ hml) n2 ⟨hfr, by show 8 + (am_L a + 11) + 64 * d ≤ R.locals; omega⟩
    refine am_after (q := q) mo mo2 (va_runI (As := as.map (am_rv E)) (b := am_ad E o) (rest := rest.map (am_rv E)) (nL := am_L M) ⟨C.1, C.2.1, C.2.2.2.2.1, C.2.2.2.2.2.1, hts⟩ hM ⟨hcw, (n3 hct).1, hts _ (p3 (by omega))⟩ ⟨am_blind, hpre⟩ rfl (by rw [List.length_map, if_neg (by omega)]; omega) hl.2.1 (by show List.map _ _ = _; rw [List.map_append, List.map_reverse, List.map_cons]; rfl) (lv_room (by rw [am_cats_rv]; exact h8)) hdg ⟨by omega, by omega⟩) hk hn C hfr hlo hcF hsF hS hl hz hc1 hs1 kr
  · obtain ⟨q0, hq0, hq1⟩ := List.mem_map.mp hml
    have hnw := C.2.2.2.2.2.2.2.2.1.2.2.2.2 q0 hq0
    simp only [Prod.mk.injEq] at hq1
    obtain ⟨e1, e2, e3, e4⟩ := hq1
    rw [e1, e2, e3, e4] at hnw
    have hcw := va_cnB (R := R) (own := am_cn (am_o M)) (index := k) (host := host) (rm := { frames := d, cells := q.2.1.length - h.1.length, slots := am_sl q.2 - am_sl h, locals := 64 * d }) _ hts (am_goodIn ha) hwM rfl rfl hnw hini n2 ⟨hfr, by show 8 + (am_L a + 11) + 64 * d ≤ R.locals; omega⟩
    refine am_after (q := q) mo mo2 (va_runIN (As := as.map (am_rv E)) (b := am_ad E o) (rest := rest.map (am_rv E)) (nL := am_L M) ⟨C.1, C.2.1, C.2.2.2.2.1, C.2.2.2.2.2.1, hts⟩ hM ⟨hcw, (n3 hct).1, hts _ (p3 (by omega))⟩ ⟨am_blind, hpre⟩ rfl (by rw [List.length_map, if_neg (by omega)]; omega) hl.2.1 (by show List.map _ _ = _; rw [List.map_append, List.map_reverse, List.map_cons]; rfl) (lv_room (by rw [am_cats_rv]; exact h8)) hdg ⟨by omega, by omega⟩) hk hn C hfr hlo hcF hsF hS hl hz hc1 hs1 kr
end AMC
end
section
/-! a run of the small machine is a run of the Java machine -/
theorem am_1i_el {α : Type} {st : List Value} {k : Int32 → List Value → Option α} {r : α} (H : am_1i st k = some r) : ∃ x t, st = .int x :: t ∧ k x t = some r := by
  unfold am_1i at H
  split at H
  · exact ⟨_, _, rfl, H⟩
  · cases H
theorem am_2i_el {α : Type} {st : List Value} {k : Int32 → Int32 → List Value → Option α} {r : α} (H : am_2i st k = some r) : ∃ x y t, st = .int y :: .int x :: t ∧ k x y t = some r := by
  unfold am_2i at H
  split at H
  · exact ⟨_, _, _, rfl, H⟩
  · cases H
theorem am_1r_el {α : Type} {st : List Value} {k : Nat → List Value → Option α} {r : α} (H : am_1r st k = some r) : ∃ x t, st = .ref x :: t ∧ k x t = some r := by
  unfold am_1r at H
  split at H
  · exact ⟨_, _, rfl, H⟩
  · cases H
theorem am_ia_el {α : Type} {st : List Value} {k : Nat → Int32 → List Value → Option α} {r : α} (H : am_ia st k = some r) : ∃ x j t, st = .int j :: .ref x :: t ∧ k x j t = some r := by
  unfold am_ia at H
  split at H
  · exact ⟨_, _, _, rfl, H⟩
  · cases H
theorem am_iia_el {α : Type} {st : List Value} {k : Nat → Int32 → Int32 → List Value → Option α} {r : α} (H : am_iia st k = some r) : ∃ o j x t, st = .int x :: .int j :: .ref o :: t ∧ k o j x t = some r := by
  unfold am_iia at H
  split at H
  · exact ⟨_, _, _, _, rfl, H⟩
  · cases H
theorem am_ir_el {α : Type} {st : List Value} {k : Nat → Int32 → List Value → Option α} {r : α} (H : am_ir st k = some r) : ∃ o x t, st = .int x :: .ref o :: t ∧ k o x t = some r := by
  unfold am_ir at H
  split at H
  · exact ⟨_, _, _, rfl, H⟩
  · cases H
theorem am_rr_el {α : Type} {st : List Value} {k : Nat → Nat → List Value → Option α} {r : α} (H : am_rr st k = some r) : ∃ o v t, st = .ref v :: .ref o :: t ∧ k o v t = some r := by
  unfold am_rr at H
  split at H
  · exact ⟨_, _, _, rfl, H⟩
  · cases H
theorem am_ria_el {α : Type} {st : List Value} {k : Nat → Int32 → Nat → List Value → Option α} {r : α} (H : am_ria st k = some r) : ∃ o j v t, st = .ref v :: .int j :: .ref o :: t ∧ k o j v t = some r := by
  unfold am_ria at H
  split at H
  · exact ⟨_, _, _, _, rfl, H⟩
  · cases H
theorem am_1v_el {α : Type} {st : List Value} {k : Option Nat → List Value → Option α} {r : α} (H : am_1v st k = some r) : ∃ x t, st = va_rf x :: t ∧ k x t = some r := by
  unfold am_1v at H
  split at H
  · exact ⟨some _, _, rfl, H⟩
  · exact ⟨none, _, rfl, H⟩
  · cases H
theorem am_li_el {α : Type} {L : List Value} {i : Nat} {k : Int32 → Option α} {r : α} (H : am_li L i k = some r) : ∃ x, L[i]? = some (.int x) ∧ k x = some r := by
  unfold am_li at H
  split at H
  · exact ⟨_, by assumption, H⟩
  · cases H
theorem am_la_el {α : Type} {L : List Value} {i : Nat} {k : Option Nat → Option α} {r : α} (H : am_la L i k = some r) : ∃ x, L[i]? = some (va_rf x) ∧ k x = some r := by
  unfold am_la at H
  split at H
  · exact ⟨some _, by assumption, H⟩
  · exact ⟨none, by assumption, H⟩
  · cases H
theorem am_st_el {α : Type} {L : List Value} {i : Nat} {v : Value} {k : List Value → Option α} {r : α} (H : am_st L i v k = some r) : i < L.length ∧ k (L.set i v) = some r := by
  unfold am_st at H
  split at H
  · exact ⟨by assumption, H⟩
  · cases H
theorem am_at_suf (C : AmCd) (pc : Nat) : ∃ i, am_at C pc = C.drop i := by
  unfold am_at
  induction C with
  | nil => exact ⟨0, rfl⟩
  | cons q C ih =>
    by_cases hq : (!(q.1 == pc)) = true
    · obtain ⟨i, hi⟩ := ih
      refine ⟨i + 1, ?_⟩
      rw [List.dropWhile_cons, if_pos hq, hi]
      rfl
    · refine ⟨0, ?_⟩
      rw [List.dropWhile_cons, if_neg hq]
      rfl
theorem am_at_pc {C : AmCd} {pc : Nat} (h : am_at C pc ≠ []) : am_pc (am_at C pc) = pc := by
  unfold am_at at h ⊢
  induction C with
  | nil => exact absurd rfl h
  | cons q C ih =>
    by_cases hq : (!(q.1 == pc)) = true
    · rw [List.dropWhile_cons, if_pos hq] at h ⊢
      exact ih h
    · rw [List.dropWhile_cons, if_neg hq]
      simpa [am_pc] using hq
theorem am_nil {P : Nat → AmCd} {Mi : Nat → Nat × Nat × Nat} {Nf : Nat → Nat} {X : AmX} {n d M : Nat} {cs : AmCd} {L st : List Value} {h : AmH} {res : Option Int32 × AmH} (H : am_ex P Mi Nf X n d M cs L st h = some res) : cs ≠ [] := by
  rintro rfl
  cases n <;> cases H
def am_OKM (M : Nat) : Prop := ∀ (i : Nat) (q : Nat × Instr × Nat × Nat × Nat) (cs : AmCd), (am_P M).drop i = q :: cs → am_okq M q cs = true
abbrev am_C1 (st : List Value) : Prop := ∀ w ∈ st, w.category = 1
theorem am_c1 {v : Value} {st : List Value} (h : v.category = 1) (hs : am_C1 st) : am_C1 (v :: st) := fun w hw => (List.mem_cons.mp hw).elim (fun e => e ▸ h) (hs w)
theorem am_ctl {v : Value} {st : List Value} (hs : am_C1 (v :: st)) : am_C1 st := fun w hw => hs w (List.mem_cons_of_mem _ hw)
theorem am_crf (x : Option Nat) : (va_rf x).category = 1 := by cases x <;> rfl
theorem am_cpush {v : Option Int32} {st : List Value} (hs : am_C1 st) : am_C1 (am_push v st) := by
  cases v
  · exact hs
  · exact am_c1 rfl hs
theorem am_rcv0 {h : AmH} {k : Nat} {as : List Value} (H : am_rcv h 0 k as = true) : ∃ o r, as = .ref o :: r ∧ am_is h o (k + 3) = true := by
  unfold am_rcv at H
  simp only at H
  split at H
  · exact ⟨_, _, rfl, H⟩
  · cases H
theorem am_rcv2 {h : AmH} {k : Nat} {as : List Value} (H : am_rcv h 2 k as = true) : ∃ o r, as = .ref o :: r := by
  unfold am_rcv at H
  simp only at H
  split at H
  · exact ⟨_, _, rfl⟩
  · cases H
theorem am_ML_use {own idx a : Nat} (h : am_MLp.any (fun q => q.1 == own && q.2.1 == idx && q.2.2.1 == a) = true) : Cond.methodLink (am_cn own) idx (am_y a) ∈ am_tbl := by
  obtain ⟨q, -, h2, h3⟩ := am_any h am_ML_ok
  simp only [Bool.and_eq_true, beq_iff_eq, decide_eq_true_eq] at h2 h3
  obtain ⟨⟨rfl, rfl⟩, rfl⟩ := h2
  exact am_in h3 rfl
theorem am_NL_use {own idx a : Nat} (h : am_NLp.any (fun q => q.1 == own && q.2.1 == idx && q.2.2.1 == a) = true) : ∃ host, (own, idx, a, host) ∈ am_NLp.map (fun q => (q.1, q.2.1, q.2.2.1, q.2.2.2.1)) := by
  obtain ⟨q, h1, h2⟩ := List.any_eq_true.mp h
  simp only [Bool.and_eq_true, beq_iff_eq] at h2
  obtain ⟨⟨rfl, rfl⟩, rfl⟩ := h2
  exact ⟨q.2.2.2.1, List.mem_map.mpr ⟨q, h1, rfl⟩⟩
theorem am_split {st as : List Value} {b o : Nat} (h : (st.take b).reverse = .ref o :: as) : st = as.reverse ++ .ref o :: st.drop b := by
  have h1 : st.take b = as.reverse ++ [.ref o] := by
    rw [← List.reverse_reverse (st.take b), h, List.reverse_cons]
  have h2 : as.reverse ++ .ref o :: st.drop b = st.take b ++ st.drop b := by rw [h1, List.append_assoc]; rfl
  rw [h2, List.take_append_drop]
set_option maxHeartbeats 4000000 in
set_option maxRecDepth 100000 in
theorem am_sound (l : Launch) (E : AmE) (D : va_G) (X : AmX) (hOK : ∀ k, k < 299 → am_OKM k) : ∀ (n d M : Nat) (cs : AmCd) (L st : List Value) (h : AmH) (res : Option Int32 × AmH), am_ex am_P am_Mi am_Nf X n d M cs L st h = some res → M < 299 → (∃ i, cs = (am_P M).drop i) → am_C1 st → (h.1.length ≤ res.2.1.length ∧ am_sl h ≤ am_sl res.2) ∧ am_J l E D X d M cs L st h res := by
  intro n
  induction n with
  | zero =>
    intro d M cs L st h res H
    cases H
  | succ n ih =>
    intro d M cs L st h res H hM hsuf hst
    cases cs with
    | nil => exact absurd rfl (am_nil H)
    | cons q cs =>
    obtain ⟨pc, i, a, b, c0⟩ := q
    obtain ⟨j, hj⟩ := hsuf
    have ok := hOK M hM j _ cs hj.symm
    have hsuf : ∃ i, cs = (am_P M).drop i := ⟨j + 1, by rw [← List.tail_drop, ← hj]; rfl⟩
    cases i
    case iload k =>
      have H : (am_li L k fun x => am_ex am_P am_Mi am_Nf X n d M cs L (.int x :: st) h) = some res := H
      obtain ⟨x, hL, H⟩ := am_li_el H
      have r := ih d M cs L (.int x :: st) h res H hM hsuf (am_c1 rfl hst)
      exact ⟨r.1, am_j_iload ok hL r.2⟩
    case iload_n k =>
      have H : (am_li L k.val fun x => am_ex am_P am_Mi am_Nf X n d M cs L (.int x :: st) h) = some res := H
      obtain ⟨x, hL, H⟩ := am_li_el H
      have r := ih d M cs L (.int x :: st) h res H hM hsuf (am_c1 rfl hst)
      exact ⟨r.1, am_j_iload_n ok hL r.2⟩
    case aload k =>
      have H : (am_la L k fun x => am_ex am_P am_Mi am_Nf X n d M cs L (va_rf x :: st) h) = some res := H
      obtain ⟨x, hL, H⟩ := am_la_el H
      have r := ih d M cs L (va_rf x :: st) h res H hM hsuf (am_c1 (am_crf x) hst)
      exact ⟨r.1, am_j_aload ok hL r.2⟩
    case aload_n k =>
      have H : (am_la L k.val fun x => am_ex am_P am_Mi am_Nf X n d M cs L (va_rf x :: st) h) = some res := H
      obtain ⟨x, hL, H⟩ := am_la_el H
      have r := ih d M cs L (va_rf x :: st) h res H hM hsuf (am_c1 (am_crf x) hst)
      exact ⟨r.1, am_j_aload_n ok hL r.2⟩
    case istore k =>
      have H : (am_1i st fun x r => am_st L k (.int x) fun L' => am_ex am_P am_Mi am_Nf X n d M cs L' r h) = some res := H
      obtain ⟨x, t, e0, H1⟩ := am_1i_el H
      subst e0
      have H := H1
      obtain ⟨hi, H⟩ := am_st_el H
      have r := ih d M cs (L.set k (.int x)) t h res H hM hsuf (am_ctl hst)
      exact ⟨r.1, am_j_istore ok hi r.2⟩
    case istore_n k =>
      have H : (am_1i st fun x r => am_st L k.val (.int x) fun L' => am_ex am_P am_Mi am_Nf X n d M cs L' r h) = some res := H
      obtain ⟨x, t, e0, H1⟩ := am_1i_el H
      subst e0
      have H := H1
      obtain ⟨hi, H⟩ := am_st_el H
      have r := ih d M cs (L.set k.val (.int x)) t h res H hM hsuf (am_ctl hst)
      exact ⟨r.1, am_j_istore_n ok hi r.2⟩
    case astore k =>
      have H : (am_1v st fun x r => am_st L k (va_rf x) fun L' => am_ex am_P am_Mi am_Nf X n d M cs L' r h) = some res := H
      obtain ⟨x, t, e0, H1⟩ := am_1v_el H
      subst e0
      have H := H1
      obtain ⟨hi, H⟩ := am_st_el H
      have r := ih d M cs (L.set k (va_rf x)) t h res H hM hsuf (am_ctl hst)
      exact ⟨r.1, am_j_astore ok hi r.2⟩
    case astore_n k =>
      have H : (am_1v st fun x r => am_st L k.val (va_rf x) fun L' => am_ex am_P am_Mi am_Nf X n d M cs L' r h) = some res := H
      obtain ⟨x, t, e0, H1⟩ := am_1v_el H
      subst e0
      have H := H1
      obtain ⟨hi, H⟩ := am_st_el H
      have r := ih d M cs (L.set k.val (va_rf x)) t h res H hM hsuf (am_ctl hst)
      exact ⟨r.1, am_j_astore_n ok hi r.2⟩
    case iconst v =>
      have H : (am_ex am_P am_Mi am_Nf X n d M cs L (.int (Int32.ofInt v) :: st) h) = some res := H
      have r := ih d M cs L (.int (Int32.ofInt v) :: st) h res H hM hsuf (am_c1 rfl hst)
      exact ⟨r.1, am_j_iconst ok r.2⟩
    case bipush v =>
      have H : (am_ex am_P am_Mi am_Nf X n d M cs L (.int (Int8.ofInt v).toInt32 :: st) h) = some res := H
      have r := ih d M cs L (.int ((Int8.ofInt v).toInt32) :: st) h res H hM hsuf (am_c1 rfl hst)
      exact ⟨r.1, am_j_bipush ok r.2⟩
    case sipush v =>
      have H : (am_ex am_P am_Mi am_Nf X n d M cs L (.int (Int16.ofInt v).toInt32 :: st) h) = some res := H
      have r := ih d M cs L (.int ((Int16.ofInt v).toInt32) :: st) h res H hM hsuf (am_c1 rfl hst)
      exact ⟨r.1, am_j_sipush ok r.2⟩
    case iinc k v =>
      have H : (am_li L k fun x => am_st L k (.int (x + Int32.ofInt v)) fun L' => am_ex am_P am_Mi am_Nf X n d M cs L' st h) = some res := H
      obtain ⟨x, hL, H⟩ := am_li_el H
      obtain ⟨-, H⟩ := am_st_el H
      have r := ih d M cs (L.set k (.int (x + Int32.ofInt v))) st h res H hM hsuf hst
      exact ⟨r.1, am_j_iinc ok hL r.2⟩
    case iadd =>
      have H : (am_2i st fun x y r => am_ex am_P am_Mi am_Nf X n d M cs L (.int (x + y) :: r) h) = some res := H
      obtain ⟨x, y, t, e0, H1⟩ := am_2i_el H
      subst e0
      have H := H1
      have r := ih d M cs L (.int (x + y) :: t) h res H hM hsuf (am_c1 rfl (am_ctl (am_ctl hst)))
      exact ⟨r.1, am_j_iadd ok r.2⟩
    case isub =>
      have H : (am_2i st fun x y r => am_ex am_P am_Mi am_Nf X n d M cs L (.int (x - y) :: r) h) = some res := H
      obtain ⟨x, y, t, e0, H1⟩ := am_2i_el H
      subst e0
      have H := H1
      have r := ih d M cs L (.int (x - y) :: t) h res H hM hsuf (am_c1 rfl (am_ctl (am_ctl hst)))
      exact ⟨r.1, am_j_isub ok r.2⟩
    case imul =>
      have H : (am_2i st fun x y r => am_ex am_P am_Mi am_Nf X n d M cs L (.int (x * y) :: r) h) = some res := H
      obtain ⟨x, y, t, e0, H1⟩ := am_2i_el H
      subst e0
      have H := H1
      have r := ih d M cs L (.int (x * y) :: t) h res H hM hsuf (am_c1 rfl (am_ctl (am_ctl hst)))
      exact ⟨r.1, am_j_imul ok r.2⟩
    case iand =>
      have H : (am_2i st fun x y r => am_ex am_P am_Mi am_Nf X n d M cs L (.int (x &&& y) :: r) h) = some res := H
      obtain ⟨x, y, t, e0, H1⟩ := am_2i_el H
      subst e0
      have H := H1
      have r := ih d M cs L (.int (x &&& y) :: t) h res H hM hsuf (am_c1 rfl (am_ctl (am_ctl hst)))
      exact ⟨r.1, am_j_iand ok r.2⟩
    case ixor =>
      have H : (am_2i st fun x y r => am_ex am_P am_Mi am_Nf X n d M cs L (.int (x ^^^ y) :: r) h) = some res := H
      obtain ⟨x, y, t, e0, H1⟩ := am_2i_el H
      subst e0
      have H := H1
      have r := ih d M cs L (.int (x ^^^ y) :: t) h res H hM hsuf (am_c1 rfl (am_ctl (am_ctl hst)))
      exact ⟨r.1, am_j_ixor ok r.2⟩
    case ishr =>
      have H : (am_2i st fun x y r => am_ex am_P am_Mi am_Nf X n d M cs L (.int (x >>> (y &&& 31)) :: r) h) = some res := H
      obtain ⟨x, y, t, e0, H1⟩ := am_2i_el H
      subst e0
      have H := H1
      have r := ih d M cs L (.int (x >>> (y &&& 31)) :: t) h res H hM hsuf (am_c1 rfl (am_ctl (am_ctl hst)))
      exact ⟨r.1, am_j_ishr ok r.2⟩
    case idiv =>
      have H : (am_2i st fun x y r => if y = 0 then none else am_ex am_P am_Mi am_Nf X n d M cs L (.int (x / y) :: r) h) = some res := H
      obtain ⟨x, y, t, e0, H1⟩ := am_2i_el H
      subst e0
      have H := H1
      by_cases hy : y = 0
      · simp only [hy, if_true] at H; cases H
      · simp only [hy, if_false] at H
        have r := ih d M cs L (.int (x / y) :: t) h res H hM hsuf (am_c1 rfl (am_ctl (am_ctl hst)))
        exact ⟨r.1, am_j_idiv ok hy r.2⟩
    case irem =>
      have H : (am_2i st fun x y r => if y = 0 then none else am_ex am_P am_Mi am_Nf X n d M cs L (.int (x - x / y * y) :: r) h) = some res := H
      obtain ⟨x, y, t, e0, H1⟩ := am_2i_el H
      subst e0
      have H := H1
      by_cases hy : y = 0
      · simp only [hy, if_true] at H; cases H
      · simp only [hy, if_false] at H
        have r := ih d M cs L (.int (x - x / y * y) :: t) h res H hM hsuf (am_c1 rfl (am_ctl (am_ctl hst)))
        exact ⟨r.1, am_j_irem ok hy r.2⟩
    case dup =>
      cases st with
      | nil => exact absurd (show (none : Option (Option Int32 × AmH)) = some res from H) (by simp)
      | cons v t =>
        cases v
        case int x =>
          have r := ih d M cs L (.int x :: .int x :: t) h res H hM hsuf (am_c1 rfl hst)
          exact ⟨r.1, am_j_dupi ok r.2⟩
        case ref x =>
          have r := ih d M cs L (.ref x :: .ref x :: t) h res H hM hsuf (am_c1 rfl hst)
          exact ⟨r.1, am_j_dupr ok r.2⟩
        all_goals exact absurd (show (none : Option (Option Int32 × AmH)) = some res from H) (by simp)
    case dup2 =>
      have H : (am_ia st fun x j r => am_ex am_P am_Mi am_Nf X n d M cs L (.int j :: .ref x :: .int j :: .ref x :: r) h) = some res := H
      obtain ⟨x, j2, t, e0, H1⟩ := am_ia_el H
      subst e0
      have H := H1
      have r := ih d M cs L (.int j2 :: .ref x :: .int j2 :: .ref x :: t) h res H hM hsuf (am_c1 rfl (am_c1 rfl hst))
      exact ⟨r.1, am_j_dup2 ok r.2⟩
    case goto o =>
      have H : (am_ex am_P am_Mi am_Nf X n d M (am_at (am_P M) (am_tg pc o)) L st h) = some res := H
      have r := ih d M (am_at (am_P M) (am_tg pc o)) L st h res H hM (am_at_suf _ _) hst
      exact ⟨r.1, am_j_goto ok (am_at_pc (am_nil H)) r.2⟩
    case ifCond cd o =>
      cases cd
      case eq =>
        have H : (am_1i st fun x r => if x = 0 then am_ex am_P am_Mi am_Nf X n d M (am_at (am_P M) (am_tg pc o)) L r h else am_ex am_P am_Mi am_Nf X n d M cs L r h) = some res := H
        obtain ⟨x, t, e0, H1⟩ := am_1i_el H
        subst e0
        have H := H1
        by_cases hc : x = 0
        · rw [if_pos hc] at H
          have r := ih d M (am_at (am_P M) (am_tg pc o)) L t h res H hM (am_at_suf _ _) (am_ctl hst)
          exact ⟨r.1, am_j_if_eq ok (fun _ => am_at_pc (am_nil H)) (fun _ => r.2) (fun q => absurd hc q)⟩
        · rw [if_neg hc] at H
          have r := ih d M cs L t h res H hM hsuf (am_ctl hst)
          exact ⟨r.1, am_j_if_eq (ct := am_at (am_P M) (am_tg pc o)) ok (fun q => absurd q hc) (fun q => absurd q hc) (fun _ => r.2)⟩
      case ne =>
        have H : (am_1i st fun x r => if x = 0 then am_ex am_P am_Mi am_Nf X n d M cs L r h else am_ex am_P am_Mi am_Nf X n d M (am_at (am_P M) (am_tg pc o)) L r h) = some res := H
        obtain ⟨x, t, e0, H1⟩ := am_1i_el H
        subst e0
        have H := H1
        by_cases hc : x = 0
        · rw [if_pos hc] at H
          have r := ih d M cs L t h res H hM hsuf (am_ctl hst)
          exact ⟨r.1, am_j_if_ne (ct := am_at (am_P M) (am_tg pc o)) ok (fun q => absurd hc q) (fun q => absurd hc q) (fun _ => r.2)⟩
        · rw [if_neg hc] at H
          have r := ih d M (am_at (am_P M) (am_tg pc o)) L t h res H hM (am_at_suf _ _) (am_ctl hst)
          exact ⟨r.1, am_j_if_ne ok (fun _ => am_at_pc (am_nil H)) (fun _ => r.2) (fun q => absurd q hc)⟩
      case lt =>
        have H : (am_1i st fun x r => if x < 0 then am_ex am_P am_Mi am_Nf X n d M (am_at (am_P M) (am_tg pc o)) L r h else am_ex am_P am_Mi am_Nf X n d M cs L r h) = some res := H
        obtain ⟨x, t, e0, H1⟩ := am_1i_el H
        subst e0
        have H := H1
        by_cases hc : x < 0
        · rw [if_pos hc] at H
          have r := ih d M (am_at (am_P M) (am_tg pc o)) L t h res H hM (am_at_suf _ _) (am_ctl hst)
          exact ⟨r.1, am_j_if_lt ok (fun _ => am_at_pc (am_nil H)) (fun _ => r.2) (fun q => absurd hc q)⟩
        · rw [if_neg hc] at H
          have r := ih d M cs L t h res H hM hsuf (am_ctl hst)
          exact ⟨r.1, am_j_if_lt (ct := am_at (am_P M) (am_tg pc o)) ok (fun q => absurd q hc) (fun q => absurd q hc) (fun _ => r.2)⟩
      case ge =>
        have H : (am_1i st fun x r => if 0 ≤ x then am_ex am_P am_Mi am_Nf X n d M (am_at (am_P M) (am_tg pc o)) L r h else am_ex am_P am_Mi am_Nf X n d M cs L r h) = some res := H
        obtain ⟨x, t, e0, H1⟩ := am_1i_el H
        subst e0
        have H := H1
        by_cases hc : 0 ≤ x
        · rw [if_pos hc] at H
          have r := ih d M (am_at (am_P M) (am_tg pc o)) L t h res H hM (am_at_suf _ _) (am_ctl hst)
          exact ⟨r.1, am_j_if_ge ok (fun _ => am_at_pc (am_nil H)) (fun _ => r.2) (fun q => absurd hc q)⟩
        · rw [if_neg hc] at H
          have r := ih d M cs L t h res H hM hsuf (am_ctl hst)
          exact ⟨r.1, am_j_if_ge (ct := am_at (am_P M) (am_tg pc o)) ok (fun q => absurd q hc) (fun q => absurd q hc) (fun _ => r.2)⟩
      case gt =>
        have H : (am_1i st fun x r => if 0 < x then am_ex am_P am_Mi am_Nf X n d M (am_at (am_P M) (am_tg pc o)) L r h else am_ex am_P am_Mi am_Nf X n d M cs L r h) = some res := H
        obtain ⟨x, t, e0, H1⟩ := am_1i_el H
        subst e0
        have H := H1
        by_cases hc : 0 < x
        · rw [if_pos hc] at H
          have r := ih d M (am_at (am_P M) (am_tg pc o)) L t h res H hM (am_at_suf _ _) (am_ctl hst)
          exact ⟨r.1, am_j_if_gt ok (fun _ => am_at_pc (am_nil H)) (fun _ => r.2) (fun q => absurd hc q)⟩
        · rw [if_neg hc] at H
          have r := ih d M cs L t h res H hM hsuf (am_ctl hst)
          exact ⟨r.1, am_j_if_gt (ct := am_at (am_P M) (am_tg pc o)) ok (fun q => absurd q hc) (fun q => absurd q hc) (fun _ => r.2)⟩
      case le =>
        have H : (am_1i st fun x r => if x ≤ 0 then am_ex am_P am_Mi am_Nf X n d M (am_at (am_P M) (am_tg pc o)) L r h else am_ex am_P am_Mi am_Nf X n d M cs L r h) = some res := H
        obtain ⟨x, t, e0, H1⟩ := am_1i_el H
        subst e0
        have H := H1
        by_cases hc : x ≤ 0
        · rw [if_pos hc] at H
          have r := ih d M (am_at (am_P M) (am_tg pc o)) L t h res H hM (am_at_suf _ _) (am_ctl hst)
          exact ⟨r.1, am_j_if_le ok (fun _ => am_at_pc (am_nil H)) (fun _ => r.2) (fun q => absurd hc q)⟩
        · rw [if_neg hc] at H
          have r := ih d M cs L t h res H hM hsuf (am_ctl hst)
          exact ⟨r.1, am_j_if_le (ct := am_at (am_P M) (am_tg pc o)) ok (fun q => absurd q hc) (fun q => absurd q hc) (fun _ => r.2)⟩
    case if_icmp cd o =>
      cases cd
      case eq =>
        have H : (am_2i st fun x y r => if x = y then am_ex am_P am_Mi am_Nf X n d M (am_at (am_P M) (am_tg pc o)) L r h else am_ex am_P am_Mi am_Nf X n d M cs L r h) = some res := H
        obtain ⟨x, y, t, e0, H1⟩ := am_2i_el H
        subst e0
        have H := H1
        by_cases hc : x = y
        · rw [if_pos hc] at H
          have r := ih d M (am_at (am_P M) (am_tg pc o)) L t h res H hM (am_at_suf _ _) (am_ctl (am_ctl hst))
          exact ⟨r.1, am_j_icmp_eq ok (fun _ => am_at_pc (am_nil H)) (fun _ => r.2) (fun q => absurd hc q)⟩
        · rw [if_neg hc] at H
          have r := ih d M cs L t h res H hM hsuf (am_ctl (am_ctl hst))
          exact ⟨r.1, am_j_icmp_eq (ct := am_at (am_P M) (am_tg pc o)) ok (fun q => absurd q hc) (fun q => absurd q hc) (fun _ => r.2)⟩
      case ne =>
        have H : (am_2i st fun x y r => if x = y then am_ex am_P am_Mi am_Nf X n d M cs L r h else am_ex am_P am_Mi am_Nf X n d M (am_at (am_P M) (am_tg pc o)) L r h) = some res := H
        obtain ⟨x, y, t, e0, H1⟩ := am_2i_el H
        subst e0
        have H := H1
        by_cases hc : x = y
        · rw [if_pos hc] at H
          have r := ih d M cs L t h res H hM hsuf (am_ctl (am_ctl hst))
          exact ⟨r.1, am_j_icmp_ne (ct := am_at (am_P M) (am_tg pc o)) ok (fun q => absurd hc q) (fun q => absurd hc q) (fun _ => r.2)⟩
        · rw [if_neg hc] at H
          have r := ih d M (am_at (am_P M) (am_tg pc o)) L t h res H hM (am_at_suf _ _) (am_ctl (am_ctl hst))
          exact ⟨r.1, am_j_icmp_ne ok (fun _ => am_at_pc (am_nil H)) (fun _ => r.2) (fun q => absurd q hc)⟩
      case lt =>
        have H : (am_2i st fun x y r => if x < y then am_ex am_P am_Mi am_Nf X n d M (am_at (am_P M) (am_tg pc o)) L r h else am_ex am_P am_Mi am_Nf X n d M cs L r h) = some res := H
        obtain ⟨x, y, t, e0, H1⟩ := am_2i_el H
        subst e0
        have H := H1
        by_cases hc : x < y
        · rw [if_pos hc] at H
          have r := ih d M (am_at (am_P M) (am_tg pc o)) L t h res H hM (am_at_suf _ _) (am_ctl (am_ctl hst))
          exact ⟨r.1, am_j_icmp_lt ok (fun _ => am_at_pc (am_nil H)) (fun _ => r.2) (fun q => absurd hc q)⟩
        · rw [if_neg hc] at H
          have r := ih d M cs L t h res H hM hsuf (am_ctl (am_ctl hst))
          exact ⟨r.1, am_j_icmp_lt (ct := am_at (am_P M) (am_tg pc o)) ok (fun q => absurd q hc) (fun q => absurd q hc) (fun _ => r.2)⟩
      case ge =>
        have H : (am_2i st fun x y r => if y ≤ x then am_ex am_P am_Mi am_Nf X n d M (am_at (am_P M) (am_tg pc o)) L r h else am_ex am_P am_Mi am_Nf X n d M cs L r h) = some res := H
        obtain ⟨x, y, t, e0, H1⟩ := am_2i_el H
        subst e0
        have H := H1
        by_cases hc : y ≤ x
        · rw [if_pos hc] at H
          have r := ih d M (am_at (am_P M) (am_tg pc o)) L t h res H hM (am_at_suf _ _) (am_ctl (am_ctl hst))
          exact ⟨r.1, am_j_icmp_ge ok (fun _ => am_at_pc (am_nil H)) (fun _ => r.2) (fun q => absurd hc q)⟩
        · rw [if_neg hc] at H
          have r := ih d M cs L t h res H hM hsuf (am_ctl (am_ctl hst))
          exact ⟨r.1, am_j_icmp_ge (ct := am_at (am_P M) (am_tg pc o)) ok (fun q => absurd q hc) (fun q => absurd q hc) (fun _ => r.2)⟩
      case gt =>
        have H : (am_2i st fun x y r => if y < x then am_ex am_P am_Mi am_Nf X n d M (am_at (am_P M) (am_tg pc o)) L r h else am_ex am_P am_Mi am_Nf X n d M cs L r h) = some res := H
        obtain ⟨x, y, t, e0, H1⟩ := am_2i_el H
        subst e0
        have H := H1
        by_cases hc : y < x
        · rw [if_pos hc] at H
          have r := ih d M (am_at (am_P M) (am_tg pc o)) L t h res H hM (am_at_suf _ _) (am_ctl (am_ctl hst))
          exact ⟨r.1, am_j_icmp_gt ok (fun _ => am_at_pc (am_nil H)) (fun _ => r.2) (fun q => absurd hc q)⟩
        · rw [if_neg hc] at H
          have r := ih d M cs L t h res H hM hsuf (am_ctl (am_ctl hst))
          exact ⟨r.1, am_j_icmp_gt (ct := am_at (am_P M) (am_tg pc o)) ok (fun q => absurd q hc) (fun q => absurd q hc) (fun _ => r.2)⟩
      case le =>
        have H : (am_2i st fun x y r => if x ≤ y then am_ex am_P am_Mi am_Nf X n d M (am_at (am_P M) (am_tg pc o)) L r h else am_ex am_P am_Mi am_Nf X n d M cs L r h) = some res := H
        obtain ⟨x, y, t, e0, H1⟩ := am_2i_el H
        subst e0
        have H := H1
        by_cases hc : x ≤ y
        · rw [if_pos hc] at H
          have r := ih d M (am_at (am_P M) (am_tg pc o)) L t h res H hM (am_at_suf _ _) (am_ctl (am_ctl hst))
          exact ⟨r.1, am_j_icmp_le ok (fun _ => am_at_pc (am_nil H)) (fun _ => r.2) (fun q => absurd hc q)⟩
        · rw [if_neg hc] at H
          have r := ih d M cs L t h res H hM hsuf (am_ctl (am_ctl hst))
          exact ⟨r.1, am_j_icmp_le (ct := am_at (am_P M) (am_tg pc o)) ok (fun q => absurd q hc) (fun q => absurd q hc) (fun _ => r.2)⟩
    case ifnull o =>
      have H : (am_1v st fun x r => (match x with | none => am_ex am_P am_Mi am_Nf X n d M (am_at (am_P M) (am_tg pc o)) L r h | some _ => am_ex am_P am_Mi am_Nf X n d M cs L r h)) = some res := H
      obtain ⟨x, t, e0, H1⟩ := am_1v_el H
      subst e0
      have H := H1
      cases x with
      | none =>
        have r := ih d M (am_at (am_P M) (am_tg pc o)) L t h res H hM (am_at_suf _ _) (am_ctl hst)
        exact ⟨r.1, am_j_ifnullN ok (am_at_pc (am_nil H)) r.2⟩
      | some x =>
        have r := ih d M cs L t h res H hM hsuf (am_ctl hst)
        exact ⟨r.1, am_j_ifnullR ok r.2⟩
    case tableswitch df lo hi offs =>
      have H : (am_1i st fun x r => am_ex am_P am_Mi am_Nf X n d M (am_at (am_P M) (am_tg pc (am_sw df lo hi offs x))) L r h) = some res := H
      obtain ⟨x, t, e0, H1⟩ := am_1i_el H
      subst e0
      have H := H1
      have r := ih d M (am_at (am_P M) (am_tg pc (am_sw df lo hi offs x))) L t h res H hM (am_at_suf _ _) (am_ctl hst)
      exact ⟨r.1, am_j_table ok (am_at_pc (am_nil H)) r.2⟩
    case lookupswitch df ps =>
      have H : (am_1i st fun x r => am_ex am_P am_Mi am_Nf X n d M (am_at (am_P M) (am_tg pc (Op.lookupswitch.offset ps.toList df x.toInt))) L r h) = some res := H
      obtain ⟨x, t, e0, H1⟩ := am_1i_el H
      subst e0
      have H := H1
      have r := ih d M (am_at (am_P M) (am_tg pc (Op.lookupswitch.offset ps.toList df x.toInt))) L t h res H hM (am_at_suf _ _) (am_ctl hst)
      exact ⟨r.1, am_j_look ok (am_at_pc (am_nil H)) r.2⟩
    case getfield k =>
      have H : (am_1r st fun o r => if am_is h o (a + 3) = true then (if c0 = 1 then am_ex am_P am_Mi am_Nf X n d M cs L (va_rf (h.2.2 o b) :: r) h else am_ex am_P am_Mi am_Nf X n d M cs L (.int (h.2.1 o b) :: r) h) else none) = some res := H
      obtain ⟨o, t, e0, H1⟩ := am_1r_el H
      subst e0
      have H := H1
      by_cases ho : am_is h o (a + 3) = true
      · rw [if_pos ho] at H
        by_cases hc : c0 = 1
        · rw [if_pos hc] at H
          have r := ih d M cs L (va_rf (h.2.2 o b) :: t) h res H hM hsuf (am_c1 (am_crf _) (am_ctl hst))
          exact ⟨r.1, am_j_get ok ho (by rw [if_pos hc]; exact r.2)⟩
        · rw [if_neg hc] at H
          have r := ih d M cs L (.int (h.2.1 o b) :: t) h res H hM hsuf (am_c1 rfl (am_ctl hst))
          exact ⟨r.1, am_j_get ok ho (by rw [if_neg hc]; exact r.2)⟩
      · rw [if_neg ho] at H; cases H
    case putfield k =>
      have H2 : (if c0 = 1 then am_rr st fun o v r => (if am_is h o (a + 3) = true then am_ex am_P am_Mi am_Nf X n d M cs L r (h.1, h.2.1, am_upG h.2.2 o b (some v)) else none) else am_ir st fun o x r => (if am_is h o (a + 3) = true then (if c0 = 2 ∧ ¬ (x = 0 ∨ x = 1) then none else am_ex am_P am_Mi am_Nf X n d M cs L r (h.1, am_upI h.2.1 o b x, h.2.2)) else none)) = some res := H
      by_cases hc : c0 = 1
      · rw [if_pos hc] at H2
        obtain ⟨o, v, t, e0, H1⟩ := am_rr_el H2
        subst e0
        have H := H1
        by_cases ho : am_is h o (a + 3) = true
        · rw [if_pos ho] at H
          have r := ih d M cs L t (h.1, h.2.1, am_upG h.2.2 o b (some v)) res H hM hsuf (am_ctl (am_ctl hst))
          exact ⟨r.1, am_j_putr ok hc ho r.2⟩
        · rw [if_neg ho] at H; cases H
      · rw [if_neg hc] at H2
        obtain ⟨o, x, t, e0, H1⟩ := am_ir_el H2
        subst e0
        have H := H1
        by_cases ho : am_is h o (a + 3) = true
        · rw [if_pos ho] at H
          by_cases hx : c0 = 2 ∧ ¬ (x = 0 ∨ x = 1)
          · rw [if_pos hx] at H; cases H
          · rw [if_neg hx] at H
            have r := ih d M cs L t (h.1, am_upI h.2.1 o b x, h.2.2) res H hM hsuf (am_ctl (am_ctl hst))
            exact ⟨r.1, am_j_puti ok hc (fun q => Classical.byContradiction (fun z => hx ⟨q, z⟩)) ho r.2⟩
        · rw [if_neg ho] at H; cases H
    case iaload =>
      have H : (am_ia st fun o j r => (match am_arr X h 0 o with | some (k, f) => if j < 0 ∨ k ≤ j.toNatClampNeg then none else am_ex am_P am_Mi am_Nf X n d M cs L (.int (f j.toNatClampNeg) :: r) h | none => none)) = some res := H
      obtain ⟨o, j2, t, e0, H1⟩ := am_ia_el H
      subst e0
      have H := H1
      cases ha : am_arr X h 0 o with
      | none => rw [ha] at H; cases H
      | some q =>
        obtain ⟨k, f⟩ := q
        rw [ha] at H
        have H : (if j2 < 0 ∨ k ≤ j2.toNatClampNeg then none else am_ex am_P am_Mi am_Nf X n d M cs L (.int (f j2.toNatClampNeg) :: t) h) = some res := H
        by_cases hx : j2 < 0 ∨ k ≤ j2.toNatClampNeg
        · rw [if_pos hx] at H; cases H
        · rw [if_neg hx] at H
          have r := ih d M cs L (.int (f j2.toNatClampNeg) :: t) h res H hM hsuf (am_c1 rfl (am_ctl (am_ctl hst)))
          exact ⟨r.1, am_j_iaload ok ha hx r.2⟩
    case baload =>
      have H : (am_ia st fun o j r => (match am_arr X h 1 o with | some (k, f) => if j < 0 ∨ k ≤ j.toNatClampNeg then none else am_ex am_P am_Mi am_Nf X n d M cs L (.int (f j.toNatClampNeg) :: r) h | none => none)) = some res := H
      obtain ⟨o, j2, t, e0, H1⟩ := am_ia_el H
      subst e0
      have H := H1
      cases ha : am_arr X h 1 o with
      | none => rw [ha] at H; cases H
      | some q =>
        obtain ⟨k, f⟩ := q
        rw [ha] at H
        have H : (if j2 < 0 ∨ k ≤ j2.toNatClampNeg then none else am_ex am_P am_Mi am_Nf X n d M cs L (.int (f j2.toNatClampNeg) :: t) h) = some res := H
        by_cases hx : j2 < 0 ∨ k ≤ j2.toNatClampNeg
        · rw [if_pos hx] at H; cases H
        · rw [if_neg hx] at H
          have r := ih d M cs L (.int (f j2.toNatClampNeg) :: t) h res H hM hsuf (am_c1 rfl (am_ctl (am_ctl hst)))
          exact ⟨r.1, am_j_baload ok ha hx r.2⟩
    case aaload =>
      have H : (am_ia st fun o j r => if am_is h o 2 = true then (match am_len X h o with | some k => if j < 0 ∨ k ≤ j.toNatClampNeg then none else am_ex am_P am_Mi am_Nf X n d M cs L (va_rf (h.2.2 o j.toNatClampNeg) :: r) h | none => none) else none) = some res := H
      obtain ⟨o, j2, t, e0, H1⟩ := am_ia_el H
      subst e0
      have H := H1
      by_cases hi : am_is h o 2 = true
      · rw [if_pos hi] at H
        cases ha : am_len X h o with
        | none => rw [ha] at H; cases H
        | some k =>
          rw [ha] at H
          have H : (if j2 < 0 ∨ k ≤ j2.toNatClampNeg then none else am_ex am_P am_Mi am_Nf X n d M cs L (va_rf (h.2.2 o j2.toNatClampNeg) :: t) h) = some res := H
          by_cases hx : j2 < 0 ∨ k ≤ j2.toNatClampNeg
          · rw [if_pos hx] at H; cases H
          · rw [if_neg hx] at H
            have r := ih d M cs L (va_rf (h.2.2 o j2.toNatClampNeg) :: t) h res H hM hsuf (am_c1 (am_crf _) (am_ctl (am_ctl hst)))
            exact ⟨r.1, am_j_aaload ok hi ha hx r.2⟩
      · rw [if_neg hi] at H; cases H
    case iastore =>
      have H : (am_iia st fun o j x r => if am_is h o 0 = true then (match am_len X h o with | some k => if j < 0 ∨ k ≤ j.toNatClampNeg then none else am_ex am_P am_Mi am_Nf X n d M cs L r (h.1, am_upI h.2.1 o j.toNatClampNeg x, h.2.2) | none => none) else none) = some res := H
      obtain ⟨o, j2, x, t, e0, H1⟩ := am_iia_el H
      subst e0
      have H := H1
      by_cases hi : am_is h o 0 = true
      · rw [if_pos hi] at H
        cases ha : am_len X h o with
        | none => rw [ha] at H; cases H
        | some k =>
          rw [ha] at H
          have H : (if j2 < 0 ∨ k ≤ j2.toNatClampNeg then none else am_ex am_P am_Mi am_Nf X n d M cs L t (h.1, am_upI h.2.1 o j2.toNatClampNeg x, h.2.2)) = some res := H
          by_cases hx : j2 < 0 ∨ k ≤ j2.toNatClampNeg
          · rw [if_pos hx] at H; cases H
          · rw [if_neg hx] at H
            have r := ih d M cs L t (h.1, am_upI h.2.1 o j2.toNatClampNeg x, h.2.2) res H hM hsuf (am_ctl (am_ctl (am_ctl hst)))
            exact ⟨r.1, am_j_iastore ok hi ha hx r.2⟩
      · rw [if_neg hi] at H; cases H
    case bastore =>
      have H : (am_iia st fun o j x r => if am_is h o 1 = true then (match am_len X h o with | some k => if j < 0 ∨ k ≤ j.toNatClampNeg then none else (if x = 0 ∨ x = 1 then am_ex am_P am_Mi am_Nf X n d M cs L r (h.1, am_upI h.2.1 o j.toNatClampNeg x, h.2.2) else none) | none => none) else none) = some res := H
      obtain ⟨o, j2, x, t, e0, H1⟩ := am_iia_el H
      subst e0
      have H := H1
      by_cases hi : am_is h o 1 = true
      · rw [if_pos hi] at H
        cases ha : am_len X h o with
        | none => rw [ha] at H; cases H
        | some k =>
          rw [ha] at H
          have H : (if j2 < 0 ∨ k ≤ j2.toNatClampNeg then none else (if x = 0 ∨ x = 1 then am_ex am_P am_Mi am_Nf X n d M cs L t (h.1, am_upI h.2.1 o j2.toNatClampNeg x, h.2.2) else none)) = some res := H
          by_cases hx : j2 < 0 ∨ k ≤ j2.toNatClampNeg
          · rw [if_pos hx] at H; cases H
          · rw [if_neg hx] at H
            by_cases h01 : x = 0 ∨ x = 1
            · rw [if_pos h01] at H
              have r := ih d M cs L t (h.1, am_upI h.2.1 o j2.toNatClampNeg x, h.2.2) res H hM hsuf (am_ctl (am_ctl (am_ctl hst)))
              exact ⟨r.1, am_j_bastore ok hi ha hx h01 r.2⟩
            · rw [if_neg h01] at H; cases H
      · rw [if_neg hi] at H; cases H
    case aastore =>
      have H : (am_ria st fun o j v r => if am_is h o 2 = true ∧ am_is h v (a + 3) = true then (match am_len X h o with | some k => if j < 0 ∨ k ≤ j.toNatClampNeg then none else am_ex am_P am_Mi am_Nf X n d M cs L r (h.1, h.2.1, am_upG h.2.2 o j.toNatClampNeg (some v)) | none => none) else none) = some res := H
      obtain ⟨o, j2, v, t, e0, H1⟩ := am_ria_el H
      subst e0
      have H := H1
      by_cases hi : am_is h o 2 = true ∧ am_is h v (a + 3) = true
      · rw [if_pos hi] at H
        cases ha : am_len X h o with
        | none => rw [ha] at H; cases H
        | some k =>
          rw [ha] at H
          have H : (if j2 < 0 ∨ k ≤ j2.toNatClampNeg then none else am_ex am_P am_Mi am_Nf X n d M cs L t (h.1, h.2.1, am_upG h.2.2 o j2.toNatClampNeg (some v))) = some res := H
          by_cases hx : j2 < 0 ∨ k ≤ j2.toNatClampNeg
          · rw [if_pos hx] at H; cases H
          · rw [if_neg hx] at H
            have r := ih d M cs L t (h.1, h.2.1, am_upG h.2.2 o j2.toNatClampNeg (some v)) res H hM hsuf (am_ctl (am_ctl (am_ctl hst)))
            exact ⟨r.1, am_j_aastore ok hi.1 hi.2 ha hx r.2⟩
      · rw [if_neg hi] at H; cases H
    case arraylength =>
      have H : (am_1r st fun o r => (match am_len X h o with | some k => am_ex am_P am_Mi am_Nf X n d M cs L (.int (Int32.ofNat k) :: r) h | none => none)) = some res := H
      obtain ⟨o, t, e0, H1⟩ := am_1r_el H
      subst e0
      have H := H1
      cases ha : am_len X h o with
      | none => rw [ha] at H; cases H
      | some k =>
        rw [ha] at H
        have r := ih d M cs L (.int (Int32.ofNat k) :: t) h res H hM hsuf (am_c1 rfl (am_ctl hst))
        exact ⟨r.1, am_j_alen ok ha r.2⟩
    case new k =>
      have H2 : (if h.1.length < 1000000 then am_ex am_P am_Mi am_Nf X n d M cs L (.ref h.1.length :: st) (h.1 ++ [(a + 3, am_Nf a)], am_zI h.2.1 h.1.length, am_zG h.2.2 h.1.length) else none) = some res := H
      by_cases hl : h.1.length < 1000000
      · rw [if_pos hl] at H2
        have r := ih d M cs L _ _ res H2 hM hsuf (am_c1 rfl hst)
        have mo : h.1.length + 1 ≤ res.2.1.length ∧ am_sl h + am_Nf a ≤ am_sl res.2 := by
          have r1 := r.1
          rw [am_sl_new, List.length_append, List.length_singleton] at r1
          exact r1
        exact ⟨⟨by omega, by omega⟩, am_j_new ok hl mo r.2⟩
      · rw [if_neg hl] at H2; cases H2
    case newarray at0 =>
      cases at0
      case int =>
        have H : (am_1i st fun x r => if x < 0 ∨ 1000000 < x.toNatClampNeg ∨ 1000000 ≤ h.1.length then none else am_ex am_P am_Mi am_Nf X n d M cs L (.ref h.1.length :: r) (h.1 ++ [(0, x.toNatClampNeg)], am_zI h.2.1 h.1.length, am_zG h.2.2 h.1.length)) = some res := H
        obtain ⟨x, t, e0, H1⟩ := am_1i_el H
        subst e0
        have H := H1
        by_cases hx : x < 0 ∨ 1000000 < x.toNatClampNeg ∨ 1000000 ≤ h.1.length
        · rw [if_pos hx] at H; cases H
        · rw [if_neg hx] at H
          have r := ih d M cs L _ _ res H hM hsuf (am_c1 rfl (am_ctl hst))
          have mo : h.1.length + 1 ≤ res.2.1.length ∧ am_sl h + x.toNatClampNeg ≤ am_sl res.2 := by
            have r1 := r.1
            rw [am_sl_new, List.length_append, List.length_singleton] at r1
            exact r1
          exact ⟨⟨by omega, by omega⟩, am_j_newI ok hx mo r.2⟩
      case boolean =>
        have H : (am_1i st fun x r => if x < 0 ∨ 1000000 < x.toNatClampNeg ∨ 1000000 ≤ h.1.length then none else am_ex am_P am_Mi am_Nf X n d M cs L (.ref h.1.length :: r) (h.1 ++ [(1, x.toNatClampNeg)], am_zI h.2.1 h.1.length, am_zG h.2.2 h.1.length)) = some res := H
        obtain ⟨x, t, e0, H1⟩ := am_1i_el H
        subst e0
        have H := H1
        by_cases hx : x < 0 ∨ 1000000 < x.toNatClampNeg ∨ 1000000 ≤ h.1.length
        · rw [if_pos hx] at H; cases H
        · rw [if_neg hx] at H
          have r := ih d M cs L _ _ res H hM hsuf (am_c1 rfl (am_ctl hst))
          have mo : h.1.length + 1 ≤ res.2.1.length ∧ am_sl h + x.toNatClampNeg ≤ am_sl res.2 := by
            have r1 := r.1
            rw [am_sl_new, List.length_append, List.length_singleton] at r1
            exact r1
          exact ⟨⟨by omega, by omega⟩, am_j_newZ ok hx mo r.2⟩
      all_goals exact absurd (show (none : Option (Option Int32 × AmH)) = some res from H) (by simp)
    case anewarray k =>
      have H : (am_1i st fun x r => if x < 0 ∨ 1000000 < x.toNatClampNeg ∨ 1000000 ≤ h.1.length then none else am_ex am_P am_Mi am_Nf X n d M cs L (.ref h.1.length :: r) (h.1 ++ [(2, x.toNatClampNeg)], am_zI h.2.1 h.1.length, am_zG h.2.2 h.1.length)) = some res := H
      obtain ⟨x, t, e0, H1⟩ := am_1i_el H
      subst e0
      have H := H1
      by_cases hx : x < 0 ∨ 1000000 < x.toNatClampNeg ∨ 1000000 ≤ h.1.length
      · rw [if_pos hx] at H; cases H
      · rw [if_neg hx] at H
        have r := ih d M cs L _ _ res H hM hsuf (am_c1 rfl (am_ctl hst))
        have mo : h.1.length + 1 ≤ res.2.1.length ∧ am_sl h + x.toNatClampNeg ≤ am_sl res.2 := by
          have r1 := r.1
          rw [am_sl_new, List.length_append, List.length_singleton] at r1
          exact r1
        exact ⟨⟨by omega, by omega⟩, am_j_newQ ok hx mo r.2⟩
    case getstatic k =>
      have H : (am_ex am_P am_Mi am_Nf X n d M cs L (.ref (1000000 + a) :: st) h) = some res := H
      have r := ih d M cs L (.ref (1000000 + a) :: st) h res H hM hsuf (am_c1 rfl hst)
      exact ⟨r.1, am_j_getst ok r.2⟩
    case invokevirtual k =>
      have H2 : (if b ≤ st.length ∧ am_cats (st.drop b) ≤ 8 ∧ am_rcv h 0 (am_Mi a).2.1 (st.take b).reverse = true then (match d with | 0 => none | d2 + 1 => (am_ex am_P am_Mi am_Nf X n d2 a (am_P a) (am_ini (am_Mi a).1 (st.take b).reverse) [] h).bind fun q => am_ex am_P am_Mi am_Nf X n (d2 + 1) M cs L (am_push q.1 (st.drop b)) q.2) else none) = some res := H
      by_cases hc : b ≤ st.length ∧ am_cats (st.drop b) ≤ 8 ∧ am_rcv h 0 (am_Mi a).2.1 (st.take b).reverse = true
      · rw [if_pos hc] at H2
        cases d with
        | zero => cases H2
        | succ d2 =>
          obtain ⟨q, Hq, H⟩ := Option.bind_eq_some_iff.mp H2
          have hr := (am_okq_4 ok).2.2.2
          simp only [am_res, Bool.and_eq_true, beq_iff_eq, decide_eq_true_eq] at hr
          obtain ⟨⟨⟨r1, r2⟩, r3⟩, r4⟩ := hr
          have r1 := am_ML_use r1
          have e4 := (am_okH_of (show a < 299 by omega)).2.2.2.1
          obtain ⟨-, -, -, -, n5, n6⟩ := am_okN_of r4
          have c1 : am_C1 (st.take b).reverse := fun w hw => hst w (List.mem_of_mem_take (List.mem_reverse.mp hw))
          have c2 : am_C1 (st.drop b) := fun w hw => hst w (List.mem_of_mem_drop hw)
          rw [e4] at Hq
          have rq := ih d2 a (am_P a) _ [] h q Hq (by omega) ⟨0, rfl⟩ (fun w hw => by cases hw)
          have rk := ih (d2 + 1) M cs L _ q.2 res H hM hsuf (am_cpush c2)
          have hc3 := hc.2.2
          rw [e4] at hc3
          obtain ⟨o, as, ea, ho⟩ := am_rcv0 hc3
          have est := am_split ea
          have hlen : as.length + 1 = b := by
            have := congrArg List.length ea
            rw [List.length_reverse, List.length_take, List.length_cons] at this
            omega
          rw [ea] at rq c1
          refine ⟨⟨Nat.le_trans rq.1.1 rk.1.1, Nat.le_trans rq.1.2 rk.1.2⟩, ?_⟩
          rw [est]
          exact am_j_callV ok r4 r2 r3 r1 hlen hc.2.1 ho (n6.resolve_left (by omega)) c1 rq.1 rk.1 rq.2 rk.2
      · rw [if_neg hc] at H2; cases H2
    case invokestatic k =>
      have H2 : (if b ≤ st.length ∧ am_cats (st.drop b) ≤ 8 then (match d with | 0 => none | d2 + 1 => (am_ex am_P am_Mi am_Nf X n d2 a (am_P a) (am_ini (am_Mi a).1 (st.take b).reverse) [] h).bind fun q => am_ex am_P am_Mi am_Nf X n (d2 + 1) M cs L (am_push q.1 (st.drop b)) q.2) else none) = some res := H
      by_cases hc : b ≤ st.length ∧ am_cats (st.drop b) ≤ 8
      · rw [if_pos hc] at H2
        cases d with
        | zero => cases H2
        | succ d2 =>
          obtain ⟨q, Hq, H⟩ := Option.bind_eq_some_iff.mp H2
          have hr := (am_okq_4 ok).2.2.2
          simp only [am_res, Bool.and_eq_true, beq_iff_eq, decide_eq_true_eq] at hr
          obtain ⟨⟨⟨r1, r2⟩, r3⟩, r4⟩ := hr
          have r1 := am_ML_use r1
          have e4 := (am_okH_of (show a < 299 by omega)).2.2.2.1
          obtain ⟨-, -, -, -, n5, n6⟩ := am_okN_of r4
          have c1 : am_C1 (st.take b).reverse := fun w hw => hst w (List.mem_of_mem_take (List.mem_reverse.mp hw))
          have c2 : am_C1 (st.drop b) := fun w hw => hst w (List.mem_of_mem_drop hw)
          rw [e4] at Hq
          have rq := ih d2 a (am_P a) _ [] h q Hq (by omega) ⟨0, rfl⟩ (fun w hw => by cases hw)
          have rk := ih (d2 + 1) M cs L _ q.2 res H hM hsuf (am_cpush c2)
          have hlen : (st.take b).reverse.length = b := by rw [List.length_reverse, List.length_take]; omega
          have est : st = (st.take b).reverse.reverse ++ st.drop b := by rw [List.reverse_reverse, List.take_append_drop]
          refine ⟨⟨Nat.le_trans rq.1.1 rk.1.1, Nat.le_trans rq.1.2 rk.1.2⟩, ?_⟩
          generalize hA : (st.take b).reverse = as at *
          generalize hB : st.drop b = rest at *
          rw [est]
          exact am_j_callS ok r4 r2 r3 r1 hlen hc.2 n5 c1 rq.1 rk.1 rq.2 rk.2
      · rw [if_neg hc] at H2; cases H2
    case invokespecial k =>
      have H3 : (if c0 = 4 then am_1r st fun _ r => (if am_cats r ≤ 8 ∧ 0 < d then am_ex am_P am_Mi am_Nf X n d M cs L r h else none) else if b ≤ st.length ∧ am_cats (st.drop b) ≤ 8 ∧ am_rcv h 2 (am_Mi a).2.1 (st.take b).reverse = true then (match (generalizing := false) d with | 0 => none | d2 + 1 => (am_ex am_P am_Mi am_Nf X n d2 a (am_P a) (am_ini (am_Mi a).1 (st.take b).reverse) [] h).bind fun q => am_ex am_P am_Mi am_Nf X n (d2 + 1) M cs L (am_push q.1 (st.drop b)) q.2) else none) = some res := H
      by_cases h4 : c0 = 4
      · rw [if_pos h4] at H3
        obtain ⟨o, t, e0, H1⟩ := am_1r_el H3
        subst e0
        have H := H1
        by_cases hc : am_cats t ≤ 8 ∧ 0 < d
        · rw [if_pos hc] at H
          have r := ih d M cs L t h res H hM hsuf (am_ctl hst)
          exact ⟨r.1, am_j_oinit ok h4 hc.1 hc.2 r.2⟩
        · rw [if_neg hc] at H; cases H
      · rw [if_neg h4] at H3
        have H2 := H3
        by_cases hc : b ≤ st.length ∧ am_cats (st.drop b) ≤ 8 ∧ am_rcv h 2 (am_Mi a).2.1 (st.take b).reverse = true
        · rw [if_pos hc] at H2
          cases d with
          | zero => cases H2
          | succ d2 =>
            obtain ⟨q, Hq, H⟩ := Option.bind_eq_some_iff.mp H2
            have hr := (am_okq_4 ok).2.2.2
            have hc4 : (c0 == 4) = false := by simpa using h4
            simp only [am_res, hc4, Bool.false_eq_true, if_false, Bool.and_eq_true, beq_iff_eq, decide_eq_true_eq] at hr
            obtain ⟨⟨⟨r2, r3⟩, r4⟩, r1⟩ := hr
            have r1 : Cond.methodLink (am_cn (am_o M)) k (am_y a) ∈ am_tbl ∨ ∃ host, (am_o M, k, a, host) ∈ am_NLp.map (fun q => (q.1, q.2.1, q.2.2.1, q.2.2.2.1)) := by
              by_cases h3 : c0 = 3
              · rw [if_pos (by simpa using h3)] at r1
                exact Or.inr (am_NL_use r1)
              · rw [if_neg (by simpa using h3)] at r1
                exact Or.inl (am_ML_use r1)
            have e4 := (am_okH_of (show a < 299 by omega)).2.2.2.1
            obtain ⟨-, -, -, -, n5, n6⟩ := am_okN_of r4
            have c1 : am_C1 (st.take b).reverse := fun w hw => hst w (List.mem_of_mem_take (List.mem_reverse.mp hw))
            have c2 : am_C1 (st.drop b) := fun w hw => hst w (List.mem_of_mem_drop hw)
            rw [e4] at Hq
            have rq := ih d2 a (am_P a) _ [] h q Hq (by omega) ⟨0, rfl⟩ (fun w hw => by cases hw)
            have rk := ih (d2 + 1) M cs L _ q.2 res H hM hsuf (am_cpush c2)
            obtain ⟨o, as, ea⟩ := am_rcv2 hc.2.2
            have est := am_split ea
            have hlen : as.length + 1 = b := by
              have := congrArg List.length ea
              rw [List.length_reverse, List.length_take, List.length_cons] at this
              omega
            rw [ea] at rq c1
            refine ⟨⟨Nat.le_trans rq.1.1 rk.1.1, Nat.le_trans rq.1.2 rk.1.2⟩, ?_⟩
            rw [est]
            exact am_j_callI ok r4 r2 r3 r1 hlen hc.2.1 n5 c1 rq.1 rk.1 rq.2 rk.2
        · rw [if_neg hc] at H2; cases H2
    case ireturn =>
      cases st with
      | nil => exact absurd (show (none : Option (Option Int32 × AmH)) = some res from H) (by simp)
      | cons w t =>
      cases w
      case int v =>
        cases t with
        | cons w2 t2 => exact absurd (show (none : Option (Option Int32 × AmH)) = some res from H) (by simp)
        | nil =>
        have H2 : (if (am_Mi M).2.2 = 1 ∨ ((am_Mi M).2.2 = 2 ∧ (v = 0 ∨ v = 1)) then some (some v, h) else none) = some res := H
        have e4 := (am_okH_of hM).2.2.2.1
        by_cases hc : (am_Mi M).2.2 = 1 ∨ ((am_Mi M).2.2 = 2 ∧ (v = 0 ∨ v = 1))
        · rw [if_pos hc] at H2
          cases H2
          rw [e4] at hc
          refine ⟨⟨Nat.le_refl _, Nat.le_refl _⟩, ?_⟩
          intro p e R s m args below meth c H locs cells slots cF sF ls Q C hfr hlo hcF hsF hP hS hl hz hc1 hs1 kr
          have hdg := am_okq_d ok rfl
          have h1 : cells = cF := by have := hc1; simp only at this; omega
          have h2 : slots = sF := by have := hs1; simp only at this; omega
          subst h1; subst h2
          exact (kr H locs pc ls hP hS).1 v rfl hdg hc
        · rw [if_neg hc] at H2; cases H2
      all_goals exact absurd (show (none : Option (Option Int32 × AmH)) = some res from H) (by simp)
    case return_ =>
      cases st with
      | cons w t => exact absurd (show (none : Option (Option Int32 × AmH)) = some res from H) (by simp)
      | nil =>
        have H2 : (if (am_Mi M).2.2 = 0 then some (none, h) else none) = some res := H
        have e4 := (am_okH_of hM).2.2.2.1
        by_cases hc : (am_Mi M).2.2 = 0
        · rw [if_pos hc] at H2
          cases H2
          rw [e4] at hc
          refine ⟨⟨Nat.le_refl _, Nat.le_refl _⟩, ?_⟩
          intro p e R s m args below meth c H locs cells slots cF sF ls Q C hfr hlo hcF hsF hP hS hl hz hc1 hs1 kr
          have hdg := am_okq_d ok rfl
          have h1 : cells = cF := by have := hc1; simp only at this; omega
          have h2 : slots = sF := by have := hs1; simp only at this; omega
          subst h1; subst h2
          exact (kr H locs pc ls hP hS).2 rfl hdg hc
        · rw [if_neg hc] at H2; cases H2
    all_goals exact absurd (show (none : Option (Option Int32 × AmH)) = some res from H) (by simp)
end
section
/-! all of the code is checked -/
theorem am_okL_of {M : Nat} : ∀ (C : AmCd), am_okL (am_o M) (am_ct M == 2) (am_b M) C = true → ∀ (i : Nat) (q : Nat × Instr × Nat × Nat × Nat) (cs : AmCd), C.drop i = q :: cs → am_okq M q cs = true
  | [], _, i, q, cs, h => by simp at h
  | (pc, j, a, b, c) :: C, hC, i, q, cs, h => by
    simp only [am_okL, Bool.and_eq_true] at hC
    cases i with
    | zero =>
      rw [List.drop_zero] at h
      cases h
      simp only [am_okq, Bool.and_eq_true]
      exact hC.1
    | succ i =>
      rw [List.drop_succ_cons] at h
      exact am_okL_of C hC.2 i q cs h
theorem am_OKM_of {M : Nat} (h : am_okM M = true) : am_OKM M := by
  simp only [am_okM, Bool.and_eq_true] at h
  exact am_okL_of _ h.1.1.1.1.1
theorem am_pick {P : Nat → Bool} {b n M : Nat} (h : (List.range n).all (fun k => P (b + k)) = true) (h1 : b ≤ M) (h2 : M < b + n) : P M = true := by
  have := am_ra h (show M - b < n by omega)
  rwa [show b + (M - b) = M by omega] at this
theorem am_okM_all {M : Nat} (h : M < 298) : am_okM M = true := by
  rcases Nat.lt_or_ge M 10 with q | q
  · exact am_pick am_k0 (by omega) q
  rcases Nat.lt_or_ge M 26 with q | q
  · exact am_pick am_k1 (by omega) q
  rcases Nat.lt_or_ge M 32 with q | q
  · exact am_pick am_k2 (by omega) q
  rcases Nat.lt_or_ge M 50 with q | q
  · exact am_pick am_k3 (by omega) q
  rcases Nat.lt_or_ge M 59 with q | q
  · exact am_pick am_k4 (by omega) q
  rcases Nat.lt_or_ge M 73 with q | q
  · exact am_pick am_k5 (by omega) q
  rcases Nat.lt_or_ge M 80 with q | q
  · exact am_pick am_k6 (by omega) q
  rcases Nat.lt_or_ge M 93 with q | q
  · exact am_pick am_k7 (by omega) q
  rcases Nat.lt_or_ge M 110 with q | q
  · exact am_pick am_k8 (by omega) q
  rcases Nat.lt_or_ge M 129 with q | q
  · exact am_pick am_k9 (by omega) q
  rcases Nat.lt_or_ge M 146 with q | q
  · exact am_pick am_k10 (by omega) q
  rcases Nat.lt_or_ge M 155 with q | q
  · exact am_pick am_k11 (by omega) q
  rcases Nat.lt_or_ge M 166 with q | q
  · exact am_pick am_k12 (by omega) q
  rcases Nat.lt_or_ge M 173 with q | q
  · exact am_pick am_k13 (by omega) q
  rcases Nat.lt_or_ge M 184 with q | q
  · exact am_pick am_k14 (by omega) q
  rcases Nat.lt_or_ge M 196 with q | q
  · exact am_pick am_k15 (by omega) q
  rcases Nat.lt_or_ge M 200 with q | q
  · exact am_pick am_k16 (by omega) q
  rcases Nat.lt_or_ge M 210 with q | q
  · exact am_pick am_k17 (by omega) q
  rcases Nat.lt_or_ge M 217 with q | q
  · exact am_pick am_k18 (by omega) q
  rcases Nat.lt_or_ge M 222 with q | q
  · exact am_pick am_k19 (by omega) q
  rcases Nat.lt_or_ge M 227 with q | q
  · exact am_pick am_k20 (by omega) q
  rcases Nat.lt_or_ge M 236 with q | q
  · exact am_pick am_k21 (by omega) q
  rcases Nat.lt_or_ge M 238 with q | q
  · exact am_pick am_k22 (by omega) q
  rcases Nat.lt_or_ge M 245 with q | q
  · exact am_pick am_k23 (by omega) q
  rcases Nat.lt_or_ge M 253 with q | q
  · exact am_pick am_k24 (by omega) q
  rcases Nat.lt_or_ge M 258 with q | q
  · exact am_pick am_k25 (by omega) q
  rcases Nat.lt_or_ge M 261 with q | q
  · exact am_pick am_k26 (by omega) q
  rcases Nat.lt_or_ge M 264 with q | q
  · exact am_pick am_k27 (by omega) q
  rcases Nat.lt_or_ge M 271 with q | q
  · exact am_pick am_k28 (by omega) q
  rcases Nat.lt_or_ge M 279 with q | q
  · exact am_pick am_k29 (by omega) q
  rcases Nat.lt_or_ge M 287 with q | q
  · exact am_pick am_k30 (by omega) q
  rcases Nat.lt_or_ge M 298 with q | q
  · exact am_pick am_k31 (by omega) q
  omega
theorem am_okA_all {i : Nat} (h : i < 1633) : am_okA 298 i = true := by
  rcases Nat.lt_or_ge i 120 with q | q
  · exact am_pick am_kl0 (by omega) q
  rcases Nat.lt_or_ge i 240 with q | q
  · exact am_pick am_kl1 (by omega) q
  rcases Nat.lt_or_ge i 360 with q | q
  · exact am_pick am_kl2 (by omega) q
  rcases Nat.lt_or_ge i 480 with q | q
  · exact am_pick am_kl3 (by omega) q
  rcases Nat.lt_or_ge i 600 with q | q
  · exact am_pick am_kl4 (by omega) q
  rcases Nat.lt_or_ge i 720 with q | q
  · exact am_pick am_kl5 (by omega) q
  rcases Nat.lt_or_ge i 840 with q | q
  · exact am_pick am_kl6 (by omega) q
  rcases Nat.lt_or_ge i 960 with q | q
  · exact am_pick am_kl7 (by omega) q
  rcases Nat.lt_or_ge i 1080 with q | q
  · exact am_pick am_kl8 (by omega) q
  rcases Nat.lt_or_ge i 1200 with q | q
  · exact am_pick am_kl9 (by omega) q
  rcases Nat.lt_or_ge i 1320 with q | q
  · exact am_pick am_kl10 (by omega) q
  rcases Nat.lt_or_ge i 1440 with q | q
  · exact am_pick am_kl11 (by omega) q
  rcases Nat.lt_or_ge i 1490 with q | q
  · exact am_pick am_kl12 (by omega) q
  rcases Nat.lt_or_ge i 1540 with q | q
  · exact am_pick am_kl13 (by omega) q
  rcases Nat.lt_or_ge i 1590 with q | q
  · exact am_pick am_kl14 (by omega) q
  rcases Nat.lt_or_ge i 1633 with q | q
  · exact am_pick am_kl15 (by omega) q
  omega
theorem am_len298 : (am_P 298).length = 1633 := by decide +kernel
theorem am_OKM_law : am_OKM 298 := by
  intro i q cs h
  have hi : i < 1633 := by
    rw [← am_len298]
    rcases Nat.lt_or_ge i (am_P 298).length with h1 | h1
    · exact h1
    · rw [List.drop_eq_nil_of_le h1] at h
      cases h
  have hk := am_okA_all hi
  obtain ⟨pc, j, a, b, c⟩ := q
  unfold am_okA at hk
  rw [h] at hk
  exact hk
theorem am_OKM_all : ∀ k, k < 299 → am_OKM k := by
  intro k hk
  rcases Nat.lt_or_ge k 298 with h | h
  · exact am_OKM_of (am_okM_all h)
  · rw [show k = 298 by omega]
    exact am_OKM_law
end
section
/-! THE CLAIM OUT OF ONE WALK OF THE LAW'S BODY. Your part is whole_start (and what it stands on); all else here is the same for every law, but numbers. -/
def R_law : String := "FoldPressLaw"
def lw_P (b : Addr) (xs : List Int32) (args : Array Value) (s : State) : Prop := args = #[.ref b] ∧ s.IntsAt b xs ∧ xs.length ≤ 4608 ∧ (Jvm.Cond.and given_1 narrow_1).before args s = true
def lw_Q (_ : Array Value) (s : State) (o : Outcome) (t : State) : Prop := o = .returned (some (.int 1)) ∧ Framed s o t [] 600000 7302250
def lw_Z (below : List Frame) (a : Array Value) (s : State) : State → Prop := fun t => ∃ o, t.status = .running ∧ Ended t below o ∧ lw_Q a s o t
/-- the law's own end, with 1 on the stack, nothing written that was there before, its room as the claim has it -/
theorem lw_ret {p : Program} {l : Launch} {e : Env} {s : State} {m : MethodId} {below : List Frame} {meth : Method} {c : Code} {b : Nat} (hx : p.tables.exec = Jvm.exec) (hb : c.code = code) (hr : meth.sig.returnType = ret) (hlocks : meth.locks = false) {pc : Nat} {H : Heap} {ls : Array Slot} (hdg : decode code pc = .ok (.ireturn, 1)) : W p l e room_1 s m #[Value.ref b] below meth c H [] 600000 7302250 (lw_Z below #[Value.ref b] s) (F0 m pc ls [.int 1]) := by
  intro T hT X
  obtain ⟨fs, hret, hrun, hended, hW, hframe⟩ := X.leave (v := some (.int 1)) (hlocks := hlocks) (fun h => by rw [hr] at h; cases h)
  have hmeth' : T.vm.method? m = some meth := X.method'
  refine ⟨T.setFrames fs, ?_, .returned (some (.int 1)), hrun, hended, rfl, ⟨_, rfl⟩, hW, hframe⟩
  jvm_step X.here [X.here.top, hx, hb, hdg, hmeth', hr, ret, narrow_b1]
  (try refine ⟨rfl, ?_⟩); (try refine ⟨rfl, ?_⟩)
  first | (intro acts; rw [hret _ acts rfl rfl rfl]) | rw [hret _ _ rfl rfl rfl]
  exact Steps.refl _
/-- what holds at the law's entry: the machine, the code, the tables' words (any of lw_tbl by 'hts w (by decide +kernel)'), the script of L ints xs at the cell b, what the Statement gives of the start (any of its parts by flat_of_before) -/
def lw_At (p : Program) (s : State) (m : MethodId) (meth : Method) (c : Code) (b L : Nat) (xs : Nat → Int32) : Prop :=
  p.tables.exec = Jvm.exec ∧ c.code = code ∧ meth.sig.returnType = ret ∧ c.maxLocals = 4 ∧ s.vm.findClass R_law = some m.cls ∧ (∀ w ∈ lw_tbl, w.before #[Value.ref b] s = true) ∧ va_X b L xs s s.heap ∧ b < s.heap.size ∧ meth.locks = false ∧ (Jvm.Cond.and given_1 narrow_1).before #[Value.ref b] s = true
-- the arrays from outside: the script, THICK, TRIMS
def am_thick (j : Nat) : Int32 := match j with
  | 0 => 1
  | 1 => 2
  | 2 => 3
  | 3 => 2
  | _ => 4
def am_trims (j : Nat) : Int32 := match j with
  | 0 => 0
  | 1 => 1
  | 2 => 1
  | 3 => 2
  | _ => 3
def am_X (L : Nat) (xs : Nat → Int32) : AmX := fun e => match e with
  | 0 => some (L, xs)
  | 1 => some (5, am_thick)
  | 2 => some (5, am_trims)
  | _ => none
def am_h0 : AmH := ([], (fun _ _ => 0), (fun _ _ => none))
theorem am_Xof {args : Array Value} {s : State} {tm : Term} {N : Nat} {f : Nat → Int32} (hN : N < 2 ^ 31) (harr : (Cond.arrayOf tm .int).before args s = true) (hlen : (Term.length tm).eval args s none [] s = some (.int (Int32.ofNat N))) (hel : ∀ j : Nat, j < N → (Term.elem tm (.int (Int32.ofNat j))).eval args s none [] s = some (.int (f j))) : ∃ t : Nat, tm.eval args s none [] s = some (.ref t) ∧ va_X t N f s s.heap ∧ t < s.heap.size := by
  obtain ⟨t, ht, cell, hcell, hof, hkn, h1, h2, h3, -⟩ := va_Tof (f := fun j => .int (f j)) (A := fun _ => False) hN harr hlen hel (fun _ _ h => h)
  obtain ⟨b, cell2, ht2, harr2, -⟩ := Term.length_spec hlen
  cases ht.symm.trans ht2
  have hc2 := (State.arrayAt?_spec harr2).1
  cases hcell.symm.trans hc2
  have hsz : cell.slots.size < 2147483648 := by
    simp only [Term.eval, ht, harr2, Option.bind_eq_bind, Option.bind_some] at hlen
    by_cases hlt : cell.slots.size < 2147483648
    · exact hlt
    · simp [hlt] at hlen
  have hsN : cell.slots.size = N := (nI_eq (a := cell.slots.size) (b := N) (by omega) (by omega)).mp h2
  exact ⟨t, ht, ⟨cell, hcell, hof, hkn, hsN, h3⟩, (Array.getElem?_eq_some_iff.mp hcell).1⟩
set_option maxHeartbeats 4000000 in
set_option maxRecDepth 100000 in
/-- the law's walk out of a run of the small machine -/
theorem am_whole (pure_run : ∀ (L : Nat) (xs : Nat → Int32), L ≤ 4608 → ∃ (n : Nat) (h : AmH), am_ex am_P am_Mi am_Nf (am_X L xs) n 1000 298 (am_P 298) (am_ini 4 [.ref 1000000]) [] am_h0 = some (some 1, h) ∧ h.1.length ≤ 600000 ∧ am_sl h ≤ 7302250)
    {p : Program} {e : Env} {s : State} {m : MethodId} {below : List Frame} {meth : Method} {c : Code} (l : Launch) {b L : Nat} {xs : Nat → Int32} (hL : L ≤ 4608) (C0 : lw_At p s m meth c b L xs) : W p l e room_1 s m #[Value.ref b] below meth c s.heap [] 0 0 (lw_Z below #[Value.ref b] s) (entryFrame m ([Value.ref b] : List Value).toArray 4) := by
  obtain ⟨hx, hb, hr, hml, hown, hts, hX, hbl, hlocks, hgv⟩ := id C0
  obtain ⟨n, h, hrun, hcl, hsl⟩ := pure_run L xs hL
  have hs := flat_of_before _ hgv
  obtain ⟨t1, ht1, hX1, hb1⟩ := am_Xof (args := #[Value.ref b]) (s := s) (tm := .static "FoldPress$Folds" "THICK" "[I") (N := 5) (f := am_thick) (by decide) (hs _ (by decide +kernel)) (va_eqt (hs _ (by decide +kernel))) (fun j hj => by
    match j, hj with
    | 0, _ => exact va_eqt (hs _ (by decide +kernel))
    | 1, _ => exact va_eqt (hs _ (by decide +kernel))
    | 2, _ => exact va_eqt (hs _ (by decide +kernel))
    | 3, _ => exact va_eqt (hs _ (by decide +kernel))
    | 4, _ => exact va_eqt (hs _ (by decide +kernel))
    | k + 5, hk => omega)
  obtain ⟨t2, ht2, hX2, hb2⟩ := am_Xof (args := #[Value.ref b]) (s := s) (tm := .static "FoldPress$Folds" "TRIMS" "[I") (N := 5) (f := am_trims) (by decide) (hs _ (by decide +kernel)) (va_eqt (hs _ (by decide +kernel))) (fun j hj => by
    match j, hj with
    | 0, _ => exact va_eqt (hs _ (by decide +kernel))
    | 1, _ => exact va_eqt (hs _ (by decide +kernel))
    | 2, _ => exact va_eqt (hs _ (by decide +kernel))
    | 3, _ => exact va_eqt (hs _ (by decide +kernel))
    | 4, _ => exact va_eqt (hs _ (by decide +kernel))
    | k + 5, hk => omega)
  obtain ⟨cI, kI, compI, i1, i2, i3⟩ := Cond.arrayClass_spec (hts _ (List.mem_of_getElem? am_w99))
  obtain ⟨cZ, kZ, compZ, z1, z2, z3⟩ := Cond.arrayClass_spec (hts _ (List.mem_of_getElem? am_w1331))
  obtain ⟨comp, cQ, kQ, q1, -, q3, q4, q5⟩ := Cond.arrayOver_spec (hts _ (List.mem_of_getElem? am_w82))
  have htb : ∀ w ∈ am_tbl, w.before #[Value.ref b] s = true := fun w hw => hts w (List.mem_filter.mp hw).1
  have hkn : ∀ ci, ci < 11 → ∃ (cC : ClassId) (iS : Nat → Nat), u_Kn s (am_cn ci) (am_T ci) (am_Nf ci) cC iS := fun ci hci => u_known htb (am_cls_in hci) (htb _ (am_cls_ins hci))
  have hkn2 : ∀ ci, ∃ q : ClassId × (Nat → Nat), ci < 11 → u_Kn s (am_cn ci) (am_T ci) (am_Nf ci) q.1 q.2 := fun ci => by
    by_cases hci : ci < 11
    · obtain ⟨cC, iS, hk⟩ := hkn ci hci
      exact ⟨(cC, iS), fun _ => hk⟩
    · exact ⟨(0, fun _ => 0), fun z => absurd z hci⟩
  let D : va_G := (fun ci => (Classical.choose (hkn2 ci)).1, fun ci => (Classical.choose (hkn2 ci)).2)
  let E : AmE := (s.heap.size, (fun k => match k with | 0 => b | 1 => t1 | _ => t2), cI, cZ, cQ)
  have hK : va_K D am_cl (am_t3 E) s := by
    refine ⟨fun ci q hq => ?_, fun k q hq => ?_⟩
    · have hci : ci < 11 := (List.getElem?_eq_some_iff.mp hq).1
      cases (am_cl_at hci).symm.trans hq
      exact Classical.choose_spec (hkn2 ci) hci
    · match k, hq with
      | 0, hq =>
        cases hq
        exact ⟨fun N z => ⟨(fun k h => by cases h), kI, i2, compI, i3⟩, i1⟩
      | 1, hq =>
        cases hq
        exact ⟨fun N z => ⟨(fun k h => by cases h), kZ, z2, compZ, z3⟩, z1⟩
      | 2, hq =>
        cases hq
        exact ⟨fun N z => ⟨(fun k h => by cases h), kQ, q3, comp, q4⟩, kQ, comp, q3, q4, q1, q5⟩
      | k + 3, hq => simp [am_t3] at hq
  have hG : am_GL E (am_X L xs) s := by
    refine ⟨fun k N f hk => ?_, va_Zref (hts _ (List.mem_of_getElem? am_w590)) (htb _ (am_cls_ini (ci := 1) (by decide))) ht1 (fun a ha => Nat.not_le.mpr ha), va_Zref (hts _ (List.mem_of_getElem? am_w592)) (htb _ (am_cls_ini (ci := 1) (by decide))) ht2 (fun a ha => Nat.not_le.mpr ha), va_AO.of (hts _ (List.mem_of_getElem? am_w82)), fun q hq => ?_⟩
    · match k, hk with
      | 0, hk => cases hk; exact ⟨hX, hbl⟩
      | 1, hk => cases hk; exact ⟨hX1, hb1⟩
      | 2, hk => cases hk; exact ⟨hX2, hb2⟩
      | k + 3, hk => cases hk
    · have := List.all_eq_true.mp am_NL_ok q hq
      exact va_Nw.of rfl (hts _ (List.mem_of_getElem? (of_decide_eq_true this)))
  obtain ⟨mo, hJ⟩ := am_sound l E D (am_X L xs) am_OKM_all n 1000 298 (am_P 298) (am_ini 4 [.ref 1000000]) [] am_h0 (some 1, h) hrun (by decide) ⟨0, rfl⟩ (fun w hw => by cases hw)
  have hvs : ([Value.ref 1000000] : List Value).map (am_rv E) = [Value.ref b] := by
    show [Value.ref (am_ad E 1000000)] = _
    rw [am_ad_out (by decide)]
    rfl
  obtain ⟨ls, e1, hl⟩ := am_entry (E := E) (m := m) (vs := [.ref 1000000]) (n := 4) (fun w hw => by rcases List.mem_singleton.mp hw with rfl; rfl) (by decide)
  rw [hvs] at e1
  rw [e1]
  have k2 := hJ p e room_1 s m #[Value.ref b] below meth c s.heap [] 0 0 h.1.length (am_sl h) ls (lw_Z below #[Value.ref b] s) ⟨hx, hb, hr, hlocks, hml, hown, htb, hK, hG, (fun z => absurd z (by decide)), Nat.le_refl _⟩ (by decide) (by decide) hcl hsl (fun k q hq => by simp [am_ws, am_h0] at hq) va_S.rf hl (by rfl) (by show 0 + h.1.length = h.1.length + 0; omega) (by show 0 + am_sl h = am_sl h + 0; omega) (by
    intro H1 locs1 pc1 ls1 hP1 hS1
    refine ⟨fun v hv hdg hkd => ?_, fun hv => by cases hv⟩
    cases hv
    refine va_forget (fun q hq => hS1.2.2 q hq) ?_
    refine W.widen (k := 600000) (n := 7302250) hcl hsl ?_
    exact lw_ret hx hb hr hlocks hdg)
  exact k2
end
section
/-! more steps allowed: the same answer -/
set_option maxHeartbeats 4000000 in
set_option maxRecDepth 100000 in
theorem am_mono1 (X : AmX) : ∀ (n d M : Nat) (cs : AmCd) (L st : List Value) (h : AmH) (res : Option Int32 × AmH), am_ex am_P am_Mi am_Nf X n d M cs L st h = some res → am_ex am_P am_Mi am_Nf X (n + 1) d M cs L st h = some res := by
  intro n
  induction n with
  | zero =>
    intro d M cs L st h res H
    cases H
  | succ n ih =>
    intro d M cs L st h res H
    cases cs with
    | nil => exact absurd rfl (am_nil H)
    | cons q cs =>
    obtain ⟨pc, i, a, b, c0⟩ := q
    cases i
    case iload k =>
      have H : (am_li L k fun x => am_ex am_P am_Mi am_Nf X n d M cs L (.int x :: st) h) = some res := H
      show (am_li L k fun x => am_ex am_P am_Mi am_Nf X (n + 1) d M cs L (.int x :: st) h) = some res
      obtain ⟨x, hL, H⟩ := am_li_el H
      unfold am_li
      rw [hL]
      exact ih _ _ _ _ _ _ _ H
    case iload_n k =>
      have H : (am_li L k.val fun x => am_ex am_P am_Mi am_Nf X n d M cs L (.int x :: st) h) = some res := H
      show (am_li L k.val fun x => am_ex am_P am_Mi am_Nf X (n + 1) d M cs L (.int x :: st) h) = some res
      obtain ⟨x, hL, H⟩ := am_li_el H
      unfold am_li
      rw [hL]
      exact ih _ _ _ _ _ _ _ H
    case aload k =>
      have H : (am_la L k fun x => am_ex am_P am_Mi am_Nf X n d M cs L (va_rf x :: st) h) = some res := H
      show (am_la L k fun x => am_ex am_P am_Mi am_Nf X (n + 1) d M cs L (va_rf x :: st) h) = some res
      obtain ⟨x, hL, H⟩ := am_la_el H
      unfold am_la
      rw [hL]
      cases x <;> exact ih _ _ _ _ _ _ _ H
    case aload_n k =>
      have H : (am_la L k.val fun x => am_ex am_P am_Mi am_Nf X n d M cs L (va_rf x :: st) h) = some res := H
      show (am_la L k.val fun x => am_ex am_P am_Mi am_Nf X (n + 1) d M cs L (va_rf x :: st) h) = some res
      obtain ⟨x, hL, H⟩ := am_la_el H
      unfold am_la
      rw [hL]
      cases x <;> exact ih _ _ _ _ _ _ _ H
    case istore k =>
      have H : (am_1i st fun x r => am_st L k (.int x) fun L' => am_ex am_P am_Mi am_Nf X n d M cs L' r h) = some res := H
      show (am_1i st fun x r => am_st L k (.int x) fun L' => am_ex am_P am_Mi am_Nf X (n + 1) d M cs L' r h) = some res
      obtain ⟨x, t, e0, H1⟩ := am_1i_el H
      subst e0
      have H := H1
      obtain ⟨hi, H⟩ := am_st_el H
      show (if k < L.length then am_ex am_P am_Mi am_Nf X (n + 1) d M cs (L.set k (.int x)) t h else none) = some res
      rw [if_pos hi]
      exact ih _ _ _ _ _ _ _ H
    case istore_n k =>
      have H : (am_1i st fun x r => am_st L k.val (.int x) fun L' => am_ex am_P am_Mi am_Nf X n d M cs L' r h) = some res := H
      show (am_1i st fun x r => am_st L k.val (.int x) fun L' => am_ex am_P am_Mi am_Nf X (n + 1) d M cs L' r h) = some res
      obtain ⟨x, t, e0, H1⟩ := am_1i_el H
      subst e0
      have H := H1
      obtain ⟨hi, H⟩ := am_st_el H
      show (if k.val < L.length then am_ex am_P am_Mi am_Nf X (n + 1) d M cs (L.set k.val (.int x)) t h else none) = some res
      rw [if_pos hi]
      exact ih _ _ _ _ _ _ _ H
    case astore k =>
      have H : (am_1v st fun x r => am_st L k (va_rf x) fun L' => am_ex am_P am_Mi am_Nf X n d M cs L' r h) = some res := H
      show (am_1v st fun x r => am_st L k (va_rf x) fun L' => am_ex am_P am_Mi am_Nf X (n + 1) d M cs L' r h) = some res
      obtain ⟨x, t, e0, H1⟩ := am_1v_el H
      subst e0
      have H := H1
      obtain ⟨hi, H⟩ := am_st_el H
      cases x with
      | none =>
        show (if k < L.length then am_ex am_P am_Mi am_Nf X (n + 1) d M cs (L.set k (va_rf (none))) t h else none) = some res
        rw [if_pos hi]
        exact ih _ _ _ _ _ _ _ H
      | some y =>
        show (if k < L.length then am_ex am_P am_Mi am_Nf X (n + 1) d M cs (L.set k (va_rf (some y))) t h else none) = some res
        rw [if_pos hi]
        exact ih _ _ _ _ _ _ _ H
    case astore_n k =>
      have H : (am_1v st fun x r => am_st L k.val (va_rf x) fun L' => am_ex am_P am_Mi am_Nf X n d M cs L' r h) = some res := H
      show (am_1v st fun x r => am_st L k.val (va_rf x) fun L' => am_ex am_P am_Mi am_Nf X (n + 1) d M cs L' r h) = some res
      obtain ⟨x, t, e0, H1⟩ := am_1v_el H
      subst e0
      have H := H1
      obtain ⟨hi, H⟩ := am_st_el H
      cases x with
      | none =>
        show (if k.val < L.length then am_ex am_P am_Mi am_Nf X (n + 1) d M cs (L.set k.val (va_rf (none))) t h else none) = some res
        rw [if_pos hi]
        exact ih _ _ _ _ _ _ _ H
      | some y =>
        show (if k.val < L.length then am_ex am_P am_Mi am_Nf X (n + 1) d M cs (L.set k.val (va_rf (some y))) t h else none) = some res
        rw [if_pos hi]
        exact ih _ _ _ _ _ _ _ H
    case iconst v =>
      have H : (am_ex am_P am_Mi am_Nf X n d M cs L (.int (Int32.ofInt v) :: st) h) = some res := H
      show (am_ex am_P am_Mi am_Nf X (n + 1) d M cs L (.int (Int32.ofInt v) :: st) h) = some res
      exact ih _ _ _ _ _ _ _ H
    case bipush v =>
      have H : (am_ex am_P am_Mi am_Nf X n d M cs L (.int (Int8.ofInt v).toInt32 :: st) h) = some res := H
      show (am_ex am_P am_Mi am_Nf X (n + 1) d M cs L (.int (Int8.ofInt v).toInt32 :: st) h) = some res
      exact ih _ _ _ _ _ _ _ H
    case sipush v =>
      have H : (am_ex am_P am_Mi am_Nf X n d M cs L (.int (Int16.ofInt v).toInt32 :: st) h) = some res := H
      show (am_ex am_P am_Mi am_Nf X (n + 1) d M cs L (.int (Int16.ofInt v).toInt32 :: st) h) = some res
      exact ih _ _ _ _ _ _ _ H
    case iinc k v =>
      have H : (am_li L k fun x => am_st L k (.int (x + Int32.ofInt v)) fun L' => am_ex am_P am_Mi am_Nf X n d M cs L' st h) = some res := H
      show (am_li L k fun x => am_st L k (.int (x + Int32.ofInt v)) fun L' => am_ex am_P am_Mi am_Nf X (n + 1) d M cs L' st h) = some res
      obtain ⟨x, hL, H⟩ := am_li_el H
      obtain ⟨hi, H⟩ := am_st_el H
      unfold am_li
      rw [hL]
      show am_st _ _ _ _ = _
      unfold am_st
      rw [if_pos hi]
      exact ih _ _ _ _ _ _ _ H
    case iadd =>
      have H : (am_2i st fun x y r => am_ex am_P am_Mi am_Nf X n d M cs L (.int (x + y) :: r) h) = some res := H
      show (am_2i st fun x y r => am_ex am_P am_Mi am_Nf X (n + 1) d M cs L (.int (x + y) :: r) h) = some res
      obtain ⟨x, y, t, e0, H1⟩ := am_2i_el H
      subst e0
      have H := H1
      exact ih _ _ _ _ _ _ _ H
    case isub =>
      have H : (am_2i st fun x y r => am_ex am_P am_Mi am_Nf X n d M cs L (.int (x - y) :: r) h) = some res := H
      show (am_2i st fun x y r => am_ex am_P am_Mi am_Nf X (n + 1) d M cs L (.int (x - y) :: r) h) = some res
      obtain ⟨x, y, t, e0, H1⟩ := am_2i_el H
      subst e0
      have H := H1
      exact ih _ _ _ _ _ _ _ H
    case imul =>
      have H : (am_2i st fun x y r => am_ex am_P am_Mi am_Nf X n d M cs L (.int (x * y) :: r) h) = some res := H
      show (am_2i st fun x y r => am_ex am_P am_Mi am_Nf X (n + 1) d M cs L (.int (x * y) :: r) h) = some res
      obtain ⟨x, y, t, e0, H1⟩ := am_2i_el H
      subst e0
      have H := H1
      exact ih _ _ _ _ _ _ _ H
    case iand =>
      have H : (am_2i st fun x y r => am_ex am_P am_Mi am_Nf X n d M cs L (.int (x &&& y) :: r) h) = some res := H
      show (am_2i st fun x y r => am_ex am_P am_Mi am_Nf X (n + 1) d M cs L (.int (x &&& y) :: r) h) = some res
      obtain ⟨x, y, t, e0, H1⟩ := am_2i_el H
      subst e0
      have H := H1
      exact ih _ _ _ _ _ _ _ H
    case ixor =>
      have H : (am_2i st fun x y r => am_ex am_P am_Mi am_Nf X n d M cs L (.int (x ^^^ y) :: r) h) = some res := H
      show (am_2i st fun x y r => am_ex am_P am_Mi am_Nf X (n + 1) d M cs L (.int (x ^^^ y) :: r) h) = some res
      obtain ⟨x, y, t, e0, H1⟩ := am_2i_el H
      subst e0
      have H := H1
      exact ih _ _ _ _ _ _ _ H
    case ishr =>
      have H : (am_2i st fun x y r => am_ex am_P am_Mi am_Nf X n d M cs L (.int (x >>> (y &&& 31)) :: r) h) = some res := H
      show (am_2i st fun x y r => am_ex am_P am_Mi am_Nf X (n + 1) d M cs L (.int (x >>> (y &&& 31)) :: r) h) = some res
      obtain ⟨x, y, t, e0, H1⟩ := am_2i_el H
      subst e0
      have H := H1
      exact ih _ _ _ _ _ _ _ H
    case idiv =>
      have H : (am_2i st fun x y r => if y = 0 then none else am_ex am_P am_Mi am_Nf X n d M cs L (.int (x / y) :: r) h) = some res := H
      show (am_2i st fun x y r => if y = 0 then none else am_ex am_P am_Mi am_Nf X (n + 1) d M cs L (.int (x / y) :: r) h) = some res
      obtain ⟨x, y, t, e0, H1⟩ := am_2i_el H
      subst e0
      have H := H1
      by_cases hc : y = 0
      · rw [if_pos hc] at H
        show (if _ then _ else _) = some res
        rw [if_pos hc]
        cases H
      · rw [if_neg hc] at H
        show (if _ then _ else _) = some res
        rw [if_neg hc]
        exact ih _ _ _ _ _ _ _ H
    case irem =>
      have H : (am_2i st fun x y r => if y = 0 then none else am_ex am_P am_Mi am_Nf X n d M cs L (.int (x - x / y * y) :: r) h) = some res := H
      show (am_2i st fun x y r => if y = 0 then none else am_ex am_P am_Mi am_Nf X (n + 1) d M cs L (.int (x - x / y * y) :: r) h) = some res
      obtain ⟨x, y, t, e0, H1⟩ := am_2i_el H
      subst e0
      have H := H1
      by_cases hc : y = 0
      · rw [if_pos hc] at H
        show (if _ then _ else _) = some res
        rw [if_pos hc]
        cases H
      · rw [if_neg hc] at H
        show (if _ then _ else _) = some res
        rw [if_neg hc]
        exact ih _ _ _ _ _ _ _ H
    case dup =>
      cases st with
      | nil => exact absurd (show (none : Option (Option Int32 × AmH)) = some res from H) (by simp)
      | cons v t =>
        cases v
        case int x => exact ih _ _ _ _ (.int x :: .int x :: t) _ _ H
        case ref x => exact ih _ _ _ _ (.ref x :: .ref x :: t) _ _ H
        all_goals exact absurd (show (none : Option (Option Int32 × AmH)) = some res from H) (by simp)
    case dup2 =>
      have H : (am_ia st fun x j r => am_ex am_P am_Mi am_Nf X n d M cs L (.int j :: .ref x :: .int j :: .ref x :: r) h) = some res := H
      show (am_ia st fun x j r => am_ex am_P am_Mi am_Nf X (n + 1) d M cs L (.int j :: .ref x :: .int j :: .ref x :: r) h) = some res
      obtain ⟨x, j2, t, e0, H1⟩ := am_ia_el H
      subst e0
      have H := H1
      exact ih _ _ _ _ _ _ _ H
    case goto o =>
      have H : (am_ex am_P am_Mi am_Nf X n d M (am_at (am_P M) (am_tg pc o)) L st h) = some res := H
      show (am_ex am_P am_Mi am_Nf X (n + 1) d M (am_at (am_P M) (am_tg pc o)) L st h) = some res
      exact ih _ _ _ _ _ _ _ H
    case ifCond cd o =>
      cases cd
      case eq =>
        have H : (am_1i st fun x r => if x = 0 then am_ex am_P am_Mi am_Nf X n d M (am_at (am_P M) (am_tg pc o)) L r h else am_ex am_P am_Mi am_Nf X n d M cs L r h) = some res := H
        show (am_1i st fun x r => if x = 0 then am_ex am_P am_Mi am_Nf X (n + 1) d M (am_at (am_P M) (am_tg pc o)) L r h else am_ex am_P am_Mi am_Nf X (n + 1) d M cs L r h) = some res
        obtain ⟨x, t, e0, H1⟩ := am_1i_el H
        subst e0
        have H := H1
        by_cases hc : x = 0
        · rw [if_pos hc] at H
          show (if _ then _ else _) = some res
          rw [if_pos hc]
          exact ih _ _ _ _ _ _ _ H
        · rw [if_neg hc] at H
          show (if _ then _ else _) = some res
          rw [if_neg hc]
          exact ih _ _ _ _ _ _ _ H
      case ne =>
        have H : (am_1i st fun x r => if x = 0 then am_ex am_P am_Mi am_Nf X n d M cs L r h else am_ex am_P am_Mi am_Nf X n d M (am_at (am_P M) (am_tg pc o)) L r h) = some res := H
        show (am_1i st fun x r => if x = 0 then am_ex am_P am_Mi am_Nf X (n + 1) d M cs L r h else am_ex am_P am_Mi am_Nf X (n + 1) d M (am_at (am_P M) (am_tg pc o)) L r h) = some res
        obtain ⟨x, t, e0, H1⟩ := am_1i_el H
        subst e0
        have H := H1
        by_cases hc : x = 0
        · rw [if_pos hc] at H
          show (if _ then _ else _) = some res
          rw [if_pos hc]
          exact ih _ _ _ _ _ _ _ H
        · rw [if_neg hc] at H
          show (if _ then _ else _) = some res
          rw [if_neg hc]
          exact ih _ _ _ _ _ _ _ H
      case lt =>
        have H : (am_1i st fun x r => if x < 0 then am_ex am_P am_Mi am_Nf X n d M (am_at (am_P M) (am_tg pc o)) L r h else am_ex am_P am_Mi am_Nf X n d M cs L r h) = some res := H
        show (am_1i st fun x r => if x < 0 then am_ex am_P am_Mi am_Nf X (n + 1) d M (am_at (am_P M) (am_tg pc o)) L r h else am_ex am_P am_Mi am_Nf X (n + 1) d M cs L r h) = some res
        obtain ⟨x, t, e0, H1⟩ := am_1i_el H
        subst e0
        have H := H1
        by_cases hc : x < 0
        · rw [if_pos hc] at H
          show (if _ then _ else _) = some res
          rw [if_pos hc]
          exact ih _ _ _ _ _ _ _ H
        · rw [if_neg hc] at H
          show (if _ then _ else _) = some res
          rw [if_neg hc]
          exact ih _ _ _ _ _ _ _ H
      case ge =>
        have H : (am_1i st fun x r => if 0 ≤ x then am_ex am_P am_Mi am_Nf X n d M (am_at (am_P M) (am_tg pc o)) L r h else am_ex am_P am_Mi am_Nf X n d M cs L r h) = some res := H
        show (am_1i st fun x r => if 0 ≤ x then am_ex am_P am_Mi am_Nf X (n + 1) d M (am_at (am_P M) (am_tg pc o)) L r h else am_ex am_P am_Mi am_Nf X (n + 1) d M cs L r h) = some res
        obtain ⟨x, t, e0, H1⟩ := am_1i_el H
        subst e0
        have H := H1
        by_cases hc : 0 ≤ x
        · rw [if_pos hc] at H
          show (if _ then _ else _) = some res
          rw [if_pos hc]
          exact ih _ _ _ _ _ _ _ H
        · rw [if_neg hc] at H
          show (if _ then _ else _) = some res
          rw [if_neg hc]
          exact ih _ _ _ _ _ _ _ H
      case gt =>
        have H : (am_1i st fun x r => if 0 < x then am_ex am_P am_Mi am_Nf X n d M (am_at (am_P M) (am_tg pc o)) L r h else am_ex am_P am_Mi am_Nf X n d M cs L r h) = some res := H
        show (am_1i st fun x r => if 0 < x then am_ex am_P am_Mi am_Nf X (n + 1) d M (am_at (am_P M) (am_tg pc o)) L r h else am_ex am_P am_Mi am_Nf X (n + 1) d M cs L r h) = some res
        obtain ⟨x, t, e0, H1⟩ := am_1i_el H
        subst e0
        have H := H1
        by_cases hc : 0 < x
        · rw [if_pos hc] at H
          show (if _ then _ else _) = some res
          rw [if_pos hc]
          exact ih _ _ _ _ _ _ _ H
        · rw [if_neg hc] at H
          show (if _ then _ else _) = some res
          rw [if_neg hc]
          exact ih _ _ _ _ _ _ _ H
      case le =>
        have H : (am_1i st fun x r => if x ≤ 0 then am_ex am_P am_Mi am_Nf X n d M (am_at (am_P M) (am_tg pc o)) L r h else am_ex am_P am_Mi am_Nf X n d M cs L r h) = some res := H
        show (am_1i st fun x r => if x ≤ 0 then am_ex am_P am_Mi am_Nf X (n + 1) d M (am_at (am_P M) (am_tg pc o)) L r h else am_ex am_P am_Mi am_Nf X (n + 1) d M cs L r h) = some res
        obtain ⟨x, t, e0, H1⟩ := am_1i_el H
        subst e0
        have H := H1
        by_cases hc : x ≤ 0
        · rw [if_pos hc] at H
          show (if _ then _ else _) = some res
          rw [if_pos hc]
          exact ih _ _ _ _ _ _ _ H
        · rw [if_neg hc] at H
          show (if _ then _ else _) = some res
          rw [if_neg hc]
          exact ih _ _ _ _ _ _ _ H
    case if_icmp cd o =>
      cases cd
      case eq =>
        have H : (am_2i st fun x y r => if x = y then am_ex am_P am_Mi am_Nf X n d M (am_at (am_P M) (am_tg pc o)) L r h else am_ex am_P am_Mi am_Nf X n d M cs L r h) = some res := H
        show (am_2i st fun x y r => if x = y then am_ex am_P am_Mi am_Nf X (n + 1) d M (am_at (am_P M) (am_tg pc o)) L r h else am_ex am_P am_Mi am_Nf X (n + 1) d M cs L r h) = some res
        obtain ⟨x, y, t, e0, H1⟩ := am_2i_el H
        subst e0
        have H := H1
        by_cases hc : x = y
        · rw [if_pos hc] at H
          show (if _ then _ else _) = some res
          rw [if_pos hc]
          exact ih _ _ _ _ _ _ _ H
        · rw [if_neg hc] at H
          show (if _ then _ else _) = some res
          rw [if_neg hc]
          exact ih _ _ _ _ _ _ _ H
      case ne =>
        have H : (am_2i st fun x y r => if x = y then am_ex am_P am_Mi am_Nf X n d M cs L r h else am_ex am_P am_Mi am_Nf X n d M (am_at (am_P M) (am_tg pc o)) L r h) = some res := H
        show (am_2i st fun x y r => if x = y then am_ex am_P am_Mi am_Nf X (n + 1) d M cs L r h else am_ex am_P am_Mi am_Nf X (n + 1) d M (am_at (am_P M) (am_tg pc o)) L r h) = some res
        obtain ⟨x, y, t, e0, H1⟩ := am_2i_el H
        subst e0
        have H := H1
        by_cases hc : x = y
        · rw [if_pos hc] at H
          show (if _ then _ else _) = some res
          rw [if_pos hc]
          exact ih _ _ _ _ _ _ _ H
        · rw [if_neg hc] at H
          show (if _ then _ else _) = some res
          rw [if_neg hc]
          exact ih _ _ _ _ _ _ _ H
      case lt =>
        have H : (am_2i st fun x y r => if x < y then am_ex am_P am_Mi am_Nf X n d M (am_at (am_P M) (am_tg pc o)) L r h else am_ex am_P am_Mi am_Nf X n d M cs L r h) = some res := H
        show (am_2i st fun x y r => if x < y then am_ex am_P am_Mi am_Nf X (n + 1) d M (am_at (am_P M) (am_tg pc o)) L r h else am_ex am_P am_Mi am_Nf X (n + 1) d M cs L r h) = some res
        obtain ⟨x, y, t, e0, H1⟩ := am_2i_el H
        subst e0
        have H := H1
        by_cases hc : x < y
        · rw [if_pos hc] at H
          show (if _ then _ else _) = some res
          rw [if_pos hc]
          exact ih _ _ _ _ _ _ _ H
        · rw [if_neg hc] at H
          show (if _ then _ else _) = some res
          rw [if_neg hc]
          exact ih _ _ _ _ _ _ _ H
      case ge =>
        have H : (am_2i st fun x y r => if y ≤ x then am_ex am_P am_Mi am_Nf X n d M (am_at (am_P M) (am_tg pc o)) L r h else am_ex am_P am_Mi am_Nf X n d M cs L r h) = some res := H
        show (am_2i st fun x y r => if y ≤ x then am_ex am_P am_Mi am_Nf X (n + 1) d M (am_at (am_P M) (am_tg pc o)) L r h else am_ex am_P am_Mi am_Nf X (n + 1) d M cs L r h) = some res
        obtain ⟨x, y, t, e0, H1⟩ := am_2i_el H
        subst e0
        have H := H1
        by_cases hc : y ≤ x
        · rw [if_pos hc] at H
          show (if _ then _ else _) = some res
          rw [if_pos hc]
          exact ih _ _ _ _ _ _ _ H
        · rw [if_neg hc] at H
          show (if _ then _ else _) = some res
          rw [if_neg hc]
          exact ih _ _ _ _ _ _ _ H
      case gt =>
        have H : (am_2i st fun x y r => if y < x then am_ex am_P am_Mi am_Nf X n d M (am_at (am_P M) (am_tg pc o)) L r h else am_ex am_P am_Mi am_Nf X n d M cs L r h) = some res := H
        show (am_2i st fun x y r => if y < x then am_ex am_P am_Mi am_Nf X (n + 1) d M (am_at (am_P M) (am_tg pc o)) L r h else am_ex am_P am_Mi am_Nf X (n + 1) d M cs L r h) = some res
        obtain ⟨x, y, t, e0, H1⟩ := am_2i_el H
        subst e0
        have H := H1
        by_cases hc : y < x
        · rw [if_pos hc] at H
          show (if _ then _ else _) = some res
          rw [if_pos hc]
          exact ih _ _ _ _ _ _ _ H
        · rw [if_neg hc] at H
          show (if _ then _ else _) = some res
          rw [if_neg hc]
          exact ih _ _ _ _ _ _ _ H
      case le =>
        have H : (am_2i st fun x y r => if x ≤ y then am_ex am_P am_Mi am_Nf X n d M (am_at (am_P M) (am_tg pc o)) L r h else am_ex am_P am_Mi am_Nf X n d M cs L r h) = some res := H
        show (am_2i st fun x y r => if x ≤ y then am_ex am_P am_Mi am_Nf X (n + 1) d M (am_at (am_P M) (am_tg pc o)) L r h else am_ex am_P am_Mi am_Nf X (n + 1) d M cs L r h) = some res
        obtain ⟨x, y, t, e0, H1⟩ := am_2i_el H
        subst e0
        have H := H1
        by_cases hc : x ≤ y
        · rw [if_pos hc] at H
          show (if _ then _ else _) = some res
          rw [if_pos hc]
          exact ih _ _ _ _ _ _ _ H
        · rw [if_neg hc] at H
          show (if _ then _ else _) = some res
          rw [if_neg hc]
          exact ih _ _ _ _ _ _ _ H
    case ifnull o =>
      have H : (am_1v st fun x r => (match x with | none => am_ex am_P am_Mi am_Nf X n d M (am_at (am_P M) (am_tg pc o)) L r h | some _ => am_ex am_P am_Mi am_Nf X n d M cs L r h)) = some res := H
      show (am_1v st fun x r => (match x with | none => am_ex am_P am_Mi am_Nf X (n + 1) d M (am_at (am_P M) (am_tg pc o)) L r h | some _ => am_ex am_P am_Mi am_Nf X (n + 1) d M cs L r h)) = some res
      obtain ⟨x, t, e0, H1⟩ := am_1v_el H
      subst e0
      have H := H1
      cases x <;> exact ih _ _ _ _ _ _ _ H
    case tableswitch df lo hi offs =>
      have H : (am_1i st fun x r => am_ex am_P am_Mi am_Nf X n d M (am_at (am_P M) (am_tg pc (am_sw df lo hi offs x))) L r h) = some res := H
      show (am_1i st fun x r => am_ex am_P am_Mi am_Nf X (n + 1) d M (am_at (am_P M) (am_tg pc (am_sw df lo hi offs x))) L r h) = some res
      obtain ⟨x, t, e0, H1⟩ := am_1i_el H
      subst e0
      have H := H1
      exact ih _ _ _ _ _ _ _ H
    case lookupswitch df ps =>
      have H : (am_1i st fun x r => am_ex am_P am_Mi am_Nf X n d M (am_at (am_P M) (am_tg pc (Op.lookupswitch.offset ps.toList df x.toInt))) L r h) = some res := H
      show (am_1i st fun x r => am_ex am_P am_Mi am_Nf X (n + 1) d M (am_at (am_P M) (am_tg pc (Op.lookupswitch.offset ps.toList df x.toInt))) L r h) = some res
      obtain ⟨x, t, e0, H1⟩ := am_1i_el H
      subst e0
      have H := H1
      exact ih _ _ _ _ _ _ _ H
    case getfield k =>
      have H : (am_1r st fun o r => if am_is h o (a + 3) = true then (if c0 = 1 then am_ex am_P am_Mi am_Nf X n d M cs L (va_rf (h.2.2 o b) :: r) h else am_ex am_P am_Mi am_Nf X n d M cs L (.int (h.2.1 o b) :: r) h) else none) = some res := H
      show (am_1r st fun o r => if am_is h o (a + 3) = true then (if c0 = 1 then am_ex am_P am_Mi am_Nf X (n + 1) d M cs L (va_rf (h.2.2 o b) :: r) h else am_ex am_P am_Mi am_Nf X (n + 1) d M cs L (.int (h.2.1 o b) :: r) h) else none) = some res
      obtain ⟨o, t, e0, H1⟩ := am_1r_el H
      subst e0
      have H := H1
      by_cases ho : am_is h o (a + 3) = true
      · rw [if_pos ho] at H
        show (if _ then _ else _) = some res
        rw [if_pos ho]
        by_cases hc : c0 = 1
        · rw [if_pos hc] at H ⊢
          exact ih _ _ _ _ _ _ _ H
        · rw [if_neg hc] at H ⊢
          exact ih _ _ _ _ _ _ _ H
      · rw [if_neg ho] at H; cases H
    case putfield k =>
      have H : (if c0 = 1 then am_rr st fun o v r => (if am_is h o (a + 3) = true then am_ex am_P am_Mi am_Nf X n d M cs L r (h.1, h.2.1, am_upG h.2.2 o b (some v)) else none) else am_ir st fun o x r => (if am_is h o (a + 3) = true then (if c0 = 2 ∧ ¬ (x = 0 ∨ x = 1) then none else am_ex am_P am_Mi am_Nf X n d M cs L r (h.1, am_upI h.2.1 o b x, h.2.2)) else none)) = some res := H
      show (if c0 = 1 then am_rr st fun o v r => (if am_is h o (a + 3) = true then am_ex am_P am_Mi am_Nf X (n + 1) d M cs L r (h.1, h.2.1, am_upG h.2.2 o b (some v)) else none) else am_ir st fun o x r => (if am_is h o (a + 3) = true then (if c0 = 2 ∧ ¬ (x = 0 ∨ x = 1) then none else am_ex am_P am_Mi am_Nf X (n + 1) d M cs L r (h.1, am_upI h.2.1 o b x, h.2.2)) else none)) = some res
      by_cases hc : c0 = 1
      · rw [if_pos hc] at H ⊢
        obtain ⟨o, v, t, e0, H1⟩ := am_rr_el H
        subst e0
        have H := H1
        by_cases ho : am_is h o (a + 3) = true
        · rw [if_pos ho] at H
          show (if _ then _ else _) = some res
          rw [if_pos ho]
          exact ih _ _ _ _ _ _ _ H
        · rw [if_neg ho] at H; cases H
      · rw [if_neg hc] at H ⊢
        obtain ⟨o, x, t, e0, H1⟩ := am_ir_el H
        subst e0
        have H := H1
        by_cases ho : am_is h o (a + 3) = true
        · rw [if_pos ho] at H
          show (if _ then _ else _) = some res
          rw [if_pos ho]
          by_cases hx : c0 = 2 ∧ ¬ (x = 0 ∨ x = 1)
          · rw [if_pos hx] at H; cases H
          · rw [if_neg hx] at H ⊢
            exact ih _ _ _ _ _ _ _ H
        · rw [if_neg ho] at H; cases H
    case iaload =>
      have H : (am_ia st fun o j r => (match am_arr X h 0 o with | some (k, f) => if j < 0 ∨ k ≤ j.toNatClampNeg then none else am_ex am_P am_Mi am_Nf X n d M cs L (.int (f j.toNatClampNeg) :: r) h | none => none)) = some res := H
      show (am_ia st fun o j r => (match am_arr X h 0 o with | some (k, f) => if j < 0 ∨ k ≤ j.toNatClampNeg then none else am_ex am_P am_Mi am_Nf X (n + 1) d M cs L (.int (f j.toNatClampNeg) :: r) h | none => none)) = some res
      obtain ⟨o, j2, t, e0, H1⟩ := am_ia_el H
      subst e0
      have H := H1
      cases ha : am_arr X h 0 o with
      | none => rw [ha] at H; cases H
      | some q =>
        obtain ⟨k, f⟩ := q
        rw [ha] at H
        have H : (if j2 < 0 ∨ k ≤ j2.toNatClampNeg then none else am_ex am_P am_Mi am_Nf X n d M cs L (.int (f j2.toNatClampNeg) :: t) h) = some res := H
        show (match am_arr X h 0 o with | some (k, f) => if j2 < 0 ∨ k ≤ j2.toNatClampNeg then none else am_ex am_P am_Mi am_Nf X (n + 1) d M cs L (.int (f j2.toNatClampNeg) :: t) h | none => none) = some res
        rw [ha]
        show (if j2 < 0 ∨ k ≤ j2.toNatClampNeg then none else am_ex am_P am_Mi am_Nf X (n + 1) d M cs L (.int (f j2.toNatClampNeg) :: t) h) = some res
        by_cases hx : j2 < 0 ∨ k ≤ j2.toNatClampNeg
        · rw [if_pos hx] at H; cases H
        · rw [if_neg hx] at H ⊢
          exact ih _ _ _ _ _ _ _ H
    case baload =>
      have H : (am_ia st fun o j r => (match am_arr X h 1 o with | some (k, f) => if j < 0 ∨ k ≤ j.toNatClampNeg then none else am_ex am_P am_Mi am_Nf X n d M cs L (.int (f j.toNatClampNeg) :: r) h | none => none)) = some res := H
      show (am_ia st fun o j r => (match am_arr X h 1 o with | some (k, f) => if j < 0 ∨ k ≤ j.toNatClampNeg then none else am_ex am_P am_Mi am_Nf X (n + 1) d M cs L (.int (f j.toNatClampNeg) :: r) h | none => none)) = some res
      obtain ⟨o, j2, t, e0, H1⟩ := am_ia_el H
      subst e0
      have H := H1
      cases ha : am_arr X h 1 o with
      | none => rw [ha] at H; cases H
      | some q =>
        obtain ⟨k, f⟩ := q
        rw [ha] at H
        have H : (if j2 < 0 ∨ k ≤ j2.toNatClampNeg then none else am_ex am_P am_Mi am_Nf X n d M cs L (.int (f j2.toNatClampNeg) :: t) h) = some res := H
        show (match am_arr X h 1 o with | some (k, f) => if j2 < 0 ∨ k ≤ j2.toNatClampNeg then none else am_ex am_P am_Mi am_Nf X (n + 1) d M cs L (.int (f j2.toNatClampNeg) :: t) h | none => none) = some res
        rw [ha]
        show (if j2 < 0 ∨ k ≤ j2.toNatClampNeg then none else am_ex am_P am_Mi am_Nf X (n + 1) d M cs L (.int (f j2.toNatClampNeg) :: t) h) = some res
        by_cases hx : j2 < 0 ∨ k ≤ j2.toNatClampNeg
        · rw [if_pos hx] at H; cases H
        · rw [if_neg hx] at H ⊢
          exact ih _ _ _ _ _ _ _ H
    case aaload =>
      have H : (am_ia st fun o j r => if am_is h o 2 = true then (match am_len X h o with | some k => if j < 0 ∨ k ≤ j.toNatClampNeg then none else am_ex am_P am_Mi am_Nf X n d M cs L (va_rf (h.2.2 o j.toNatClampNeg) :: r) h | none => none) else none) = some res := H
      show (am_ia st fun o j r => if am_is h o 2 = true then (match am_len X h o with | some k => if j < 0 ∨ k ≤ j.toNatClampNeg then none else am_ex am_P am_Mi am_Nf X (n + 1) d M cs L (va_rf (h.2.2 o j.toNatClampNeg) :: r) h | none => none) else none) = some res
      obtain ⟨o, j2, t, e0, H1⟩ := am_ia_el H
      subst e0
      have H := H1
      by_cases hi : am_is h o 2 = true
      · rw [if_pos hi] at H
        show (if _ then _ else _) = some res
        rw [if_pos hi]
        cases ha : am_len X h o with
        | none => rw [ha] at H; cases H
        | some k =>
          rw [ha] at H
          have H : (if j2 < 0 ∨ k ≤ j2.toNatClampNeg then none else am_ex am_P am_Mi am_Nf X n d M cs L (va_rf (h.2.2 o j2.toNatClampNeg) :: t) h) = some res := H
          show (if j2 < 0 ∨ k ≤ j2.toNatClampNeg then none else am_ex am_P am_Mi am_Nf X (n + 1) d M cs L (va_rf (h.2.2 o j2.toNatClampNeg) :: t) h) = some res
          by_cases hx : j2 < 0 ∨ k ≤ j2.toNatClampNeg
          · rw [if_pos hx] at H; cases H
          · rw [if_neg hx] at H ⊢
            exact ih _ _ _ _ _ _ _ H
      · rw [if_neg hi] at H; cases H
    case iastore =>
      have H : (am_iia st fun o j x r => if am_is h o 0 = true then (match am_len X h o with | some k => if j < 0 ∨ k ≤ j.toNatClampNeg then none else am_ex am_P am_Mi am_Nf X n d M cs L r (h.1, am_upI h.2.1 o j.toNatClampNeg x, h.2.2) | none => none) else none) = some res := H
      show (am_iia st fun o j x r => if am_is h o 0 = true then (match am_len X h o with | some k => if j < 0 ∨ k ≤ j.toNatClampNeg then none else am_ex am_P am_Mi am_Nf X (n + 1) d M cs L r (h.1, am_upI h.2.1 o j.toNatClampNeg x, h.2.2) | none => none) else none) = some res
      obtain ⟨o, j2, x, t, e0, H1⟩ := am_iia_el H
      subst e0
      have H := H1
      by_cases hi : am_is h o 0 = true
      · rw [if_pos hi] at H
        show (if _ then _ else _) = some res
        rw [if_pos hi]
        cases ha : am_len X h o with
        | none => rw [ha] at H; cases H
        | some k =>
          rw [ha] at H
          have H : (if j2 < 0 ∨ k ≤ j2.toNatClampNeg then none else am_ex am_P am_Mi am_Nf X n d M cs L t (h.1, am_upI h.2.1 o j2.toNatClampNeg x, h.2.2)) = some res := H
          show (if j2 < 0 ∨ k ≤ j2.toNatClampNeg then none else am_ex am_P am_Mi am_Nf X (n + 1) d M cs L t (h.1, am_upI h.2.1 o j2.toNatClampNeg x, h.2.2)) = some res
          by_cases hx : j2 < 0 ∨ k ≤ j2.toNatClampNeg
          · rw [if_pos hx] at H; cases H
          · rw [if_neg hx] at H ⊢
            exact ih _ _ _ _ _ _ _ H
      · rw [if_neg hi] at H; cases H
    case bastore =>
      have H : (am_iia st fun o j x r => if am_is h o 1 = true then (match am_len X h o with | some k => if j < 0 ∨ k ≤ j.toNatClampNeg then none else (if x = 0 ∨ x = 1 then am_ex am_P am_Mi am_Nf X n d M cs L r (h.1, am_upI h.2.1 o j.toNatClampNeg x, h.2.2) else none) | none => none) else none) = some res := H
      show (am_iia st fun o j x r => if am_is h o 1 = true then (match am_len X h o with | some k => if j < 0 ∨ k ≤ j.toNatClampNeg then none else (if x = 0 ∨ x = 1 then am_ex am_P am_Mi am_Nf X (n + 1) d M cs L r (h.1, am_upI h.2.1 o j.toNatClampNeg x, h.2.2) else none) | none => none) else none) = some res
      obtain ⟨o, j2, x, t, e0, H1⟩ := am_iia_el H
      subst e0
      have H := H1
      by_cases hi : am_is h o 1 = true
      · rw [if_pos hi] at H
        show (if _ then _ else _) = some res
        rw [if_pos hi]
        cases ha : am_len X h o with
        | none => rw [ha] at H; cases H
        | some k =>
          rw [ha] at H
          have H : (if j2 < 0 ∨ k ≤ j2.toNatClampNeg then none else (if x = 0 ∨ x = 1 then am_ex am_P am_Mi am_Nf X n d M cs L t (h.1, am_upI h.2.1 o j2.toNatClampNeg x, h.2.2) else none)) = some res := H
          show (if j2 < 0 ∨ k ≤ j2.toNatClampNeg then none else (if x = 0 ∨ x = 1 then am_ex am_P am_Mi am_Nf X (n + 1) d M cs L t (h.1, am_upI h.2.1 o j2.toNatClampNeg x, h.2.2) else none)) = some res
          by_cases hx : j2 < 0 ∨ k ≤ j2.toNatClampNeg
          · rw [if_pos hx] at H; cases H
          · rw [if_neg hx] at H ⊢
            by_cases h01 : x = 0 ∨ x = 1
            · rw [if_pos h01] at H ⊢
              exact ih _ _ _ _ _ _ _ H
            · rw [if_neg h01] at H; cases H
      · rw [if_neg hi] at H; cases H
    case aastore =>
      have H : (am_ria st fun o j v r => if am_is h o 2 = true ∧ am_is h v (a + 3) = true then (match am_len X h o with | some k => if j < 0 ∨ k ≤ j.toNatClampNeg then none else am_ex am_P am_Mi am_Nf X n d M cs L r (h.1, h.2.1, am_upG h.2.2 o j.toNatClampNeg (some v)) | none => none) else none) = some res := H
      show (am_ria st fun o j v r => if am_is h o 2 = true ∧ am_is h v (a + 3) = true then (match am_len X h o with | some k => if j < 0 ∨ k ≤ j.toNatClampNeg then none else am_ex am_P am_Mi am_Nf X (n + 1) d M cs L r (h.1, h.2.1, am_upG h.2.2 o j.toNatClampNeg (some v)) | none => none) else none) = some res
      obtain ⟨o, j2, v, t, e0, H1⟩ := am_ria_el H
      subst e0
      have H := H1
      by_cases hi : am_is h o 2 = true ∧ am_is h v (a + 3) = true
      · rw [if_pos hi] at H
        show (if _ then _ else _) = some res
        rw [if_pos hi]
        cases ha : am_len X h o with
        | none => rw [ha] at H; cases H
        | some k =>
          rw [ha] at H
          have H : (if j2 < 0 ∨ k ≤ j2.toNatClampNeg then none else am_ex am_P am_Mi am_Nf X n d M cs L t (h.1, h.2.1, am_upG h.2.2 o j2.toNatClampNeg (some v))) = some res := H
          show (if j2 < 0 ∨ k ≤ j2.toNatClampNeg then none else am_ex am_P am_Mi am_Nf X (n + 1) d M cs L t (h.1, h.2.1, am_upG h.2.2 o j2.toNatClampNeg (some v))) = some res
          by_cases hx : j2 < 0 ∨ k ≤ j2.toNatClampNeg
          · rw [if_pos hx] at H; cases H
          · rw [if_neg hx] at H ⊢
            exact ih _ _ _ _ _ _ _ H
      · rw [if_neg hi] at H; cases H
    case arraylength =>
      have H : (am_1r st fun o r => (match am_len X h o with | some k => am_ex am_P am_Mi am_Nf X n d M cs L (.int (Int32.ofNat k) :: r) h | none => none)) = some res := H
      show (am_1r st fun o r => (match am_len X h o with | some k => am_ex am_P am_Mi am_Nf X (n + 1) d M cs L (.int (Int32.ofNat k) :: r) h | none => none)) = some res
      obtain ⟨o, t, e0, H1⟩ := am_1r_el H
      subst e0
      have H := H1
      cases ha : am_len X h o with
      | none => rw [ha] at H; cases H
      | some k =>
        rw [ha] at H
        show (match am_len X h o with | some k => am_ex am_P am_Mi am_Nf X (n + 1) d M cs L (.int (Int32.ofNat k) :: t) h | none => none) = some res
        rw [ha]
        exact ih _ _ _ _ _ _ _ H
    case new k =>
      have H : (if h.1.length < 1000000 then am_ex am_P am_Mi am_Nf X n d M cs L (.ref h.1.length :: st) (h.1 ++ [(a + 3, am_Nf a)], am_zI h.2.1 h.1.length, am_zG h.2.2 h.1.length) else none) = some res := H
      show (if h.1.length < 1000000 then am_ex am_P am_Mi am_Nf X (n + 1) d M cs L (.ref h.1.length :: st) (h.1 ++ [(a + 3, am_Nf a)], am_zI h.2.1 h.1.length, am_zG h.2.2 h.1.length) else none) = some res
      by_cases hl : h.1.length < 1000000
      · rw [if_pos hl] at H ⊢
        exact ih _ _ _ _ _ _ _ H
      · rw [if_neg hl] at H; cases H
    case newarray at0 =>
      cases at0
      case int =>
        have H : (am_1i st fun x r => if x < 0 ∨ 1000000 < x.toNatClampNeg ∨ 1000000 ≤ h.1.length then none else am_ex am_P am_Mi am_Nf X n d M cs L (.ref h.1.length :: r) (h.1 ++ [(0, x.toNatClampNeg)], am_zI h.2.1 h.1.length, am_zG h.2.2 h.1.length)) = some res := H
        show (am_1i st fun x r => if x < 0 ∨ 1000000 < x.toNatClampNeg ∨ 1000000 ≤ h.1.length then none else am_ex am_P am_Mi am_Nf X (n + 1) d M cs L (.ref h.1.length :: r) (h.1 ++ [(0, x.toNatClampNeg)], am_zI h.2.1 h.1.length, am_zG h.2.2 h.1.length)) = some res
        obtain ⟨x, t, e0, H1⟩ := am_1i_el H
        subst e0
        have H := H1
        by_cases hc : x < 0 ∨ 1000000 < x.toNatClampNeg ∨ 1000000 ≤ h.1.length
        · rw [if_pos hc] at H
          show (if _ then _ else _) = some res
          rw [if_pos hc]
          cases H
        · rw [if_neg hc] at H
          show (if _ then _ else _) = some res
          rw [if_neg hc]
          exact ih _ _ _ _ _ _ _ H
      case boolean =>
        have H : (am_1i st fun x r => if x < 0 ∨ 1000000 < x.toNatClampNeg ∨ 1000000 ≤ h.1.length then none else am_ex am_P am_Mi am_Nf X n d M cs L (.ref h.1.length :: r) (h.1 ++ [(1, x.toNatClampNeg)], am_zI h.2.1 h.1.length, am_zG h.2.2 h.1.length)) = some res := H
        show (am_1i st fun x r => if x < 0 ∨ 1000000 < x.toNatClampNeg ∨ 1000000 ≤ h.1.length then none else am_ex am_P am_Mi am_Nf X (n + 1) d M cs L (.ref h.1.length :: r) (h.1 ++ [(1, x.toNatClampNeg)], am_zI h.2.1 h.1.length, am_zG h.2.2 h.1.length)) = some res
        obtain ⟨x, t, e0, H1⟩ := am_1i_el H
        subst e0
        have H := H1
        by_cases hc : x < 0 ∨ 1000000 < x.toNatClampNeg ∨ 1000000 ≤ h.1.length
        · rw [if_pos hc] at H
          show (if _ then _ else _) = some res
          rw [if_pos hc]
          cases H
        · rw [if_neg hc] at H
          show (if _ then _ else _) = some res
          rw [if_neg hc]
          exact ih _ _ _ _ _ _ _ H
      all_goals exact absurd (show (none : Option (Option Int32 × AmH)) = some res from H) (by simp)
    case anewarray k =>
      have H : (am_1i st fun x r => if x < 0 ∨ 1000000 < x.toNatClampNeg ∨ 1000000 ≤ h.1.length then none else am_ex am_P am_Mi am_Nf X n d M cs L (.ref h.1.length :: r) (h.1 ++ [(2, x.toNatClampNeg)], am_zI h.2.1 h.1.length, am_zG h.2.2 h.1.length)) = some res := H
      show (am_1i st fun x r => if x < 0 ∨ 1000000 < x.toNatClampNeg ∨ 1000000 ≤ h.1.length then none else am_ex am_P am_Mi am_Nf X (n + 1) d M cs L (.ref h.1.length :: r) (h.1 ++ [(2, x.toNatClampNeg)], am_zI h.2.1 h.1.length, am_zG h.2.2 h.1.length)) = some res
      obtain ⟨x, t, e0, H1⟩ := am_1i_el H
      subst e0
      have H := H1
      by_cases hc : x < 0 ∨ 1000000 < x.toNatClampNeg ∨ 1000000 ≤ h.1.length
      · rw [if_pos hc] at H
        show (if _ then _ else _) = some res
        rw [if_pos hc]
        cases H
      · rw [if_neg hc] at H
        show (if _ then _ else _) = some res
        rw [if_neg hc]
        exact ih _ _ _ _ _ _ _ H
    case getstatic k =>
      have H : (am_ex am_P am_Mi am_Nf X n d M cs L (.ref (1000000 + a) :: st) h) = some res := H
      show (am_ex am_P am_Mi am_Nf X (n + 1) d M cs L (.ref (1000000 + a) :: st) h) = some res
      exact ih _ _ _ _ _ _ _ H
    case invokevirtual k =>
      have H : (if b ≤ st.length ∧ am_cats (st.drop b) ≤ 8 ∧ am_rcv h 0 (am_Mi a).2.1 (st.take b).reverse = true then (match (generalizing := false) d with | 0 => none | d2 + 1 => (am_ex am_P am_Mi am_Nf X n d2 a (am_P a) (am_ini (am_Mi a).1 (st.take b).reverse) [] h).bind fun q => am_ex am_P am_Mi am_Nf X n (d2 + 1) M cs L (am_push q.1 (st.drop b)) q.2) else none) = some res := H
      show (if b ≤ st.length ∧ am_cats (st.drop b) ≤ 8 ∧ am_rcv h 0 (am_Mi a).2.1 (st.take b).reverse = true then (match (generalizing := false) d with | 0 => none | d2 + 1 => (am_ex am_P am_Mi am_Nf X (n + 1) d2 a (am_P a) (am_ini (am_Mi a).1 (st.take b).reverse) [] h).bind fun q => am_ex am_P am_Mi am_Nf X (n + 1) (d2 + 1) M cs L (am_push q.1 (st.drop b)) q.2) else none) = some res
      by_cases hc : b ≤ st.length ∧ am_cats (st.drop b) ≤ 8 ∧ am_rcv h 0 (am_Mi a).2.1 (st.take b).reverse = true
      · rw [if_pos hc] at H ⊢
        cases d with
        | zero => cases H
        | succ d2 =>
          obtain ⟨q, Hq, H⟩ := Option.bind_eq_some_iff.mp H
          exact Option.bind_eq_some_iff.mpr ⟨q, ih _ _ _ _ _ _ _ Hq, ih _ _ _ _ _ _ _ H⟩
      · rw [if_neg hc] at H; cases H
    case invokestatic k =>
      have H : (if b ≤ st.length ∧ am_cats (st.drop b) ≤ 8 then (match (generalizing := false) d with | 0 => none | d2 + 1 => (am_ex am_P am_Mi am_Nf X n d2 a (am_P a) (am_ini (am_Mi a).1 (st.take b).reverse) [] h).bind fun q => am_ex am_P am_Mi am_Nf X n (d2 + 1) M cs L (am_push q.1 (st.drop b)) q.2) else none) = some res := H
      show (if b ≤ st.length ∧ am_cats (st.drop b) ≤ 8 then (match (generalizing := false) d with | 0 => none | d2 + 1 => (am_ex am_P am_Mi am_Nf X (n + 1) d2 a (am_P a) (am_ini (am_Mi a).1 (st.take b).reverse) [] h).bind fun q => am_ex am_P am_Mi am_Nf X (n + 1) (d2 + 1) M cs L (am_push q.1 (st.drop b)) q.2) else none) = some res
      by_cases hc : b ≤ st.length ∧ am_cats (st.drop b) ≤ 8
      · rw [if_pos hc] at H ⊢
        cases d with
        | zero => cases H
        | succ d2 =>
          obtain ⟨q, Hq, H⟩ := Option.bind_eq_some_iff.mp H
          exact Option.bind_eq_some_iff.mpr ⟨q, ih _ _ _ _ _ _ _ Hq, ih _ _ _ _ _ _ _ H⟩
      · rw [if_neg hc] at H; cases H
    case invokespecial k =>
      have H : (if c0 = 4 then am_1r st fun _ r => (if am_cats r ≤ 8 ∧ 0 < d then am_ex am_P am_Mi am_Nf X n d M cs L r h else none) else if b ≤ st.length ∧ am_cats (st.drop b) ≤ 8 ∧ am_rcv h 2 (am_Mi a).2.1 (st.take b).reverse = true then (match (generalizing := false) d with | 0 => none | d2 + 1 => (am_ex am_P am_Mi am_Nf X n d2 a (am_P a) (am_ini (am_Mi a).1 (st.take b).reverse) [] h).bind fun q => am_ex am_P am_Mi am_Nf X n (d2 + 1) M cs L (am_push q.1 (st.drop b)) q.2) else none) = some res := H
      show (if c0 = 4 then am_1r st fun _ r => (if am_cats r ≤ 8 ∧ 0 < d then am_ex am_P am_Mi am_Nf X (n + 1) d M cs L r h else none) else if b ≤ st.length ∧ am_cats (st.drop b) ≤ 8 ∧ am_rcv h 2 (am_Mi a).2.1 (st.take b).reverse = true then (match (generalizing := false) d with | 0 => none | d2 + 1 => (am_ex am_P am_Mi am_Nf X (n + 1) d2 a (am_P a) (am_ini (am_Mi a).1 (st.take b).reverse) [] h).bind fun q => am_ex am_P am_Mi am_Nf X (n + 1) (d2 + 1) M cs L (am_push q.1 (st.drop b)) q.2) else none) = some res
      by_cases h4 : c0 = 4
      · rw [if_pos h4] at H ⊢
        obtain ⟨o, t, e0, H1⟩ := am_1r_el H
        subst e0
        have H := H1
        by_cases hc : am_cats t ≤ 8 ∧ 0 < d
        · rw [if_pos hc] at H
          show (if _ then _ else _) = some res
          rw [if_pos hc]
          exact ih _ _ _ _ _ _ _ H
        · rw [if_neg hc] at H; cases H
      · rw [if_neg h4] at H ⊢
        by_cases hc : b ≤ st.length ∧ am_cats (st.drop b) ≤ 8 ∧ am_rcv h 2 (am_Mi a).2.1 (st.take b).reverse = true
        · rw [if_pos hc] at H ⊢
          cases d with
          | zero => cases H
          | succ d2 =>
            obtain ⟨q, Hq, H⟩ := Option.bind_eq_some_iff.mp H
            exact Option.bind_eq_some_iff.mpr ⟨q, ih _ _ _ _ _ _ _ Hq, ih _ _ _ _ _ _ _ H⟩
        · rw [if_neg hc] at H; cases H
    case ireturn => exact H
    case return_ => exact H
    all_goals exact absurd (show (none : Option (Option Int32 × AmH)) = some res from H) (by simp)
theorem am_mono {X : AmX} {n k d M : Nat} {cs : AmCd} {L st : List Value} {h : AmH} {res : Option Int32 × AmH} (H : am_ex am_P am_Mi am_Nf X n d M cs L st h = some res) (hk : n ≤ k) : am_ex am_P am_Mi am_Nf X k d M cs L st h = some res := by
  obtain ⟨j, rfl⟩ := Nat.exists_eq_add_of_le hk
  induction j with
  | zero => exact H
  | succ j ih => exact am_mono1 X _ _ _ _ _ _ _ _ (ih (by omega))
end
section
/-! the layout behind the constructors (printed by wip/gen/gen16.py), and rules for runs of the small machine -/
def sh_SH : List (Nat × Nat) := [(12, 7), (6, 5), (2, 640), (0, 640), (0, 640), (11, 8), (0, 40), (5, 7), (7, 2), (0, 1), (7, 2), (0, 3), (7, 2), (0, 3), (7, 2), (0, 3), (7, 2), (0, 72), (7, 2), (0, 576), (7, 2), (0, 5760), (4, 11), (0, 512), (8, 6), (0, 2), (0, 2), (0, 64), (0, 64), (0, 64), (7, 2), (0, 1), (7, 2), (0, 16), (7, 2), (0, 16), (7, 2), (0, 16), (7, 2), (0, 16), (7, 2), (0, 16), (7, 2), (0, 16), (7, 2), (0, 16), (10, 13), (7, 2), (0, 1), (7, 2), (0, 8), (7, 2), (0, 8), (7, 2), (0, 8), (7, 2), (0, 128), (7, 2), (0, 1024), (7, 2), (0, 8), (7, 2), (0, 8), (7, 2), (0, 8), (7, 2), (0, 8), (7, 2), (0, 8), (3, 10), (7, 2), (0, 1), (7, 2), (0, 4), (7, 2), (0, 4), (7, 2), (0, 16), (7, 2), (0, 4), (7, 2), (0, 1), (7, 2), (0, 4), (7, 2), (0, 1), (9, 7), (7, 2), (0, 5), (7, 2), (0, 1), (7, 2), (0, 1), (7, 2), (0, 1), (13, 51), (0, 32), (0, 6), (0, 6), (0, 6), (0, 144), (0, 1152), (0, 11520), (0, 32), (0, 32), (0, 32), (0, 32), (0, 32), (0, 16), (0, 16), (0, 16), (0, 16), (0, 16), (0, 16), (0, 16), (0, 16), (1, 256), (0, 2048), (0, 2048), (0, 8), (0, 8), (0, 32), (1, 8), (0, 8), (1, 10), (0, 40), (0, 64), (0, 64), (0, 4096), (0, 2048), (0, 2048), (0, 2048), (0, 512), (0, 4)]
def sh_gt : List (List (Option Nat)) := [[some 1, some 5, some 7, some 22, some 46, some 69, some 86], [some 2, some 3, some 4, none, none], [], [], [], [some 6, none, none, none, none, none, none, none], [], [some 8, some 10, some 12, some 14, some 16, some 18, some 20], [some 1, some 9], [], [some 1, some 11], [], [some 1, some 13], [], [some 1, some 15], [], [some 1, some 17], [], [some 1, some 19], [], [some 1, some 21], [], [some 5, some 24, some 23, some 30, some 32, some 34, some 36, some 38, some 40, some 42, some 44], [], [some 5, some 25, some 26, some 27, some 28, some 29], [], [], [], [], [], [some 1, some 31], [], [some 1, some 33], [], [some 1, some 35], [], [some 1, some 37], [], [some 1, some 39], [], [some 1, some 41], [], [some 1, some 43], [], [some 1, some 45], [], [some 7, some 22, some 47, some 49, some 51, some 53, some 55, some 57, some 59, some 61, some 63, some 65, some 67], [some 1, some 48], [], [some 1, some 50], [], [some 1, some 52], [], [some 1, some 54], [], [some 1, some 56], [], [some 1, some 58], [], [some 1, some 60], [], [some 1, some 62], [], [some 1, some 64], [], [some 1, some 66], [], [some 1, some 68], [], [some 22, some 46, some 70, some 72, some 74, some 76, some 78, some 80, some 82, some 84], [some 1, some 71], [], [some 1, some 73], [], [some 1, some 75], [], [some 1, some 77], [], [some 1, some 79], [], [some 1, some 81], [], [some 1, some 83], [], [some 1, some 85], [], [some 5, some 22, some 46, some 87, some 89, some 91, some 93], [some 1, some 88], [], [some 1, some 90], [], [some 1, some 92], [], [some 1, some 94], [], [some 96, some 97, some 98, some 99, some 100, some 101, some 102, some 103, some 104, some 105, some 106, some 107, some 108, some 109, some 110, some 111, some 112, some 113, some 114, some 115, some 116, some 117, some 118, some 119, some 120, some 121, some 122, some 123, some 124, none, none, none, none, none, none, none, none, some 125, some 126, none, none, none, some 127, some 128, some 129, some 130, some 131, none, some 132, some 133, none], [], [], [], [], [], [], [], [], [], [], [], [], [], [], [], [], [], [], [], [], [], [], [], [], [], [], [], [], [], [], [], [], [], [], [], [], [], []]
def sh_gs (o b : Nat) : Option Nat := (sh_gt.getD o []).getD b none
-- a state: the ints; the journal's rows
abbrev AmT : Type := (Nat → Nat → Int32) × (Nat → Option Nat)
def sh_G (R : Nat → Option Nat) : Nat → Nat → Option Nat := fun o b => if o = 2 then R b else sh_gs o b
def hS (S : AmT) : AmH := (sh_SH, S.1, sh_G S.2)
def Ex (X : AmX) (d M : Nat) (cs : AmCd) (L st : List Value) (h : AmH) (res : Option Int32 × AmH) : Prop := ∃ n, am_ex am_P am_Mi am_Nf X n d M cs L st h = some res
abbrev am_lt {α β : Type} (x : α) (k : α → β) : β := k x
def am_ck {α : Type} (j : Int32) (n : Nat) (k : Option α) : Option α := if j < 0 ∨ n ≤ j.toNatClampNeg then none else k
def am_nz {α : Type} (y : Int32) (k : Option α) : Option α := if y = 0 then none else k
def am_b01 {α : Type} (x : Int32) (k : Option α) : Option α := if x = 0 ∨ x = 1 then k else none
theorem am_ck_el {α : Type} {j : Int32} {n : Nat} {k : Option α} {q : α} (H : am_ck j n k = some q) : ¬ (j < 0 ∨ n ≤ j.toNatClampNeg) ∧ k = some q := by
  unfold am_ck at H
  split at H
  · cases H
  · exact ⟨by assumption, H⟩
theorem am_nz_el {α : Type} {y : Int32} {k : Option α} {q : α} (H : am_nz y k = some q) : ¬ y = 0 ∧ k = some q := by
  unfold am_nz at H
  split at H
  · cases H
  · exact ⟨by assumption, H⟩
theorem am_b01_el {α : Type} {x : Int32} {k : Option α} {q : α} (H : am_b01 x k = some q) : (x = 0 ∨ x = 1) ∧ k = some q := by
  unfold am_b01 at H
  split at H
  · exact ⟨by assumption, H⟩
  · cases H
section EX
variable {X : AmX} {d M : Nat} {cs ct : AmCd} {L L2 st rest : List Value} {h : AmH} {res : Option Int32 × AmH} {pc a b c0 : Nat} {x y v : Int32} {S : AmT}
theorem ex_iload {k : Nat} (hL : L[k]? = some (.int x)) (H : Ex X d M cs L (.int x :: st) h res) : Ex X d M ((pc, .iload k, a, b, c0) :: cs) L st h res := by
  obtain ⟨n, H⟩ := H
  refine ⟨n + 1, ?_⟩
  show am_li _ _ _ = _
  unfold am_li
  rw [hL]
  exact H
theorem ex_iload_n {k : Fin 4} (hL : L[k.val]? = some (.int x)) (H : Ex X d M cs L (.int x :: st) h res) : Ex X d M ((pc, .iload_n k, a, b, c0) :: cs) L st h res := by
  obtain ⟨n, H⟩ := H
  refine ⟨n + 1, ?_⟩
  show am_li _ _ _ = _
  unfold am_li
  rw [hL]
  exact H
theorem ex_aload {k o : Nat} (hL : L[k]? = some (.ref o)) (H : Ex X d M cs L (.ref o :: st) h res) : Ex X d M ((pc, .aload k, a, b, c0) :: cs) L st h res := by
  obtain ⟨n, H⟩ := H
  refine ⟨n + 1, ?_⟩
  show am_la L k (fun x => am_ex am_P am_Mi am_Nf X n d M cs L (va_rf x :: st) h) = _
  unfold am_la
  rw [hL]
  exact H
theorem ex_aload_n {k : Fin 4} {o : Nat} (hL : L[k.val]? = some (.ref o)) (H : Ex X d M cs L (.ref o :: st) h res) : Ex X d M ((pc, .aload_n k, a, b, c0) :: cs) L st h res := by
  obtain ⟨n, H⟩ := H
  refine ⟨n + 1, ?_⟩
  show am_la L k.val (fun x => am_ex am_P am_Mi am_Nf X n d M cs L (va_rf x :: st) h) = _
  unfold am_la
  rw [hL]
  exact H
theorem ex_istore {k : Nat} (hk : k < L.length) (hL : L.set k (.int x) = L2) (H : Ex X d M cs L2 st h res) : Ex X d M ((pc, .istore k, a, b, c0) :: cs) L (.int x :: st) h res := by
  obtain ⟨n, H⟩ := H
  refine ⟨n + 1, ?_⟩
  show (if k < L.length then am_ex am_P am_Mi am_Nf X n d M cs (L.set k (.int x)) st h else none) = _
  rw [if_pos hk, hL]
  exact H
theorem ex_istore_n {k : Fin 4} (hk : k.val < L.length) (hL : L.set k.val (.int x) = L2) (H : Ex X d M cs L2 st h res) : Ex X d M ((pc, .istore_n k, a, b, c0) :: cs) L (.int x :: st) h res := by
  obtain ⟨n, H⟩ := H
  refine ⟨n + 1, ?_⟩
  show (if k.val < L.length then am_ex am_P am_Mi am_Nf X n d M cs (L.set k.val (.int x)) st h else none) = _
  rw [if_pos hk, hL]
  exact H
theorem ex_iinc {k : Nat} {i : Int} (hg : L[k]? = some (.int x)) (hk : k < L.length) (hv : x + Int32.ofInt i = v) (hL : L.set k (.int v) = L2) (H : Ex X d M cs L2 st h res) : Ex X d M ((pc, .iinc k i, a, b, c0) :: cs) L st h res := by
  obtain ⟨n, H⟩ := H
  refine ⟨n + 1, ?_⟩
  show am_li L k (fun x => am_st L k (.int (x + Int32.ofInt i)) fun L' => am_ex am_P am_Mi am_Nf X n d M cs L' st h) = _
  unfold am_li
  rw [hg]
  show (if k < L.length then am_ex am_P am_Mi am_Nf X n d M cs (L.set k (.int (x + Int32.ofInt i))) st h else none) = _
  rw [if_pos hk, hv, hL]
  exact H
theorem ex_iconst {i : Int} (hv : Int32.ofInt i = v) (H : Ex X d M cs L (.int v :: st) h res) : Ex X d M ((pc, .iconst i, a, b, c0) :: cs) L st h res := by
  obtain ⟨n, H⟩ := H
  subst hv
  exact ⟨n + 1, H⟩
theorem ex_bipush {i : Int} (hv : (Int8.ofInt i).toInt32 = v) (H : Ex X d M cs L (.int v :: st) h res) : Ex X d M ((pc, .bipush i, a, b, c0) :: cs) L st h res := by
  obtain ⟨n, H⟩ := H
  subst hv
  exact ⟨n + 1, H⟩
theorem ex_sipush {i : Int} (hv : (Int16.ofInt i).toInt32 = v) (H : Ex X d M cs L (.int v :: st) h res) : Ex X d M ((pc, .sipush i, a, b, c0) :: cs) L st h res := by
  obtain ⟨n, H⟩ := H
  subst hv
  exact ⟨n + 1, H⟩
theorem ex_iadd (H : Ex X d M cs L (.int (x + y) :: st) h res) : Ex X d M ((pc, .iadd, a, b, c0) :: cs) L (.int y :: .int x :: st) h res := by
  obtain ⟨n, H⟩ := H
  exact ⟨n + 1, H⟩
theorem ex_isub (H : Ex X d M cs L (.int (x - y) :: st) h res) : Ex X d M ((pc, .isub, a, b, c0) :: cs) L (.int y :: .int x :: st) h res := by
  obtain ⟨n, H⟩ := H
  exact ⟨n + 1, H⟩
theorem ex_imul (H : Ex X d M cs L (.int (x * y) :: st) h res) : Ex X d M ((pc, .imul, a, b, c0) :: cs) L (.int y :: .int x :: st) h res := by
  obtain ⟨n, H⟩ := H
  exact ⟨n + 1, H⟩
theorem ex_iand (H : Ex X d M cs L (.int (x &&& y) :: st) h res) : Ex X d M ((pc, .iand, a, b, c0) :: cs) L (.int y :: .int x :: st) h res := by
  obtain ⟨n, H⟩ := H
  exact ⟨n + 1, H⟩
theorem ex_ixor (H : Ex X d M cs L (.int (x ^^^ y) :: st) h res) : Ex X d M ((pc, .ixor, a, b, c0) :: cs) L (.int y :: .int x :: st) h res := by
  obtain ⟨n, H⟩ := H
  exact ⟨n + 1, H⟩
theorem ex_ishr (H : Ex X d M cs L (.int (x >>> (y &&& 31)) :: st) h res) : Ex X d M ((pc, .ishr, a, b, c0) :: cs) L (.int y :: .int x :: st) h res := by
  obtain ⟨n, H⟩ := H
  exact ⟨n + 1, H⟩
theorem ex_idiv (hy : ¬ y = 0) (H : Ex X d M cs L (.int (x / y) :: st) h res) : Ex X d M ((pc, .idiv, a, b, c0) :: cs) L (.int y :: .int x :: st) h res := by
  obtain ⟨n, H⟩ := H
  refine ⟨n + 1, ?_⟩
  show (if y = 0 then none else am_ex am_P am_Mi am_Nf X n d M cs L (.int (x / y) :: st) h) = _
  rw [if_neg hy]
  exact H
theorem ex_irem (hy : ¬ y = 0) (H : Ex X d M cs L (.int (x - x / y * y) :: st) h res) : Ex X d M ((pc, .irem, a, b, c0) :: cs) L (.int y :: .int x :: st) h res := by
  obtain ⟨n, H⟩ := H
  refine ⟨n + 1, ?_⟩
  show (if y = 0 then none else am_ex am_P am_Mi am_Nf X n d M cs L (.int (x - x / y * y) :: st) h) = _
  rw [if_neg hy]
  exact H
theorem ex_dupi (H : Ex X d M cs L (.int x :: .int x :: st) h res) : Ex X d M ((pc, .dup, a, b, c0) :: cs) L (.int x :: st) h res := by
  obtain ⟨n, H⟩ := H
  exact ⟨n + 1, H⟩
theorem ex_dupr {o : Nat} (H : Ex X d M cs L (.ref o :: .ref o :: st) h res) : Ex X d M ((pc, .dup, a, b, c0) :: cs) L (.ref o :: st) h res := by
  obtain ⟨n, H⟩ := H
  exact ⟨n + 1, H⟩
theorem ex_dup2 {o : Nat} (H : Ex X d M cs L (.int x :: .ref o :: .int x :: .ref o :: st) h res) : Ex X d M ((pc, .dup2, a, b, c0) :: cs) L (.int x :: .ref o :: st) h res := by
  obtain ⟨n, H⟩ := H
  exact ⟨n + 1, H⟩
theorem ex_goto {i : Int} (ht : am_at (am_P M) (am_tg pc i) = ct) (H : Ex X d M ct L st h res) : Ex X d M ((pc, .goto i, a, b, c0) :: cs) L st h res := by
  obtain ⟨n, H⟩ := H
  subst ht
  exact ⟨n + 1, H⟩
theorem ex_if_eq_j {i : Int} (hc : x = 0) (ht : am_at (am_P M) (am_tg pc i) = ct) (H : Ex X d M ct L st h res) : Ex X d M ((pc, .ifCond .eq i, a, b, c0) :: cs) L (.int x :: st) h res := by
  obtain ⟨n, H⟩ := H
  subst ht
  refine ⟨n + 1, ?_⟩
  show (if x = 0 then am_ex am_P am_Mi am_Nf X n d M (am_at (am_P M) (am_tg pc i)) L st h else am_ex am_P am_Mi am_Nf X n d M cs L st h) = _
  rw [if_pos hc]
  exact H
theorem ex_if_eq_f {i : Int} (hc : ¬ x = 0) (H : Ex X d M cs L st h res) : Ex X d M ((pc, .ifCond .eq i, a, b, c0) :: cs) L (.int x :: st) h res := by
  obtain ⟨n, H⟩ := H
  refine ⟨n + 1, ?_⟩
  show (if x = 0 then am_ex am_P am_Mi am_Nf X n d M (am_at (am_P M) (am_tg pc i)) L st h else am_ex am_P am_Mi am_Nf X n d M cs L st h) = _
  rw [if_neg hc]
  exact H
theorem ex_if_ne_j {i : Int} (hc : ¬ x = 0) (ht : am_at (am_P M) (am_tg pc i) = ct) (H : Ex X d M ct L st h res) : Ex X d M ((pc, .ifCond .ne i, a, b, c0) :: cs) L (.int x :: st) h res := by
  obtain ⟨n, H⟩ := H
  subst ht
  refine ⟨n + 1, ?_⟩
  show (if x = 0 then am_ex am_P am_Mi am_Nf X n d M cs L st h else am_ex am_P am_Mi am_Nf X n d M (am_at (am_P M) (am_tg pc i)) L st h) = _
  rw [if_neg hc]
  exact H
theorem ex_if_ne_f {i : Int} (hc : x = 0) (H : Ex X d M cs L st h res) : Ex X d M ((pc, .ifCond .ne i, a, b, c0) :: cs) L (.int x :: st) h res := by
  obtain ⟨n, H⟩ := H
  refine ⟨n + 1, ?_⟩
  show (if x = 0 then am_ex am_P am_Mi am_Nf X n d M cs L st h else am_ex am_P am_Mi am_Nf X n d M (am_at (am_P M) (am_tg pc i)) L st h) = _
  rw [if_pos hc]
  exact H
theorem ex_if_lt_j {i : Int} (hc : x < 0) (ht : am_at (am_P M) (am_tg pc i) = ct) (H : Ex X d M ct L st h res) : Ex X d M ((pc, .ifCond .lt i, a, b, c0) :: cs) L (.int x :: st) h res := by
  obtain ⟨n, H⟩ := H
  subst ht
  refine ⟨n + 1, ?_⟩
  show (if x < 0 then am_ex am_P am_Mi am_Nf X n d M (am_at (am_P M) (am_tg pc i)) L st h else am_ex am_P am_Mi am_Nf X n d M cs L st h) = _
  rw [if_pos hc]
  exact H
theorem ex_if_lt_f {i : Int} (hc : ¬ x < 0) (H : Ex X d M cs L st h res) : Ex X d M ((pc, .ifCond .lt i, a, b, c0) :: cs) L (.int x :: st) h res := by
  obtain ⟨n, H⟩ := H
  refine ⟨n + 1, ?_⟩
  show (if x < 0 then am_ex am_P am_Mi am_Nf X n d M (am_at (am_P M) (am_tg pc i)) L st h else am_ex am_P am_Mi am_Nf X n d M cs L st h) = _
  rw [if_neg hc]
  exact H
theorem ex_if_ge_j {i : Int} (hc : 0 ≤ x) (ht : am_at (am_P M) (am_tg pc i) = ct) (H : Ex X d M ct L st h res) : Ex X d M ((pc, .ifCond .ge i, a, b, c0) :: cs) L (.int x :: st) h res := by
  obtain ⟨n, H⟩ := H
  subst ht
  refine ⟨n + 1, ?_⟩
  show (if 0 ≤ x then am_ex am_P am_Mi am_Nf X n d M (am_at (am_P M) (am_tg pc i)) L st h else am_ex am_P am_Mi am_Nf X n d M cs L st h) = _
  rw [if_pos hc]
  exact H
theorem ex_if_ge_f {i : Int} (hc : ¬ 0 ≤ x) (H : Ex X d M cs L st h res) : Ex X d M ((pc, .ifCond .ge i, a, b, c0) :: cs) L (.int x :: st) h res := by
  obtain ⟨n, H⟩ := H
  refine ⟨n + 1, ?_⟩
  show (if 0 ≤ x then am_ex am_P am_Mi am_Nf X n d M (am_at (am_P M) (am_tg pc i)) L st h else am_ex am_P am_Mi am_Nf X n d M cs L st h) = _
  rw [if_neg hc]
  exact H
theorem ex_if_gt_j {i : Int} (hc : 0 < x) (ht : am_at (am_P M) (am_tg pc i) = ct) (H : Ex X d M ct L st h res) : Ex X d M ((pc, .ifCond .gt i, a, b, c0) :: cs) L (.int x :: st) h res := by
  obtain ⟨n, H⟩ := H
  subst ht
  refine ⟨n + 1, ?_⟩
  show (if 0 < x then am_ex am_P am_Mi am_Nf X n d M (am_at (am_P M) (am_tg pc i)) L st h else am_ex am_P am_Mi am_Nf X n d M cs L st h) = _
  rw [if_pos hc]
  exact H
theorem ex_if_gt_f {i : Int} (hc : ¬ 0 < x) (H : Ex X d M cs L st h res) : Ex X d M ((pc, .ifCond .gt i, a, b, c0) :: cs) L (.int x :: st) h res := by
  obtain ⟨n, H⟩ := H
  refine ⟨n + 1, ?_⟩
  show (if 0 < x then am_ex am_P am_Mi am_Nf X n d M (am_at (am_P M) (am_tg pc i)) L st h else am_ex am_P am_Mi am_Nf X n d M cs L st h) = _
  rw [if_neg hc]
  exact H
theorem ex_if_le_j {i : Int} (hc : x ≤ 0) (ht : am_at (am_P M) (am_tg pc i) = ct) (H : Ex X d M ct L st h res) : Ex X d M ((pc, .ifCond .le i, a, b, c0) :: cs) L (.int x :: st) h res := by
  obtain ⟨n, H⟩ := H
  subst ht
  refine ⟨n + 1, ?_⟩
  show (if x ≤ 0 then am_ex am_P am_Mi am_Nf X n d M (am_at (am_P M) (am_tg pc i)) L st h else am_ex am_P am_Mi am_Nf X n d M cs L st h) = _
  rw [if_pos hc]
  exact H
theorem ex_if_le_f {i : Int} (hc : ¬ x ≤ 0) (H : Ex X d M cs L st h res) : Ex X d M ((pc, .ifCond .le i, a, b, c0) :: cs) L (.int x :: st) h res := by
  obtain ⟨n, H⟩ := H
  refine ⟨n + 1, ?_⟩
  show (if x ≤ 0 then am_ex am_P am_Mi am_Nf X n d M (am_at (am_P M) (am_tg pc i)) L st h else am_ex am_P am_Mi am_Nf X n d M cs L st h) = _
  rw [if_neg hc]
  exact H
theorem ex_icmp_eq_j {i : Int} (hc : x = y) (ht : am_at (am_P M) (am_tg pc i) = ct) (H : Ex X d M ct L st h res) : Ex X d M ((pc, .if_icmp .eq i, a, b, c0) :: cs) L (.int y :: .int x :: st) h res := by
  obtain ⟨n, H⟩ := H
  subst ht
  refine ⟨n + 1, ?_⟩
  show (if x = y then am_ex am_P am_Mi am_Nf X n d M (am_at (am_P M) (am_tg pc i)) L st h else am_ex am_P am_Mi am_Nf X n d M cs L st h) = _
  rw [if_pos hc]
  exact H
theorem ex_icmp_eq_f {i : Int} (hc : ¬ x = y) (H : Ex X d M cs L st h res) : Ex X d M ((pc, .if_icmp .eq i, a, b, c0) :: cs) L (.int y :: .int x :: st) h res := by
  obtain ⟨n, H⟩ := H
  refine ⟨n + 1, ?_⟩
  show (if x = y then am_ex am_P am_Mi am_Nf X n d M (am_at (am_P M) (am_tg pc i)) L st h else am_ex am_P am_Mi am_Nf X n d M cs L st h) = _
  rw [if_neg hc]
  exact H
theorem ex_icmp_ne_j {i : Int} (hc : ¬ x = y) (ht : am_at (am_P M) (am_tg pc i) = ct) (H : Ex X d M ct L st h res) : Ex X d M ((pc, .if_icmp .ne i, a, b, c0) :: cs) L (.int y :: .int x :: st) h res := by
  obtain ⟨n, H⟩ := H
  subst ht
  refine ⟨n + 1, ?_⟩
  show (if x = y then am_ex am_P am_Mi am_Nf X n d M cs L st h else am_ex am_P am_Mi am_Nf X n d M (am_at (am_P M) (am_tg pc i)) L st h) = _
  rw [if_neg hc]
  exact H
theorem ex_icmp_ne_f {i : Int} (hc : x = y) (H : Ex X d M cs L st h res) : Ex X d M ((pc, .if_icmp .ne i, a, b, c0) :: cs) L (.int y :: .int x :: st) h res := by
  obtain ⟨n, H⟩ := H
  refine ⟨n + 1, ?_⟩
  show (if x = y then am_ex am_P am_Mi am_Nf X n d M cs L st h else am_ex am_P am_Mi am_Nf X n d M (am_at (am_P M) (am_tg pc i)) L st h) = _
  rw [if_pos hc]
  exact H
theorem ex_icmp_lt_j {i : Int} (hc : x < y) (ht : am_at (am_P M) (am_tg pc i) = ct) (H : Ex X d M ct L st h res) : Ex X d M ((pc, .if_icmp .lt i, a, b, c0) :: cs) L (.int y :: .int x :: st) h res := by
  obtain ⟨n, H⟩ := H
  subst ht
  refine ⟨n + 1, ?_⟩
  show (if x < y then am_ex am_P am_Mi am_Nf X n d M (am_at (am_P M) (am_tg pc i)) L st h else am_ex am_P am_Mi am_Nf X n d M cs L st h) = _
  rw [if_pos hc]
  exact H
theorem ex_icmp_lt_f {i : Int} (hc : ¬ x < y) (H : Ex X d M cs L st h res) : Ex X d M ((pc, .if_icmp .lt i, a, b, c0) :: cs) L (.int y :: .int x :: st) h res := by
  obtain ⟨n, H⟩ := H
  refine ⟨n + 1, ?_⟩
  show (if x < y then am_ex am_P am_Mi am_Nf X n d M (am_at (am_P M) (am_tg pc i)) L st h else am_ex am_P am_Mi am_Nf X n d M cs L st h) = _
  rw [if_neg hc]
  exact H
theorem ex_icmp_ge_j {i : Int} (hc : y ≤ x) (ht : am_at (am_P M) (am_tg pc i) = ct) (H : Ex X d M ct L st h res) : Ex X d M ((pc, .if_icmp .ge i, a, b, c0) :: cs) L (.int y :: .int x :: st) h res := by
  obtain ⟨n, H⟩ := H
  subst ht
  refine ⟨n + 1, ?_⟩
  show (if y ≤ x then am_ex am_P am_Mi am_Nf X n d M (am_at (am_P M) (am_tg pc i)) L st h else am_ex am_P am_Mi am_Nf X n d M cs L st h) = _
  rw [if_pos hc]
  exact H
theorem ex_icmp_ge_f {i : Int} (hc : ¬ y ≤ x) (H : Ex X d M cs L st h res) : Ex X d M ((pc, .if_icmp .ge i, a, b, c0) :: cs) L (.int y :: .int x :: st) h res := by
  obtain ⟨n, H⟩ := H
  refine ⟨n + 1, ?_⟩
  show (if y ≤ x then am_ex am_P am_Mi am_Nf X n d M (am_at (am_P M) (am_tg pc i)) L st h else am_ex am_P am_Mi am_Nf X n d M cs L st h) = _
  rw [if_neg hc]
  exact H
theorem ex_icmp_gt_j {i : Int} (hc : y < x) (ht : am_at (am_P M) (am_tg pc i) = ct) (H : Ex X d M ct L st h res) : Ex X d M ((pc, .if_icmp .gt i, a, b, c0) :: cs) L (.int y :: .int x :: st) h res := by
  obtain ⟨n, H⟩ := H
  subst ht
  refine ⟨n + 1, ?_⟩
  show (if y < x then am_ex am_P am_Mi am_Nf X n d M (am_at (am_P M) (am_tg pc i)) L st h else am_ex am_P am_Mi am_Nf X n d M cs L st h) = _
  rw [if_pos hc]
  exact H
theorem ex_icmp_gt_f {i : Int} (hc : ¬ y < x) (H : Ex X d M cs L st h res) : Ex X d M ((pc, .if_icmp .gt i, a, b, c0) :: cs) L (.int y :: .int x :: st) h res := by
  obtain ⟨n, H⟩ := H
  refine ⟨n + 1, ?_⟩
  show (if y < x then am_ex am_P am_Mi am_Nf X n d M (am_at (am_P M) (am_tg pc i)) L st h else am_ex am_P am_Mi am_Nf X n d M cs L st h) = _
  rw [if_neg hc]
  exact H
theorem ex_icmp_le_j {i : Int} (hc : x ≤ y) (ht : am_at (am_P M) (am_tg pc i) = ct) (H : Ex X d M ct L st h res) : Ex X d M ((pc, .if_icmp .le i, a, b, c0) :: cs) L (.int y :: .int x :: st) h res := by
  obtain ⟨n, H⟩ := H
  subst ht
  refine ⟨n + 1, ?_⟩
  show (if x ≤ y then am_ex am_P am_Mi am_Nf X n d M (am_at (am_P M) (am_tg pc i)) L st h else am_ex am_P am_Mi am_Nf X n d M cs L st h) = _
  rw [if_pos hc]
  exact H
theorem ex_icmp_le_f {i : Int} (hc : ¬ x ≤ y) (H : Ex X d M cs L st h res) : Ex X d M ((pc, .if_icmp .le i, a, b, c0) :: cs) L (.int y :: .int x :: st) h res := by
  obtain ⟨n, H⟩ := H
  refine ⟨n + 1, ?_⟩
  show (if x ≤ y then am_ex am_P am_Mi am_Nf X n d M (am_at (am_P M) (am_tg pc i)) L st h else am_ex am_P am_Mi am_Nf X n d M cs L st h) = _
  rw [if_neg hc]
  exact H
theorem ex_table {df lo hi off : Int} {offs : Array Int} (ho : am_sw df lo hi offs x = off) (ht : am_at (am_P M) (am_tg pc off) = ct) (H : Ex X d M ct L st h res) : Ex X d M ((pc, .tableswitch df lo hi offs, a, b, c0) :: cs) L (.int x :: st) h res := by
  obtain ⟨n, H⟩ := H
  subst ht
  subst ho
  exact ⟨n + 1, H⟩
theorem ex_look {df off : Int} {ps : Array (Int × Int)} (ho : Op.lookupswitch.offset ps.toList df x.toInt = off) (ht : am_at (am_P M) (am_tg pc off) = ct) (H : Ex X d M ct L st h res) : Ex X d M ((pc, .lookupswitch df ps, a, b, c0) :: cs) L (.int x :: st) h res := by
  obtain ⟨n, H⟩ := H
  subst ht
  subst ho
  exact ⟨n + 1, H⟩
theorem am_sw_out {df lo hi : Int} {offs : Array Int} (n : Nat) (hn : hi = lo + n - 1) (hl : -2147483648 ≤ lo) (hh : hi < 2147483648) (hx : ∀ k : Nat, k < n → x ≠ Int32.ofInt (lo + k)) : am_sw df lo hi offs x = df := by
  unfold am_sw
  split
  · rfl
  · rename_i hc
    exfalso
    have h1 : lo ≤ x.toInt := by omega
    have h2 : x.toInt ≤ hi := by omega
    apply hx (x.toInt - lo).toNat (by omega)
    rw [show lo + ((x.toInt - lo).toNat : Int) = x.toInt by omega, Int32.ofInt_toInt]
theorem ex_getI {k o : Nat} (ho : am_is h o (a + 3) = true) (hc : ¬ c0 = 1) (H : Ex X d M cs L (.int (h.2.1 o b) :: st) h res) : Ex X d M ((pc, .getfield k, a, b, c0) :: cs) L (.ref o :: st) h res := by
  obtain ⟨n, H⟩ := H
  refine ⟨n + 1, ?_⟩
  show (if am_is h o (a + 3) = true then (if c0 = 1 then _ else am_ex am_P am_Mi am_Nf X n d M cs L (.int (h.2.1 o b) :: st) h) else none) = _
  rw [if_pos ho, if_neg hc]
  exact H
theorem ex_getR {k o w : Nat} (ho : am_is h o (a + 3) = true) (hc : c0 = 1) (hw : h.2.2 o b = some w) (H : Ex X d M cs L (.ref w :: st) h res) : Ex X d M ((pc, .getfield k, a, b, c0) :: cs) L (.ref o :: st) h res := by
  obtain ⟨n, H⟩ := H
  refine ⟨n + 1, ?_⟩
  show (if am_is h o (a + 3) = true then (if c0 = 1 then am_ex am_P am_Mi am_Nf X n d M cs L (va_rf (h.2.2 o b) :: st) h else _) else none) = _
  rw [if_pos ho, if_pos hc, hw]
  exact H
theorem ex_putI {k o : Nat} (ho : am_is (hS S) o (a + 3) = true) (hc : ¬ c0 = 1) (hx : ¬ (c0 = 2 ∧ ¬ (x = 0 ∨ x = 1))) (H : Ex X d M cs L st (hS (am_upI S.1 o b x, S.2)) res) : Ex X d M ((pc, .putfield k, a, b, c0) :: cs) L (.int x :: .ref o :: st) (hS S) res := by
  obtain ⟨n, H⟩ := H
  refine ⟨n + 1, ?_⟩
  show (if c0 = 1 then am_rr (.int x :: .ref o :: st) _ else (if am_is (hS S) o (a + 3) = true then (if c0 = 2 ∧ ¬ (x = 0 ∨ x = 1) then none else am_ex am_P am_Mi am_Nf X n d M cs L st ((hS S).1, am_upI (hS S).2.1 o b x, (hS S).2.2)) else none)) = _
  rw [if_neg hc, if_pos ho, if_neg hx]
  exact H
theorem ex_iald {o k : Nat} {f : Nat → Int32} (ha : am_arr X h 0 o = some (k, f)) (hj : ¬ (x < 0 ∨ k ≤ x.toNatClampNeg)) (hv : f x.toNatClampNeg = v) (H : Ex X d M cs L (.int v :: st) h res) : Ex X d M ((pc, .iaload, a, b, c0) :: cs) L (.int x :: .ref o :: st) h res := by
  obtain ⟨n, H⟩ := H
  subst hv
  refine ⟨n + 1, ?_⟩
  show (match am_arr X h 0 o with | some (k, f) => if x < 0 ∨ k ≤ x.toNatClampNeg then none else am_ex am_P am_Mi am_Nf X n d M cs L (.int (f x.toNatClampNeg) :: st) h | none => none) = _
  rw [ha]
  show (if x < 0 ∨ k ≤ x.toNatClampNeg then none else am_ex am_P am_Mi am_Nf X n d M cs L (.int (f x.toNatClampNeg) :: st) h) = _
  rw [if_neg hj]
  exact H
theorem ex_bald {o k : Nat} {f : Nat → Int32} (ha : am_arr X h 1 o = some (k, f)) (hj : ¬ (x < 0 ∨ k ≤ x.toNatClampNeg)) (hv : f x.toNatClampNeg = v) (H : Ex X d M cs L (.int v :: st) h res) : Ex X d M ((pc, .baload, a, b, c0) :: cs) L (.int x :: .ref o :: st) h res := by
  obtain ⟨n, H⟩ := H
  subst hv
  refine ⟨n + 1, ?_⟩
  show (match am_arr X h 1 o with | some (k, f) => if x < 0 ∨ k ≤ x.toNatClampNeg then none else am_ex am_P am_Mi am_Nf X n d M cs L (.int (f x.toNatClampNeg) :: st) h | none => none) = _
  rw [ha]
  show (if x < 0 ∨ k ≤ x.toNatClampNeg then none else am_ex am_P am_Mi am_Nf X n d M cs L (.int (f x.toNatClampNeg) :: st) h) = _
  rw [if_neg hj]
  exact H
theorem ex_iast {o k : Nat} (h1 : am_is (hS S) o 0 = true) (h2 : am_len X (hS S) o = some k) (hj : ¬ (y < 0 ∨ k ≤ y.toNatClampNeg)) (H : Ex X d M cs L st (hS (am_upI S.1 o y.toNatClampNeg x, S.2)) res) : Ex X d M ((pc, .iastore, a, b, c0) :: cs) L (.int x :: .int y :: .ref o :: st) (hS S) res := by
  obtain ⟨n, H⟩ := H
  refine ⟨n + 1, ?_⟩
  show (if am_is (hS S) o 0 = true then (match am_len X (hS S) o with | some k => if y < 0 ∨ k ≤ y.toNatClampNeg then none else am_ex am_P am_Mi am_Nf X n d M cs L st ((hS S).1, am_upI (hS S).2.1 o y.toNatClampNeg x, (hS S).2.2) | none => none) else none) = _
  rw [if_pos h1, h2]
  show (if y < 0 ∨ k ≤ y.toNatClampNeg then none else _) = _
  rw [if_neg hj]
  exact H
theorem ex_bast {o k : Nat} (h1 : am_is (hS S) o 1 = true) (h2 : am_len X (hS S) o = some k) (hj : ¬ (y < 0 ∨ k ≤ y.toNatClampNeg)) (hx : x = 0 ∨ x = 1) (H : Ex X d M cs L st (hS (am_upI S.1 o y.toNatClampNeg x, S.2)) res) : Ex X d M ((pc, .bastore, a, b, c0) :: cs) L (.int x :: .int y :: .ref o :: st) (hS S) res := by
  obtain ⟨n, H⟩ := H
  refine ⟨n + 1, ?_⟩
  show (if am_is (hS S) o 1 = true then (match am_len X (hS S) o with | some k => if y < 0 ∨ k ≤ y.toNatClampNeg then none else (if x = 0 ∨ x = 1 then am_ex am_P am_Mi am_Nf X n d M cs L st ((hS S).1, am_upI (hS S).2.1 o y.toNatClampNeg x, (hS S).2.2) else none) | none => none) else none) = _
  rw [if_pos h1, h2]
  show (if y < 0 ∨ k ≤ y.toNatClampNeg then none else (if x = 0 ∨ x = 1 then _ else none)) = _
  rw [if_neg hj, if_pos hx]
  exact H
theorem ex_alen {o k : Nat} (h2 : am_len X h o = some k) (hv : Int32.ofNat k = v) (H : Ex X d M cs L (.int v :: st) h res) : Ex X d M ((pc, .arraylength, a, b, c0) :: cs) L (.ref o :: st) h res := by
  obtain ⟨n, H⟩ := H
  subst hv
  refine ⟨n + 1, ?_⟩
  show (match am_len X h o with | some k => am_ex am_P am_Mi am_Nf X n d M cs L (.int (Int32.ofNat k) :: st) h | none => none) = _
  rw [h2]
  exact H
theorem ex_getst {k : Nat} (H : Ex X d M cs L (.ref (1000000 + a) :: st) h res) : Ex X d M ((pc, .getstatic k, a, b, c0) :: cs) L st h res := by
  obtain ⟨n, H⟩ := H
  exact ⟨n + 1, H⟩
theorem ex_callV {k : Nat} {as : List Value} {w : Option Int32} {h2 : AmH} {st2 : List Value} (e1 : (st.take b).reverse = as) (e2 : st.drop b = rest) (hb : b ≤ st.length) (h8 : am_cats rest ≤ 8) (hrc : am_rcv h 0 (am_Mi a).2.1 as = true) (hc : Ex X d a (am_P a) (am_ini (am_Mi a).1 as) [] h (w, h2)) (e3 : am_push w rest = st2) (H : Ex X (d + 1) M cs L st2 h2 res) : Ex X (d + 1) M ((pc, .invokevirtual k, a, b, c0) :: cs) L st h res := by
  obtain ⟨n, H⟩ := H
  obtain ⟨m, hm⟩ := hc
  subst e1; subst e2; subst e3
  refine ⟨(n + m) + 1, ?_⟩
  show (if b ≤ st.length ∧ am_cats (st.drop b) ≤ 8 ∧ am_rcv h 0 (am_Mi a).2.1 (st.take b).reverse = true then ((am_ex am_P am_Mi am_Nf X (n + m) d a (am_P a) (am_ini (am_Mi a).1 (st.take b).reverse) [] h).bind fun q => am_ex am_P am_Mi am_Nf X (n + m) (d + 1) M cs L (am_push q.1 (st.drop b)) q.2) else none) = _
  rw [if_pos ⟨hb, h8, hrc⟩]
  exact Option.bind_eq_some_iff.mpr ⟨_, am_mono hm (by omega), am_mono H (by omega)⟩
theorem ex_callS {k : Nat} {as : List Value} {w : Option Int32} {h2 : AmH} {st2 : List Value} (e1 : (st.take b).reverse = as) (e2 : st.drop b = rest) (hb : b ≤ st.length) (h8 : am_cats rest ≤ 8) (hc : Ex X d a (am_P a) (am_ini (am_Mi a).1 as) [] h (w, h2)) (e3 : am_push w rest = st2) (H : Ex X (d + 1) M cs L st2 h2 res) : Ex X (d + 1) M ((pc, .invokestatic k, a, b, c0) :: cs) L st h res := by
  obtain ⟨n, H⟩ := H
  obtain ⟨m, hm⟩ := hc
  subst e1; subst e2; subst e3
  refine ⟨(n + m) + 1, ?_⟩
  show (if b ≤ st.length ∧ am_cats (st.drop b) ≤ 8 then ((am_ex am_P am_Mi am_Nf X (n + m) d a (am_P a) (am_ini (am_Mi a).1 (st.take b).reverse) [] h).bind fun q => am_ex am_P am_Mi am_Nf X (n + m) (d + 1) M cs L (am_push q.1 (st.drop b)) q.2) else none) = _
  rw [if_pos ⟨hb, h8⟩]
  exact Option.bind_eq_some_iff.mpr ⟨_, am_mono hm (by omega), am_mono H (by omega)⟩
theorem ex_iret (hk : (am_Mi M).2.2 = 1 ∨ ((am_Mi M).2.2 = 2 ∧ (v = 0 ∨ v = 1))) : Ex X d M ((pc, .ireturn, a, b, c0) :: cs) L [.int v] h (some v, h) := by
  refine ⟨1, ?_⟩
  show (if (am_Mi M).2.2 = 1 ∨ ((am_Mi M).2.2 = 2 ∧ (v = 0 ∨ v = 1)) then some (some v, h) else none) = _
  rw [if_pos hk]
theorem ex_vret (hk : (am_Mi M).2.2 = 0) : Ex X d M ((pc, .return_, a, b, c0) :: cs) L [] h (none, h) := by
  refine ⟨1, ?_⟩
  show (if (am_Mi M).2.2 = 0 then some (none, h) else none) = _
  rw [if_pos hk]
end EX
end
section
theorem zz_end : True := trivial
end
