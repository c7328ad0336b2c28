-- ===== PART A: goes FIRST, ahead of the names: the tables' words, and 'selects' of the private methods out of them =====
/-- a private method of a class that the tables say can be made, by its rows of tables_1 -/
def lw_okq (q : MethodName × Nat) : Prop := (q.1.cls ≠ "java/lang/invoke/MethodHandle" ∧ q.1.cls ≠ "java/lang/invoke/VarHandle") ∧ Cond.instantiable q.1.cls q.2 ∈ tables_1 ∧ Cond.privateMethod q.1 ∈ tables_1 ∧ Cond.instanceMethod q.1 ∈ tables_1
theorem lw_p0 : lw_okq (⟨"StillYard", "refused", "(I)I"⟩, 14) := ⟨⟨by decide +kernel, by decide +kernel⟩, List.mem_of_getElem? (i := 23) (by decide +kernel), List.mem_of_getElem? (i := 398) (by decide +kernel), List.mem_of_getElem? (i := 399) (by decide +kernel)⟩
theorem lw_p1 : lw_okq (⟨"StillYard", "well", "(I)I"⟩, 14) := ⟨⟨by decide +kernel, by decide +kernel⟩, List.mem_of_getElem? (i := 23) (by decide +kernel), List.mem_of_getElem? (i := 607) (by decide +kernel), List.mem_of_getElem? (i := 608) (by decide +kernel)⟩
theorem lw_p2 : lw_okq (⟨"StillYard", "hasGame", "()Z"⟩, 14) := ⟨⟨by decide +kernel, by decide +kernel⟩, List.mem_of_getElem? (i := 23) (by decide +kernel), List.mem_of_getElem? (i := 623) (by decide +kernel), List.mem_of_getElem? (i := 624) (by decide +kernel)⟩
theorem lw_p3 : lw_okq (⟨"StillYard", "denied", "(I)Z"⟩, 14) := ⟨⟨by decide +kernel, by decide +kernel⟩, List.mem_of_getElem? (i := 23) (by decide +kernel), List.mem_of_getElem? (i := 627) (by decide +kernel), List.mem_of_getElem? (i := 628) (by decide +kernel)⟩
theorem lw_p4 : lw_okq (⟨"StillYard", "granted", "()Z"⟩, 14) := ⟨⟨by decide +kernel, by decide +kernel⟩, List.mem_of_getElem? (i := 23) (by decide +kernel), List.mem_of_getElem? (i := 632) (by decide +kernel), List.mem_of_getElem? (i := 633) (by decide +kernel)⟩
theorem lw_p5 : lw_okq (⟨"StillYard", "isCreeper", "(I)Z"⟩, 14) := ⟨⟨by decide +kernel, by decide +kernel⟩, List.mem_of_getElem? (i := 23) (by decide +kernel), List.mem_of_getElem? (i := 746) (by decide +kernel), List.mem_of_getElem? (i := 747) (by decide +kernel)⟩
theorem lw_p6 : lw_okq (⟨"StillYard", "isBelowWall", "(I)Z"⟩, 14) := ⟨⟨by decide +kernel, by decide +kernel⟩, List.mem_of_getElem? (i := 23) (by decide +kernel), List.mem_of_getElem? (i := 750) (by decide +kernel), List.mem_of_getElem? (i := 751) (by decide +kernel)⟩
theorem lw_p7 : lw_okq (⟨"StillYard", "isOfVerse", "(I)Z"⟩, 14) := ⟨⟨by decide +kernel, by decide +kernel⟩, List.mem_of_getElem? (i := 23) (by decide +kernel), List.mem_of_getElem? (i := 837) (by decide +kernel), List.mem_of_getElem? (i := 838) (by decide +kernel)⟩
theorem lw_p8 : lw_okq (⟨"StillYard", "isFilmed", "(I)Z"⟩, 14) := ⟨⟨by decide +kernel, by decide +kernel⟩, List.mem_of_getElem? (i := 23) (by decide +kernel), List.mem_of_getElem? (i := 969) (by decide +kernel), List.mem_of_getElem? (i := 970) (by decide +kernel)⟩
theorem lw_p9 : lw_okq (⟨"java/lang/Throwable", "fillInStackTrace", "(I)Ljava/lang/Throwable;"⟩, 6) := ⟨⟨by decide +kernel, by decide +kernel⟩, List.mem_of_getElem? (i := 1167) (by decide +kernel), List.mem_of_getElem? (i := 1165) (by decide +kernel), List.mem_of_getElem? (i := 1166) (by decide +kernel)⟩
theorem lw_p10 : lw_okq (⟨"StillYardModel", "good", "()V"⟩, 33) := ⟨⟨by decide +kernel, by decide +kernel⟩, List.mem_of_getElem? (i := 1193) (by decide +kernel), List.mem_of_getElem? (i := 1311) (by decide +kernel), List.mem_of_getElem? (i := 1312) (by decide +kernel)⟩
theorem lw_p11 : lw_okq (⟨"StillYardModel", "no", "(I)I"⟩, 33) := ⟨⟨by decide +kernel, by decide +kernel⟩, List.mem_of_getElem? (i := 1193) (by decide +kernel), List.mem_of_getElem? (i := 1318) (by decide +kernel), List.mem_of_getElem? (i := 1319) (by decide +kernel)⟩
theorem lw_p12 : lw_okq (⟨"StillYardModel", "next", "()V"⟩, 33) := ⟨⟨by decide +kernel, by decide +kernel⟩, List.mem_of_getElem? (i := 1193) (by decide +kernel), List.mem_of_getElem? (i := 1322) (by decide +kernel), List.mem_of_getElem? (i := 1323) (by decide +kernel)⟩
theorem lw_p13 : lw_okq (⟨"StillYardModel", "see", "(I)I"⟩, 33) := ⟨⟨by decide +kernel, by decide +kernel⟩, List.mem_of_getElem? (i := 1193) (by decide +kernel), List.mem_of_getElem? (i := 1326) (by decide +kernel), List.mem_of_getElem? (i := 1327) (by decide +kernel)⟩
theorem lw_p14 : lw_okq (⟨"StillYardModel", "readLine", "()V"⟩, 33) := ⟨⟨by decide +kernel, by decide +kernel⟩, List.mem_of_getElem? (i := 1193) (by decide +kernel), List.mem_of_getElem? (i := 1336) (by decide +kernel), List.mem_of_getElem? (i := 1337) (by decide +kernel)⟩
theorem lw_p15 : lw_okq (⟨"StillYardModel", "isWord", "(Ljava/lang/String;)Z"⟩, 33) := ⟨⟨by decide +kernel, by decide +kernel⟩, List.mem_of_getElem? (i := 1193) (by decide +kernel), List.mem_of_getElem? (i := 1341) (by decide +kernel), List.mem_of_getElem? (i := 1342) (by decide +kernel)⟩
def lw_privs_1 : List (MethodName × Nat) := [(⟨"StillYard", "refused", "(I)I"⟩, 14), (⟨"StillYard", "well", "(I)I"⟩, 14), (⟨"StillYard", "hasGame", "()Z"⟩, 14), (⟨"StillYard", "denied", "(I)Z"⟩, 14), (⟨"StillYard", "granted", "()Z"⟩, 14), (⟨"StillYard", "isCreeper", "(I)Z"⟩, 14), (⟨"StillYard", "isBelowWall", "(I)Z"⟩, 14), (⟨"StillYard", "isOfVerse", "(I)Z"⟩, 14), (⟨"StillYard", "isFilmed", "(I)Z"⟩, 14), (⟨"java/lang/Throwable", "fillInStackTrace", "(I)Ljava/lang/Throwable;"⟩, 6), (⟨"StillYardModel", "good", "()V"⟩, 33), (⟨"StillYardModel", "no", "(I)I"⟩, 33), (⟨"StillYardModel", "next", "()V"⟩, 33), (⟨"StillYardModel", "see", "(I)I"⟩, 33), (⟨"StillYardModel", "readLine", "()V"⟩, 33), (⟨"StillYardModel", "isWord", "(Ljava/lang/String;)Z"⟩, 33)]
theorem lw_r1 : ∀ q ∈ lw_privs_1, lw_okq q := List.forall_mem_cons.mpr ⟨lw_p0, List.forall_mem_cons.mpr ⟨lw_p1, List.forall_mem_cons.mpr ⟨lw_p2, List.forall_mem_cons.mpr ⟨lw_p3, List.forall_mem_cons.mpr ⟨lw_p4, List.forall_mem_cons.mpr ⟨lw_p5, List.forall_mem_cons.mpr ⟨lw_p6, List.forall_mem_cons.mpr ⟨lw_p7, List.forall_mem_cons.mpr ⟨lw_p8, List.forall_mem_cons.mpr ⟨lw_p9, List.forall_mem_cons.mpr ⟨lw_p10, List.forall_mem_cons.mpr ⟨lw_p11, List.forall_mem_cons.mpr ⟨lw_p12, List.forall_mem_cons.mpr ⟨lw_p13, List.forall_mem_cons.mpr ⟨lw_p14, List.forall_mem_cons.mpr ⟨lw_p15, fun _ h => absurd h List.not_mem_nil⟩⟩⟩⟩⟩⟩⟩⟩⟩⟩⟩⟩⟩⟩⟩⟩
theorem lw_p16 : lw_okq (⟨"StillYardModel", "yardLine", "()V"⟩, 33) := ⟨⟨by decide +kernel, by decide +kernel⟩, List.mem_of_getElem? (i := 1193) (by decide +kernel), List.mem_of_getElem? (i := 1347) (by decide +kernel), List.mem_of_getElem? (i := 1348) (by decide +kernel)⟩
theorem lw_p17 : lw_okq (⟨"StillYardModel", "begins", "(I)V"⟩, 33) := ⟨⟨by decide +kernel, by decide +kernel⟩, List.mem_of_getElem? (i := 1193) (by decide +kernel), List.mem_of_getElem? (i := 1351) (by decide +kernel), List.mem_of_getElem? (i := 1352) (by decide +kernel)⟩
theorem lw_p18 : lw_okq (⟨"StillYardModel", "wrong", "(II)V"⟩, 33) := ⟨⟨by decide +kernel, by decide +kernel⟩, List.mem_of_getElem? (i := 1193) (by decide +kernel), List.mem_of_getElem? (i := 1355) (by decide +kernel), List.mem_of_getElem? (i := 1356) (by decide +kernel)⟩
theorem lw_p19 : lw_okq (⟨"StillYardModel", "told", "(Ljava/lang/String;II)I"⟩, 33) := ⟨⟨by decide +kernel, by decide +kernel⟩, List.mem_of_getElem? (i := 1193) (by decide +kernel), List.mem_of_getElem? (i := 1360) (by decide +kernel), List.mem_of_getElem? (i := 1361) (by decide +kernel)⟩
theorem lw_p20 : lw_okq (⟨"StillYardModel", "must", "(Ljava/lang/String;)V"⟩, 33) := ⟨⟨by decide +kernel, by decide +kernel⟩, List.mem_of_getElem? (i := 1193) (by decide +kernel), List.mem_of_getElem? (i := 1364) (by decide +kernel), List.mem_of_getElem? (i := 1365) (by decide +kernel)⟩
theorem lw_p21 : lw_okq (⟨"StillYardModel", "takes", "(Ljava/lang/String;)Z"⟩, 33) := ⟨⟨by decide +kernel, by decide +kernel⟩, List.mem_of_getElem? (i := 1193) (by decide +kernel), List.mem_of_getElem? (i := 1368) (by decide +kernel), List.mem_of_getElem? (i := 1369) (by decide +kernel)⟩
theorem lw_p22 : lw_okq (⟨"StillYardModel", "number", "(II)I"⟩, 33) := ⟨⟨by decide +kernel, by decide +kernel⟩, List.mem_of_getElem? (i := 1193) (by decide +kernel), List.mem_of_getElem? (i := 1372) (by decide +kernel), List.mem_of_getElem? (i := 1373) (by decide +kernel)⟩
theorem lw_p23 : lw_okq (⟨"StillYardModel", "verseLine", "()V"⟩, 33) := ⟨⟨by decide +kernel, by decide +kernel⟩, List.mem_of_getElem? (i := 1193) (by decide +kernel), List.mem_of_getElem? (i := 1379) (by decide +kernel), List.mem_of_getElem? (i := 1380) (by decide +kernel)⟩
theorem lw_p24 : lw_okq (⟨"StillYardModel", "comma", "()Z"⟩, 33) := ⟨⟨by decide +kernel, by decide +kernel⟩, List.mem_of_getElem? (i := 1193) (by decide +kernel), List.mem_of_getElem? (i := 1383) (by decide +kernel), List.mem_of_getElem? (i := 1384) (by decide +kernel)⟩
theorem lw_p25 : lw_okq (⟨"StillYardModel", "oneLine", "()V"⟩, 33) := ⟨⟨by decide +kernel, by decide +kernel⟩, List.mem_of_getElem? (i := 1193) (by decide +kernel), List.mem_of_getElem? (i := 1388) (by decide +kernel), List.mem_of_getElem? (i := 1389) (by decide +kernel)⟩
theorem lw_p26 : lw_okq (⟨"StillYardModel", "gravelLine", "()V"⟩, 33) := ⟨⟨by decide +kernel, by decide +kernel⟩, List.mem_of_getElem? (i := 1193) (by decide +kernel), List.mem_of_getElem? (i := 1397) (by decide +kernel), List.mem_of_getElem? (i := 1398) (by decide +kernel)⟩
theorem lw_p27 : lw_okq (⟨"StillYardModel", "creeperLine", "()V"⟩, 33) := ⟨⟨by decide +kernel, by decide +kernel⟩, List.mem_of_getElem? (i := 1193) (by decide +kernel), List.mem_of_getElem? (i := 1406) (by decide +kernel), List.mem_of_getElem? (i := 1407) (by decide +kernel)⟩
theorem lw_p28 : lw_okq (⟨"StillYardModel", "newName", "()V"⟩, 33) := ⟨⟨by decide +kernel, by decide +kernel⟩, List.mem_of_getElem? (i := 1193) (by decide +kernel), List.mem_of_getElem? (i := 1410) (by decide +kernel), List.mem_of_getElem? (i := 1411) (by decide +kernel)⟩
theorem lw_p29 : lw_okq (⟨"StillYardModel", "begin", "(I)V"⟩, 33) := ⟨⟨by decide +kernel, by decide +kernel⟩, List.mem_of_getElem? (i := 1193) (by decide +kernel), List.mem_of_getElem? (i := 1421) (by decide +kernel), List.mem_of_getElem? (i := 1422) (by decide +kernel)⟩
theorem lw_p30 : lw_okq (⟨"StillYardModel", "isNot", "(I)Z"⟩, 33) := ⟨⟨by decide +kernel, by decide +kernel⟩, List.mem_of_getElem? (i := 1193) (by decide +kernel), List.mem_of_getElem? (i := 1437) (by decide +kernel), List.mem_of_getElem? (i := 1438) (by decide +kernel)⟩
theorem lw_p31 : lw_okq (⟨"StillYardModel", "tenth", "()Z"⟩, 33) := ⟨⟨by decide +kernel, by decide +kernel⟩, List.mem_of_getElem? (i := 1193) (by decide +kernel), List.mem_of_getElem? (i := 1446) (by decide +kernel), List.mem_of_getElem? (i := 1447) (by decide +kernel)⟩
def lw_privs_2 : List (MethodName × Nat) := [(⟨"StillYardModel", "yardLine", "()V"⟩, 33), (⟨"StillYardModel", "begins", "(I)V"⟩, 33), (⟨"StillYardModel", "wrong", "(II)V"⟩, 33), (⟨"StillYardModel", "told", "(Ljava/lang/String;II)I"⟩, 33), (⟨"StillYardModel", "must", "(Ljava/lang/String;)V"⟩, 33), (⟨"StillYardModel", "takes", "(Ljava/lang/String;)Z"⟩, 33), (⟨"StillYardModel", "number", "(II)I"⟩, 33), (⟨"StillYardModel", "verseLine", "()V"⟩, 33), (⟨"StillYardModel", "comma", "()Z"⟩, 33), (⟨"StillYardModel", "oneLine", "()V"⟩, 33), (⟨"StillYardModel", "gravelLine", "()V"⟩, 33), (⟨"StillYardModel", "creeperLine", "()V"⟩, 33), (⟨"StillYardModel", "newName", "()V"⟩, 33), (⟨"StillYardModel", "begin", "(I)V"⟩, 33), (⟨"StillYardModel", "isNot", "(I)Z"⟩, 33), (⟨"StillYardModel", "tenth", "()Z"⟩, 33)]
theorem lw_r2 : ∀ q ∈ lw_privs_2, lw_okq q := List.forall_mem_cons.mpr ⟨lw_p16, List.forall_mem_cons.mpr ⟨lw_p17, List.forall_mem_cons.mpr ⟨lw_p18, List.forall_mem_cons.mpr ⟨lw_p19, List.forall_mem_cons.mpr ⟨lw_p20, List.forall_mem_cons.mpr ⟨lw_p21, List.forall_mem_cons.mpr ⟨lw_p22, List.forall_mem_cons.mpr ⟨lw_p23, List.forall_mem_cons.mpr ⟨lw_p24, List.forall_mem_cons.mpr ⟨lw_p25, List.forall_mem_cons.mpr ⟨lw_p26, List.forall_mem_cons.mpr ⟨lw_p27, List.forall_mem_cons.mpr ⟨lw_p28, List.forall_mem_cons.mpr ⟨lw_p29, List.forall_mem_cons.mpr ⟨lw_p30, List.forall_mem_cons.mpr ⟨lw_p31, fun _ h => absurd h List.not_mem_nil⟩⟩⟩⟩⟩⟩⟩⟩⟩⟩⟩⟩⟩⟩⟩⟩
theorem lw_p32 : lw_okq (⟨"StillYardModel", "goesNow", "(I)Z"⟩, 33) := ⟨⟨by decide +kernel, by decide +kernel⟩, List.mem_of_getElem? (i := 1193) (by decide +kernel), List.mem_of_getElem? (i := 1450) (by decide +kernel), List.mem_of_getElem? (i := 1451) (by decide +kernel)⟩
theorem lw_p33 : lw_okq (⟨"StillYardModel", "tenthsOf", "(I)I"⟩, 33) := ⟨⟨by decide +kernel, by decide +kernel⟩, List.mem_of_getElem? (i := 1193) (by decide +kernel), List.mem_of_getElem? (i := 1454) (by decide +kernel), List.mem_of_getElem? (i := 1455) (by decide +kernel)⟩
theorem lw_p34 : lw_okq (⟨"StillYardModel", "loudest", "(II)I"⟩, 33) := ⟨⟨by decide +kernel, by decide +kernel⟩, List.mem_of_getElem? (i := 1193) (by decide +kernel), List.mem_of_getElem? (i := 1458) (by decide +kernel), List.mem_of_getElem? (i := 1459) (by decide +kernel)⟩
theorem lw_p35 : lw_okq (⟨"StillYardModel", "run", "()V"⟩, 33) := ⟨⟨by decide +kernel, by decide +kernel⟩, List.mem_of_getElem? (i := 1193) (by decide +kernel), List.mem_of_getElem? (i := 1462) (by decide +kernel), List.mem_of_getElem? (i := 1463) (by decide +kernel)⟩
theorem lw_p36 : lw_okq (⟨"StillYardModel", "isCaught", "(II)Z"⟩, 33) := ⟨⟨by decide +kernel, by decide +kernel⟩, List.mem_of_getElem? (i := 1193) (by decide +kernel), List.mem_of_getElem? (i := 1466) (by decide +kernel), List.mem_of_getElem? (i := 1467) (by decide +kernel)⟩
theorem lw_p37 : lw_okq (⟨"StillYardModel", "draw", "()I"⟩, 33) := ⟨⟨by decide +kernel, by decide +kernel⟩, List.mem_of_getElem? (i := 1193) (by decide +kernel), List.mem_of_getElem? (i := 1473) (by decide +kernel), List.mem_of_getElem? (i := 1474) (by decide +kernel)⟩
theorem lw_p38 : lw_okq (⟨"StillYardModel", "look", "()V"⟩, 33) := ⟨⟨by decide +kernel, by decide +kernel⟩, List.mem_of_getElem? (i := 1193) (by decide +kernel), List.mem_of_getElem? (i := 1478) (by decide +kernel), List.mem_of_getElem? (i := 1479) (by decide +kernel)⟩
theorem lw_p39 : lw_okq (⟨"StillYardModel", "lookMany", "()I"⟩, 33) := ⟨⟨by decide +kernel, by decide +kernel⟩, List.mem_of_getElem? (i := 1193) (by decide +kernel), List.mem_of_getElem? (i := 1482) (by decide +kernel), List.mem_of_getElem? (i := 1483) (by decide +kernel)⟩
theorem lw_p40 : lw_okq (⟨"StillYardModel", "ahead", "(I)I"⟩, 33) := ⟨⟨by decide +kernel, by decide +kernel⟩, List.mem_of_getElem? (i := 1193) (by decide +kernel), List.mem_of_getElem? (i := 1486) (by decide +kernel), List.mem_of_getElem? (i := 1487) (by decide +kernel)⟩
theorem lw_p41 : lw_okq (⟨"StillYardModel", "isHidden", "(I)Z"⟩, 33) := ⟨⟨by decide +kernel, by decide +kernel⟩, List.mem_of_getElem? (i := 1193) (by decide +kernel), List.mem_of_getElem? (i := 1490) (by decide +kernel), List.mem_of_getElem? (i := 1491) (by decide +kernel)⟩
theorem lw_p42 : lw_okq (⟨"StillYardModel", "isCreeper", "(I)Z"⟩, 33) := ⟨⟨by decide +kernel, by decide +kernel⟩, List.mem_of_getElem? (i := 1193) (by decide +kernel), List.mem_of_getElem? (i := 1502) (by decide +kernel), List.mem_of_getElem? (i := 1503) (by decide +kernel)⟩
theorem lw_p43 : lw_okq (⟨"StillYardModel", "said", "(I)I"⟩, 33) := ⟨⟨by decide +kernel, by decide +kernel⟩, List.mem_of_getElem? (i := 1193) (by decide +kernel), List.mem_of_getElem? (i := 1518) (by decide +kernel), List.mem_of_getElem? (i := 1519) (by decide +kernel)⟩
theorem lw_p44 : lw_okq (⟨"StillYardModel", "keep", "(I)V"⟩, 33) := ⟨⟨by decide +kernel, by decide +kernel⟩, List.mem_of_getElem? (i := 1193) (by decide +kernel), List.mem_of_getElem? (i := 1530) (by decide +kernel), List.mem_of_getElem? (i := 1531) (by decide +kernel)⟩
theorem lw_p45 : lw_okq (⟨"StillYardModel", "bringBack", "(I)V"⟩, 33) := ⟨⟨by decide +kernel, by decide +kernel⟩, List.mem_of_getElem? (i := 1193) (by decide +kernel), List.mem_of_getElem? (i := 1538) (by decide +kernel), List.mem_of_getElem? (i := 1539) (by decide +kernel)⟩
theorem lw_p46 : lw_okq (⟨"StillYardModel", "first", "(I)J"⟩, 33) := ⟨⟨by decide +kernel, by decide +kernel⟩, List.mem_of_getElem? (i := 1193) (by decide +kernel), List.mem_of_getElem? (i := 1546) (by decide +kernel), List.mem_of_getElem? (i := 1547) (by decide +kernel)⟩
theorem lw_p47 : lw_okq (⟨"StillYardModel", "allWays", "()J"⟩, 33) := ⟨⟨by decide +kernel, by decide +kernel⟩, List.mem_of_getElem? (i := 1193) (by decide +kernel), List.mem_of_getElem? (i := 1555) (by decide +kernel), List.mem_of_getElem? (i := 1556) (by decide +kernel)⟩
def lw_privs_3 : List (MethodName × Nat) := [(⟨"StillYardModel", "goesNow", "(I)Z"⟩, 33), (⟨"StillYardModel", "tenthsOf", "(I)I"⟩, 33), (⟨"StillYardModel", "loudest", "(II)I"⟩, 33), (⟨"StillYardModel", "run", "()V"⟩, 33), (⟨"StillYardModel", "isCaught", "(II)Z"⟩, 33), (⟨"StillYardModel", "draw", "()I"⟩, 33), (⟨"StillYardModel", "look", "()V"⟩, 33), (⟨"StillYardModel", "lookMany", "()I"⟩, 33), (⟨"StillYardModel", "ahead", "(I)I"⟩, 33), (⟨"StillYardModel", "isHidden", "(I)Z"⟩, 33), (⟨"StillYardModel", "isCreeper", "(I)Z"⟩, 33), (⟨"StillYardModel", "said", "(I)I"⟩, 33), (⟨"StillYardModel", "keep", "(I)V"⟩, 33), (⟨"StillYardModel", "bringBack", "(I)V"⟩, 33), (⟨"StillYardModel", "first", "(I)J"⟩, 33), (⟨"StillYardModel", "allWays", "()J"⟩, 33)]
theorem lw_r3 : ∀ q ∈ lw_privs_3, lw_okq q := List.forall_mem_cons.mpr ⟨lw_p32, List.forall_mem_cons.mpr ⟨lw_p33, List.forall_mem_cons.mpr ⟨lw_p34, List.forall_mem_cons.mpr ⟨lw_p35, List.forall_mem_cons.mpr ⟨lw_p36, List.forall_mem_cons.mpr ⟨lw_p37, List.forall_mem_cons.mpr ⟨lw_p38, List.forall_mem_cons.mpr ⟨lw_p39, List.forall_mem_cons.mpr ⟨lw_p40, List.forall_mem_cons.mpr ⟨lw_p41, List.forall_mem_cons.mpr ⟨lw_p42, List.forall_mem_cons.mpr ⟨lw_p43, List.forall_mem_cons.mpr ⟨lw_p44, List.forall_mem_cons.mpr ⟨lw_p45, List.forall_mem_cons.mpr ⟨lw_p46, List.forall_mem_cons.mpr ⟨lw_p47, fun _ h => absurd h List.not_mem_nil⟩⟩⟩⟩⟩⟩⟩⟩⟩⟩⟩⟩⟩⟩⟩⟩
theorem lw_p48 : lw_okq (⟨"StillYardModel", "oddsWhy", "(III)I"⟩, 33) := ⟨⟨by decide +kernel, by decide +kernel⟩, List.mem_of_getElem? (i := 1193) (by decide +kernel), List.mem_of_getElem? (i := 1563) (by decide +kernel), List.mem_of_getElem? (i := 1564) (by decide +kernel)⟩
theorem lw_p49 : lw_okq (⟨"StillYardModel", "whole", "()I"⟩, 33) := ⟨⟨by decide +kernel, by decide +kernel⟩, List.mem_of_getElem? (i := 1193) (by decide +kernel), List.mem_of_getElem? (i := 1567) (by decide +kernel), List.mem_of_getElem? (i := 1568) (by decide +kernel)⟩
theorem lw_p50 : lw_okq (⟨"StillYardModel", "endOf", "(I)I"⟩, 33) := ⟨⟨by decide +kernel, by decide +kernel⟩, List.mem_of_getElem? (i := 1193) (by decide +kernel), List.mem_of_getElem? (i := 1571) (by decide +kernel), List.mem_of_getElem? (i := 1572) (by decide +kernel)⟩
theorem lw_p51 : lw_okq (⟨"StillYardModel", "risks", "(III)J"⟩, 33) := ⟨⟨by decide +kernel, by decide +kernel⟩, List.mem_of_getElem? (i := 1193) (by decide +kernel), List.mem_of_getElem? (i := 1575) (by decide +kernel), List.mem_of_getElem? (i := 1576) (by decide +kernel)⟩
theorem lw_p52 : lw_okq (⟨"StillYardModel", "seenWays", "(IIII)I"⟩, 33) := ⟨⟨by decide +kernel, by decide +kernel⟩, List.mem_of_getElem? (i := 1193) (by decide +kernel), List.mem_of_getElem? (i := 1579) (by decide +kernel), List.mem_of_getElem? (i := 1580) (by decide +kernel)⟩
theorem lw_p53 : lw_okq (⟨"StillYardModel", "gone", "(III)I"⟩, 33) := ⟨⟨by decide +kernel, by decide +kernel⟩, List.mem_of_getElem? (i := 1193) (by decide +kernel), List.mem_of_getElem? (i := 1583) (by decide +kernel), List.mem_of_getElem? (i := 1584) (by decide +kernel)⟩
theorem lw_p54 : lw_okq (⟨"StillYardModel", "gains", "(IIIZ)J"⟩, 33) := ⟨⟨by decide +kernel, by decide +kernel⟩, List.mem_of_getElem? (i := 1193) (by decide +kernel), List.mem_of_getElem? (i := 1595) (by decide +kernel), List.mem_of_getElem? (i := 1596) (by decide +kernel)⟩
theorem lw_p55 : lw_okq (⟨"StillYardModel", "brings", "(IIIIZ)J"⟩, 33) := ⟨⟨by decide +kernel, by decide +kernel⟩, List.mem_of_getElem? (i := 1193) (by decide +kernel), List.mem_of_getElem? (i := 1599) (by decide +kernel), List.mem_of_getElem? (i := 1600) (by decide +kernel)⟩
theorem lw_p56 : lw_okq (⟨"StillYardModel", "bestOf", "(IIZ)I"⟩, 33) := ⟨⟨by decide +kernel, by decide +kernel⟩, List.mem_of_getElem? (i := 1193) (by decide +kernel), List.mem_of_getElem? (i := 1607) (by decide +kernel), List.mem_of_getElem? (i := 1608) (by decide +kernel)⟩
theorem lw_p57 : lw_okq (⟨"StillYardModel", "restOf", "(III)I"⟩, 33) := ⟨⟨by decide +kernel, by decide +kernel⟩, List.mem_of_getElem? (i := 1193) (by decide +kernel), List.mem_of_getElem? (i := 1619) (by decide +kernel), List.mem_of_getElem? (i := 1620) (by decide +kernel)⟩
theorem lw_p58 : lw_okq (⟨"StillYardModel", "isRest", "(IIII)Z"⟩, 33) := ⟨⟨by decide +kernel, by decide +kernel⟩, List.mem_of_getElem? (i := 1193) (by decide +kernel), List.mem_of_getElem? (i := 1623) (by decide +kernel), List.mem_of_getElem? (i := 1624) (by decide +kernel)⟩
theorem lw_p59 : lw_okq (⟨"StillYardModel", "means", "(I)I"⟩, 33) := ⟨⟨by decide +kernel, by decide +kernel⟩, List.mem_of_getElem? (i := 1193) (by decide +kernel), List.mem_of_getElem? (i := 1638) (by decide +kernel), List.mem_of_getElem? (i := 1639) (by decide +kernel)⟩
theorem lw_p60 : lw_okq (⟨"StillYardModel", "playWhy", "(II)I"⟩, 33) := ⟨⟨by decide +kernel, by decide +kernel⟩, List.mem_of_getElem? (i := 1193) (by decide +kernel), List.mem_of_getElem? (i := 1650) (by decide +kernel), List.mem_of_getElem? (i := 1651) (by decide +kernel)⟩
theorem lw_p61 : lw_okq (⟨"StillYardModel", "plays", "(II)V"⟩, 33) := ⟨⟨by decide +kernel, by decide +kernel⟩, List.mem_of_getElem? (i := 1193) (by decide +kernel), List.mem_of_getElem? (i := 1654) (by decide +kernel), List.mem_of_getElem? (i := 1655) (by decide +kernel)⟩
theorem lw_p62 : lw_okq (⟨"StillYardModel", "isFilmed", "(I)Z"⟩, 33) := ⟨⟨by decide +kernel, by decide +kernel⟩, List.mem_of_getElem? (i := 1193) (by decide +kernel), List.mem_of_getElem? (i := 1674) (by decide +kernel), List.mem_of_getElem? (i := 1675) (by decide +kernel)⟩
theorem lw_p63 : lw_okq (⟨"StillYardModel", "lawOf", "(II)I"⟩, 33) := ⟨⟨by decide +kernel, by decide +kernel⟩, List.mem_of_getElem? (i := 1193) (by decide +kernel), List.mem_of_getElem? (i := 1682) (by decide +kernel), List.mem_of_getElem? (i := 1683) (by decide +kernel)⟩
def lw_privs_4 : List (MethodName × Nat) := [(⟨"StillYardModel", "oddsWhy", "(III)I"⟩, 33), (⟨"StillYardModel", "whole", "()I"⟩, 33), (⟨"StillYardModel", "endOf", "(I)I"⟩, 33), (⟨"StillYardModel", "risks", "(III)J"⟩, 33), (⟨"StillYardModel", "seenWays", "(IIII)I"⟩, 33), (⟨"StillYardModel", "gone", "(III)I"⟩, 33), (⟨"StillYardModel", "gains", "(IIIZ)J"⟩, 33), (⟨"StillYardModel", "brings", "(IIIIZ)J"⟩, 33), (⟨"StillYardModel", "bestOf", "(IIZ)I"⟩, 33), (⟨"StillYardModel", "restOf", "(III)I"⟩, 33), (⟨"StillYardModel", "isRest", "(IIII)Z"⟩, 33), (⟨"StillYardModel", "means", "(I)I"⟩, 33), (⟨"StillYardModel", "playWhy", "(II)I"⟩, 33), (⟨"StillYardModel", "plays", "(II)V"⟩, 33), (⟨"StillYardModel", "isFilmed", "(I)Z"⟩, 33), (⟨"StillYardModel", "lawOf", "(II)I"⟩, 33)]
theorem lw_r4 : ∀ q ∈ lw_privs_4, lw_okq q := List.forall_mem_cons.mpr ⟨lw_p48, List.forall_mem_cons.mpr ⟨lw_p49, List.forall_mem_cons.mpr ⟨lw_p50, List.forall_mem_cons.mpr ⟨lw_p51, List.forall_mem_cons.mpr ⟨lw_p52, List.forall_mem_cons.mpr ⟨lw_p53, List.forall_mem_cons.mpr ⟨lw_p54, List.forall_mem_cons.mpr ⟨lw_p55, List.forall_mem_cons.mpr ⟨lw_p56, List.forall_mem_cons.mpr ⟨lw_p57, List.forall_mem_cons.mpr ⟨lw_p58, List.forall_mem_cons.mpr ⟨lw_p59, List.forall_mem_cons.mpr ⟨lw_p60, List.forall_mem_cons.mpr ⟨lw_p61, List.forall_mem_cons.mpr ⟨lw_p62, List.forall_mem_cons.mpr ⟨lw_p63, fun _ h => absurd h List.not_mem_nil⟩⟩⟩⟩⟩⟩⟩⟩⟩⟩⟩⟩⟩⟩⟩⟩
theorem lw_p64 : lw_okq (⟨"StillYardModel", "spanWhy", "(I)I"⟩, 33) := ⟨⟨by decide +kernel, by decide +kernel⟩, List.mem_of_getElem? (i := 1193) (by decide +kernel), List.mem_of_getElem? (i := 1702) (by decide +kernel), List.mem_of_getElem? (i := 1703) (by decide +kernel)⟩
theorem lw_p65 : lw_okq (⟨"StillYardModel", "spanOf", "(IZ)I"⟩, 33) := ⟨⟨by decide +kernel, by decide +kernel⟩, List.mem_of_getElem? (i := 1193) (by decide +kernel), List.mem_of_getElem? (i := 1706) (by decide +kernel), List.mem_of_getElem? (i := 1707) (by decide +kernel)⟩
theorem lw_p66 : lw_okq (⟨"StillYardModel", "isSpanned", "(II)Z"⟩, 33) := ⟨⟨by decide +kernel, by decide +kernel⟩, List.mem_of_getElem? (i := 1193) (by decide +kernel), List.mem_of_getElem? (i := 1710) (by decide +kernel), List.mem_of_getElem? (i := 1711) (by decide +kernel)⟩
theorem lw_p67 : lw_okq (⟨"StillYardModel", "fairest", "()I"⟩, 33) := ⟨⟨by decide +kernel, by decide +kernel⟩, List.mem_of_getElem? (i := 1193) (by decide +kernel), List.mem_of_getElem? (i := 1734) (by decide +kernel), List.mem_of_getElem? (i := 1735) (by decide +kernel)⟩
theorem lw_p68 : lw_okq (⟨"StillYardModel", "layWhy", "(I)I"⟩, 33) := ⟨⟨by decide +kernel, by decide +kernel⟩, List.mem_of_getElem? (i := 1193) (by decide +kernel), List.mem_of_getElem? (i := 1747) (by decide +kernel), List.mem_of_getElem? (i := 1748) (by decide +kernel)⟩
theorem lw_p69 : lw_okq (⟨"StillYardModel", "strip", "(I)I"⟩, 33) := ⟨⟨by decide +kernel, by decide +kernel⟩, List.mem_of_getElem? (i := 1193) (by decide +kernel), List.mem_of_getElem? (i := 1751) (by decide +kernel), List.mem_of_getElem? (i := 1752) (by decide +kernel)⟩
theorem lw_p70 : lw_okq (⟨"StillYardModel", "steps", "(III)I"⟩, 33) := ⟨⟨by decide +kernel, by decide +kernel⟩, List.mem_of_getElem? (i := 1193) (by decide +kernel), List.mem_of_getElem? (i := 1755) (by decide +kernel), List.mem_of_getElem? (i := 1756) (by decide +kernel)⟩
def lw_privs_5 : List (MethodName × Nat) := [(⟨"StillYardModel", "spanWhy", "(I)I"⟩, 33), (⟨"StillYardModel", "spanOf", "(IZ)I"⟩, 33), (⟨"StillYardModel", "isSpanned", "(II)Z"⟩, 33), (⟨"StillYardModel", "fairest", "()I"⟩, 33), (⟨"StillYardModel", "layWhy", "(I)I"⟩, 33), (⟨"StillYardModel", "strip", "(I)I"⟩, 33), (⟨"StillYardModel", "steps", "(III)I"⟩, 33)]
theorem lw_r5 : ∀ q ∈ lw_privs_5, lw_okq q := List.forall_mem_cons.mpr ⟨lw_p64, List.forall_mem_cons.mpr ⟨lw_p65, List.forall_mem_cons.mpr ⟨lw_p66, List.forall_mem_cons.mpr ⟨lw_p67, List.forall_mem_cons.mpr ⟨lw_p68, List.forall_mem_cons.mpr ⟨lw_p69, List.forall_mem_cons.mpr ⟨lw_p70, fun _ h => absurd h List.not_mem_nil⟩⟩⟩⟩⟩⟩⟩
def lw_privs : List (MethodName × Nat) := lw_privs_1 ++ (lw_privs_2 ++ (lw_privs_3 ++ (lw_privs_4 ++ (lw_privs_5))))
def lw_tbl : List Cond := k2_sels lw_privs ++ tables_1
theorem lw_privs_ok : ∀ q ∈ lw_privs, lw_okq q := by
  show ∀ q ∈ lw_privs_1 ++ (lw_privs_2 ++ (lw_privs_3 ++ (lw_privs_4 ++ (lw_privs_5)))), lw_okq q
  exact List.forall_mem_append.mpr ⟨lw_r1, List.forall_mem_append.mpr ⟨lw_r2, List.forall_mem_append.mpr ⟨lw_r3, List.forall_mem_append.mpr ⟨lw_r4, lw_r5⟩⟩⟩⟩
def RX0 : String := "StillYard$Game"
def TX0 : u_T := fun k => match k with
  | 0 => ("StillYard$Game", "ends", "[I", true)
  | 1 => ("StillYard$Game", "syllableCounts", "[I", true)
  | 2 => ("StillYard$Game", "syllables", "[I", true)
  | 3 => ("StillYard$Game", "chances", "[I", true)
  | 4 => ("StillYard$Game", "gravel", "[I", true)
  | 5 => ("StillYard$Game", "traits", "[I", true)
  | 6 => ("StillYard$Game", "length", "I", false)
  | 7 => ("StillYard$Game", "lanes", "I", false)
  | 8 => ("StillYard$Game", "runs", "I", false)
  | 9 => ("StillYard$Game", "parts", "I", false)
  | 10 => ("StillYard$Game", "looks", "I", false)
  | 11 => ("StillYard$Game", "eye", "I", false)
  | 12 => ("StillYard$Game", "sees", "I", false)
  | 13 => ("StillYard$Game", "gravels", "I", false)
  | _ => ("StillYard$Game", "creepers", "I", false)
def tyX0 : Nat → FieldType := fun k => match k with
  | 0 => .array .int
  | 1 => .array .int
  | 2 => .array .int
  | 3 => .array .int
  | 4 => .array .int
  | 5 => .array .int
  | 6 => .int
  | 7 => .int
  | 8 => .int
  | 9 => .int
  | 10 => .int
  | 11 => .int
  | 12 => .int
  | 13 => .int
  | _ => .int
abbrev wsX00 : List Cond := u_ws RX0 TX0 15
theorem nmX0 : ∀ a, a < 15 → ∀ b, b < 15 → a ≠ b → (TX0 a).2.1 ≠ (TX0 b).2.1 := by decide +kernel
theorem tyX0_ok : ∀ k, k < 15 → parseFieldDescriptor (TX0 k).2.2.1 = some (tyX0 k) := by decide +kernel
abbrev cX0_init : ByteArray := prog_2_method_1_code
def yX0_init : MethodName := ⟨RX0, "<init>", "()V"⟩
abbrev cX0_clear : ByteArray := prog_2_method_2_code
def yX0_clear : MethodName := ⟨RX0, "clear", "()V"⟩
abbrev cX0_isWhole : ByteArray := prog_2_method_3_code
def yX0_isWhole : MethodName := ⟨RX0, "isWhole", "()Z"⟩
abbrev cX0_addPart : ByteArray := prog_2_method_4_code
def yX0_addPart : MethodName := ⟨RX0, "addPart", "()V"⟩
abbrev cX0_addSyllable : ByteArray := prog_2_method_5_code
def yX0_addSyllable : MethodName := ⟨RX0, "addSyllable", "(I)V"⟩
abbrev cX0_verseTenths : ByteArray := prog_2_method_6_code
def yX0_verseTenths : MethodName := ⟨RX0, "verseTenths", "()I"⟩
abbrev cX0_endOf : ByteArray := prog_2_method_7_code
def yX0_endOf : MethodName := ⟨RX0, "endOf", "(I)I"⟩
abbrev cX0_syllable : ByteArray := prog_2_method_8_code
def yX0_syllable : MethodName := ⟨RX0, "syllable", "(II)I"⟩
abbrev cX0_partOf : ByteArray := prog_2_method_9_code
def yX0_partOf : MethodName := ⟨RX0, "partOf", "(I)I"⟩
abbrev cX0_eyes : ByteArray := prog_2_method_10_code
def yX0_eyes : MethodName := ⟨RX0, "eyes", "()I"⟩
abbrev cX0_trait : ByteArray := prog_2_method_11_code
def yX0_trait : MethodName := ⟨RX0, "trait", "(II)I"⟩
abbrev cX0_goes : ByteArray := prog_2_method_12_code
def yX0_goes : MethodName := ⟨RX0, "goes", "(II)Z"⟩
abbrev cX0_tenthsMeant : ByteArray := prog_2_method_13_code
def yX0_tenthsMeant : MethodName := ⟨RX0, "tenthsMeant", "(I)I"⟩
abbrev cX0_loudnessOf : ByteArray := prog_2_method_14_code
def yX0_loudnessOf : MethodName := ⟨RX0, "loudnessOf", "(II)I"⟩
abbrev cX0_isCaughtFrom : ByteArray := prog_2_method_15_code
def yX0_isCaughtFrom : MethodName := ⟨RX0, "isCaughtFrom", "(II)Z"⟩
def RX1 : String := "StillYard$Notes"
def TX1 : u_T := fun k => match k with
  | 0 => ("StillYard$Notes", "filmCounts", "[I", true)
  | 1 => ("StillYard$Notes", "stops", "[I", true)
  | 2 => ("StillYard$Notes", "wobbled", "[I", true)
  | _ => ("StillYard$Notes", "films", "I", false)
def tyX1 : Nat → FieldType := fun k => match k with
  | 0 => .array .int
  | 1 => .array .int
  | 2 => .array .int
  | _ => .int
abbrev wsX10 : List Cond := u_ws RX1 TX1 4
theorem nmX1 : ∀ a, a < 4 → ∀ b, b < 4 → a ≠ b → (TX1 a).2.1 ≠ (TX1 b).2.1 := by decide +kernel
theorem tyX1_ok : ∀ k, k < 4 → parseFieldDescriptor (TX1 k).2.2.1 = some (tyX1 k) := by decide +kernel
abbrev cX1_init : ByteArray := prog_3_method_1_code
def yX1_init : MethodName := ⟨RX1, "<init>", "()V"⟩
abbrev cX1_clear : ByteArray := prog_3_method_2_code
def yX1_clear : MethodName := ⟨RX1, "clear", "()V"⟩
abbrev cX1_addFilm : ByteArray := prog_3_method_3_code
def yX1_addFilm : MethodName := ⟨RX1, "addFilm", "(IZZ)V"⟩
abbrev cX1_counted : ByteArray := prog_3_method_4_code
def yX1_counted : MethodName := ⟨RX1, "counted", "(II)I"⟩
abbrev cX1_lawOf : ByteArray := prog_3_method_5_code
def yX1_lawOf : MethodName := ⟨RX1, "lawOf", "(I)I"⟩
abbrev cX1_lawBy : ByteArray := prog_3_method_6_code
def yX1_lawBy : MethodName := ⟨RX1, "lawBy", "(IZ)I"⟩
abbrev cX1_addStop : ByteArray := prog_3_method_7_code
def yX1_addStop : MethodName := ⟨RX1, "addStop", "(IZ)V"⟩
abbrev cX1_isInSpan : ByteArray := prog_3_method_8_code
def yX1_isInSpan : MethodName := ⟨RX1, "isInSpan", "(II)Z"⟩
abbrev cX1_isUsual : ByteArray := prog_3_method_9_code
def yX1_isUsual : MethodName := ⟨RX1, "isUsual", "(JI)Z"⟩
abbrev cX1_waysBetween : ByteArray := prog_3_method_10_code
def yX1_waysBetween : MethodName := ⟨RX1, "waysBetween", "(IIII)J"⟩
abbrev cX1_waysOf : ByteArray := prog_3_method_11_code
def yX1_waysOf : MethodName := ⟨RX1, "waysOf", "(III)J"⟩
abbrev cX1_leastWobble : ByteArray := prog_3_method_12_code
def yX1_leastWobble : MethodName := ⟨RX1, "leastWobble", "(I)I"⟩
abbrev cX1_greatestWobble : ByteArray := prog_3_method_13_code
def yX1_greatestWobble : MethodName := ⟨RX1, "greatestWobble", "(I)I"⟩
def RX2 : String := "StillYard$Odds"
def TX2 : u_T := fun k => match k with
  | _ => ("", "", "", false)
def tyX2 : Nat → FieldType := fun k => match k with
  | _ => .int
abbrev wsX20 : List Cond := u_ws RX2 TX2 0
theorem nmX2 : ∀ a, a < 0 → ∀ b, b < 0 → a ≠ b → (TX2 a).2.1 ≠ (TX2 b).2.1 := by decide +kernel
theorem tyX2_ok : ∀ k, k < 0 → parseFieldDescriptor (TX2 k).2.2.1 = some (tyX2 k) := by decide +kernel
abbrev cX2_allWays : ByteArray := prog_4_method_2_code
def yX2_allWays : MethodName := ⟨RX2, "allWays", "(LStillYard$Game;)J"⟩
abbrev cX2_waysUnturned : ByteArray := prog_4_method_3_code
def yX2_waysUnturned : MethodName := ⟨RX2, "waysUnturned", "(LStillYard$Game;I)J"⟩
abbrev cX2_waysToTurn : ByteArray := prog_4_method_4_code
def yX2_waysToTurn : MethodName := ⟨RX2, "waysToTurn", "(LStillYard$Game;I)J"⟩
abbrev cX2_reached : ByteArray := prog_4_method_5_code
def yX2_reached : MethodName := ⟨RX2, "reached", "(LStillYard$Game;III)I"⟩
abbrev cX2_isShown : ByteArray := prog_4_method_6_code
def yX2_isShown : MethodName := ⟨RX2, "isShown", "(LStillYard$Game;IIII)Z"⟩
abbrev cX2_seenWays : ByteArray := prog_4_method_7_code
def yX2_seenWays : MethodName := ⟨RX2, "seenWays", "(LStillYard$Game;III)J"⟩
abbrev cX2_gainedIf : ByteArray := prog_4_method_8_code
def yX2_gainedIf : MethodName := ⟨RX2, "gainedIf", "(LStillYard$Game;IIIIZ)J"⟩
abbrev cX2_gained : ByteArray := prog_4_method_9_code
def yX2_gained : MethodName := ⟨RX2, "gained", "(LStillYard$Game;IIIZ)J"⟩
abbrev cX2_bestStand : ByteArray := prog_4_method_10_code
def yX2_bestStand : MethodName := ⟨RX2, "bestStand", "(LStillYard$Game;IIZ)I"⟩
abbrev cX2_isRest : ByteArray := prog_4_method_11_code
def yX2_isRest : MethodName := ⟨RX2, "isRest", "(LStillYard$Game;IIII)Z"⟩
abbrev cX2_countRests : ByteArray := prog_4_method_12_code
def yX2_countRests : MethodName := ⟨RX2, "countRests", "(LStillYard$Game;II)I"⟩
abbrev cX2_restAt : ByteArray := prog_4_method_13_code
def yX2_restAt : MethodName := ⟨RX2, "restAt", "(LStillYard$Game;III)I"⟩
abbrev cX2_watched : ByteArray := prog_4_method_14_code
def yX2_watched : MethodName := ⟨RX2, "watched", "(LStillYard$Game;LStillYard$Play;)I"⟩
abbrev cX2_riskTogether : ByteArray := prog_4_method_15_code
def yX2_riskTogether : MethodName := ⟨RX2, "riskTogether", "(LStillYard$Game;LStillYard$Play;I)J"⟩
def RX3 : String := "StillYard$Play"
def TX3 : u_T := fun k => match k with
  | 0 => ("StillYard$Play", "places", "[I", true)
  | 1 => ("StillYard$Play", "intos", "[I", true)
  | 2 => ("StillYard$Play", "hows", "[I", true)
  | 3 => ("StillYard$Play", "seen", "[I", true)
  | 4 => ("StillYard$Play", "wronged", "[I", true)
  | 5 => ("StillYard$Play", "stood", "[I", true)
  | 6 => ("StillYard$Play", "went", "[I", true)
  | 7 => ("StillYard$Play", "wobbles", "[I", true)
  | 8 => ("StillYard$Play", "order", "[I", true)
  | 9 => ("StillYard$Play", "seed", "I", false)
  | 10 => ("StillYard$Play", "said", "I", false)
  | 11 => ("StillYard$Play", "loudness", "I", false)
  | 12 => ("StillYard$Play", "looks", "I", false)
  | 13 => ("StillYard$Play", "spent", "I", false)
  | _ => ("StillYard$Play", "toucher", "I", false)
def tyX3 : Nat → FieldType := fun k => match k with
  | 0 => .array .int
  | 1 => .array .int
  | 2 => .array .int
  | 3 => .array .int
  | 4 => .array .int
  | 5 => .array .int
  | 6 => .array .int
  | 7 => .array .int
  | 8 => .array .int
  | 9 => .int
  | 10 => .int
  | 11 => .int
  | 12 => .int
  | 13 => .int
  | _ => .int
abbrev wsX30 : List Cond := u_ws RX3 TX3 15
theorem nmX3 : ∀ a, a < 15 → ∀ b, b < 15 → a ≠ b → (TX3 a).2.1 ≠ (TX3 b).2.1 := by decide +kernel
theorem tyX3_ok : ∀ k, k < 15 → parseFieldDescriptor (TX3 k).2.2.1 = some (tyX3 k) := by decide +kernel
abbrev cX3_init : ByteArray := prog_5_method_1_code
def yX3_init : MethodName := ⟨RX3, "<init>", "()V"⟩
abbrev cX3_begin : ByteArray := prog_5_method_2_code
def yX3_begin : MethodName := ⟨RX3, "begin", "(I)V"⟩
abbrev cX3_become : ByteArray := prog_5_method_3_code
def yX3_become : MethodName := ⟨RX3, "become", "(LStillYard$Play;)V"⟩
abbrev cX3_isOver : ByteArray := prog_5_method_4_code
def yX3_isOver : MethodName := ⟨RX3, "isOver", "()Z"⟩
abbrev cX3_draw : ByteArray := prog_5_method_5_code
def yX3_draw : MethodName := ⟨RX3, "draw", "()I"⟩
abbrev cX3_goOn : ByteArray := prog_5_method_6_code
def yX3_goOn : MethodName := ⟨RX3, "goOn", "(LStillYard$Game;I)I"⟩
abbrev cX3_creepAll : ByteArray := prog_5_method_7_code
def yX3_creepAll : MethodName := ⟨RX3, "creepAll", "(LStillYard$Game;)V"⟩
abbrev cX3_creep : ByteArray := prog_5_method_8_code
def yX3_creep : MethodName := ⟨RX3, "creep", "(LStillYard$Game;I)V"⟩
abbrev cX3_firstAtWall : ByteArray := prog_5_method_9_code
def yX3_firstAtWall : MethodName := ⟨RX3, "firstAtWall", "(LStillYard$Game;)I"⟩
abbrev cX3_turnsNow : ByteArray := prog_5_method_10_code
def yX3_turnsNow : MethodName := ⟨RX3, "turnsNow", "(LStillYard$Game;)Z"⟩
abbrev cX3_wobbleAll : ByteArray := prog_5_method_11_code
def yX3_wobbleAll : MethodName := ⟨RX3, "wobbleAll", "(LStillYard$Game;)V"⟩
abbrev cX3_stopFootUp : ByteArray := prog_5_method_12_code
def yX3_stopFootUp : MethodName := ⟨RX3, "stopFootUp", "(LStillYard$Game;I)V"⟩
abbrev cX3_orderAll : ByteArray := prog_5_method_13_code
def yX3_orderAll : MethodName := ⟨RX3, "orderAll", "(LStillYard$Game;)V"⟩
abbrev cX3_lookAround : ByteArray := prog_5_method_14_code
def yX3_lookAround : MethodName := ⟨RX3, "lookAround", "(LStillYard$Game;I)V"⟩
abbrev cX3_howStands : ByteArray := prog_5_method_15_code
def yX3_howStands : MethodName := ⟨RX3, "howStands", "(LStillYard$Game;I)I"⟩
abbrev cX3_isHidden : ByteArray := prog_5_method_16_code
def yX3_isHidden : MethodName := ⟨RX3, "isHidden", "(LStillYard$Game;I)Z"⟩
abbrev cX3_sendBack : ByteArray := prog_5_method_17_code
def yX3_sendBack : MethodName := ⟨RX3, "sendBack", "(LStillYard$Game;)V"⟩
abbrev cX3_putRight : ByteArray := prog_5_method_18_code
def yX3_putRight : MethodName := ⟨RX3, "putRight", "(I)V"⟩
abbrev cX3_partSaid : ByteArray := prog_5_method_19_code
def yX3_partSaid : MethodName := ⟨RX3, "partSaid", "(LStillYard$Game;)I"⟩
abbrev cX3_syllableSaid : ByteArray := prog_5_method_20_code
def yX3_syllableSaid : MethodName := ⟨RX3, "syllableSaid", "(LStillYard$Game;)I"⟩
abbrev cX3_tenthsOfSyllable : ByteArray := prog_5_method_21_code
def yX3_tenthsOfSyllable : MethodName := ⟨RX3, "tenthsOfSyllable", "(LStillYard$Game;)I"⟩
abbrev cX3_caughtBits : ByteArray := prog_5_method_22_code
def yX3_caughtBits : MethodName := ⟨RX3, "caughtBits", "(LStillYard$Game;)I"⟩
def RX4 : String := "StillYard$Plays"
def TX4 : u_T := fun k => match k with
  | 0 => ("StillYard$Plays", "trial", "LStillYard$Play;", true)
  | 1 => ("StillYard$Plays", "touches", "[I", true)
  | 2 => ("StillYard$Plays", "touched", "I", false)
  | 3 => ("StillYard$Plays", "spent", "I", false)
  | _ => ("StillYard$Plays", "sentBack", "I", false)
def tyX4 : Nat → FieldType := fun k => match k with
  | 0 => .object "StillYard$Play"
  | 1 => .array .int
  | 2 => .int
  | 3 => .int
  | _ => .int
abbrev wsX40 : List Cond := u_ws RX4 TX4 5
theorem nmX4 : ∀ a, a < 5 → ∀ b, b < 5 → a ≠ b → (TX4 a).2.1 ≠ (TX4 b).2.1 := by decide +kernel
theorem tyX4_ok : ∀ k, k < 5 → parseFieldDescriptor (TX4 k).2.2.1 = some (tyX4 k) := by decide +kernel
abbrev cX4_init : ByteArray := prog_6_method_1_code
def yX4_init : MethodName := ⟨RX4, "<init>", "()V"⟩
abbrev cX4_run : ByteArray := prog_6_method_2_code
def yX4_run : MethodName := ⟨RX4, "run", "(LStillYard$Game;IIII)V"⟩
abbrev cX4_count : ByteArray := prog_6_method_3_code
def yX4_count : MethodName := ⟨RX4, "count", "(LStillYard$Game;)V"⟩
def RX5 : String := "StillYard$Reader"
def TX5 : u_T := fun k => match k with
  | 0 => ("StillYard$Reader", "text", "LStillYard$Text;", true)
  | 1 => ("StillYard$Reader", "nameStarts", "[I", true)
  | 2 => ("StillYard$Reader", "nameWidths", "[I", true)
  | 3 => ("StillYard$Reader", "game", "LStillYard$Game;", false)
  | 4 => ("StillYard$Reader", "fault", "I", false)
  | 5 => ("StillYard$Reader", "place", "I", false)
  | _ => ("StillYard$Reader", "got", "I", false)
def tyX5 : Nat → FieldType := fun k => match k with
  | 0 => .object "StillYard$Text"
  | 1 => .array .int
  | 2 => .array .int
  | 3 => .object "StillYard$Game"
  | 4 => .int
  | 5 => .int
  | _ => .int
abbrev wsX50 : List Cond := u_ws RX5 TX5 7
theorem nmX5 : ∀ a, a < 7 → ∀ b, b < 7 → a ≠ b → (TX5 a).2.1 ≠ (TX5 b).2.1 := by decide +kernel
theorem tyX5_ok : ∀ k, k < 7 → parseFieldDescriptor (TX5 k).2.2.1 = some (tyX5 k) := by decide +kernel
abbrev cX5_init : ByteArray := prog_7_method_1_code
def yX5_init : MethodName := ⟨RX5, "<init>", "(LStillYard$Text;LStillYard$Game;)V"⟩
abbrev cX5_read : ByteArray := prog_7_method_2_code
def yX5_read : MethodName := ⟨RX5, "read", "(LStillYard$Game;I)Z"⟩
abbrev cX5_fail : ByteArray := prog_7_method_3_code
def yX5_fail : MethodName := ⟨RX5, "fail", "(I)Z"⟩
abbrev cX5_word : ByteArray := prog_7_method_4_code
def yX5_word : MethodName := ⟨RX5, "word", "(Ljava/lang/String;)Z"⟩
abbrev cX5_whole : ByteArray := prog_7_method_5_code
def yX5_whole : MethodName := ⟨RX5, "whole", "(IIZ)Z"⟩
abbrev cX5_told : ByteArray := prog_7_method_6_code
def yX5_told : MethodName := ⟨RX5, "told", "(Ljava/lang/String;II)Z"⟩
abbrev cX5_yardLine : ByteArray := prog_7_method_7_code
def yX5_yardLine : MethodName := ⟨RX5, "yardLine", "()Z"⟩
abbrev cX5_verseLine : ByteArray := prog_7_method_8_code
def yX5_verseLine : MethodName := ⟨RX5, "verseLine", "()Z"⟩
abbrev cX5_part : ByteArray := prog_7_method_9_code
def yX5_part : MethodName := ⟨RX5, "part", "()Z"⟩
abbrev cX5_oneLine : ByteArray := prog_7_method_10_code
def yX5_oneLine : MethodName := ⟨RX5, "oneLine", "()Z"⟩
abbrev cX5_chances : ByteArray := prog_7_method_11_code
def yX5_chances : MethodName := ⟨RX5, "chances", "()Z"⟩
abbrev cX5_gravelLine : ByteArray := prog_7_method_12_code
def yX5_gravelLine : MethodName := ⟨RX5, "gravelLine", "()Z"⟩
abbrev cX5_creeperLine : ByteArray := prog_7_method_13_code
def yX5_creeperLine : MethodName := ⟨RX5, "creeperLine", "()Z"⟩
abbrev cX5_name : ByteArray := prog_7_method_14_code
def yX5_name : MethodName := ⟨RX5, "name", "()Z"⟩
abbrev cX5_isKept : ByteArray := prog_7_method_15_code
def yX5_isKept : MethodName := ⟨RX5, "isKept", "()Z"⟩
abbrev cX5_trait : ByteArray := prog_7_method_16_code
def yX5_trait : MethodName := ⟨RX5, "trait", "(Ljava/lang/String;III)Z"⟩
abbrev cX5_way : ByteArray := prog_7_method_17_code
def yX5_way : MethodName := ⟨RX5, "way", "()Z"⟩
def RX6 : String := "StillYard$Starts"
def TX6 : u_T := fun k => match k with
  | 0 => ("StillYard$Starts", "tried", "[I", true)
  | 1 => ("StillYard$Starts", "found", "[I", true)
  | 2 => ("StillYard$Starts", "apart", "I", false)
  | _ => ("StillYard$Starts", "sum", "I", false)
def tyX6 : Nat → FieldType := fun k => match k with
  | 0 => .array .int
  | 1 => .array .int
  | 2 => .int
  | _ => .int
abbrev wsX60 : List Cond := u_ws RX6 TX6 4
theorem nmX6 : ∀ a, a < 4 → ∀ b, b < 4 → a ≠ b → (TX6 a).2.1 ≠ (TX6 b).2.1 := by decide +kernel
theorem tyX6_ok : ∀ k, k < 4 → parseFieldDescriptor (TX6 k).2.2.1 = some (tyX6 k) := by decide +kernel
abbrev cX6_init : ByteArray := prog_8_method_1_code
def yX6_init : MethodName := ⟨RX6, "<init>", "()V"⟩
abbrev cX6_find : ByteArray := prog_8_method_2_code
def yX6_find : MethodName := ⟨RX6, "find", "(LStillYard$Game;)V"⟩
abbrev cX6_unfold : ByteArray := prog_8_method_3_code
def yX6_unfold : MethodName := ⟨RX6, "unfold", "(LStillYard$Game;II)V"⟩
abbrev cX6_consider : ByteArray := prog_8_method_4_code
def yX6_consider : MethodName := ⟨RX6, "consider", "(LStillYard$Game;Z)V"⟩
def RX7 : String := "StillYard$Strip"
def TX7 : u_T := fun k => match k with
  | 0 => ("StillYard$Strip", "lane", "I", false)
  | 1 => ("StillYard$Strip", "cell", "I", false)
  | _ => ("StillYard$Strip", "steps", "I", false)
def tyX7 : Nat → FieldType := fun k => match k with
  | 0 => .int
  | 1 => .int
  | _ => .int
abbrev wsX70 : List Cond := u_ws RX7 TX7 3
theorem nmX7 : ∀ a, a < 3 → ∀ b, b < 3 → a ≠ b → (TX7 a).2.1 ≠ (TX7 b).2.1 := by decide +kernel
theorem tyX7_ok : ∀ k, k < 3 → parseFieldDescriptor (TX7 k).2.2.1 = some (tyX7 k) := by decide +kernel
abbrev cX7_init : ByteArray := prog_9_method_1_code
def yX7_init : MethodName := ⟨RX7, "<init>", "()V"⟩
abbrev cX7_find : ByteArray := prog_9_method_2_code
def yX7_find : MethodName := ⟨RX7, "find", "(LStillYard$Game;LStillYard$Play;I)V"⟩
abbrev cX7_stepsOnto : ByteArray := prog_9_method_3_code
def yX7_stepsOnto : MethodName := ⟨RX7, "stepsOnto", "(LStillYard$Game;LStillYard$Play;III)I"⟩
abbrev cX7_creepersBefore : ByteArray := prog_9_method_4_code
def yX7_creepersBefore : MethodName := ⟨RX7, "creepersBefore", "(LStillYard$Game;LStillYard$Play;II)I"⟩
def RX8 : String := "StillYard$Text"
def TX8 : u_T := fun k => match k with
  | 0 => ("StillYard$Text", "bytes", "[B", true)
  | 1 => ("StillYard$Text", "length", "I", false)
  | 2 => ("StillYard$Text", "end", "I", false)
  | 3 => ("StillYard$Text", "kind", "I", false)
  | 4 => ("StillYard$Text", "start", "I", false)
  | 5 => ("StillYard$Text", "width", "I", false)
  | _ => ("StillYard$Text", "value", "I", false)
def tyX8 : Nat → FieldType := fun k => match k with
  | 0 => .array .byte
  | 1 => .int
  | 2 => .int
  | 3 => .int
  | 4 => .int
  | 5 => .int
  | _ => .int
abbrev wsX80 : List Cond := u_ws RX8 TX8 7
theorem nmX8 : ∀ a, a < 7 → ∀ b, b < 7 → a ≠ b → (TX8 a).2.1 ≠ (TX8 b).2.1 := by decide +kernel
theorem tyX8_ok : ∀ k, k < 7 → parseFieldDescriptor (TX8 k).2.2.1 = some (tyX8 k) := by decide +kernel
abbrev cX8_init : ByteArray := prog_10_method_1_code
def yX8_init : MethodName := ⟨RX8, "<init>", "()V"⟩
abbrev cX8_append : ByteArray := prog_10_method_2_code
def yX8_append : MethodName := ⟨RX8, "append", "(I)V"⟩
abbrev cX8_open : ByteArray := prog_10_method_3_code
def yX8_open : MethodName := ⟨RX8, "open", "(I)V"⟩
abbrev cX8_advance : ByteArray := prog_10_method_4_code
def yX8_advance : MethodName := ⟨RX8, "advance", "()V"⟩
abbrev cX8_byteAt : ByteArray := prog_10_method_5_code
def yX8_byteAt : MethodName := ⟨RX8, "byteAt", "(I)I"⟩
abbrev cX8_kindOf : ByteArray := prog_10_method_6_code
def yX8_kindOf : MethodName := ⟨RX8, "kindOf", "(I)I"⟩
abbrev cX8_isWord : ByteArray := prog_10_method_7_code
def yX8_isWord : MethodName := ⟨RX8, "isWord", "(Ljava/lang/String;)Z"⟩
abbrev cX8_isTokenAt : ByteArray := prog_10_method_8_code
def yX8_isTokenAt : MethodName := ⟨RX8, "isTokenAt", "(II)Z"⟩
def RX9 : String := "StillYard"
def TX9 : u_T := fun k => match k with
  | 0 => ("StillYard", "tape", "LStillYard$Text;", true)
  | 1 => ("StillYard", "reader", "LStillYard$Reader;", true)
  | 2 => ("StillYard", "now", "LStillYard$Play;", true)
  | 3 => ("StillYard", "marks", "[LStillYard$Play;", true)
  | 4 => ("StillYard", "plays", "LStillYard$Plays;", true)
  | 5 => ("StillYard", "notes", "LStillYard$Notes;", true)
  | 6 => ("StillYard", "starts", "LStillYard$Starts;", true)
  | 7 => ("StillYard", "strip", "LStillYard$Strip;", true)
  | 8 => ("StillYard", "told", "LStillYard$Game;", false)
  | 9 => ("StillYard", "spare", "LStillYard$Game;", false)
  | 10 => ("StillYard", "marksKept", "I", false)
  | 11 => ("StillYard", "troubled", "I", false)
  | 12 => ("StillYard", "lastFault", "I", false)
  | _ => ("StillYard", "faultPlace", "I", false)
def tyX9 : Nat → FieldType := fun k => match k with
  | 0 => .object "StillYard$Text"
  | 1 => .object "StillYard$Reader"
  | 2 => .object "StillYard$Play"
  | 3 => .array (.object "StillYard$Play")
  | 4 => .object "StillYard$Plays"
  | 5 => .object "StillYard$Notes"
  | 6 => .object "StillYard$Starts"
  | 7 => .object "StillYard$Strip"
  | 8 => .object "StillYard$Game"
  | 9 => .object "StillYard$Game"
  | 10 => .int
  | 11 => .int
  | 12 => .int
  | _ => .int
abbrev wsX90 : List Cond := u_ws RX9 TX9 14
theorem nmX9 : ∀ a, a < 14 → ∀ b, b < 14 → a ≠ b → (TX9 a).2.1 ≠ (TX9 b).2.1 := by decide +kernel
theorem tyX9_ok : ∀ k, k < 14 → parseFieldDescriptor (TX9 k).2.2.1 = some (tyX9 k) := by decide +kernel
abbrev cX9_init : ByteArray := prog_1_method_1_code
def yX9_init : MethodName := ⟨RX9, "<init>", "()V"⟩
abbrev cX9_feed : ByteArray := prog_1_method_2_code
def yX9_feed : MethodName := ⟨RX9, "feed", "(IIIII)I"⟩
abbrev cX9_game : ByteArray := prog_1_method_3_code
def yX9_game : MethodName := ⟨RX9, "game", "(I)I"⟩
abbrev cX9_fault : ByteArray := prog_1_method_4_code
def yX9_fault : MethodName := ⟨RX9, "fault", "()I"⟩
abbrev cX9_where : ByteArray := prog_1_method_5_code
def yX9_where : MethodName := ⟨RX9, "where", "()I"⟩
abbrev cX9_start : ByteArray := prog_1_method_6_code
def yX9_start : MethodName := ⟨RX9, "start", "(I)Z"⟩
abbrev cX9_tenths : ByteArray := prog_1_method_7_code
def yX9_tenths : MethodName := ⟨RX9, "tenths", "(I)I"⟩
abbrev cX9_round : ByteArray := prog_1_method_8_code
def yX9_round : MethodName := ⟨RX9, "round", "()I"⟩
abbrev cX9_bring : ByteArray := prog_1_method_9_code
def yX9_bring : MethodName := ⟨RX9, "bring", "(II)Z"⟩
abbrev cX9_right : ByteArray := prog_1_method_10_code
def yX9_right : MethodName := ⟨RX9, "right", "(I)Z"⟩
abbrev cX9_about : ByteArray := prog_1_method_11_code
def yX9_about : MethodName := ⟨RX9, "about", "(II)I"⟩
abbrev cX9_play : ByteArray := prog_1_method_12_code
def yX9_play : MethodName := ⟨RX9, "play", "(I)I"⟩
abbrev cX9_often : ByteArray := prog_1_method_13_code
def yX9_often : MethodName := ⟨RX9, "often", "(I)I"⟩
abbrev cX9_mark : ByteArray := prog_1_method_14_code
def yX9_mark : MethodName := ⟨RX9, "mark", "()I"⟩
abbrev cX9_back : ByteArray := prog_1_method_15_code
def yX9_back : MethodName := ⟨RX9, "back", "(I)Z"⟩
abbrev cX9_behind : ByteArray := prog_1_method_16_code
def yX9_behind : MethodName := ⟨RX9, "behind", "(I)J"⟩
abbrev cX9_ways : ByteArray := prog_1_method_17_code
def yX9_ways : MethodName := ⟨RX9, "ways", "()J"⟩
abbrev cX9_risk : ByteArray := prog_1_method_18_code
def yX9_risk : MethodName := ⟨RX9, "risk", "(III)J"⟩
abbrev cX9_gain : ByteArray := prog_1_method_19_code
def yX9_gain : MethodName := ⟨RX9, "gain", "(IIIZ)J"⟩
abbrev cX9_best : ByteArray := prog_1_method_20_code
def yX9_best : MethodName := ⟨RX9, "best", "(IIZ)I"⟩
abbrev cX9_worth : ByteArray := prog_1_method_21_code
def yX9_worth : MethodName := ⟨RX9, "worth", "(II)J"⟩
abbrev cX9_rests : ByteArray := prog_1_method_22_code
def yX9_rests : MethodName := ⟨RX9, "rests", "(II)I"⟩
abbrev cX9_rest : ByteArray := prog_1_method_23_code
def yX9_rest : MethodName := ⟨RX9, "rest", "(III)I"⟩
abbrev cX9_watch : ByteArray := prog_1_method_24_code
def yX9_watch : MethodName := ⟨RX9, "watch", "()I"⟩
abbrev cX9_both : ByteArray := prog_1_method_25_code
def yX9_both : MethodName := ⟨RX9, "both", "(I)J"⟩
abbrev cX9_wins : ByteArray := prog_1_method_26_code
def yX9_wins : MethodName := ⟨RX9, "wins", "(III)I"⟩
abbrev cX9_lasts : ByteArray := prog_1_method_27_code
def yX9_lasts : MethodName := ⟨RX9, "lasts", "(II)I"⟩
abbrev cX9_sent : ByteArray := prog_1_method_28_code
def yX9_sent : MethodName := ⟨RX9, "sent", "(II)I"⟩
abbrev cX9_looking : ByteArray := prog_1_method_29_code
def yX9_looking : MethodName := ⟨RX9, "looking", "(II)I"⟩
abbrev cX9_film : ByteArray := prog_1_method_30_code
def yX9_film : MethodName := ⟨RX9, "film", "(IZZ)I"⟩
abbrev cX9_law : ByteArray := prog_1_method_31_code
def yX9_law : MethodName := ⟨RX9, "law", "(I)I"⟩
abbrev cX9_says : ByteArray := prog_1_method_32_code
def yX9_says : MethodName := ⟨RX9, "says", "(IZ)I"⟩
abbrev cX9_off : ByteArray := prog_1_method_33_code
def yX9_off : MethodName := ⟨RX9, "off", "()I"⟩
abbrev cX9_stop : ByteArray := prog_1_method_34_code
def yX9_stop : MethodName := ⟨RX9, "stop", "(IZ)I"⟩
abbrev cX9_span : ByteArray := prog_1_method_35_code
def yX9_span : MethodName := ⟨RX9, "span", "(IZ)I"⟩
abbrev cX9_fits : ByteArray := prog_1_method_36_code
def yX9_fits : MethodName := ⟨RX9, "fits", "(I)I"⟩
abbrev cX9_home : ByteArray := prog_1_method_37_code
def yX9_home : MethodName := ⟨RX9, "home", "(II)I"⟩
abbrev cX9_far : ByteArray := prog_1_method_38_code
def yX9_far : MethodName := ⟨RX9, "far", "(I)I"⟩
abbrev cX9_fair : ByteArray := prog_1_method_39_code
def yX9_fair : MethodName := ⟨RX9, "fair", "()I"⟩
abbrev cX9_from : ByteArray := prog_1_method_40_code
def yX9_from : MethodName := ⟨RX9, "from", "(I)I"⟩
abbrev cX9_lay : ByteArray := prog_1_method_41_code
def yX9_lay : MethodName := ⟨RX9, "lay", "(I)I"⟩
abbrev cX9_heard : ByteArray := prog_1_method_42_code
def yX9_heard : MethodName := ⟨RX9, "heard", "(I)I"⟩
abbrev cX9_loud : ByteArray := prog_1_method_43_code
def yX9_loud : MethodName := ⟨RX9, "loud", "(II)I"⟩
abbrev cX9_led : ByteArray := prog_1_method_44_code
def yX9_led : MethodName := ⟨RX9, "led", "(I)I"⟩
abbrev cX9_size : ByteArray := prog_1_method_45_code
def yX9_size : MethodName := ⟨RX9, "size", "(I)I"⟩
abbrev cX9_creeper : ByteArray := prog_1_method_46_code
def yX9_creeper : MethodName := ⟨RX9, "creeper", "(II)I"⟩
abbrev cX9_trouble : ByteArray := prog_1_method_47_code
def yX9_trouble : MethodName := ⟨RX9, "trouble", "()I"⟩
abbrev cX9_refused : ByteArray := prog_1_method_48_code
def yX9_refused : MethodName := ⟨RX9, "refused", "(I)I"⟩
abbrev cX9_well : ByteArray := prog_1_method_49_code
def yX9_well : MethodName := ⟨RX9, "well", "(I)I"⟩
abbrev cX9_denied : ByteArray := prog_1_method_50_code
def yX9_denied : MethodName := ⟨RX9, "denied", "(I)Z"⟩
abbrev cX9_granted : ByteArray := prog_1_method_51_code
def yX9_granted : MethodName := ⟨RX9, "granted", "()Z"⟩
abbrev cX9_hasGame : ByteArray := prog_1_method_52_code
def yX9_hasGame : MethodName := ⟨RX9, "hasGame", "()Z"⟩
abbrev cX9_isCreeper : ByteArray := prog_1_method_53_code
def yX9_isCreeper : MethodName := ⟨RX9, "isCreeper", "(I)Z"⟩
abbrev cX9_isBelowWall : ByteArray := prog_1_method_54_code
def yX9_isBelowWall : MethodName := ⟨RX9, "isBelowWall", "(I)Z"⟩
abbrev cX9_isOfVerse : ByteArray := prog_1_method_55_code
def yX9_isOfVerse : MethodName := ⟨RX9, "isOfVerse", "(I)Z"⟩
abbrev cX9_isFilmed : ByteArray := prog_1_method_56_code
def yX9_isFilmed : MethodName := ⟨RX9, "isFilmed", "(I)Z"⟩
abbrev cX9_arePlays : ByteArray := prog_1_method_57_code
def yX9_arePlays : MethodName := ⟨RX9, "arePlays", "(II)Z"⟩
abbrev cX9_at : ByteArray := prog_1_method_58_code
def yX9_at : MethodName := ⟨RX9, "at", "([II)I"⟩
abbrev cX9_put : ByteArray := prog_1_method_59_code
def yX9_put : MethodName := ⟨RX9, "put", "([III)V"⟩
abbrev cX9_add : ByteArray := prog_1_method_60_code
def yX9_add : MethodName := ⟨RX9, "add", "([III)V"⟩
abbrev cX9_copy : ByteArray := prog_1_method_61_code
def yX9_copy : MethodName := ⟨RX9, "copy", "([I[I)V"⟩
abbrev cX9_fill : ByteArray := prog_1_method_62_code
def yX9_fill : MethodName := ⟨RX9, "fill", "([II)V"⟩
abbrev cX9_by : ByteArray := prog_1_method_63_code
def yX9_by : MethodName := ⟨RX9, "by", "(II)I"⟩
abbrev cX9_leftOver : ByteArray := prog_1_method_64_code
def yX9_leftOver : MethodName := ⟨RX9, "leftOver", "(II)I"⟩
def RX10 : String := "StillYardModel"
def TX10 : u_T := fun k => match k with
  | 0 => ("StillYardModel", "thrown", "I", false)
  | 1 => ("StillYardModel", "tape", "[I", true)
  | 2 => ("StillYardModel", "taped", "I", false)
  | 3 => ("StillYardModel", "size", "I", false)
  | 4 => ("StillYardModel", "at", "I", false)
  | 5 => ("StillYardModel", "end", "I", false)
  | 6 => ("StillYardModel", "token", "I", false)
  | 7 => ("StillYardModel", "whole", "I", false)
  | 8 => ("StillYardModel", "nameSize", "I", false)
  | 9 => ("StillYardModel", "fault", "I", false)
  | 10 => ("StillYardModel", "place", "I", false)
  | 11 => ("StillYardModel", "trouble", "I", false)
  | 12 => ("StillYardModel", "letters", "[I", true)
  | 13 => ("StillYardModel", "failed", "Z", false)
  | 14 => ("StillYardModel", "hasGame", "Z", false)
  | 15 => ("StillYardModel", "\x72", "[I", true)
  | 16 => ("StillYardModel", "fresh", "[I", true)
  | 17 => ("StillYardModel", "st", "[I", true)
  | 18 => ("StillYardModel", "kept", "[I", true)
  | 19 => ("StillYardModel", "marks", "I", false)
  | 20 => ("StillYardModel", "looks", "I", false)
  | 21 => ("StillYardModel", "filmPart", "[I", true)
  | 22 => ("StillYardModel", "filmMoved", "[I", true)
  | 23 => ("StillYardModel", "filmTurned", "[I", true)
  | 24 => ("StillYardModel", "stops", "[I", true)
  | 25 => ("StillYardModel", "wobbles", "[I", true)
  | 26 => ("StillYardModel", "films", "I", false)
  | 27 => ("StillYardModel", "shakes", "[I", true)
  | 28 => ("StillYardModel", "touches", "[I", true)
  | 29 => ("StillYardModel", "lasted", "I", false)
  | 30 => ("StillYardModel", "sentBack", "I", false)
  | 31 => ("StillYardModel", "starts", "[I", true)
  | _ => ("StillYardModel", "most", "I", false)
def tyX10 : Nat → FieldType := fun k => match k with
  | 0 => .int
  | 1 => .array .int
  | 2 => .int
  | 3 => .int
  | 4 => .int
  | 5 => .int
  | 6 => .int
  | 7 => .int
  | 8 => .int
  | 9 => .int
  | 10 => .int
  | 11 => .int
  | 12 => .array .int
  | 13 => .boolean
  | 14 => .boolean
  | 15 => .array .int
  | 16 => .array .int
  | 17 => .array .int
  | 18 => .array .int
  | 19 => .int
  | 20 => .int
  | 21 => .array .int
  | 22 => .array .int
  | 23 => .array .int
  | 24 => .array .int
  | 25 => .array .int
  | 26 => .int
  | 27 => .array .int
  | 28 => .array .int
  | 29 => .int
  | 30 => .int
  | 31 => .array .int
  | _ => .int
abbrev wsX100 : List Cond := u_ws RX10 TX10 33
theorem nmX10 : ∀ a, a < 33 → ∀ b, b < 33 → a ≠ b → (TX10 a).2.1 ≠ (TX10 b).2.1 := by decide +kernel
theorem tyX10_ok : ∀ k, k < 33 → parseFieldDescriptor (TX10 k).2.2.1 = some (tyX10 k) := by decide +kernel
abbrev cX10_init : ByteArray := prog_12_method_1_code
def yX10_init : MethodName := ⟨RX10, "<init>", "()V"⟩
abbrev cX10_thrown : ByteArray := prog_12_method_2_code
def yX10_thrown : MethodName := ⟨RX10, "thrown", "()I"⟩
abbrev cX10_good : ByteArray := prog_12_method_3_code
def yX10_good : MethodName := ⟨RX10, "good", "()V"⟩
abbrev cX10_no : ByteArray := prog_12_method_4_code
def yX10_no : MethodName := ⟨RX10, "no", "(I)I"⟩
abbrev cX10_isNot : ByteArray := prog_12_method_5_code
def yX10_isNot : MethodName := ⟨RX10, "isNot", "(I)Z"⟩
abbrev cX10_within : ByteArray := prog_12_method_6_code
def yX10_within : MethodName := ⟨RX10, "within", "(III)Z"⟩
abbrev cX10_less : ByteArray := prog_12_method_7_code
def yX10_less : MethodName := ⟨RX10, "less", "(II)I"⟩
abbrev cX10_feed : ByteArray := prog_12_method_8_code
def yX10_feed : MethodName := ⟨RX10, "feed", "(IIIII)I"⟩
abbrev cX10_see : ByteArray := prog_12_method_9_code
def yX10_see : MethodName := ⟨RX10, "see", "(I)I"⟩
abbrev cX10_isSmall : ByteArray := prog_12_method_10_code
def yX10_isSmall : MethodName := ⟨RX10, "isSmall", "(I)Z"⟩
abbrev cX10_isDigit : ByteArray := prog_12_method_11_code
def yX10_isDigit : MethodName := ⟨RX10, "isDigit", "(I)Z"⟩
abbrev cX10_next : ByteArray := prog_12_method_12_code
def yX10_next : MethodName := ⟨RX10, "next", "()V"⟩
abbrev cX10_wrong : ByteArray := prog_12_method_13_code
def yX10_wrong : MethodName := ⟨RX10, "wrong", "(II)V"⟩
abbrev cX10_isWord : ByteArray := prog_12_method_14_code
def yX10_isWord : MethodName := ⟨RX10, "isWord", "(Ljava/lang/String;)Z"⟩
abbrev cX10_takes : ByteArray := prog_12_method_15_code
def yX10_takes : MethodName := ⟨RX10, "takes", "(Ljava/lang/String;)Z"⟩
abbrev cX10_must : ByteArray := prog_12_method_16_code
def yX10_must : MethodName := ⟨RX10, "must", "(Ljava/lang/String;)V"⟩
abbrev cX10_newName : ByteArray := prog_12_method_17_code
def yX10_newName : MethodName := ⟨RX10, "newName", "()V"⟩
abbrev cX10_number : ByteArray := prog_12_method_18_code
def yX10_number : MethodName := ⟨RX10, "number", "(II)I"⟩
abbrev cX10_told : ByteArray := prog_12_method_19_code
def yX10_told : MethodName := ⟨RX10, "told", "(Ljava/lang/String;II)I"⟩
abbrev cX10_comma : ByteArray := prog_12_method_20_code
def yX10_comma : MethodName := ⟨RX10, "comma", "()Z"⟩
abbrev cX10_game : ByteArray := prog_12_method_21_code
def yX10_game : MethodName := ⟨RX10, "game", "(I)I"⟩
abbrev cX10_readLine : ByteArray := prog_12_method_22_code
def yX10_readLine : MethodName := ⟨RX10, "readLine", "()V"⟩
abbrev cX10_begins : ByteArray := prog_12_method_23_code
def yX10_begins : MethodName := ⟨RX10, "begins", "(I)V"⟩
abbrev cX10_yardLine : ByteArray := prog_12_method_24_code
def yX10_yardLine : MethodName := ⟨RX10, "yardLine", "()V"⟩
abbrev cX10_verseLine : ByteArray := prog_12_method_25_code
def yX10_verseLine : MethodName := ⟨RX10, "verseLine", "()V"⟩
abbrev cX10_oneLine : ByteArray := prog_12_method_26_code
def yX10_oneLine : MethodName := ⟨RX10, "oneLine", "()V"⟩
abbrev cX10_gravelLine : ByteArray := prog_12_method_27_code
def yX10_gravelLine : MethodName := ⟨RX10, "gravelLine", "()V"⟩
abbrev cX10_creeperLine : ByteArray := prog_12_method_28_code
def yX10_creeperLine : MethodName := ⟨RX10, "creeperLine", "()V"⟩
abbrev cX10_fault : ByteArray := prog_12_method_29_code
def yX10_fault : MethodName := ⟨RX10, "fault", "()I"⟩
abbrev cX10_where : ByteArray := prog_12_method_30_code
def yX10_where : MethodName := ⟨RX10, "where", "()I"⟩
abbrev cX10_isCreeper : ByteArray := prog_12_method_31_code
def yX10_isCreeper : MethodName := ⟨RX10, "isCreeper", "(I)Z"⟩
abbrev cX10_begin : ByteArray := prog_12_method_32_code
def yX10_begin : MethodName := ⟨RX10, "begin", "(I)V"⟩
abbrev cX10_keep : ByteArray := prog_12_method_33_code
def yX10_keep : MethodName := ⟨RX10, "keep", "(I)V"⟩
abbrev cX10_bringBack : ByteArray := prog_12_method_34_code
def yX10_bringBack : MethodName := ⟨RX10, "bringBack", "(I)V"⟩
abbrev cX10_draw : ByteArray := prog_12_method_35_code
def yX10_draw : MethodName := ⟨RX10, "draw", "()I"⟩
abbrev cX10_tenthsOf : ByteArray := prog_12_method_36_code
def yX10_tenthsOf : MethodName := ⟨RX10, "tenthsOf", "(I)I"⟩
abbrev cX10_loudest : ByteArray := prog_12_method_37_code
def yX10_loudest : MethodName := ⟨RX10, "loudest", "(II)I"⟩
abbrev cX10_goesNow : ByteArray := prog_12_method_38_code
def yX10_goesNow : MethodName := ⟨RX10, "goesNow", "(I)Z"⟩
abbrev cX10_tenth : ByteArray := prog_12_method_39_code
def yX10_tenth : MethodName := ⟨RX10, "tenth", "()Z"⟩
abbrev cX10_needs : ByteArray := prog_12_method_40_code
def yX10_needs : MethodName := ⟨RX10, "needs", "(II)I"⟩
abbrev cX10_isCaught : ByteArray := prog_12_method_41_code
def yX10_isCaught : MethodName := ⟨RX10, "isCaught", "(II)Z"⟩
abbrev cX10_run : ByteArray := prog_12_method_42_code
def yX10_run : MethodName := ⟨RX10, "run", "()V"⟩
abbrev cX10_ahead : ByteArray := prog_12_method_43_code
def yX10_ahead : MethodName := ⟨RX10, "ahead", "(I)I"⟩
abbrev cX10_isHidden : ByteArray := prog_12_method_44_code
def yX10_isHidden : MethodName := ⟨RX10, "isHidden", "(I)Z"⟩
abbrev cX10_lookMany : ByteArray := prog_12_method_45_code
def yX10_lookMany : MethodName := ⟨RX10, "lookMany", "()I"⟩
abbrev cX10_look : ByteArray := prog_12_method_46_code
def yX10_look : MethodName := ⟨RX10, "look", "()V"⟩
abbrev cX10_start : ByteArray := prog_12_method_47_code
def yX10_start : MethodName := ⟨RX10, "start", "(I)Z"⟩
abbrev cX10_tenths : ByteArray := prog_12_method_48_code
def yX10_tenths : MethodName := ⟨RX10, "tenths", "(I)I"⟩
abbrev cX10_round : ByteArray := prog_12_method_49_code
def yX10_round : MethodName := ⟨RX10, "round", "()I"⟩
abbrev cX10_bring : ByteArray := prog_12_method_50_code
def yX10_bring : MethodName := ⟨RX10, "bring", "(II)Z"⟩
abbrev cX10_right : ByteArray := prog_12_method_51_code
def yX10_right : MethodName := ⟨RX10, "right", "(I)Z"⟩
abbrev cX10_about : ByteArray := prog_12_method_52_code
def yX10_about : MethodName := ⟨RX10, "about", "(II)I"⟩
abbrev cX10_said : ByteArray := prog_12_method_53_code
def yX10_said : MethodName := ⟨RX10, "said", "(I)I"⟩
abbrev cX10_play : ByteArray := prog_12_method_54_code
def yX10_play : MethodName := ⟨RX10, "play", "(I)I"⟩
abbrev cX10_often : ByteArray := prog_12_method_55_code
def yX10_often : MethodName := ⟨RX10, "often", "(I)I"⟩
abbrev cX10_mark : ByteArray := prog_12_method_56_code
def yX10_mark : MethodName := ⟨RX10, "mark", "()I"⟩
abbrev cX10_back : ByteArray := prog_12_method_57_code
def yX10_back : MethodName := ⟨RX10, "back", "(I)Z"⟩
abbrev cX10_allWays : ByteArray := prog_12_method_58_code
def yX10_allWays : MethodName := ⟨RX10, "allWays", "()J"⟩
abbrev cX10_first : ByteArray := prog_12_method_59_code
def yX10_first : MethodName := ⟨RX10, "first", "(I)J"⟩
abbrev cX10_behind : ByteArray := prog_12_method_60_code
def yX10_behind : MethodName := ⟨RX10, "behind", "(I)J"⟩
abbrev cX10_ways : ByteArray := prog_12_method_61_code
def yX10_ways : MethodName := ⟨RX10, "ways", "()J"⟩
abbrev cX10_endOf : ByteArray := prog_12_method_62_code
def yX10_endOf : MethodName := ⟨RX10, "endOf", "(I)I"⟩
abbrev cX10_whole : ByteArray := prog_12_method_63_code
def yX10_whole : MethodName := ⟨RX10, "whole", "()I"⟩
abbrev cX10_gone : ByteArray := prog_12_method_64_code
def yX10_gone : MethodName := ⟨RX10, "gone", "(III)I"⟩
abbrev cX10_seenWays : ByteArray := prog_12_method_65_code
def yX10_seenWays : MethodName := ⟨RX10, "seenWays", "(IIII)I"⟩
abbrev cX10_brings : ByteArray := prog_12_method_66_code
def yX10_brings : MethodName := ⟨RX10, "brings", "(IIIIZ)J"⟩
abbrev cX10_gains : ByteArray := prog_12_method_67_code
def yX10_gains : MethodName := ⟨RX10, "gains", "(IIIZ)J"⟩
abbrev cX10_risks : ByteArray := prog_12_method_68_code
def yX10_risks : MethodName := ⟨RX10, "risks", "(III)J"⟩
abbrev cX10_oddsWhy : ByteArray := prog_12_method_69_code
def yX10_oddsWhy : MethodName := ⟨RX10, "oddsWhy", "(III)I"⟩
abbrev cX10_risk : ByteArray := prog_12_method_70_code
def yX10_risk : MethodName := ⟨RX10, "risk", "(III)J"⟩
abbrev cX10_gain : ByteArray := prog_12_method_71_code
def yX10_gain : MethodName := ⟨RX10, "gain", "(IIIZ)J"⟩
abbrev cX10_bestOf : ByteArray := prog_12_method_72_code
def yX10_bestOf : MethodName := ⟨RX10, "bestOf", "(IIZ)I"⟩
abbrev cX10_best : ByteArray := prog_12_method_73_code
def yX10_best : MethodName := ⟨RX10, "best", "(IIZ)I"⟩
abbrev cX10_worth : ByteArray := prog_12_method_74_code
def yX10_worth : MethodName := ⟨RX10, "worth", "(II)J"⟩
abbrev cX10_isRest : ByteArray := prog_12_method_75_code
def yX10_isRest : MethodName := ⟨RX10, "isRest", "(IIII)Z"⟩
abbrev cX10_restOf : ByteArray := prog_12_method_76_code
def yX10_restOf : MethodName := ⟨RX10, "restOf", "(III)I"⟩
abbrev cX10_rests : ByteArray := prog_12_method_77_code
def yX10_rests : MethodName := ⟨RX10, "rests", "(II)I"⟩
abbrev cX10_rest : ByteArray := prog_12_method_78_code
def yX10_rest : MethodName := ⟨RX10, "rest", "(III)I"⟩
abbrev cX10_means : ByteArray := prog_12_method_79_code
def yX10_means : MethodName := ⟨RX10, "means", "(I)I"⟩
abbrev cX10_count : ByteArray := prog_12_method_80_code
def yX10_count : MethodName := ⟨RX10, "count", "(I)I"⟩
abbrev cX10_watch : ByteArray := prog_12_method_81_code
def yX10_watch : MethodName := ⟨RX10, "watch", "()I"⟩
abbrev cX10_both : ByteArray := prog_12_method_82_code
def yX10_both : MethodName := ⟨RX10, "both", "(I)J"⟩
abbrev cX10_playWhy : ByteArray := prog_12_method_83_code
def yX10_playWhy : MethodName := ⟨RX10, "playWhy", "(II)I"⟩
abbrev cX10_plays : ByteArray := prog_12_method_84_code
def yX10_plays : MethodName := ⟨RX10, "plays", "(II)V"⟩
abbrev cX10_wins : ByteArray := prog_12_method_85_code
def yX10_wins : MethodName := ⟨RX10, "wins", "(III)I"⟩
abbrev cX10_lasts : ByteArray := prog_12_method_86_code
def yX10_lasts : MethodName := ⟨RX10, "lasts", "(II)I"⟩
abbrev cX10_sent : ByteArray := prog_12_method_87_code
def yX10_sent : MethodName := ⟨RX10, "sent", "(II)I"⟩
abbrev cX10_looking : ByteArray := prog_12_method_88_code
def yX10_looking : MethodName := ⟨RX10, "looking", "(II)I"⟩
abbrev cX10_isFilmed : ByteArray := prog_12_method_89_code
def yX10_isFilmed : MethodName := ⟨RX10, "isFilmed", "(I)Z"⟩
abbrev cX10_film : ByteArray := prog_12_method_90_code
def yX10_film : MethodName := ⟨RX10, "film", "(IZZ)I"⟩
abbrev cX10_lawOf : ByteArray := prog_12_method_91_code
def yX10_lawOf : MethodName := ⟨RX10, "lawOf", "(II)I"⟩
abbrev cX10_law : ByteArray := prog_12_method_92_code
def yX10_law : MethodName := ⟨RX10, "law", "(I)I"⟩
abbrev cX10_says : ByteArray := prog_12_method_93_code
def yX10_says : MethodName := ⟨RX10, "says", "(IZ)I"⟩
abbrev cX10_off : ByteArray := prog_12_method_94_code
def yX10_off : MethodName := ⟨RX10, "off", "()I"⟩
abbrev cX10_stop : ByteArray := prog_12_method_95_code
def yX10_stop : MethodName := ⟨RX10, "stop", "(IZ)I"⟩
abbrev cX10_wobbleWays : ByteArray := prog_12_method_96_code
def yX10_wobbleWays : MethodName := ⟨RX10, "wobbleWays", "(IIII)J"⟩
abbrev cX10_isSpanned : ByteArray := prog_12_method_97_code
def yX10_isSpanned : MethodName := ⟨RX10, "isSpanned", "(II)Z"⟩
abbrev cX10_spanOf : ByteArray := prog_12_method_98_code
def yX10_spanOf : MethodName := ⟨RX10, "spanOf", "(IZ)I"⟩
abbrev cX10_spanWhy : ByteArray := prog_12_method_99_code
def yX10_spanWhy : MethodName := ⟨RX10, "spanWhy", "(I)I"⟩
abbrev cX10_span : ByteArray := prog_12_method_100_code
def yX10_span : MethodName := ⟨RX10, "span", "(IZ)I"⟩
abbrev cX10_fits : ByteArray := prog_12_method_101_code
def yX10_fits : MethodName := ⟨RX10, "fits", "(I)I"⟩
abbrev cX10_home : ByteArray := prog_12_method_102_code
def yX10_home : MethodName := ⟨RX10, "home", "(II)I"⟩
abbrev cX10_far : ByteArray := prog_12_method_103_code
def yX10_far : MethodName := ⟨RX10, "far", "(I)I"⟩
abbrev cX10_fairest : ByteArray := prog_12_method_104_code
def yX10_fairest : MethodName := ⟨RX10, "fairest", "()I"⟩
abbrev cX10_fair : ByteArray := prog_12_method_105_code
def yX10_fair : MethodName := ⟨RX10, "fair", "()I"⟩
abbrev cX10_from : ByteArray := prog_12_method_106_code
def yX10_from : MethodName := ⟨RX10, "from", "(I)I"⟩
abbrev cX10_steps : ByteArray := prog_12_method_107_code
def yX10_steps : MethodName := ⟨RX10, "steps", "(III)I"⟩
abbrev cX10_strip : ByteArray := prog_12_method_108_code
def yX10_strip : MethodName := ⟨RX10, "strip", "(I)I"⟩
abbrev cX10_layWhy : ByteArray := prog_12_method_109_code
def yX10_layWhy : MethodName := ⟨RX10, "layWhy", "(I)I"⟩
abbrev cX10_lay : ByteArray := prog_12_method_110_code
def yX10_lay : MethodName := ⟨RX10, "lay", "(I)I"⟩
abbrev cX10_heard : ByteArray := prog_12_method_111_code
def yX10_heard : MethodName := ⟨RX10, "heard", "(I)I"⟩
abbrev cX10_loud : ByteArray := prog_12_method_112_code
def yX10_loud : MethodName := ⟨RX10, "loud", "(II)I"⟩
abbrev cX10_led : ByteArray := prog_12_method_113_code
def yX10_led : MethodName := ⟨RX10, "led", "(I)I"⟩
abbrev cX10_size : ByteArray := prog_12_method_114_code
def yX10_size : MethodName := ⟨RX10, "size", "(I)I"⟩
abbrev cX10_creeper : ByteArray := prog_12_method_115_code
def yX10_creeper : MethodName := ⟨RX10, "creeper", "(II)I"⟩
abbrev cX10_trouble : ByteArray := prog_12_method_116_code
def yX10_trouble : MethodName := ⟨RX10, "trouble", "()I"⟩
def RJx145de : String := "java/io/Serializable"
def TJx145de : u_T := fun k => match k with
  | _ => ("", "", "", false)
def tyJx145de : Nat → FieldType := fun k => match k with
  | _ => .int
abbrev wsJx145de0 : List Cond := u_ws RJx145de TJx145de 0
theorem nmJx145de : ∀ a, a < 0 → ∀ b, b < 0 → a ≠ b → (TJx145de a).2.1 ≠ (TJx145de b).2.1 := by decide +kernel
theorem tyJx145de_ok : ∀ k, k < 0 → parseFieldDescriptor (TJx145de k).2.2.1 = some (tyJx145de k) := by decide +kernel
def RJx9f9b0 : String := "java/lang/CharSequence"
def TJx9f9b0 : u_T := fun k => match k with
  | _ => ("", "", "", false)
def tyJx9f9b0 : Nat → FieldType := fun k => match k with
  | _ => .int
abbrev wsJx9f9b00 : List Cond := u_ws RJx9f9b0 TJx9f9b0 0
theorem nmJx9f9b0 : ∀ a, a < 0 → ∀ b, b < 0 → a ≠ b → (TJx9f9b0 a).2.1 ≠ (TJx9f9b0 b).2.1 := by decide +kernel
theorem tyJx9f9b0_ok : ∀ k, k < 0 → parseFieldDescriptor (TJx9f9b0 k).2.2.1 = some (tyJx9f9b0 k) := by decide +kernel
def RJxb160c : String := "java/lang/Comparable"
def TJxb160c : u_T := fun k => match k with
  | _ => ("", "", "", false)
def tyJxb160c : Nat → FieldType := fun k => match k with
  | _ => .int
abbrev wsJxb160c0 : List Cond := u_ws RJxb160c TJxb160c 0
theorem nmJxb160c : ∀ a, a < 0 → ∀ b, b < 0 → a ≠ b → (TJxb160c a).2.1 ≠ (TJxb160c b).2.1 := by decide +kernel
theorem tyJxb160c_ok : ∀ k, k < 0 → parseFieldDescriptor (TJxb160c k).2.2.1 = some (tyJxb160c k) := by decide +kernel
def RJ6 : String := "java/lang/Integer"
def TJ6 : u_T := fun k => match k with
  | _ => ("", "", "", false)
def tyJ6 : Nat → FieldType := fun k => match k with
  | _ => .int
abbrev wsJ60 : List Cond := u_ws RJ6 TJ6 0
theorem nmJ6 : ∀ a, a < 0 → ∀ b, b < 0 → a ≠ b → (TJ6 a).2.1 ≠ (TJ6 b).2.1 := by decide +kernel
theorem tyJ6_ok : ∀ k, k < 0 → parseFieldDescriptor (TJ6 k).2.2.1 = some (tyJ6 k) := by decide +kernel
abbrev cJ6_bitCount_0f7a4 : ByteArray := prog_17_method_49_code
def yJ6_bitCount_0f7a4 : MethodName := ⟨RJ6, "bitCount", "(I)I"⟩
def RJ9 : String := "java/lang/Math"
def TJ9 : u_T := fun k => match k with
  | _ => ("", "", "", false)
def tyJ9 : Nat → FieldType := fun k => match k with
  | _ => .int
abbrev wsJ90 : List Cond := u_ws RJ9 TJ9 0
theorem nmJ9 : ∀ a, a < 0 → ∀ b, b < 0 → a ≠ b → (TJ9 a).2.1 ≠ (TJ9 b).2.1 := by decide +kernel
theorem tyJ9_ok : ∀ k, k < 0 → parseFieldDescriptor (TJ9 k).2.2.1 = some (tyJ9 k) := by decide +kernel
abbrev cJ9_abs_0f7a4 : ByteArray := prog_18_method_59_code
def yJ9_abs_0f7a4 : MethodName := ⟨RJ9, "abs", "(I)I"⟩
abbrev cJ9_max_7cf53 : ByteArray := prog_18_method_65_code
def yJ9_max_7cf53 : MethodName := ⟨RJ9, "max", "(II)I"⟩
abbrev cJ9_min_7cf53 : ByteArray := prog_18_method_69_code
def yJ9_min_7cf53 : MethodName := ⟨RJ9, "min", "(II)I"⟩
def RJ0 : String := "java/lang/String"
def TJ0 : u_T := fun k => match k with
  | _ => ("", "", "", false)
def tyJ0 : Nat → FieldType := fun k => match k with
  | _ => .int
abbrev wsJ00 : List Cond := u_ws RJ0 TJ0 0
theorem nmJ0 : ∀ a, a < 0 → ∀ b, b < 0 → a ≠ b → (TJ0 a).2.1 ≠ (TJ0 b).2.1 := by decide +kernel
theorem tyJ0_ok : ∀ k, k < 0 → parseFieldDescriptor (TJ0 k).2.2.1 = some (tyJ0 k) := by decide +kernel
abbrev cJ0_length_8abf5 : ByteArray := prog_20_method_54_code
def yJ0_length_8abf5 : MethodName := ⟨RJ0, "length", "()I"⟩
abbrev cJ0_charAt_5068e : ByteArray := prog_20_method_56_code
def yJ0_charAt_5068e : MethodName := ⟨RJ0, "charAt", "(I)C"⟩
abbrev cJ0_coder_7d493 : ByteArray := prog_20_method_152_code
def yJ0_coder_7d493 : MethodName := ⟨RJ0, "coder", "()B"⟩
abbrev cJ0_isLatin1_aae02 : ByteArray := prog_20_method_154_code
def yJ0_isLatin1_aae02 : MethodName := ⟨RJ0, "isLatin1", "()Z"⟩
abbrev cJ0_checkIndex_df160 : ByteArray := prog_20_method_155_code
def yJ0_checkIndex_df160 : MethodName := ⟨RJ0, "checkIndex", "(II)V"⟩
def RJ1 : String := "java/lang/StringLatin1"
def TJ1 : u_T := fun k => match k with
  | _ => ("", "", "", false)
def tyJ1 : Nat → FieldType := fun k => match k with
  | _ => .int
abbrev wsJ10 : List Cond := u_ws RJ1 TJ1 0
theorem nmJ1 : ∀ a, a < 0 → ∀ b, b < 0 → a ≠ b → (TJ1 a).2.1 ≠ (TJ1 b).2.1 := by decide +kernel
theorem tyJ1_ok : ∀ k, k < 0 → parseFieldDescriptor (TJ1 k).2.2.1 = some (tyJ1 k) := by decide +kernel
abbrev cJ1_charAt_3b067 : ByteArray := prog_21_method_2_code
def yJ1_charAt_3b067 : MethodName := ⟨RJ1, "charAt", "([BI)C"⟩
def RJ2 : String := "java/lang/StringUTF16"
def TJ2 : u_T := fun k => match k with
  | _ => ("", "", "", false)
def tyJ2 : Nat → FieldType := fun k => match k with
  | _ => .int
abbrev wsJ20 : List Cond := u_ws RJ2 TJ2 0
theorem nmJ2 : ∀ a, a < 0 → ∀ b, b < 0 → a ≠ b → (TJ2 a).2.1 ≠ (TJ2 b).2.1 := by decide +kernel
theorem tyJ2_ok : ∀ k, k < 0 → parseFieldDescriptor (TJ2 k).2.2.1 = some (tyJ2 k) := by decide +kernel
abbrev cJ2_getChar_3b067 : ByteArray := prog_22_method_5_code
def yJ2_getChar_3b067 : MethodName := ⟨RJ2, "getChar", "([BI)C"⟩
abbrev cJ2_length_9d52b : ByteArray := prog_22_method_6_code
def yJ2_length_9d52b : MethodName := ⟨RJ2, "length", "([B)I"⟩
abbrev cJ2_charAt_3b067 : ByteArray := prog_22_method_83_code
def yJ2_charAt_3b067 : MethodName := ⟨RJ2, "charAt", "([BI)C"⟩
abbrev cJ2_checkIndex_2214a : ByteArray := prog_22_method_91_code
def yJ2_checkIndex_2214a : MethodName := ⟨RJ2, "checkIndex", "(I[B)V"⟩
def RJxfd54e : String := "java/lang/constant/Constable"
def TJxfd54e : u_T := fun k => match k with
  | _ => ("", "", "", false)
def tyJxfd54e : Nat → FieldType := fun k => match k with
  | _ => .int
abbrev wsJxfd54e0 : List Cond := u_ws RJxfd54e TJxfd54e 0
theorem nmJxfd54e : ∀ a, a < 0 → ∀ b, b < 0 → a ≠ b → (TJxfd54e a).2.1 ≠ (TJxfd54e b).2.1 := by decide +kernel
theorem tyJxfd54e_ok : ∀ k, k < 0 → parseFieldDescriptor (TJxfd54e k).2.2.1 = some (tyJxfd54e k) := by decide +kernel
def RJx3cf43 : String := "java/lang/constant/ConstantDesc"
def TJx3cf43 : u_T := fun k => match k with
  | _ => ("", "", "", false)
def tyJx3cf43 : Nat → FieldType := fun k => match k with
  | _ => .int
abbrev wsJx3cf430 : List Cond := u_ws RJx3cf43 TJx3cf43 0
theorem nmJx3cf43 : ∀ a, a < 0 → ∀ b, b < 0 → a ≠ b → (TJx3cf43 a).2.1 ≠ (TJx3cf43 b).2.1 := by decide +kernel
theorem tyJx3cf43_ok : ∀ k, k < 0 → parseFieldDescriptor (TJx3cf43 k).2.2.1 = some (tyJx3cf43 k) := by decide +kernel
def RJ3 : String := "jdk/internal/util/Preconditions"
def TJ3 : u_T := fun k => match k with
  | _ => ("", "", "", false)
def tyJ3 : Nat → FieldType := fun k => match k with
  | _ => .int
abbrev wsJ30 : List Cond := u_ws RJ3 TJ3 0
theorem nmJ3 : ∀ a, a < 0 → ∀ b, b < 0 → a ≠ b → (TJ3 a).2.1 ≠ (TJ3 b).2.1 := by decide +kernel
theorem tyJ3_ok : ∀ k, k < 0 → parseFieldDescriptor (TJ3 k).2.2.1 = some (tyJ3 k) := by decide +kernel
abbrev cJ3_checkIndex_8e157 : ByteArray := prog_27_method_11_code
def yJ3_checkIndex_8e157 : MethodName := ⟨RJ3, "checkIndex", "(IILjava/util/function/BiFunction;)I"⟩
def RL : String := "StillYardLaw"
abbrev cL_led : ByteArray := method_3_code
def yL_led : MethodName := ⟨RL, "led", "(LStillYard;I[J)I"⟩
abbrev cL_law : ByteArray := code
def yL_law : MethodName := ⟨RL, "law", "([I)Z"⟩
/-! THE CLAIM OUT OF ONE WALK OF THE LAW'S BODY. Your part is whole_start (and what it stands on); all else here is the same for every law, but numbers. -/
def R_law : String := "StillYardLaw"
def lw_P (b : Addr) (xs : List Int32) (args : Array Value) (s : State) : Prop := args = #[.ref b] ∧ s.IntsAt b xs ∧ xs.length ≤ 3072 ∧ (Jvm.Cond.and given_1 narrow_1).before args s = true
def lw_Q (_ : Array Value) (s : State) (o : Outcome) (t : State) : Prop := o = .returned (some (.int 1)) ∧ Framed s o t [] 601024 7293033
def lw_Z (below : List Frame) (a : Array Value) (s : State) : State → Prop := fun t => ∃ o, t.status = .running ∧ Ended t below o ∧ lw_Q a s o t
/-- the law's own end, with 1 on the stack, nothing written that was there before, its room as the claim has it -/
theorem lw_ret {p : Program} {l : Launch} {e : Env} {s : State} {m : MethodId} {below : List Frame} {meth : Method} {c : Code} {b : Nat} (hx : p.tables.exec = Jvm.exec) (hb : c.code = code) (hr : meth.sig.returnType = ret) (hlocks : meth.locks = false) {pc : Nat} {H : Heap} {ls : Array Slot} (hdg : decode code pc = .ok (.ireturn, 1)) : W p l e room_1 s m #[Value.ref b] below meth c H [] 601024 7293033 (lw_Z below #[Value.ref b] s) (F0 m pc ls [.int 1]) := by
  intro T hT X
  obtain ⟨fs, hret, hrun, hended, hW, hframe⟩ := X.leave (v := some (.int 1)) (hlocks := hlocks) (fun h => by rw [hr] at h; cases h)
  have hmeth' : T.vm.method? m = some meth := X.method'
  refine ⟨T.setFrames fs, ?_, .returned (some (.int 1)), hrun, hended, rfl, ⟨_, rfl⟩, hW, hframe⟩
  jvm_step X.here [X.here.top, hx, hb, hdg, hmeth', hr, ret, narrow_b1]
  (try refine ⟨rfl, ?_⟩); (try refine ⟨rfl, ?_⟩)
  first | (intro acts; rw [hret _ acts rfl rfl rfl]) | rw [hret _ _ rfl rfl rfl]
  exact Steps.refl _
/-- what holds at the law's entry: the machine, the code, the tables' words (any of lw_tbl by 'hts w (by decide +kernel)'), the script of L ints xs at the cell b, what the Statement gives of the start (any of its parts by flat_of_before) -/
def lw_At (p : Program) (s : State) (m : MethodId) (meth : Method) (c : Code) (b L : Nat) (xs : Nat → Int32) : Prop :=
  p.tables.exec = Jvm.exec ∧ c.code = code ∧ meth.sig.returnType = ret ∧ c.maxLocals = 7 ∧ s.vm.findClass R_law = some m.cls ∧ (∀ w ∈ lw_tbl, w.before #[Value.ref b] s = true) ∧ va_X b L xs s s.heap ∧ b < s.heap.size ∧ meth.locks = false ∧ (Jvm.Cond.and given_1 narrow_1).before #[Value.ref b] s = true
