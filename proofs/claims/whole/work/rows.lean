section
-- ===== PART A: goes FIRST, ahead of the names: the tables' words, and 'selects' of the private methods out of them =====
/-- a private method of a class that the tables say can be made, by its rows of tables_1 -/
def lw_okq (q : MethodName × Nat) : Prop := (q.1.cls ≠ "java/lang/invoke/MethodHandle" ∧ q.1.cls ≠ "java/lang/invoke/VarHandle") ∧ Cond.instantiable q.1.cls q.2 ∈ tables_1 ∧ Cond.privateMethod q.1 ∈ tables_1 ∧ Cond.instanceMethod q.1 ∈ tables_1
theorem lw_p0 : lw_okq (⟨"TypebarMachine", "appendFour", "(I)V"⟩, 12) := ⟨⟨by decide +kernel, by decide +kernel⟩, List.mem_of_getElem? (i := 25) (by decide +kernel), List.mem_of_getElem? (i := 336) (by decide +kernel), List.mem_of_getElem? (i := 337) (by decide +kernel)⟩
theorem lw_p1 : lw_okq (⟨"TypebarMachine", "requireBytes", "(I)V"⟩, 12) := ⟨⟨by decide +kernel, by decide +kernel⟩, List.mem_of_getElem? (i := 25) (by decide +kernel), List.mem_of_getElem? (i := 369) (by decide +kernel), List.mem_of_getElem? (i := 370) (by decide +kernel)⟩
theorem lw_p2 : lw_okq (⟨"java/lang/Throwable", "fillInStackTrace", "(I)Ljava/lang/Throwable;"⟩, 6) := ⟨⟨by decide +kernel, by decide +kernel⟩, List.mem_of_getElem? (i := 414) (by decide +kernel), List.mem_of_getElem? (i := 412) (by decide +kernel), List.mem_of_getElem? (i := 413) (by decide +kernel)⟩
theorem lw_p3 : lw_okq (⟨"TypebarMachine$Parser", "readToken", "()V"⟩, 9) := ⟨⟨by decide +kernel, by decide +kernel⟩, List.mem_of_getElem? (i := 223) (by decide +kernel), List.mem_of_getElem? (i := 461) (by decide +kernel), List.mem_of_getElem? (i := 462) (by decide +kernel)⟩
theorem lw_p4 : lw_okq (⟨"TypebarMachine$Parser", "readWord", "()V"⟩, 9) := ⟨⟨by decide +kernel, by decide +kernel⟩, List.mem_of_getElem? (i := 223) (by decide +kernel), List.mem_of_getElem? (i := 472) (by decide +kernel), List.mem_of_getElem? (i := 473) (by decide +kernel)⟩
theorem lw_p5 : lw_okq (⟨"TypebarMachine$Parser", "readNumber", "()V"⟩, 9) := ⟨⟨by decide +kernel, by decide +kernel⟩, List.mem_of_getElem? (i := 223) (by decide +kernel), List.mem_of_getElem? (i := 479) (by decide +kernel), List.mem_of_getElem? (i := 480) (by decide +kernel)⟩
theorem lw_p6 : lw_okq (⟨"TypebarMachine$Parser", "takeWord", "(Ljava/lang/String;)V"⟩, 9) := ⟨⟨by decide +kernel, by decide +kernel⟩, List.mem_of_getElem? (i := 223) (by decide +kernel), List.mem_of_getElem? (i := 484) (by decide +kernel), List.mem_of_getElem? (i := 485) (by decide +kernel)⟩
theorem lw_p7 : lw_okq (⟨"TypebarMachine$Parser", "isWord", "(Ljava/lang/String;)Z"⟩, 9) := ⟨⟨by decide +kernel, by decide +kernel⟩, List.mem_of_getElem? (i := 223) (by decide +kernel), List.mem_of_getElem? (i := 488) (by decide +kernel), List.mem_of_getElem? (i := 489) (by decide +kernel)⟩
theorem lw_p8 : lw_okq (⟨"TypebarMachine$Parser", "fail", "(I)V"⟩, 9) := ⟨⟨by decide +kernel, by decide +kernel⟩, List.mem_of_getElem? (i := 223) (by decide +kernel), List.mem_of_getElem? (i := 540) (by decide +kernel), List.mem_of_getElem? (i := 541) (by decide +kernel)⟩
theorem lw_p9 : lw_okq (⟨"TypebarMachine$Parser", "takeSettings", "(II)V"⟩, 9) := ⟨⟨by decide +kernel, by decide +kernel⟩, List.mem_of_getElem? (i := 223) (by decide +kernel), List.mem_of_getElem? (i := 544) (by decide +kernel), List.mem_of_getElem? (i := 545) (by decide +kernel)⟩
theorem lw_p10 : lw_okq (⟨"TypebarMachine$Parser", "takeNumber", "(II)I"⟩, 9) := ⟨⟨by decide +kernel, by decide +kernel⟩, List.mem_of_getElem? (i := 223) (by decide +kernel), List.mem_of_getElem? (i := 555) (by decide +kernel), List.mem_of_getElem? (i := 556) (by decide +kernel)⟩
theorem lw_p11 : lw_okq (⟨"TypebarMachine$Parser", "requireNumber", "(II)V"⟩, 9) := ⟨⟨by decide +kernel, by decide +kernel⟩, List.mem_of_getElem? (i := 223) (by decide +kernel), List.mem_of_getElem? (i := 559) (by decide +kernel), List.mem_of_getElem? (i := 560) (by decide +kernel)⟩
theorem lw_p12 : lw_okq (⟨"TypebarMachine$Parser", "takeSemicolon", "()V"⟩, 9) := ⟨⟨by decide +kernel, by decide +kernel⟩, List.mem_of_getElem? (i := 223) (by decide +kernel), List.mem_of_getElem? (i := 564) (by decide +kernel), List.mem_of_getElem? (i := 565) (by decide +kernel)⟩
theorem lw_p13 : lw_okq (⟨"TypebarMachine$Parser", "takeBar", "()V"⟩, 9) := ⟨⟨by decide +kernel, by decide +kernel⟩, List.mem_of_getElem? (i := 223) (by decide +kernel), List.mem_of_getElem? (i := 571) (by decide +kernel), List.mem_of_getElem? (i := 572) (by decide +kernel)⟩
theorem lw_p14 : lw_okq (⟨"TypebarMachine$Parser", "takeTab", "()V"⟩, 9) := ⟨⟨by decide +kernel, by decide +kernel⟩, List.mem_of_getElem? (i := 223) (by decide +kernel), List.mem_of_getElem? (i := 589) (by decide +kernel), List.mem_of_getElem? (i := 590) (by decide +kernel)⟩
theorem lw_p15 : lw_okq (⟨"TypebarMachine", "requireLoaded", "()V"⟩, 12) := ⟨⟨by decide +kernel, by decide +kernel⟩, List.mem_of_getElem? (i := 25) (by decide +kernel), List.mem_of_getElem? (i := 691) (by decide +kernel), List.mem_of_getElem? (i := 692) (by decide +kernel)⟩
def lw_privs_1 : List (MethodName × Nat) := [(⟨"TypebarMachine", "appendFour", "(I)V"⟩, 12), (⟨"TypebarMachine", "requireBytes", "(I)V"⟩, 12), (⟨"java/lang/Throwable", "fillInStackTrace", "(I)Ljava/lang/Throwable;"⟩, 6), (⟨"TypebarMachine$Parser", "readToken", "()V"⟩, 9), (⟨"TypebarMachine$Parser", "readWord", "()V"⟩, 9), (⟨"TypebarMachine$Parser", "readNumber", "()V"⟩, 9), (⟨"TypebarMachine$Parser", "takeWord", "(Ljava/lang/String;)V"⟩, 9), (⟨"TypebarMachine$Parser", "isWord", "(Ljava/lang/String;)Z"⟩, 9), (⟨"TypebarMachine$Parser", "fail", "(I)V"⟩, 9), (⟨"TypebarMachine$Parser", "takeSettings", "(II)V"⟩, 9), (⟨"TypebarMachine$Parser", "takeNumber", "(II)I"⟩, 9), (⟨"TypebarMachine$Parser", "requireNumber", "(II)V"⟩, 9), (⟨"TypebarMachine$Parser", "takeSemicolon", "()V"⟩, 9), (⟨"TypebarMachine$Parser", "takeBar", "()V"⟩, 9), (⟨"TypebarMachine$Parser", "takeTab", "()V"⟩, 9), (⟨"TypebarMachine", "requireLoaded", "()V"⟩, 12)]
theorem lw_r1 : ∀ q ∈ lw_privs_1, lw_okq q := List.forall_mem_cons.mpr ⟨lw_p0, List.forall_mem_cons.mpr ⟨lw_p1, List.forall_mem_cons.mpr ⟨lw_p2, List.forall_mem_cons.mpr ⟨lw_p3, List.forall_mem_cons.mpr ⟨lw_p4, List.forall_mem_cons.mpr ⟨lw_p5, List.forall_mem_cons.mpr ⟨lw_p6, List.forall_mem_cons.mpr ⟨lw_p7, List.forall_mem_cons.mpr ⟨lw_p8, List.forall_mem_cons.mpr ⟨lw_p9, List.forall_mem_cons.mpr ⟨lw_p10, List.forall_mem_cons.mpr ⟨lw_p11, List.forall_mem_cons.mpr ⟨lw_p12, List.forall_mem_cons.mpr ⟨lw_p13, List.forall_mem_cons.mpr ⟨lw_p14, List.forall_mem_cons.mpr ⟨lw_p15, fun _ h => absurd h List.not_mem_nil⟩⟩⟩⟩⟩⟩⟩⟩⟩⟩⟩⟩⟩⟩⟩⟩
theorem lw_p16 : lw_okq (⟨"TypebarMachine", "requireBar", "(I)V"⟩, 12) := ⟨⟨by decide +kernel, by decide +kernel⟩, List.mem_of_getElem? (i := 25) (by decide +kernel), List.mem_of_getElem? (i := 741) (by decide +kernel), List.mem_of_getElem? (i := 742) (by decide +kernel)⟩
theorem lw_p17 : lw_okq (⟨"TypebarMachine", "requireLine", "(I)V"⟩, 12) := ⟨⟨by decide +kernel, by decide +kernel⟩, List.mem_of_getElem? (i := 25) (by decide +kernel), List.mem_of_getElem? (i := 806) (by decide +kernel), List.mem_of_getElem? (i := 807) (by decide +kernel)⟩
theorem lw_p18 : lw_okq (⟨"TypebarMachine", "requireColumn", "(I)V"⟩, 12) := ⟨⟨by decide +kernel, by decide +kernel⟩, List.mem_of_getElem? (i := 25) (by decide +kernel), List.mem_of_getElem? (i := 810) (by decide +kernel), List.mem_of_getElem? (i := 811) (by decide +kernel)⟩
theorem lw_p19 : lw_okq (⟨"TypebarMachine$Page", "places", "()I"⟩, 3) := ⟨⟨by decide +kernel, by decide +kernel⟩, List.mem_of_getElem? (i := 84) (by decide +kernel), List.mem_of_getElem? (i := 888) (by decide +kernel), List.mem_of_getElem? (i := 889) (by decide +kernel)⟩
theorem lw_p20 : lw_okq (⟨"TypebarMachine", "requireCarriageColumn", "(I)V"⟩, 12) := ⟨⟨by decide +kernel, by decide +kernel⟩, List.mem_of_getElem? (i := 25) (by decide +kernel), List.mem_of_getElem? (i := 944) (by decide +kernel), List.mem_of_getElem? (i := 945) (by decide +kernel)⟩
theorem lw_p21 : lw_okq (⟨"TypebarMachine$Bars", "roomOf", "(II)I"⟩, 9) := ⟨⟨by decide +kernel, by decide +kernel⟩, List.mem_of_getElem? (i := 137) (by decide +kernel), List.mem_of_getElem? (i := 989) (by decide +kernel), List.mem_of_getElem? (i := 990) (by decide +kernel)⟩
theorem lw_p22 : lw_okq (⟨"TypebarMachine$Machine", "startKey", "()V"⟩, 10) := ⟨⟨by decide +kernel, by decide +kernel⟩, List.mem_of_getElem? (i := 47) (by decide +kernel), List.mem_of_getElem? (i := 1045) (by decide +kernel), List.mem_of_getElem? (i := 1046) (by decide +kernel)⟩
theorem lw_p23 : lw_okq (⟨"TypebarMachine$Machine", "addTo", "(II)V"⟩, 10) := ⟨⟨by decide +kernel, by decide +kernel⟩, List.mem_of_getElem? (i := 47) (by decide +kernel), List.mem_of_getElem? (i := 1049) (by decide +kernel), List.mem_of_getElem? (i := 1050) (by decide +kernel)⟩
theorem lw_p24 : lw_okq (⟨"TypebarMachine$Machine", "printLetter", "(IZ)V"⟩, 10) := ⟨⟨by decide +kernel, by decide +kernel⟩, List.mem_of_getElem? (i := 47) (by decide +kernel), List.mem_of_getElem? (i := 1055) (by decide +kernel), List.mem_of_getElem? (i := 1056) (by decide +kernel)⟩
theorem lw_p25 : lw_okq (⟨"TypebarMachine$Machine", "moveOn", "()V"⟩, 10) := ⟨⟨by decide +kernel, by decide +kernel⟩, List.mem_of_getElem? (i := 47) (by decide +kernel), List.mem_of_getElem? (i := 1077) (by decide +kernel), List.mem_of_getElem? (i := 1078) (by decide +kernel)⟩
theorem lw_p26 : lw_okq (⟨"TypebarMachine$Machine", "endKey", "(I)I"⟩, 10) := ⟨⟨by decide +kernel, by decide +kernel⟩, List.mem_of_getElem? (i := 47) (by decide +kernel), List.mem_of_getElem? (i := 1086) (by decide +kernel), List.mem_of_getElem? (i := 1087) (by decide +kernel)⟩
theorem lw_p27 : lw_okq (⟨"TypebarMachine$Machine", "plainFault", "(I)I"⟩, 10) := ⟨⟨by decide +kernel, by decide +kernel⟩, List.mem_of_getElem? (i := 47) (by decide +kernel), List.mem_of_getElem? (i := 1094) (by decide +kernel), List.mem_of_getElem? (i := 1095) (by decide +kernel)⟩
theorem lw_p28 : lw_okq (⟨"TypebarMachine$Machine", "nextLine", "()I"⟩, 10) := ⟨⟨by decide +kernel, by decide +kernel⟩, List.mem_of_getElem? (i := 47) (by decide +kernel), List.mem_of_getElem? (i := 1098) (by decide +kernel), List.mem_of_getElem? (i := 1099) (by decide +kernel)⟩
theorem lw_p29 : lw_okq (⟨"TypebarMachine$Machine", "doPlainKey", "(I)V"⟩, 10) := ⟨⟨by decide +kernel, by decide +kernel⟩, List.mem_of_getElem? (i := 47) (by decide +kernel), List.mem_of_getElem? (i := 1102) (by decide +kernel), List.mem_of_getElem? (i := 1103) (by decide +kernel)⟩
theorem lw_p30 : lw_okq (⟨"TypebarMachine$Carriage", "reachFrom", "(IILTypebarMachine$Row;)V"⟩, 5) := ⟨⟨by decide +kernel, by decide +kernel⟩, List.mem_of_getElem? (i := 104) (by decide +kernel), List.mem_of_getElem? (i := 1138) (by decide +kernel), List.mem_of_getElem? (i := 1139) (by decide +kernel)⟩
theorem lw_p31 : lw_okq (⟨"TypebarMachine", "rulerMark", "(I)I"⟩, 12) := ⟨⟨by decide +kernel, by decide +kernel⟩, List.mem_of_getElem? (i := 25) (by decide +kernel), List.mem_of_getElem? (i := 1180) (by decide +kernel), List.mem_of_getElem? (i := 1181) (by decide +kernel)⟩
def lw_privs_2 : List (MethodName × Nat) := [(⟨"TypebarMachine", "requireBar", "(I)V"⟩, 12), (⟨"TypebarMachine", "requireLine", "(I)V"⟩, 12), (⟨"TypebarMachine", "requireColumn", "(I)V"⟩, 12), (⟨"TypebarMachine$Page", "places", "()I"⟩, 3), (⟨"TypebarMachine", "requireCarriageColumn", "(I)V"⟩, 12), (⟨"TypebarMachine$Bars", "roomOf", "(II)I"⟩, 9), (⟨"TypebarMachine$Machine", "startKey", "()V"⟩, 10), (⟨"TypebarMachine$Machine", "addTo", "(II)V"⟩, 10), (⟨"TypebarMachine$Machine", "printLetter", "(IZ)V"⟩, 10), (⟨"TypebarMachine$Machine", "moveOn", "()V"⟩, 10), (⟨"TypebarMachine$Machine", "endKey", "(I)I"⟩, 10), (⟨"TypebarMachine$Machine", "plainFault", "(I)I"⟩, 10), (⟨"TypebarMachine$Machine", "nextLine", "()I"⟩, 10), (⟨"TypebarMachine$Machine", "doPlainKey", "(I)V"⟩, 10), (⟨"TypebarMachine$Carriage", "reachFrom", "(IILTypebarMachine$Row;)V"⟩, 5), (⟨"TypebarMachine", "rulerMark", "(I)I"⟩, 12)]
theorem lw_r2 : ∀ q ∈ lw_privs_2, lw_okq q := List.forall_mem_cons.mpr ⟨lw_p16, List.forall_mem_cons.mpr ⟨lw_p17, List.forall_mem_cons.mpr ⟨lw_p18, List.forall_mem_cons.mpr ⟨lw_p19, List.forall_mem_cons.mpr ⟨lw_p20, List.forall_mem_cons.mpr ⟨lw_p21, List.forall_mem_cons.mpr ⟨lw_p22, List.forall_mem_cons.mpr ⟨lw_p23, List.forall_mem_cons.mpr ⟨lw_p24, List.forall_mem_cons.mpr ⟨lw_p25, List.forall_mem_cons.mpr ⟨lw_p26, List.forall_mem_cons.mpr ⟨lw_p27, List.forall_mem_cons.mpr ⟨lw_p28, List.forall_mem_cons.mpr ⟨lw_p29, List.forall_mem_cons.mpr ⟨lw_p30, List.forall_mem_cons.mpr ⟨lw_p31, fun _ h => absurd h List.not_mem_nil⟩⟩⟩⟩⟩⟩⟩⟩⟩⟩⟩⟩⟩⟩⟩⟩
theorem lw_p32 : lw_okq (⟨"TypebarMachine$History", "placeOf", "(I)LTypebarMachine$Machine;"⟩, 3) := ⟨⟨by decide +kernel, by decide +kernel⟩, List.mem_of_getElem? (i := 259) (by decide +kernel), List.mem_of_getElem? (i := 1202) (by decide +kernel), List.mem_of_getElem? (i := 1203) (by decide +kernel)⟩
theorem lw_p33 : lw_okq (⟨"TypebarMachine", "replaceSetting", "(II)I"⟩, 12) := ⟨⟨by decide +kernel, by decide +kernel⟩, List.mem_of_getElem? (i := 25) (by decide +kernel), List.mem_of_getElem? (i := 1241) (by decide +kernel), List.mem_of_getElem? (i := 1242) (by decide +kernel)⟩
theorem lw_p34 : lw_okq (⟨"TypebarMachine", "slotOf", "(I)LTypebarMachine$Slot;"⟩, 12) := ⟨⟨by decide +kernel, by decide +kernel⟩, List.mem_of_getElem? (i := 25) (by decide +kernel), List.mem_of_getElem? (i := 1307) (by decide +kernel), List.mem_of_getElem? (i := 1308) (by decide +kernel)⟩
theorem lw_p35 : lw_okq (⟨"TypebarMachineModel", "refuse", "(ZI)Z"⟩, 31) := ⟨⟨by decide +kernel, by decide +kernel⟩, List.mem_of_getElem? (i := 1319) (by decide +kernel), List.mem_of_getElem? (i := 1447) (by decide +kernel), List.mem_of_getElem? (i := 1448) (by decide +kernel)⟩
theorem lw_p36 : lw_okq (⟨"TypebarMachineModel", "holds", "()V"⟩, 31) := ⟨⟨by decide +kernel, by decide +kernel⟩, List.mem_of_getElem? (i := 1319) (by decide +kernel), List.mem_of_getElem? (i := 1451) (by decide +kernel), List.mem_of_getElem? (i := 1452) (by decide +kernel)⟩
theorem lw_p37 : lw_okq (⟨"TypebarMachineModel", "reads", "(I)V"⟩, 31) := ⟨⟨by decide +kernel, by decide +kernel⟩, List.mem_of_getElem? (i := 1319) (by decide +kernel), List.mem_of_getElem? (i := 1455) (by decide +kernel), List.mem_of_getElem? (i := 1456) (by decide +kernel)⟩
theorem lw_p38 : lw_okq (⟨"TypebarMachineModel", "clears", "()V"⟩, 31) := ⟨⟨by decide +kernel, by decide +kernel⟩, List.mem_of_getElem? (i := 1319) (by decide +kernel), List.mem_of_getElem? (i := 1459) (by decide +kernel), List.mem_of_getElem? (i := 1460) (by decide +kernel)⟩
theorem lw_p39 : lw_okq (⟨"TypebarMachineModel", "puts", "(II)V"⟩, 31) := ⟨⟨by decide +kernel, by decide +kernel⟩, List.mem_of_getElem? (i := 1319) (by decide +kernel), List.mem_of_getElem? (i := 1463) (by decide +kernel), List.mem_of_getElem? (i := 1464) (by decide +kernel)⟩
theorem lw_p40 : lw_okq (⟨"TypebarMachineModel", "token", "()V"⟩, 31) := ⟨⟨by decide +kernel, by decide +kernel⟩, List.mem_of_getElem? (i := 1319) (by decide +kernel), List.mem_of_getElem? (i := 1467) (by decide +kernel), List.mem_of_getElem? (i := 1468) (by decide +kernel)⟩
theorem lw_p41 : lw_okq (⟨"TypebarMachineModel", "seen", "(I)I"⟩, 31) := ⟨⟨by decide +kernel, by decide +kernel⟩, List.mem_of_getElem? (i := 1319) (by decide +kernel), List.mem_of_getElem? (i := 1471) (by decide +kernel), List.mem_of_getElem? (i := 1472) (by decide +kernel)⟩
theorem lw_p42 : lw_okq (⟨"TypebarMachineModel", "readsHead", "()V"⟩, 31) := ⟨⟨by decide +kernel, by decide +kernel⟩, List.mem_of_getElem? (i := 1319) (by decide +kernel), List.mem_of_getElem? (i := 1481) (by decide +kernel), List.mem_of_getElem? (i := 1482) (by decide +kernel)⟩
theorem lw_p43 : lw_okq (⟨"TypebarMachineModel", "word", "(Ljava/lang/String;)V"⟩, 31) := ⟨⟨by decide +kernel, by decide +kernel⟩, List.mem_of_getElem? (i := 1319) (by decide +kernel), List.mem_of_getElem? (i := 1486) (by decide +kernel), List.mem_of_getElem? (i := 1487) (by decide +kernel)⟩
theorem lw_p44 : lw_okq (⟨"TypebarMachineModel", "isWord", "(Ljava/lang/String;)Z"⟩, 31) := ⟨⟨by decide +kernel, by decide +kernel⟩, List.mem_of_getElem? (i := 1319) (by decide +kernel), List.mem_of_getElem? (i := 1490) (by decide +kernel), List.mem_of_getElem? (i := 1491) (by decide +kernel)⟩
theorem lw_p45 : lw_okq (⟨"TypebarMachineModel", "failsIf", "(ZI)V"⟩, 31) := ⟨⟨by decide +kernel, by decide +kernel⟩, List.mem_of_getElem? (i := 1319) (by decide +kernel), List.mem_of_getElem? (i := 1496) (by decide +kernel), List.mem_of_getElem? (i := 1497) (by decide +kernel)⟩
theorem lw_p46 : lw_okq (⟨"TypebarMachineModel", "fails", "(I)V"⟩, 31) := ⟨⟨by decide +kernel, by decide +kernel⟩, List.mem_of_getElem? (i := 1319) (by decide +kernel), List.mem_of_getElem? (i := 1500) (by decide +kernel), List.mem_of_getElem? (i := 1501) (by decide +kernel)⟩
theorem lw_p47 : lw_okq (⟨"TypebarMachineModel", "goesOn", "()V"⟩, 31) := ⟨⟨by decide +kernel, by decide +kernel⟩, List.mem_of_getElem? (i := 1319) (by decide +kernel), List.mem_of_getElem? (i := 1504) (by decide +kernel), List.mem_of_getElem? (i := 1505) (by decide +kernel)⟩
def lw_privs_3 : List (MethodName × Nat) := [(⟨"TypebarMachine$History", "placeOf", "(I)LTypebarMachine$Machine;"⟩, 3), (⟨"TypebarMachine", "replaceSetting", "(II)I"⟩, 12), (⟨"TypebarMachine", "slotOf", "(I)LTypebarMachine$Slot;"⟩, 12), (⟨"TypebarMachineModel", "refuse", "(ZI)Z"⟩, 31), (⟨"TypebarMachineModel", "holds", "()V"⟩, 31), (⟨"TypebarMachineModel", "reads", "(I)V"⟩, 31), (⟨"TypebarMachineModel", "clears", "()V"⟩, 31), (⟨"TypebarMachineModel", "puts", "(II)V"⟩, 31), (⟨"TypebarMachineModel", "token", "()V"⟩, 31), (⟨"TypebarMachineModel", "seen", "(I)I"⟩, 31), (⟨"TypebarMachineModel", "readsHead", "()V"⟩, 31), (⟨"TypebarMachineModel", "word", "(Ljava/lang/String;)V"⟩, 31), (⟨"TypebarMachineModel", "isWord", "(Ljava/lang/String;)Z"⟩, 31), (⟨"TypebarMachineModel", "failsIf", "(ZI)V"⟩, 31), (⟨"TypebarMachineModel", "fails", "(I)V"⟩, 31), (⟨"TypebarMachineModel", "goesOn", "()V"⟩, 31)]
theorem lw_r3 : ∀ q ∈ lw_privs_3, lw_okq q := List.forall_mem_cons.mpr ⟨lw_p32, List.forall_mem_cons.mpr ⟨lw_p33, List.forall_mem_cons.mpr ⟨lw_p34, List.forall_mem_cons.mpr ⟨lw_p35, List.forall_mem_cons.mpr ⟨lw_p36, List.forall_mem_cons.mpr ⟨lw_p37, List.forall_mem_cons.mpr ⟨lw_p38, List.forall_mem_cons.mpr ⟨lw_p39, List.forall_mem_cons.mpr ⟨lw_p40, List.forall_mem_cons.mpr ⟨lw_p41, List.forall_mem_cons.mpr ⟨lw_p42, List.forall_mem_cons.mpr ⟨lw_p43, List.forall_mem_cons.mpr ⟨lw_p44, List.forall_mem_cons.mpr ⟨lw_p45, List.forall_mem_cons.mpr ⟨lw_p46, List.forall_mem_cons.mpr ⟨lw_p47, fun _ h => absurd h List.not_mem_nil⟩⟩⟩⟩⟩⟩⟩⟩⟩⟩⟩⟩⟩⟩⟩⟩
theorem lw_p48 : lw_okq (⟨"TypebarMachineModel", "takes", "(II)I"⟩, 31) := ⟨⟨by decide +kernel, by decide +kernel⟩, List.mem_of_getElem? (i := 1319) (by decide +kernel), List.mem_of_getElem? (i := 1508) (by decide +kernel), List.mem_of_getElem? (i := 1509) (by decide +kernel)⟩
theorem lw_p49 : lw_okq (⟨"TypebarMachineModel", "looks", "(II)I"⟩, 31) := ⟨⟨by decide +kernel, by decide +kernel⟩, List.mem_of_getElem? (i := 1319) (by decide +kernel), List.mem_of_getElem? (i := 1512) (by decide +kernel), List.mem_of_getElem? (i := 1513) (by decide +kernel)⟩
theorem lw_p50 : lw_okq (⟨"TypebarMachineModel", "its", "(I)I"⟩, 31) := ⟨⟨by decide +kernel, by decide +kernel⟩, List.mem_of_getElem? (i := 1319) (by decide +kernel), List.mem_of_getElem? (i := 1516) (by decide +kernel), List.mem_of_getElem? (i := 1517) (by decide +kernel)⟩
theorem lw_p51 : lw_okq (⟨"TypebarMachineModel", "semicolon", "()V"⟩, 31) := ⟨⟨by decide +kernel, by decide +kernel⟩, List.mem_of_getElem? (i := 1319) (by decide +kernel), List.mem_of_getElem? (i := 1520) (by decide +kernel), List.mem_of_getElem? (i := 1521) (by decide +kernel)⟩
theorem lw_p52 : lw_okq (⟨"TypebarMachineModel", "line", "()V"⟩, 31) := ⟨⟨by decide +kernel, by decide +kernel⟩, List.mem_of_getElem? (i := 1319) (by decide +kernel), List.mem_of_getElem? (i := 1526) (by decide +kernel), List.mem_of_getElem? (i := 1527) (by decide +kernel)⟩
theorem lw_p53 : lw_okq (⟨"TypebarMachineModel", "barLine", "()V"⟩, 31) := ⟨⟨by decide +kernel, by decide +kernel⟩, List.mem_of_getElem? (i := 1319) (by decide +kernel), List.mem_of_getElem? (i := 1531) (by decide +kernel), List.mem_of_getElem? (i := 1532) (by decide +kernel)⟩
theorem lw_p54 : lw_okq (⟨"TypebarMachineModel", "withLetter", "(I)I"⟩, 31) := ⟨⟨by decide +kernel, by decide +kernel⟩, List.mem_of_getElem? (i := 1319) (by decide +kernel), List.mem_of_getElem? (i := 1535) (by decide +kernel), List.mem_of_getElem? (i := 1536) (by decide +kernel)⟩
theorem lw_p55 : lw_okq (⟨"TypebarMachineModel", "tabLine", "()V"⟩, 31) := ⟨⟨by decide +kernel, by decide +kernel⟩, List.mem_of_getElem? (i := 1319) (by decide +kernel), List.mem_of_getElem? (i := 1540) (by decide +kernel), List.mem_of_getElem? (i := 1541) (by decide +kernel)⟩
theorem lw_p56 : lw_okq (⟨"TypebarMachineModel", "fillsRibbon", "()V"⟩, 31) := ⟨⟨by decide +kernel, by decide +kernel⟩, List.mem_of_getElem? (i := 1319) (by decide +kernel), List.mem_of_getElem? (i := 1544) (by decide +kernel), List.mem_of_getElem? (i := 1545) (by decide +kernel)⟩
theorem lw_p57 : lw_okq (⟨"TypebarMachineModel", "laysBack", "()V"⟩, 31) := ⟨⟨by decide +kernel, by decide +kernel⟩, List.mem_of_getElem? (i := 1319) (by decide +kernel), List.mem_of_getElem? (i := 1548) (by decide +kernel), List.mem_of_getElem? (i := 1549) (by decide +kernel)⟩
theorem lw_p58 : lw_okq (⟨"TypebarMachineModel", "notLoaded", "()Z"⟩, 31) := ⟨⟨by decide +kernel, by decide +kernel⟩, List.mem_of_getElem? (i := 1319) (by decide +kernel), List.mem_of_getElem? (i := 1556) (by decide +kernel), List.mem_of_getElem? (i := 1557) (by decide +kernel)⟩
theorem lw_p59 : lw_okq (⟨"TypebarMachineModel", "stops", "()I"⟩, 31) := ⟨⟨by decide +kernel, by decide +kernel⟩, List.mem_of_getElem? (i := 1319) (by decide +kernel), List.mem_of_getElem? (i := 1560) (by decide +kernel), List.mem_of_getElem? (i := 1561) (by decide +kernel)⟩
theorem lw_p60 : lw_okq (⟨"TypebarMachineModel", "isLocked", "(I)Z"⟩, 31) := ⟨⟨by decide +kernel, by decide +kernel⟩, List.mem_of_getElem? (i := 1319) (by decide +kernel), List.mem_of_getElem? (i := 1572) (by decide +kernel), List.mem_of_getElem? (i := 1573) (by decide +kernel)⟩
theorem lw_p61 : lw_okq (⟨"TypebarMachineModel", "noBar", "(I)Z"⟩, 31) := ⟨⟨by decide +kernel, by decide +kernel⟩, List.mem_of_getElem? (i := 1319) (by decide +kernel), List.mem_of_getElem? (i := 1583) (by decide +kernel), List.mem_of_getElem? (i := 1584) (by decide +kernel)⟩
theorem lw_p62 : lw_okq (⟨"TypebarMachineModel", "isBar", "(I)Z"⟩, 31) := ⟨⟨by decide +kernel, by decide +kernel⟩, List.mem_of_getElem? (i := 1319) (by decide +kernel), List.mem_of_getElem? (i := 1587) (by decide +kernel), List.mem_of_getElem? (i := 1588) (by decide +kernel)⟩
theorem lw_p63 : lw_okq (⟨"TypebarMachineModel", "rise", "(I)I"⟩, 31) := ⟨⟨by decide +kernel, by decide +kernel⟩, List.mem_of_getElem? (i := 1319) (by decide +kernel), List.mem_of_getElem? (i := 1591) (by decide +kernel), List.mem_of_getElem? (i := 1592) (by decide +kernel)⟩
def lw_privs_4 : List (MethodName × Nat) := [(⟨"TypebarMachineModel", "takes", "(II)I"⟩, 31), (⟨"TypebarMachineModel", "looks", "(II)I"⟩, 31), (⟨"TypebarMachineModel", "its", "(I)I"⟩, 31), (⟨"TypebarMachineModel", "semicolon", "()V"⟩, 31), (⟨"TypebarMachineModel", "line", "()V"⟩, 31), (⟨"TypebarMachineModel", "barLine", "()V"⟩, 31), (⟨"TypebarMachineModel", "withLetter", "(I)I"⟩, 31), (⟨"TypebarMachineModel", "tabLine", "()V"⟩, 31), (⟨"TypebarMachineModel", "fillsRibbon", "()V"⟩, 31), (⟨"TypebarMachineModel", "laysBack", "()V"⟩, 31), (⟨"TypebarMachineModel", "notLoaded", "()Z"⟩, 31), (⟨"TypebarMachineModel", "stops", "()I"⟩, 31), (⟨"TypebarMachineModel", "isLocked", "(I)Z"⟩, 31), (⟨"TypebarMachineModel", "noBar", "(I)Z"⟩, 31), (⟨"TypebarMachineModel", "isBar", "(I)Z"⟩, 31), (⟨"TypebarMachineModel", "rise", "(I)I"⟩, 31)]
theorem lw_r4 : ∀ q ∈ lw_privs_4, lw_okq q := List.forall_mem_cons.mpr ⟨lw_p48, List.forall_mem_cons.mpr ⟨lw_p49, List.forall_mem_cons.mpr ⟨lw_p50, List.forall_mem_cons.mpr ⟨lw_p51, List.forall_mem_cons.mpr ⟨lw_p52, List.forall_mem_cons.mpr ⟨lw_p53, List.forall_mem_cons.mpr ⟨lw_p54, List.forall_mem_cons.mpr ⟨lw_p55, List.forall_mem_cons.mpr ⟨lw_p56, List.forall_mem_cons.mpr ⟨lw_p57, List.forall_mem_cons.mpr ⟨lw_p58, List.forall_mem_cons.mpr ⟨lw_p59, List.forall_mem_cons.mpr ⟨lw_p60, List.forall_mem_cons.mpr ⟨lw_p61, List.forall_mem_cons.mpr ⟨lw_p62, List.forall_mem_cons.mpr ⟨lw_p63, fun _ h => absurd h List.not_mem_nil⟩⟩⟩⟩⟩⟩⟩⟩⟩⟩⟩⟩⟩⟩⟩⟩
theorem lw_p64 : lw_okq (⟨"TypebarMachineModel", "backIn", "(II)I"⟩, 31) := ⟨⟨by decide +kernel, by decide +kernel⟩, List.mem_of_getElem? (i := 1319) (by decide +kernel), List.mem_of_getElem? (i := 1596) (by decide +kernel), List.mem_of_getElem? (i := 1597) (by decide +kernel)⟩
theorem lw_p65 : lw_okq (⟨"TypebarMachineModel", "struckAt", "(I)I"⟩, 31) := ⟨⟨by decide +kernel, by decide +kernel⟩, List.mem_of_getElem? (i := 1319) (by decide +kernel), List.mem_of_getElem? (i := 1600) (by decide +kernel), List.mem_of_getElem? (i := 1601) (by decide +kernel)⟩
theorem lw_p66 : lw_okq (⟨"TypebarMachineModel", "barFor", "(I)I"⟩, 31) := ⟨⟨by decide +kernel, by decide +kernel⟩, List.mem_of_getElem? (i := 1319) (by decide +kernel), List.mem_of_getElem? (i := 1609) (by decide +kernel), List.mem_of_getElem? (i := 1610) (by decide +kernel)⟩
theorem lw_p67 : lw_okq (⟨"TypebarMachineModel", "allInk", "()I"⟩, 31) := ⟨⟨by decide +kernel, by decide +kernel⟩, List.mem_of_getElem? (i := 1319) (by decide +kernel), List.mem_of_getElem? (i := 1628) (by decide +kernel), List.mem_of_getElem? (i := 1629) (by decide +kernel)⟩
theorem lw_p68 : lw_okq (⟨"TypebarMachineModel", "dryPlaces", "()I"⟩, 31) := ⟨⟨by decide +kernel, by decide +kernel⟩, List.mem_of_getElem? (i := 1319) (by decide +kernel), List.mem_of_getElem? (i := 1632) (by decide +kernel), List.mem_of_getElem? (i := 1633) (by decide +kernel)⟩
theorem lw_p69 : lw_okq (⟨"TypebarMachineModel", "noPlace", "(II)Z"⟩, 31) := ⟨⟨by decide +kernel, by decide +kernel⟩, List.mem_of_getElem? (i := 1319) (by decide +kernel), List.mem_of_getElem? (i := 1640) (by decide +kernel), List.mem_of_getElem? (i := 1641) (by decide +kernel)⟩
theorem lw_p70 : lw_okq (⟨"TypebarMachineModel", "isLine", "(I)Z"⟩, 31) := ⟨⟨by decide +kernel, by decide +kernel⟩, List.mem_of_getElem? (i := 1319) (by decide +kernel), List.mem_of_getElem? (i := 1644) (by decide +kernel), List.mem_of_getElem? (i := 1645) (by decide +kernel)⟩
theorem lw_p71 : lw_okq (⟨"TypebarMachineModel", "isColumn", "(I)Z"⟩, 31) := ⟨⟨by decide +kernel, by decide +kernel⟩, List.mem_of_getElem? (i := 1319) (by decide +kernel), List.mem_of_getElem? (i := 1648) (by decide +kernel), List.mem_of_getElem? (i := 1649) (by decide +kernel)⟩
theorem lw_p72 : lw_okq (⟨"TypebarMachineModel", "signAt", "(II)I"⟩, 31) := ⟨⟨by decide +kernel, by decide +kernel⟩, List.mem_of_getElem? (i := 1319) (by decide +kernel), List.mem_of_getElem? (i := 1652) (by decide +kernel), List.mem_of_getElem? (i := 1653) (by decide +kernel)⟩
theorem lw_p73 : lw_okq (⟨"TypebarMachineModel", "darkAt", "(II)I"⟩, 31) := ⟨⟨by decide +kernel, by decide +kernel⟩, List.mem_of_getElem? (i := 1319) (by decide +kernel), List.mem_of_getElem? (i := 1660) (by decide +kernel), List.mem_of_getElem? (i := 1661) (by decide +kernel)⟩
theorem lw_p74 : lw_okq (⟨"TypebarMachineModel", "noLine", "(I)Z"⟩, 31) := ⟨⟨by decide +kernel, by decide +kernel⟩, List.mem_of_getElem? (i := 1319) (by decide +kernel), List.mem_of_getElem? (i := 1680) (by decide +kernel), List.mem_of_getElem? (i := 1681) (by decide +kernel)⟩
theorem lw_p75 : lw_okq (⟨"TypebarMachineModel", "longOf", "(I)I"⟩, 31) := ⟨⟨by decide +kernel, by decide +kernel⟩, List.mem_of_getElem? (i := 1319) (by decide +kernel), List.mem_of_getElem? (i := 1684) (by decide +kernel), List.mem_of_getElem? (i := 1685) (by decide +kernel)⟩
theorem lw_p76 : lw_okq (⟨"TypebarMachineModel", "filled", "()I"⟩, 31) := ⟨⟨by decide +kernel, by decide +kernel⟩, List.mem_of_getElem? (i := 1319) (by decide +kernel), List.mem_of_getElem? (i := 1704) (by decide +kernel), List.mem_of_getElem? (i := 1705) (by decide +kernel)⟩
theorem lw_p77 : lw_okq (⟨"TypebarMachineModel", "stopFrom", "(I)I"⟩, 31) := ⟨⟨by decide +kernel, by decide +kernel⟩, List.mem_of_getElem? (i := 1319) (by decide +kernel), List.mem_of_getElem? (i := 1720) (by decide +kernel), List.mem_of_getElem? (i := 1721) (by decide +kernel)⟩
theorem lw_p78 : lw_okq (⟨"TypebarMachineModel", "reasonOf", "(II)I"⟩, 31) := ⟨⟨by decide +kernel, by decide +kernel⟩, List.mem_of_getElem? (i := 1319) (by decide +kernel), List.mem_of_getElem? (i := 1732) (by decide +kernel), List.mem_of_getElem? (i := 1733) (by decide +kernel)⟩
theorem lw_p79 : lw_okq (⟨"TypebarMachineModel", "wouldJam", "(II)Z"⟩, 31) := ⟨⟨by decide +kernel, by decide +kernel⟩, List.mem_of_getElem? (i := 1319) (by decide +kernel), List.mem_of_getElem? (i := 1736) (by decide +kernel), List.mem_of_getElem? (i := 1737) (by decide +kernel)⟩
def lw_privs_5 : List (MethodName × Nat) := [(⟨"TypebarMachineModel", "backIn", "(II)I"⟩, 31), (⟨"TypebarMachineModel", "struckAt", "(I)I"⟩, 31), (⟨"TypebarMachineModel", "barFor", "(I)I"⟩, 31), (⟨"TypebarMachineModel", "allInk", "()I"⟩, 31), (⟨"TypebarMachineModel", "dryPlaces", "()I"⟩, 31), (⟨"TypebarMachineModel", "noPlace", "(II)Z"⟩, 31), (⟨"TypebarMachineModel", "isLine", "(I)Z"⟩, 31), (⟨"TypebarMachineModel", "isColumn", "(I)Z"⟩, 31), (⟨"TypebarMachineModel", "signAt", "(II)I"⟩, 31), (⟨"TypebarMachineModel", "darkAt", "(II)I"⟩, 31), (⟨"TypebarMachineModel", "noLine", "(I)Z"⟩, 31), (⟨"TypebarMachineModel", "longOf", "(I)I"⟩, 31), (⟨"TypebarMachineModel", "filled", "()I"⟩, 31), (⟨"TypebarMachineModel", "stopFrom", "(I)I"⟩, 31), (⟨"TypebarMachineModel", "reasonOf", "(II)I"⟩, 31), (⟨"TypebarMachineModel", "wouldJam", "(II)Z"⟩, 31)]
theorem lw_r5 : ∀ q ∈ lw_privs_5, lw_okq q := List.forall_mem_cons.mpr ⟨lw_p64, List.forall_mem_cons.mpr ⟨lw_p65, List.forall_mem_cons.mpr ⟨lw_p66, List.forall_mem_cons.mpr ⟨lw_p67, List.forall_mem_cons.mpr ⟨lw_p68, List.forall_mem_cons.mpr ⟨lw_p69, List.forall_mem_cons.mpr ⟨lw_p70, List.forall_mem_cons.mpr ⟨lw_p71, List.forall_mem_cons.mpr ⟨lw_p72, List.forall_mem_cons.mpr ⟨lw_p73, List.forall_mem_cons.mpr ⟨lw_p74, List.forall_mem_cons.mpr ⟨lw_p75, List.forall_mem_cons.mpr ⟨lw_p76, List.forall_mem_cons.mpr ⟨lw_p77, List.forall_mem_cons.mpr ⟨lw_p78, List.forall_mem_cons.mpr ⟨lw_p79, fun _ h => absurd h List.not_mem_nil⟩⟩⟩⟩⟩⟩⟩⟩⟩⟩⟩⟩⟩⟩⟩⟩
theorem lw_p80 : lw_okq (⟨"TypebarMachineModel", "clearance", "(II)I"⟩, 31) := ⟨⟨by decide +kernel, by decide +kernel⟩, List.mem_of_getElem? (i := 1319) (by decide +kernel), List.mem_of_getElem? (i := 1740) (by decide +kernel), List.mem_of_getElem? (i := 1741) (by decide +kernel)⟩
theorem lw_p81 : lw_okq (⟨"TypebarMachineModel", "paceBetween", "(II)I"⟩, 31) := ⟨⟨by decide +kernel, by decide +kernel⟩, List.mem_of_getElem? (i := 1319) (by decide +kernel), List.mem_of_getElem? (i := 1752) (by decide +kernel), List.mem_of_getElem? (i := 1753) (by decide +kernel)⟩
theorem lw_p82 : lw_okq (⟨"TypebarMachineModel", "noBytes", "(I)Z"⟩, 31) := ⟨⟨by decide +kernel, by decide +kernel⟩, List.mem_of_getElem? (i := 1319) (by decide +kernel), List.mem_of_getElem? (i := 1764) (by decide +kernel), List.mem_of_getElem? (i := 1765) (by decide +kernel)⟩
theorem lw_p83 : lw_okq (⟨"TypebarMachineModel", "putsAside", "()V"⟩, 31) := ⟨⟨by decide +kernel, by decide +kernel⟩, List.mem_of_getElem? (i := 1319) (by decide +kernel), List.mem_of_getElem? (i := 1768) (by decide +kernel), List.mem_of_getElem? (i := 1769) (by decide +kernel)⟩
theorem lw_p84 : lw_okq (⟨"TypebarMachineModel", "typesAll", "(I)I"⟩, 31) := ⟨⟨by decide +kernel, by decide +kernel⟩, List.mem_of_getElem? (i := 1319) (by decide +kernel), List.mem_of_getElem? (i := 1772) (by decide +kernel), List.mem_of_getElem? (i := 1773) (by decide +kernel)⟩
theorem lw_p85 : lw_okq (⟨"TypebarMachineModel", "types", "(I)I"⟩, 31) := ⟨⟨by decide +kernel, by decide +kernel⟩, List.mem_of_getElem? (i := 1319) (by decide +kernel), List.mem_of_getElem? (i := 1776) (by decide +kernel), List.mem_of_getElem? (i := 1777) (by decide +kernel)⟩
theorem lw_p86 : lw_okq (⟨"TypebarMachineModel", "otherKey", "(I)I"⟩, 31) := ⟨⟨by decide +kernel, by decide +kernel⟩, List.mem_of_getElem? (i := 1319) (by decide +kernel), List.mem_of_getElem? (i := 1783) (by decide +kernel), List.mem_of_getElem? (i := 1784) (by decide +kernel)⟩
theorem lw_p87 : lw_okq (⟨"TypebarMachineModel", "begins", "()V"⟩, 31) := ⟨⟨by decide +kernel, by decide +kernel⟩, List.mem_of_getElem? (i := 1319) (by decide +kernel), List.mem_of_getElem? (i := 1787) (by decide +kernel), List.mem_of_getElem? (i := 1788) (by decide +kernel)⟩
theorem lw_p88 : lw_okq (⟨"TypebarMachineModel", "counts", "(I)V"⟩, 31) := ⟨⟨by decide +kernel, by decide +kernel⟩, List.mem_of_getElem? (i := 1319) (by decide +kernel), List.mem_of_getElem? (i := 1791) (by decide +kernel), List.mem_of_getElem? (i := 1792) (by decide +kernel)⟩
theorem lw_p89 : lw_okq (⟨"TypebarMachineModel", "goes", "(I)I"⟩, 31) := ⟨⟨by decide +kernel, by decide +kernel⟩, List.mem_of_getElem? (i := 1319) (by decide +kernel), List.mem_of_getElem? (i := 1795) (by decide +kernel), List.mem_of_getElem? (i := 1796) (by decide +kernel)⟩
theorem lw_p90 : lw_okq (⟨"TypebarMachineModel", "spaceKey", "()I"⟩, 31) := ⟨⟨by decide +kernel, by decide +kernel⟩, List.mem_of_getElem? (i := 1319) (by decide +kernel), List.mem_of_getElem? (i := 1799) (by decide +kernel), List.mem_of_getElem? (i := 1800) (by decide +kernel)⟩
theorem lw_p91 : lw_okq (⟨"TypebarMachineModel", "advances", "()V"⟩, 31) := ⟨⟨by decide +kernel, by decide +kernel⟩, List.mem_of_getElem? (i := 1319) (by decide +kernel), List.mem_of_getElem? (i := 1803) (by decide +kernel), List.mem_of_getElem? (i := 1804) (by decide +kernel)⟩
theorem lw_p92 : lw_okq (⟨"TypebarMachineModel", "frees", "()V"⟩, 31) := ⟨⟨by decide +kernel, by decide +kernel⟩, List.mem_of_getElem? (i := 1319) (by decide +kernel), List.mem_of_getElem? (i := 1807) (by decide +kernel), List.mem_of_getElem? (i := 1808) (by decide +kernel)⟩
theorem lw_p93 : lw_okq (⟨"TypebarMachineModel", "returnKey", "()I"⟩, 31) := ⟨⟨by decide +kernel, by decide +kernel⟩, List.mem_of_getElem? (i := 1319) (by decide +kernel), List.mem_of_getElem? (i := 1811) (by decide +kernel), List.mem_of_getElem? (i := 1812) (by decide +kernel)⟩
theorem lw_p94 : lw_okq (⟨"TypebarMachineModel", "backFrom", "(I)I"⟩, 31) := ⟨⟨by decide +kernel, by decide +kernel⟩, List.mem_of_getElem? (i := 1319) (by decide +kernel), List.mem_of_getElem? (i := 1815) (by decide +kernel), List.mem_of_getElem? (i := 1816) (by decide +kernel)⟩
theorem lw_p95 : lw_okq (⟨"TypebarMachineModel", "ends", "(I)I"⟩, 31) := ⟨⟨by decide +kernel, by decide +kernel⟩, List.mem_of_getElem? (i := 1319) (by decide +kernel), List.mem_of_getElem? (i := 1819) (by decide +kernel), List.mem_of_getElem? (i := 1820) (by decide +kernel)⟩
def lw_privs_6 : List (MethodName × Nat) := [(⟨"TypebarMachineModel", "clearance", "(II)I"⟩, 31), (⟨"TypebarMachineModel", "paceBetween", "(II)I"⟩, 31), (⟨"TypebarMachineModel", "noBytes", "(I)Z"⟩, 31), (⟨"TypebarMachineModel", "putsAside", "()V"⟩, 31), (⟨"TypebarMachineModel", "typesAll", "(I)I"⟩, 31), (⟨"TypebarMachineModel", "types", "(I)I"⟩, 31), (⟨"TypebarMachineModel", "otherKey", "(I)I"⟩, 31), (⟨"TypebarMachineModel", "begins", "()V"⟩, 31), (⟨"TypebarMachineModel", "counts", "(I)V"⟩, 31), (⟨"TypebarMachineModel", "goes", "(I)I"⟩, 31), (⟨"TypebarMachineModel", "spaceKey", "()I"⟩, 31), (⟨"TypebarMachineModel", "advances", "()V"⟩, 31), (⟨"TypebarMachineModel", "frees", "()V"⟩, 31), (⟨"TypebarMachineModel", "returnKey", "()I"⟩, 31), (⟨"TypebarMachineModel", "backFrom", "(I)I"⟩, 31), (⟨"TypebarMachineModel", "ends", "(I)I"⟩, 31)]
theorem lw_r6 : ∀ q ∈ lw_privs_6, lw_okq q := List.forall_mem_cons.mpr ⟨lw_p80, List.forall_mem_cons.mpr ⟨lw_p81, List.forall_mem_cons.mpr ⟨lw_p82, List.forall_mem_cons.mpr ⟨lw_p83, List.forall_mem_cons.mpr ⟨lw_p84, List.forall_mem_cons.mpr ⟨lw_p85, List.forall_mem_cons.mpr ⟨lw_p86, List.forall_mem_cons.mpr ⟨lw_p87, List.forall_mem_cons.mpr ⟨lw_p88, List.forall_mem_cons.mpr ⟨lw_p89, List.forall_mem_cons.mpr ⟨lw_p90, List.forall_mem_cons.mpr ⟨lw_p91, List.forall_mem_cons.mpr ⟨lw_p92, List.forall_mem_cons.mpr ⟨lw_p93, List.forall_mem_cons.mpr ⟨lw_p94, List.forall_mem_cons.mpr ⟨lw_p95, fun _ h => absurd h List.not_mem_nil⟩⟩⟩⟩⟩⟩⟩⟩⟩⟩⟩⟩⟩⟩⟩⟩
theorem lw_p96 : lw_okq (⟨"TypebarMachineModel", "letterKey", "(IZ)I"⟩, 31) := ⟨⟨by decide +kernel, by decide +kernel⟩, List.mem_of_getElem? (i := 1319) (by decide +kernel), List.mem_of_getElem? (i := 1823) (by decide +kernel), List.mem_of_getElem? (i := 1824) (by decide +kernel)⟩
theorem lw_p97 : lw_okq (⟨"TypebarMachineModel", "strikes", "(IZ)V"⟩, 31) := ⟨⟨by decide +kernel, by decide +kernel⟩, List.mem_of_getElem? (i := 1319) (by decide +kernel), List.mem_of_getElem? (i := 1827) (by decide +kernel), List.mem_of_getElem? (i := 1828) (by decide +kernel)⟩
theorem lw_p98 : lw_okq (⟨"TypebarMachineModel", "prints", "(I)V"⟩, 31) := ⟨⟨by decide +kernel, by decide +kernel⟩, List.mem_of_getElem? (i := 1319) (by decide +kernel), List.mem_of_getElem? (i := 1831) (by decide +kernel), List.mem_of_getElem? (i := 1832) (by decide +kernel)⟩
theorem lw_p99 : lw_okq (⟨"TypebarMachineModel", "runsOn", "()V"⟩, 31) := ⟨⟨by decide +kernel, by decide +kernel⟩, List.mem_of_getElem? (i := 1319) (by decide +kernel), List.mem_of_getElem? (i := 1836) (by decide +kernel), List.mem_of_getElem? (i := 1837) (by decide +kernel)⟩
theorem lw_p100 : lw_okq (⟨"TypebarMachineModel", "fetchesBack", "(I)I"⟩, 31) := ⟨⟨by decide +kernel, by decide +kernel⟩, List.mem_of_getElem? (i := 1319) (by decide +kernel), List.mem_of_getElem? (i := 1840) (by decide +kernel), List.mem_of_getElem? (i := 1841) (by decide +kernel)⟩
theorem lw_p101 : lw_okq (⟨"TypebarMachineModel", "reaches", "(II)V"⟩, 31) := ⟨⟨by decide +kernel, by decide +kernel⟩, List.mem_of_getElem? (i := 1319) (by decide +kernel), List.mem_of_getElem? (i := 1852) (by decide +kernel), List.mem_of_getElem? (i := 1853) (by decide +kernel)⟩
theorem lw_p102 : lw_okq (⟨"TypebarMachineModel", "says", "(I)V"⟩, 31) := ⟨⟨by decide +kernel, by decide +kernel⟩, List.mem_of_getElem? (i := 1319) (by decide +kernel), List.mem_of_getElem? (i := 1864) (by decide +kernel), List.mem_of_getElem? (i := 1865) (by decide +kernel)⟩
theorem lw_p103 : lw_okq (⟨"TypebarMachineModel", "rulerSign", "(I)I"⟩, 31) := ⟨⟨by decide +kernel, by decide +kernel⟩, List.mem_of_getElem? (i := 1319) (by decide +kernel), List.mem_of_getElem? (i := 1876) (by decide +kernel), List.mem_of_getElem? (i := 1877) (by decide +kernel)⟩
theorem lw_p104 : lw_okq (⟨"TypebarMachineModel", "keepsAll", "()V"⟩, 31) := ⟨⟨by decide +kernel, by decide +kernel⟩, List.mem_of_getElem? (i := 1319) (by decide +kernel), List.mem_of_getElem? (i := 1888) (by decide +kernel), List.mem_of_getElem? (i := 1889) (by decide +kernel)⟩
theorem lw_p105 : lw_okq (⟨"TypebarMachineModel", "keeps", "(I)V"⟩, 31) := ⟨⟨by decide +kernel, by decide +kernel⟩, List.mem_of_getElem? (i := 1319) (by decide +kernel), List.mem_of_getElem? (i := 1892) (by decide +kernel), List.mem_of_getElem? (i := 1893) (by decide +kernel)⟩
theorem lw_p106 : lw_okq (⟨"TypebarMachineModel", "replaces", "(II)I"⟩, 31) := ⟨⟨by decide +kernel, by decide +kernel⟩, List.mem_of_getElem? (i := 1319) (by decide +kernel), List.mem_of_getElem? (i := 1912) (by decide +kernel), List.mem_of_getElem? (i := 1913) (by decide +kernel)⟩
theorem lw_p107 : lw_okq (⟨"TypebarMachineModel", "maySet", "(II)Z"⟩, 31) := ⟨⟨by decide +kernel, by decide +kernel⟩, List.mem_of_getElem? (i := 1319) (by decide +kernel), List.mem_of_getElem? (i := 1920) (by decide +kernel), List.mem_of_getElem? (i := 1921) (by decide +kernel)⟩
theorem lw_p108 : lw_okq (⟨"TypebarMachineModel", "fetches", "(I)V"⟩, 31) := ⟨⟨by decide +kernel, by decide +kernel⟩, List.mem_of_getElem? (i := 1319) (by decide +kernel), List.mem_of_getElem? (i := 1940) (by decide +kernel), List.mem_of_getElem? (i := 1941) (by decide +kernel)⟩
def lw_privs_7 : List (MethodName × Nat) := [(⟨"TypebarMachineModel", "letterKey", "(IZ)I"⟩, 31), (⟨"TypebarMachineModel", "strikes", "(IZ)V"⟩, 31), (⟨"TypebarMachineModel", "prints", "(I)V"⟩, 31), (⟨"TypebarMachineModel", "runsOn", "()V"⟩, 31), (⟨"TypebarMachineModel", "fetchesBack", "(I)I"⟩, 31), (⟨"TypebarMachineModel", "reaches", "(II)V"⟩, 31), (⟨"TypebarMachineModel", "says", "(I)V"⟩, 31), (⟨"TypebarMachineModel", "rulerSign", "(I)I"⟩, 31), (⟨"TypebarMachineModel", "keepsAll", "()V"⟩, 31), (⟨"TypebarMachineModel", "keeps", "(I)V"⟩, 31), (⟨"TypebarMachineModel", "replaces", "(II)I"⟩, 31), (⟨"TypebarMachineModel", "maySet", "(II)Z"⟩, 31), (⟨"TypebarMachineModel", "fetches", "(I)V"⟩, 31)]
theorem lw_r7 : ∀ q ∈ lw_privs_7, lw_okq q := List.forall_mem_cons.mpr ⟨lw_p96, List.forall_mem_cons.mpr ⟨lw_p97, List.forall_mem_cons.mpr ⟨lw_p98, List.forall_mem_cons.mpr ⟨lw_p99, List.forall_mem_cons.mpr ⟨lw_p100, List.forall_mem_cons.mpr ⟨lw_p101, List.forall_mem_cons.mpr ⟨lw_p102, List.forall_mem_cons.mpr ⟨lw_p103, List.forall_mem_cons.mpr ⟨lw_p104, List.forall_mem_cons.mpr ⟨lw_p105, List.forall_mem_cons.mpr ⟨lw_p106, List.forall_mem_cons.mpr ⟨lw_p107, List.forall_mem_cons.mpr ⟨lw_p108, fun _ h => absurd h List.not_mem_nil⟩⟩⟩⟩⟩⟩⟩⟩⟩⟩⟩⟩⟩
def lw_privs : List (MethodName × Nat) := lw_privs_1 ++ (lw_privs_2 ++ (lw_privs_3 ++ (lw_privs_4 ++ (lw_privs_5 ++ (lw_privs_6 ++ (lw_privs_7))))))
def lw_tbl : List Cond := k2_sels lw_privs ++ tables_1
theorem lw_privs_ok : ∀ q ∈ lw_privs, lw_okq q := by
  show ∀ q ∈ lw_privs_1 ++ (lw_privs_2 ++ (lw_privs_3 ++ (lw_privs_4 ++ (lw_privs_5 ++ (lw_privs_6 ++ (lw_privs_7)))))), lw_okq q
  exact List.forall_mem_append.mpr ⟨lw_r1, List.forall_mem_append.mpr ⟨lw_r2, List.forall_mem_append.mpr ⟨lw_r3, List.forall_mem_append.mpr ⟨lw_r4, List.forall_mem_append.mpr ⟨lw_r5, List.forall_mem_append.mpr ⟨lw_r6, lw_r7⟩⟩⟩⟩⟩⟩
/-- the streams that the claim lets the run draw from -/
abbrev lw_cs : List Choice := [Jvm.Choice.named "NaN.bits"]
theorem lw_bits : nanBits ∈ lw_cs := by first | decide | exact List.mem_cons_self | simp [lw_cs, nanBits]
-- ===== end of PART A; then your names; then what follows =====
end
section
/-! ===== BEGIN words of one list among another's, by their places ===== -/
theorem goodIn_r {big : List Cond} (ws : List Cond) (ps : List Nat) (hp : ws = ps.filterMap (fun i => big[i]?)) (h : ws.all goodWord = true) : GoodIn big ws := by
  intro w hw
  have h1 := List.all_eq_true.mp h w hw
  rw [hp] at hw
  obtain ⟨i, -, hi⟩ := List.mem_filterMap.mp hw
  have hm : w ∈ big := by first | exact List.mem_of_getElem? hi | exact List.getElem?_mem hi
  exact ⟨hm, good_of_word h1⟩
theorem goodIn_app {big a b : List Cond} (ha : GoodIn big a) (hb : GoodIn big b) : GoodIn big (a ++ b) := fun w h => (List.mem_append.mp h).elim (ha w) (hb w)
theorem goodIn_ca {big a b : List Cond} {c : Cond} (ha : GoodIn big (c :: a)) (hb : GoodIn big b) : GoodIn big (c :: (a ++ b)) := fun w h => (List.mem_cons.mp h).elim (fun e => ha w (List.mem_cons.mpr (Or.inl e))) (fun h => (List.mem_append.mp h).elim (fun h => ha w (List.mem_cons.mpr (Or.inr h))) (hb w))
theorem goodIn_sub {big ws : List Cond} (hm : ∀ w ∈ ws, w ∈ big) (h : ws.all goodWord = true) : GoodIn big ws := fun w hw => ⟨hm w hw, good_of_word (List.all_eq_true.mp h w hw)⟩
/-! ===== END ===== -/

/-! ===== BEGIN exceptions that leave a method, and their catching by the caller (launches without stack traces) ===== -/
section VXA
/-! The laws vx_back, vx_callV, vx_callS, vx_callSW, vx_throw0, vx_throwS follow proofs of the library, with one case more: JvmDerived/Free/Laws.lean (Back.of_free), Shelf42/LK1.lean (callV, callS), Shelf/KitTraced.lean (throwNew0V, throwNewS). -/
/-- where a method has thrown q: the class by its name, the cell, what was written, the world -/
def vx_T (XC : String → State → State → Prop) (st : State) (q : Addr) (t : State) (mc ms : Nat) (free : Addr → Prop) : Prop :=
  ∃ (E : String) (ce : Cell) (L : List Loc), XC E st t ∧ t.heap[q]? = some ce ∧ ce.vm = .none ∧ st.vm.findClass E = some ce.cls ∧ st.WarmedH t.vm ∧ st.sameButNew ({ t with vm := st.vm } : State) L mc ms ∧ ∀ z ∈ L, free z.base
def vx_Q (Qc : Array Value → State → Outcome → State → Prop) (XC : String → State → State → Prop) (mc ms : Nat) (free : Addr → Prop) : Array Value → State → Outcome → State → Prop := fun a st o t =>
  (Qc a st o t ∧ ∃ L, FrameEnd st o t L mc ms ∧ ∀ q ∈ L, free q.base) ∨ ∃ q, o = .threw q ∧ vx_T XC st q t mc ms free
/-- a callee that returns or throws -/
def vx_Met (l : Launch) (y : MethodName) (ws : List Cond) (rm : Room) (Pc : Array Value → State → Prop) (Qc : Array Value → State → Outcome → State → Prop) (XC : String → State → State → Prop) (mc ms : Nat) (free : Addr → Prop) : Prop :=
  MetFree l y (headSpec ws rm) Pc (fun _ _ _ _ _ => True) (vx_Q Qc XC mc ms free)
def vx_Post (XC : String → State → State → Prop) (mc ms : Nat) (free : Addr → Prop) : Pt → Array Value → Addr → Pt → Prop := fun A a q B =>
  ∃ (g : JFrame) (mk : MethodId) (t : State) (L : List Loc) (E : String) (ce : Cell), B.U.heap = t.heap ∧ B.U.vm = t.vm ∧ XC E (A.U.calling g mk a) t ∧ t.heap[q]? = some ce ∧ ce.vm = .none ∧ A.U.vm.findClass E = some ce.cls ∧ B.locs = A.locs ++ L ∧ (∀ z ∈ L, free z.base) ∧ B.cells = A.cells + mc ∧ B.slots = A.slots + ms
def vx_Back (l : Launch) (R : Room) (p : Program) (e : Env) (below : List Frame) (s : State) (sargs : Array Value) (y : MethodName) (len W9 : Nat)
    (Pre : Pt → Array Value → Prop) (Post : Pt → Array Value → Option Value → Pt → Prop) (PostX : Pt → Array Value → Addr → Pt → Prop) : Prop :=
  ∀ (m : MethodId) (meth : Method) (c : Code) (A : Pt) (g : JFrame) (ig : Instr) (mk : MethodId) (a : Array Value),
    Stand p l e R s m sargs below meth c A.U A.locs A.cells A.slots → g.method = m → g.locals.size = c.maxLocals → decode c.code g.pc = .ok (ig, len) →
    2 * g.monitorRoom + (g.stack.map fun v => v.category).sum ≤ W9 → A.U.methodNamed? y = some mk → Pre A a →
    (∃ (v : Option Value) (B : Pt), Stand p l e R s m sargs below meth c B.U B.locs B.cells B.slots ∧ Post A a v B ∧
      Steps p.tables e below (doInvoke e (A.U.setTop g) [] mk a).1 (B.U.setTop { g with pc := g.pc + len, stack := v.toList ++ g.stack })) ∨
    (∃ (q : Addr) (B : Pt), Stand p l e R s m sargs below meth c B.U B.locs B.cells B.slots ∧ PostX A a q B ∧
      Steps p.tables e below (doInvoke e (A.U.setTop g) [] mk a).1 ((B.U.setTop g).pushFrame (.throwing q)))
section Payer
variable {l : Launch} {R : Room} {p : Program} {e : Env} {below : List Frame} {s : State} {sargs : Array Value} {y : MethodName} {len W9 : Nat}
theorem vx_back {ws : List Cond} {rm : Room} {Pc : Array Value → State → Prop} {Qc : Array Value → State → Outcome → State → Prop} {XC : String → State → State → Prop} {mc ms : Nat} {free : Addr → Prop} {bytes : ByteArray} {maxL : Nat} {ret : Option FieldType}
    (hM : vx_Met l y ws rm Pc Qc XC mc ms free) (hblind : FrameBlind Pc) (hrc : rm.cells = mc) (hrs : rm.slots = ms)
    (hframes : rm.frames + 1 ≤ R.frames) (hlocals : W9 + (maxL + 11) + rm.locals ≤ R.locals)
    (hws : ∀ w ∈ ws, ∀ a' U, s.WarmedH U.vm → w.before a' U = true) (hcode : Cond.code y bytes maxL ret ∈ ws) (hinit : ∀ a' U, s.WarmedH U.vm → (Cond.initialized y.cls).before a' U = true) :
    vx_Back l R p e below s sargs y len W9 (PreOf R mc ms Pc) (PostOf Qc mc ms free) (vx_Post XC mc ms free) := by
  intro m meth c A g ig mk a X hg hsize hdg hW hn hp
  have h1 : (headSpec ws rm).pre.before a A.U = true := atoms_intro fun w hw => hws w hw _ _ X.warmed
  have h2 : (Cond.code y bytes maxL ret).before a A.U = true := hws _ hcode _ _ X.warmed
  have h3 : (Cond.initialized y.cls).before a A.U = true := hinit _ _ X.warmed
  have h4 : A.cells + (headSpec ws rm).room.cells ≤ R.cells := by rw [show (headSpec ws rm).room.cells = mc from hrc]; exact hp.1
  have h5 : A.slots + (headSpec ws rm).room.slots ≤ R.slots := by rw [show (headSpec ws rm).room.slots = ms from hrs]; exact hp.2.1
  have hPc : Pc a (A.U.calling g mk a) := hblind _ _ _ _ hp.2.2
  obtain ⟨U, Ls, c0, s0⟩ := A
  dsimp only [Pt.U, Pt.locs, Pt.cells, Pt.slots] at h1 h2 h3 h4 h5 X hn hPc ⊢
  obtain ⟨methY, cY, hmY, hcY, -, hlY, -, -, -, -⟩ := Cond.code_spec hn h2
  obtain ⟨kY, hkY, -⟩ := className_of_methodNamed hn
  have hinitY : kY.init = .initialized := Cond.initialized_spec (findClass_of_methodNamed hn) hkY h3
  have h : At U g.method c below := by rw [hg]; exact X.here
  have hlocals9 : W9 + (maxL + 11) + (headSpec ws rm).room.locals ≤ R.locals := hlocals
  have happ : (headSpec ws rm).appliesLoose y e.platform (U.calling g mk a) = true :=
    Spec.appliesLoose_calling (g := g) h hdg hn hkY hinitY
      (X.room_calling (g := g) (R' := (headSpec ws rm).room) hsize hmY hcY hframes (by rw [hlY]; omega) h4 h5) h1
  obtain ⟨mid, hmid⟩ := h.above
  have hfr : (U.setTop g).frames = (.java g :: mid) ++ below := by rw [State.frames_setTop' g h.top, hmid]; rfl
  obtain ⟨o, s₂, hsteps, -, hend, hq⟩ := Steps.callFree hM p X.admits X.cas X.clock (acts := []) hfr happ hPc trivial
  have hq' : vx_Q Qc XC mc ms free a (U.calling g mk a) o s₂ := hq
  rw [State.frames_setTop' g h.top] at hend
  obtain ⟨g₀, hg0⟩ := Option.isSome_iff_exists.mp h.top
  obtain ⟨r, hr⟩ := State.topJava?_eq_some.mp hg0
  have hr' : (({ U with heap := s₂.heap, slotsUsed := s₂.slotsUsed } : State).setVm s₂.vm).frames = .java g₀ :: r := hr
  rcases hq' with ⟨hqc, L, hfe, hL⟩ | ⟨q, rfl, E, ce, L, hx, hce, hcv, hcl, hW₂, hsm, hL⟩
  · obtain ⟨⟨v, rfl⟩, hW₂, e2, q2, q3, q4, q5, q6⟩ := id hfe
    have e3 : s₂ = ({ (U.calling g mk a).setFrames s₂.frames with heap := s₂.heap, slotsUsed := s₂.slotsUsed } : State).setVm s₂.vm := by
      have : s₂ = ({ s₂ with vm := (U.calling g mk a).vm } : State).setVm s₂.vm := rfl
      rw [e2] at this
      exact this
    obtain ⟨c₂, i₂, len₂, hc₂, hd₂, hf₂⟩ := hend
    have hW' : U.WarmedH s₂.vm := hW₂
    have hcc : c₂ = c := by
      have h1 : s₂.code? g.method = U.code? g.method := by
        rw [State.code?_eq, State.code?_eq, hW'.alike.method?]
      exact Option.some.inj (hc₂.symm.trans (h1.trans h.code))
    subst hcc
    have hlen : len₂ = len := by rw [hdg] at hd₂; cases hd₂; rfl
    subst hlen
    have hs₂ : s₂ = (({ U with heap := s₂.heap, slotsUsed := s₂.slotsUsed } : State).setVm s₂.vm).setTop { g with pc := g.pc + len₂, stack := v.toList ++ g.stack } := by
      refine e3.trans ?_
      rw [hf₂, State.calling_eq h.top, State.setFrames_setFrames, State.setTop_of_frames _ hr', hr]
      rfl
    have hsame : U.sameButNew ({ U with heap := s₂.heap, slotsUsed := s₂.slotsUsed } : State) L mc ms := by
      refine ⟨?_, q2, q3, q4, q5, q6⟩
      obtain ⟨t, ht, -⟩ := State.frames_cons hr
      show ({ U with heap := s₂.heap, slotsUsed := s₂.slotsUsed } : State) = { U.setFrames U.frames with heap := s₂.heap, slotsUsed := s₂.slotsUsed }
      rw [State.setFrames_self ht]
    subst hg
    refine Or.inl ⟨v, ⟨(({ U with heap := s₂.heap, slotsUsed := s₂.slotsUsed } : State).setVm s₂.vm), Ls ++ L, c0 + mc, s0 + ms⟩,
      ⟨X.admits, X.cas, X.clock, X.frames, X.room, X.hears, X.method, X.code, (X.here.setHeapUsed s₂.heap s₂.slotsUsed).setVm hW'.alike, X.tail, State.WarmedH.trans X.warmed hW', X.limits, X.bytes, X.same.trans (hsame.setVm s.vm)⟩,
      ⟨g, mk, s₂, L, rfl, rfl, hqc, rfl, hL, rfl, rfl⟩, ?_⟩
    show Steps p.tables e below _ ((({ U with heap := s₂.heap, slotsUsed := s₂.slotsUsed } : State).setVm s₂.vm).setTop { g with pc := g.pc + len₂, stack := v.toList ++ g.stack })
    rw [← hs₂]
    exact hsteps
  · obtain ⟨e2, q2, q3, q4, q5, q6⟩ := id hsm
    have e3 : s₂ = ({ (U.calling g mk a).setFrames s₂.frames with heap := s₂.heap, slotsUsed := s₂.slotsUsed } : State).setVm s₂.vm := by
      have : s₂ = ({ s₂ with vm := (U.calling g mk a).vm } : State).setVm s₂.vm := rfl
      rw [e2] at this
      exact this
    have hf₂ : s₂.frames = .throwing q :: .java g :: U.frames.tail := hend
    have hW' : U.WarmedH s₂.vm := hW₂
    have hs₂ : s₂ = ((({ U with heap := s₂.heap, slotsUsed := s₂.slotsUsed } : State).setVm s₂.vm).setTop g).pushFrame (.throwing q) := by
      refine e3.trans ?_
      rw [hf₂, State.calling_eq h.top, State.setFrames_setFrames, State.pushFrame, State.frames_setTop _ hr', State.setTop_of_frames _ hr', State.setFrames_setFrames, hr]
      rfl
    have hsame : U.sameButNew ({ U with heap := s₂.heap, slotsUsed := s₂.slotsUsed } : State) L mc ms := by
      refine ⟨?_, q2, q3, q4, q5, q6⟩
      obtain ⟨t, ht, -⟩ := State.frames_cons hr
      show ({ U with heap := s₂.heap, slotsUsed := s₂.slotsUsed } : State) = { U.setFrames U.frames with heap := s₂.heap, slotsUsed := s₂.slotsUsed }
      rw [State.setFrames_self ht]
    subst hg
    refine Or.inr ⟨q, ⟨(({ U with heap := s₂.heap, slotsUsed := s₂.slotsUsed } : State).setVm s₂.vm), Ls ++ L, c0 + mc, s0 + ms⟩,
      ⟨X.admits, X.cas, X.clock, X.frames, X.room, X.hears, X.method, X.code, (X.here.setHeapUsed s₂.heap s₂.slotsUsed).setVm hW'.alike, X.tail, State.WarmedH.trans X.warmed hW', X.limits, X.bytes, X.same.trans (hsame.setVm s.vm)⟩,
      ⟨g, mk, s₂, L, E, ce, rfl, rfl, hx, hce, hcv, hcl, rfl, hL, rfl, rfl⟩, ?_⟩
    show Steps p.tables e below _ (((({ U with heap := s₂.heap, slotsUsed := s₂.slotsUsed } : State).setVm s₂.vm).setTop g).pushFrame (.throwing q))
    rw [← hs₂]
    exact hsteps
end Payer
section Calls
variable {p : Program} {l : Launch} {e : Env} {R : Room} {s : State} {m : MethodId} {args : Array Value} {below : List Frame} {meth : Method} {c : Code} {T : State} {locs : List Loc} {cells slots : Nat}
theorem vx_callV (X : Stand p l e R s m args below meth c T locs cells slots) (hexec : p.tables.exec = Jvm.exec) {own C : String} {index : Nat} {y : MethodName} {bytes : ByteArray} {maxL : Nat} {ret : Option FieldType}
    (hown : s.vm.findClass own = some m.cls) (hlink : (Cond.methodLink own index y).before args s = true) (hinst : (Cond.instanceMethod y).before args s = true) (hsel : (Cond.selects C y y).before args s = true)
    (hcode : (Cond.code y bytes maxL ret).before args s = true) (hy : y.cls ≠ "java/lang/invoke/MethodHandle" ∧ y.cls ≠ "java/lang/invoke/VarHandle")
    {W9 : Nat} {Pre : Pt → Array Value → Prop} {Post : Pt → Array Value → Option Value → Pt → Prop} {PostX : Pt → Array Value → Addr → Pt → Prop} (hK : vx_Back l R p e below s args y 3 W9 Pre Post PostX)
    {b : Addr} {cellB : Cell} (hcell : T.heap[b]? = some cellB) (hobj : cellB.vm.isStatics = false) (hcls : s.vm.findClass C = some cellB.cls)
    {g : JFrame} (hg : g.method = m) (hsize : g.locals.size = c.maxLocals) {argsL rest : List Value} (hlen : ∀ sig, parseMethodDescriptor y.desc = some sig → argsL.length = sig.parameters.length)
    (hstack : g.stack = argsL.reverse ++ .ref b :: rest) (hW : 2 * g.monitorRoom + (rest.map fun v => v.category).sum ≤ W9) (hdg : decode c.code g.pc = .ok (.invokevirtual index, 3))
    (hpre : ∀ vm₁, s.WarmedH vm₁ → Pre ⟨T.setVm vm₁, locs, cells, slots⟩ (Value.ref b :: argsL).toArray) :
    (∃ (v : Option Value) (vm₁ : Vm) (B : Pt), s.WarmedH vm₁ ∧ Stand p l e R s m args below meth c B.U B.locs B.cells B.slots ∧ Post ⟨T.setVm vm₁, locs, cells, slots⟩ (Value.ref b :: argsL).toArray v B ∧
      ∀ target, Steps p.tables e below (B.U.setTop { g with pc := g.pc + 3, stack := v.toList ++ rest }) target → Steps p.tables e below (T.setTop g) target) ∨
    (∃ (q : Addr) (vm₁ : Vm) (B : Pt), s.WarmedH vm₁ ∧ Stand p l e R s m args below meth c B.U B.locs B.cells B.slots ∧ PostX ⟨T.setVm vm₁, locs, cells, slots⟩ (Value.ref b :: argsL).toArray q B ∧
      Steps p.tables e below (T.setTop g) ((B.U.setTop { g with stack := rest }).pushFrame (.throwing q))) := by
  obtain ⟨mk, methM, hnamed, hmethM, hstM, habM⟩ := Cond.instanceMethod_spec hinst
  obtain ⟨methM', cM, hmethM', -, -, -, -, -, -, hsigM⟩ := Cond.code_spec hnamed hcode
  cases hmethM.symm.trans hmethM'
  obtain ⟨c2, r2, m2, q1, q2, q3, q4, kP, hkP, hkPi⟩ := Cond.selects_spec hsel
  cases hcls.symm.trans q1
  cases (State.methodFound?_of_named hnamed hy).symm.trans q2
  cases hnamed.symm.trans q3
  have hselP : selectMethod e.platform s.vm cellB.cls mk = .method mk := by rw [Launch.admits_selectMethod X.admits]; exact q4
  obtain ⟨vm₁, X₁, hstep₁⟩ := X.invokevirtual hexec hown hlink hnamed hmethM hstM hkP hkPi hy (a := b) (cell := cellB) hcell
    (fun z h => by rw [h] at hobj; cases hobj) hselP hmethM habM hkP hkPi (g := g) hg (argsL := argsL) (rest := rest) (hlen _ hsigM) hstack hdg
  rcases hK m meth c ⟨T.setVm vm₁, locs, cells, slots⟩ { g with stack := rest } (.invokevirtual index) mk (Value.ref b :: argsL).toArray X₁ hg hsize hdg hW (X₁.named hnamed) (hpre vm₁ X₁.warmed) with ⟨v, B, X', hpost, hsteps⟩ | ⟨q, B, X', hpost, hsteps⟩
  · exact Or.inl ⟨v, vm₁, B, X₁.warmed, X', hpost, fun target h => hstep₁ _ fun acts => by rw [doInvoke_state]; exact hsteps.trans h⟩
  · exact Or.inr ⟨q, vm₁, B, X₁.warmed, X', hpost, hstep₁ _ fun acts => by rw [doInvoke_state]; exact hsteps⟩
theorem vx_callS (X : Stand p l e R s m args below meth c T locs cells slots) (hexec : p.tables.exec = Jvm.exec) {own : String} {index : Nat} {y : MethodName} {bytes : ByteArray} {maxL : Nat} {ret : Option FieldType}
    (hown : s.vm.findClass own = some m.cls) (hlink : (Cond.methodLink own index y).before args s = true) (hstat : (Cond.static y).before args s = true) (hinit : (Cond.initialized y.cls).before args s = true)
    (hcode : (Cond.code y bytes maxL ret).before args s = true) (hy : y.cls ≠ "java/lang/invoke/MethodHandle" ∧ y.cls ≠ "java/lang/invoke/VarHandle")
    {W9 : Nat} {Pre : Pt → Array Value → Prop} {Post : Pt → Array Value → Option Value → Pt → Prop} {PostX : Pt → Array Value → Addr → Pt → Prop} (hK : vx_Back l R p e below s args y 3 W9 Pre Post PostX)
    {g : JFrame} (hg : g.method = m) (hsize : g.locals.size = c.maxLocals) {argsL rest : List Value} (hlen : ∀ sig, parseMethodDescriptor y.desc = some sig → argsL.length = sig.parameters.length)
    (hstack : g.stack = argsL.reverse ++ rest) (hW : 2 * g.monitorRoom + (rest.map fun v => v.category).sum ≤ W9) (hdg : decode c.code g.pc = .ok (.invokestatic index, 3))
    (hpre : ∀ vm₁, s.WarmedH vm₁ → Pre ⟨T.setVm vm₁, locs, cells, slots⟩ argsL.toArray) :
    (∃ (v : Option Value) (vm₁ : Vm) (B : Pt), s.WarmedH vm₁ ∧ Stand p l e R s m args below meth c B.U B.locs B.cells B.slots ∧ Post ⟨T.setVm vm₁, locs, cells, slots⟩ argsL.toArray v B ∧
      ∀ target, Steps p.tables e below (B.U.setTop { g with pc := g.pc + 3, stack := v.toList ++ rest }) target → Steps p.tables e below (T.setTop g) target) ∨
    (∃ (q : Addr) (vm₁ : Vm) (B : Pt), s.WarmedH vm₁ ∧ Stand p l e R s m args below meth c B.U B.locs B.cells B.slots ∧ PostX ⟨T.setVm vm₁, locs, cells, slots⟩ argsL.toArray q B ∧
      Steps p.tables e below (T.setTop g) ((B.U.setTop { g with stack := rest }).pushFrame (.throwing q))) := by
  obtain ⟨mk, hnamed⟩ := Cond.code_named hcode
  obtain ⟨methM, cM, hmethM, -, -, -, -, -, -, hsigM⟩ := Cond.code_spec hnamed hcode
  have hstatic : methM.isStatic = true := Cond.static_spec hnamed hmethM hstat
  obtain ⟨kP, hkP, -⟩ := className_of_methodNamed hnamed
  have hinitP : kP.init = .initialized := Cond.initialized_spec (findClass_of_methodNamed hnamed) hkP hinit
  obtain ⟨vm₁, X₁, hstep₁⟩ := X.invokestatic hexec hown hlink hnamed hmethM hstatic hkP hinitP hy (g := g) hg (argsL := argsL) (rest := rest) (hlen _ hsigM) hstack hdg
  rcases hK m meth c ⟨T.setVm vm₁, locs, cells, slots⟩ { g with stack := rest } (.invokestatic index) mk argsL.toArray X₁ hg hsize hdg hW (X₁.named hnamed) (hpre vm₁ X₁.warmed) with ⟨v, B, X', hpost, hsteps⟩ | ⟨q, B, X', hpost, hsteps⟩
  · exact Or.inl ⟨v, vm₁, B, X₁.warmed, X', hpost, fun target h => hstep₁ _ fun acts => by rw [doInvoke_state]; exact hsteps.trans h⟩
  · exact Or.inr ⟨q, vm₁, B, X₁.warmed, X', hpost, hstep₁ _ fun acts => by rw [doInvoke_state]; exact hsteps⟩
end Calls
theorem vx_cls {s : State} {T : State} {vm₁ : Vm} {E : String} {k : ClassId} (hW : s.WarmedH vm₁) (h : (T.setVm vm₁).vm.findClass E = some k) : s.vm.findClass E = some k := by
  have h1 : vm₁.findClass E = some k := h
  rw [hW.alike.findClass] at h1
  exact h1
/-- the method's frame g, with q thrown over it -/
def vx_W (p : Program) (l : Launch) (e : Env) (R : Room) (s : State) (m : MethodId) (args : Array Value) (below : List Frame) (meth : Method) (c : Code) (H : Heap) (locs : List Loc) (cells slots : Nat) (Q : State → Prop) (g : JFrame) (q : Addr) : Prop :=
  ∀ T : State, T.heap = H → Stand p l e R s m args below meth c T locs cells slots → ∃ t, Steps p.tables e below ((T.setTop g).pushFrame (.throwing q)) t ∧ Q t
def vx_Run (p : Program) (l : Launch) (e : Env) (R : Room) (s : State) (m : MethodId) (args : Array Value) (below : List Frame) (meth : Method) (c : Code) (H : Heap) (locs : List Loc) (cells slots mc ms : Nat) (g : JFrame) (rest : List Value) (Qa : State → Outcome → State → Prop) (XC : String → State → State → Prop) (free : Addr → Prop) : Prop :=
  ∀ T : State, T.heap = H → Stand p l e R s m args below meth c T locs cells slots →
    (∃ (v : Option Value) (st₀ t T' : State) (L : List Loc), st₀.heap = H ∧ Stand p l e R s m args below meth c T' (locs ++ L) (cells + mc) (slots + ms) ∧ (∀ q ∈ L, free q.base) ∧ T'.heap = t.heap ∧ T'.vm = t.vm ∧ Qa st₀ (.returned v) t ∧
      Goes p e below T g T' { g with pc := g.pc + 3, stack := v.toList ++ rest }) ∨
    (∃ (q : Addr) (st₀ t T' : State) (L : List Loc) (E : String) (ce : Cell), st₀.heap = H ∧ Stand p l e R s m args below meth c T' (locs ++ L) (cells + mc) (slots + ms) ∧ (∀ z ∈ L, free z.base) ∧ T'.heap = t.heap ∧ T'.vm = t.vm ∧ XC E st₀ t ∧ t.heap[q]? = some ce ∧ ce.vm = .none ∧ s.vm.findClass E = some ce.cls ∧
      Steps p.tables e below (T.setTop g) ((T'.setTop { g with stack := rest }).pushFrame (.throwing q)))
def vx_X {S : Type} (px : S → Prop) (B : String → S → State → Prop) (A : Nat → Prop) : String → State → State → Prop := fun E st t => ∃ u : S, px u ∧ B E u t ∧ va_F A st t
section Runs
variable {p : Program} {l : Launch} {e : Env} {R : Room} {s : State} {m : MethodId} {args : Array Value} {below : List Frame} {meth : Method} {c : Code} {H : Heap} {locs : List Loc} {cells slots : Nat}
variable {y : MethodName} {bytes cc : ByteArray} {maxL nL mc ms n index : Nat} {ret : Option FieldType} {ws : List Cond} {rm : Room} {Pc : Array Value → State → Prop} {Qc : Array Value → State → Outcome → State → Prop} {XC : String → State → State → Prop} {free : Addr → Prop} {Ts : List Cond} {own C : String} {b : Addr} {As rest : List Value} {g : JFrame}
theorem vx_callBack (cb : CallB R s args own index y bytes maxL ret ws rm mc ms n) (hM : vx_Met l y ws rm Pc Qc XC mc ms free) (hbl : FrameBlind Pc) : vx_Back l R p e below s args y 3 8 (PreOf R mc ms Pc) (PostOf Qc mc ms free) (vx_Post XC mc ms free) := by
  obtain ⟨hrc, hrs, hfr, hlo, hws, hcw, -, hini, -⟩ := cb
  exact vx_back (bytes := bytes) (maxL := maxL) (ret := ret) hM hbl hrc hrs hfr hlo hws hcw (fun a' U hW => word_at hW (Or.inl (by first | rfl | simp [Cond.onTables, Cond.keeps, Cond.steady])) hini)
theorem vx_runV (S : CallFix p m c cc nL s args Ts own) (hM : vx_Met l y ws rm Pc Qc XC mc ms free) (cw : CallW R s args own C index y bytes maxL ret ws rm mc ms n) (hp : PreV s H C b Pc As)
    (hg : g.method = m) (hn : As.length = n) (hsize : g.locals.size = nL) (hstack : g.stack = As.reverse ++ .ref b :: rest) (hW : 2 * g.monitorRoom + (rest.map fun v => v.category).sum ≤ 8) (hdg : decode cc g.pc = .ok (.invokevirtual index, 3)) (hf : cells + mc ≤ R.cells ∧ slots + ms ≤ R.slots) :
    vx_Run p l e R s m args below meth c H locs cells slots mc ms g rest (Qc (Value.ref b :: As).toArray) XC free := by
  have hK : vx_Back l R p e below s args y 3 8 (PreOf R mc ms Pc) (PostOf Qc mc ms free) (vx_Post XC mc ms free) := vx_callBack cw.1 hM hp.1
  obtain ⟨⟨-, -, -, -, -, -, hcode, -, hy, hlen, hl⟩, hin, hse⟩ := cw
  obtain ⟨hx, hb, hml, ho, -⟩ := S
  obtain ⟨-, ⟨cellB, hcB, hoB, hclB⟩, hPc⟩ := hp
  intro T hT X
  rcases vx_callV X hx (C := C) (bytes := bytes) (maxL := maxL) (ret := ret) ho hl hin hse hcode hy hK (by rw [hT]; exact hcB) hoB hclB hg (hsize.trans hml.symm) (argsL := As) (rest := rest) (fun sig h => hn.trans (hlen sig h)) hstack hW (by rw [hb]; exact hdg)
    (fun vm₁ hW₁ => ⟨hf.1, hf.2, hPc (T.setVm vm₁) hT hW₁⟩) with ⟨v, vm₁, ⟨U', l2, c2, s2⟩, hW₁, X', ⟨g', mk, t, L, e1, e2, hq, h1, hL, h2, h3⟩, st⟩ | ⟨q, vm₁, ⟨U', l2, c2, s2⟩, hW₁, X', ⟨g', mk, t, L, E, ce, e1, e2, hq, hce, hcv, hcl, h1, hL, h2, h3⟩, st⟩
  · dsimp only [Pt.U, Pt.locs, Pt.cells, Pt.slots] at X' e1 e2 h1 h2 h3 st
    subst h1; subst h2; subst h3
    exact Or.inl ⟨v, (T.setVm vm₁).calling g' mk (Value.ref b :: As).toArray, t, U', L, hT, X', hL, e1, e2, hq, st⟩
  · dsimp only [Pt.U, Pt.locs, Pt.cells, Pt.slots] at X' e1 e2 h1 h2 h3 st hcl
    subst h1; subst h2; subst h3
    exact Or.inr ⟨q, (T.setVm vm₁).calling g' mk (Value.ref b :: As).toArray, t, U', L, E, ce, hT, X', hL, e1, e2, hq, hce, hcv, vx_cls hW₁ hcl, st⟩
theorem vx_runS (S : CallFix p m c cc nL s args Ts own) (hM : vx_Met l y ws rm Pc Qc XC mc ms free) (cw : CallB R s args own index y bytes maxL ret ws rm mc ms n ∧ (Cond.static y).before args s = true) (hp : PreS s H Pc As)
    (hg : g.method = m) (hn : As.length = n) (hsize : g.locals.size = nL) (hstack : g.stack = As.reverse ++ rest) (hW : 2 * g.monitorRoom + (rest.map fun v => v.category).sum ≤ 8) (hdg : decode cc g.pc = .ok (.invokestatic index, 3)) (hf : cells + mc ≤ R.cells ∧ slots + ms ≤ R.slots) :
    vx_Run p l e R s m args below meth c H locs cells slots mc ms g rest (Qc As.toArray) XC free := by
  have hK : vx_Back l R p e below s args y 3 8 (PreOf R mc ms Pc) (PostOf Qc mc ms free) (vx_Post XC mc ms free) := vx_callBack cw.1 hM hp.1
  obtain ⟨⟨-, -, -, -, -, -, hcode, hini, hy, hlen, hl⟩, hstt⟩ := cw
  obtain ⟨hx, hb, hml, ho, -⟩ := S
  intro T hT X
  rcases vx_callS X hx (bytes := bytes) (maxL := maxL) (ret := ret) ho hl hstt hini hcode hy hK hg (hsize.trans hml.symm) (argsL := As) (rest := rest) (fun sig h => hn.trans (hlen sig h)) hstack hW (by rw [hb]; exact hdg)
    (fun vm₁ hW₁ => ⟨hf.1, hf.2, hp.2 (T.setVm vm₁) hT hW₁⟩) with ⟨v, vm₁, ⟨U', l2, c2, s2⟩, hW₁, X', ⟨g', mk, t, L, e1, e2, hq, h1, hL, h2, h3⟩, st⟩ | ⟨q, vm₁, ⟨U', l2, c2, s2⟩, hW₁, X', ⟨g', mk, t, L, E, ce, e1, e2, hq, hce, hcv, hcl, h1, hL, h2, h3⟩, st⟩
  · dsimp only [Pt.U, Pt.locs, Pt.cells, Pt.slots] at X' e1 e2 h1 h2 h3 st
    subst h1; subst h2; subst h3
    exact Or.inl ⟨v, (T.setVm vm₁).calling g' mk As.toArray, t, U', L, hT, X', hL, e1, e2, hq, st⟩
  · dsimp only [Pt.U, Pt.locs, Pt.cells, Pt.slots] at X' e1 e2 h1 h2 h3 st hcl
    subst h1; subst h2; subst h3
    exact Or.inr ⟨q, (T.setVm vm₁).calling g' mk As.toArray, t, U', L, E, ce, hT, X', hL, e1, e2, hq, hce, hcv, vx_cls hW₁ hcl, st⟩
end Runs
section Rows
variable {p : Program} {l : Launch} {e : Env} {R : Room} {s : State} {m : MethodId} {args : Array Value} {below : List Frame} {meth : Method} {c : Code} {H : Heap} {locs : List Loc} {cells slots : Nat} {Q : State → Prop}
variable {mc ms : Nat} {free : Addr → Prop} {A0 A1 : Nat → Prop} {H0 : Heap} {a : Array Value} {pc : Nat} {ls : Array Slot} {st0 rest : List Value}
theorem vx_keep {st₀ t T' : State} {L : List Loc} (h0 : st₀.heap = H) (e1 : T'.heap = t.heap) (hS : va_S A0 H0 H locs) (hA : ∀ q, q < H.size → A1 q → A0 q) (hf : ∀ q, free q → A0 q) (hL : ∀ q ∈ L, free q.base) (hF : va_F A1 st₀ t) :
    H.size ≤ T'.heap.size ∧ (∀ q : Nat, q < H.size → ¬ A1 q → T'.heap[q]? = H[q]?) ∧ va_S A0 H0 T'.heap (locs ++ L) := by
  obtain ⟨hz, hk⟩ := hF
  rw [h0] at hz hk
  exact ⟨by rw [e1]; exact hz, fun q h1 h2 => by rw [e1]; exact hk q h1 h2,
    ⟨Nat.le_trans hS.1 (by rw [e1]; exact hz), fun q h1 h2 => by rw [e1, hk q (Nat.lt_of_lt_of_le h1 hS.1) (fun z => h2 (hA q (Nat.lt_of_lt_of_le h1 hS.1) z))]; exact hS.2.1 q h1 h2, fun q hq => by
      rcases List.mem_append.mp hq with h | h
      · exact hS.2.2 q h
      · exact hf _ (hL q h)⟩⟩
theorem vx_calli {S SX : Type} {post : Int32 → S → Prop} {px : SX → Prop} {B : S → State → Prop} {BX : String → SX → State → Prop} {AX : Nat → Prop} (hr : vx_Run p l e R s m args below meth c H locs cells slots mc ms (F0 m pc ls st0) rest (va_Qi post B A1 a) (vx_X px BX AX) free) (hS : va_S A0 H0 H locs) (hA : ∀ q, q < H.size → A1 q → A0 q) (hf : ∀ q, free q → A0 q) (hAX : ∀ q, q < H.size → AX q → A0 q)
    (kx : ∀ (E : String) (ce : Cell) (q9 : Addr) (u : SX) (t : State) (H1 : Heap) (locs1 : List Loc), t.heap = H1 → s.vm.Alike t.vm → px u → BX E u t → H.size ≤ H1.size → (∀ q : Nat, q < H.size → ¬ AX q → H1[q]? = H[q]?) → va_S A0 H0 H1 locs1 → H1[q9]? = some ce → ce.vm = .none → s.vm.findClass E = some ce.cls → vx_W p l e R s m args below meth c H1 locs1 (cells + mc) (slots + ms) Q (F0 m pc ls rest) q9)
    (kk : ∀ (r : Int32) (u : S) (t : State) (H1 : Heap) (locs1 : List Loc), t.heap = H1 → s.vm.Alike t.vm → post r u → B u t → H.size ≤ H1.size → (∀ q : Nat, q < H.size → ¬ A1 q → H1[q]? = H[q]?) → va_S A0 H0 H1 locs1 → W p l e R s m args below meth c H1 locs1 (cells + mc) (slots + ms) Q (F0 m (pc + 3) ls (.int r :: rest))) : W p l e R s m args below meth c H locs cells slots Q (F0 m pc ls st0) := by
  intro T hT X
  rcases hr T hT X with ⟨v, st₀, t, T', L, h0, X', hL, e1, e2, ⟨⟨r, u, hv, hp, hb⟩, hF⟩, st⟩ | ⟨q, st₀, t, T', L, E, ce, h0, X', hL, e1, e2, ⟨u, hp, hb, hF⟩, hce, hcv, hcl, st⟩
  · cases hv
    obtain ⟨k1, k2, k3⟩ := vx_keep h0 e1 hS hA hf hL hF
    obtain ⟨t2, a1, b1⟩ := kk r u t T'.heap (locs ++ L) e1.symm (by rw [← e2]; exact X'.warmed.alike) hp hb k1 k2 k3 T' rfl X'
    exact ⟨t2, st t2 a1, b1⟩
  · obtain ⟨k1, k2, k3⟩ := vx_keep h0 e1 hS hAX hf hL hF
    obtain ⟨t2, a1, b1⟩ := kx E ce q u t T'.heap (locs ++ L) e1.symm (by rw [← e2]; exact X'.warmed.alike) hp hb k1 k2 k3 (by rw [e1]; exact hce) hcv hcl T' rfl X'
    exact ⟨t2, st.trans a1, b1⟩
theorem vx_calll {S SX : Type} {post : Int64 → S → Prop} {px : SX → Prop} {B : S → State → Prop} {BX : String → SX → State → Prop} {AX : Nat → Prop} (hr : vx_Run p l e R s m args below meth c H locs cells slots mc ms (F0 m pc ls st0) rest (va_Ql post B A1 a) (vx_X px BX AX) free) (hS : va_S A0 H0 H locs) (hA : ∀ q, q < H.size → A1 q → A0 q) (hf : ∀ q, free q → A0 q) (hAX : ∀ q, q < H.size → AX q → A0 q)
    (kx : ∀ (E : String) (ce : Cell) (q9 : Addr) (u : SX) (t : State) (H1 : Heap) (locs1 : List Loc), t.heap = H1 → s.vm.Alike t.vm → px u → BX E u t → H.size ≤ H1.size → (∀ q : Nat, q < H.size → ¬ AX q → H1[q]? = H[q]?) → va_S A0 H0 H1 locs1 → H1[q9]? = some ce → ce.vm = .none → s.vm.findClass E = some ce.cls → vx_W p l e R s m args below meth c H1 locs1 (cells + mc) (slots + ms) Q (F0 m pc ls rest) q9)
    (kk : ∀ (r : Int64) (u : S) (t : State) (H1 : Heap) (locs1 : List Loc), t.heap = H1 → s.vm.Alike t.vm → post r u → B u t → H.size ≤ H1.size → (∀ q : Nat, q < H.size → ¬ A1 q → H1[q]? = H[q]?) → va_S A0 H0 H1 locs1 → W p l e R s m args below meth c H1 locs1 (cells + mc) (slots + ms) Q (F0 m (pc + 3) ls (.long r :: rest))) : W p l e R s m args below meth c H locs cells slots Q (F0 m pc ls st0) := by
  intro T hT X
  rcases hr T hT X with ⟨v, st₀, t, T', L, h0, X', hL, e1, e2, ⟨⟨r, u, hv, hp, hb⟩, hF⟩, st⟩ | ⟨q, st₀, t, T', L, E, ce, h0, X', hL, e1, e2, ⟨u, hp, hb, hF⟩, hce, hcv, hcl, st⟩
  · cases hv
    obtain ⟨k1, k2, k3⟩ := vx_keep h0 e1 hS hA hf hL hF
    obtain ⟨t2, a1, b1⟩ := kk r u t T'.heap (locs ++ L) e1.symm (by rw [← e2]; exact X'.warmed.alike) hp hb k1 k2 k3 T' rfl X'
    exact ⟨t2, st t2 a1, b1⟩
  · obtain ⟨k1, k2, k3⟩ := vx_keep h0 e1 hS hAX hf hL hF
    obtain ⟨t2, a1, b1⟩ := kx E ce q u t T'.heap (locs ++ L) e1.symm (by rw [← e2]; exact X'.warmed.alike) hp hb k1 k2 k3 (by rw [e1]; exact hce) hcv hcl T' rfl X'
    exact ⟨t2, st.trans a1, b1⟩
theorem vx_callf {S SX : Type} {post : UInt32 → S → Prop} {px : SX → Prop} {B : S → State → Prop} {BX : String → SX → State → Prop} {AX : Nat → Prop} (hr : vx_Run p l e R s m args below meth c H locs cells slots mc ms (F0 m pc ls st0) rest (va_Qf post B A1 a) (vx_X px BX AX) free) (hS : va_S A0 H0 H locs) (hA : ∀ q, q < H.size → A1 q → A0 q) (hf : ∀ q, free q → A0 q) (hAX : ∀ q, q < H.size → AX q → A0 q)
    (kx : ∀ (E : String) (ce : Cell) (q9 : Addr) (u : SX) (t : State) (H1 : Heap) (locs1 : List Loc), t.heap = H1 → s.vm.Alike t.vm → px u → BX E u t → H.size ≤ H1.size → (∀ q : Nat, q < H.size → ¬ AX q → H1[q]? = H[q]?) → va_S A0 H0 H1 locs1 → H1[q9]? = some ce → ce.vm = .none → s.vm.findClass E = some ce.cls → vx_W p l e R s m args below meth c H1 locs1 (cells + mc) (slots + ms) Q (F0 m pc ls rest) q9)
    (kk : ∀ (r : UInt32) (u : S) (t : State) (H1 : Heap) (locs1 : List Loc), t.heap = H1 → s.vm.Alike t.vm → post r u → B u t → H.size ≤ H1.size → (∀ q : Nat, q < H.size → ¬ A1 q → H1[q]? = H[q]?) → va_S A0 H0 H1 locs1 → W p l e R s m args below meth c H1 locs1 (cells + mc) (slots + ms) Q (F0 m (pc + 3) ls (.float r :: rest))) : W p l e R s m args below meth c H locs cells slots Q (F0 m pc ls st0) := by
  intro T hT X
  rcases hr T hT X with ⟨v, st₀, t, T', L, h0, X', hL, e1, e2, ⟨⟨r, u, hv, hp, hb⟩, hF⟩, st⟩ | ⟨q, st₀, t, T', L, E, ce, h0, X', hL, e1, e2, ⟨u, hp, hb, hF⟩, hce, hcv, hcl, st⟩
  · cases hv
    obtain ⟨k1, k2, k3⟩ := vx_keep h0 e1 hS hA hf hL hF
    obtain ⟨t2, a1, b1⟩ := kk r u t T'.heap (locs ++ L) e1.symm (by rw [← e2]; exact X'.warmed.alike) hp hb k1 k2 k3 T' rfl X'
    exact ⟨t2, st t2 a1, b1⟩
  · obtain ⟨k1, k2, k3⟩ := vx_keep h0 e1 hS hAX hf hL hF
    obtain ⟨t2, a1, b1⟩ := kx E ce q u t T'.heap (locs ++ L) e1.symm (by rw [← e2]; exact X'.warmed.alike) hp hb k1 k2 k3 (by rw [e1]; exact hce) hcv hcl T' rfl X'
    exact ⟨t2, st.trans a1, b1⟩
theorem vx_calld {S SX : Type} {post : UInt64 → S → Prop} {px : SX → Prop} {B : S → State → Prop} {BX : String → SX → State → Prop} {AX : Nat → Prop} (hr : vx_Run p l e R s m args below meth c H locs cells slots mc ms (F0 m pc ls st0) rest (va_Qd post B A1 a) (vx_X px BX AX) free) (hS : va_S A0 H0 H locs) (hA : ∀ q, q < H.size → A1 q → A0 q) (hf : ∀ q, free q → A0 q) (hAX : ∀ q, q < H.size → AX q → A0 q)
    (kx : ∀ (E : String) (ce : Cell) (q9 : Addr) (u : SX) (t : State) (H1 : Heap) (locs1 : List Loc), t.heap = H1 → s.vm.Alike t.vm → px u → BX E u t → H.size ≤ H1.size → (∀ q : Nat, q < H.size → ¬ AX q → H1[q]? = H[q]?) → va_S A0 H0 H1 locs1 → H1[q9]? = some ce → ce.vm = .none → s.vm.findClass E = some ce.cls → vx_W p l e R s m args below meth c H1 locs1 (cells + mc) (slots + ms) Q (F0 m pc ls rest) q9)
    (kk : ∀ (r : UInt64) (u : S) (t : State) (H1 : Heap) (locs1 : List Loc), t.heap = H1 → s.vm.Alike t.vm → post r u → B u t → H.size ≤ H1.size → (∀ q : Nat, q < H.size → ¬ A1 q → H1[q]? = H[q]?) → va_S A0 H0 H1 locs1 → W p l e R s m args below meth c H1 locs1 (cells + mc) (slots + ms) Q (F0 m (pc + 3) ls (.double r :: rest))) : W p l e R s m args below meth c H locs cells slots Q (F0 m pc ls st0) := by
  intro T hT X
  rcases hr T hT X with ⟨v, st₀, t, T', L, h0, X', hL, e1, e2, ⟨⟨r, u, hv, hp, hb⟩, hF⟩, st⟩ | ⟨q, st₀, t, T', L, E, ce, h0, X', hL, e1, e2, ⟨u, hp, hb, hF⟩, hce, hcv, hcl, st⟩
  · cases hv
    obtain ⟨k1, k2, k3⟩ := vx_keep h0 e1 hS hA hf hL hF
    obtain ⟨t2, a1, b1⟩ := kk r u t T'.heap (locs ++ L) e1.symm (by rw [← e2]; exact X'.warmed.alike) hp hb k1 k2 k3 T' rfl X'
    exact ⟨t2, st t2 a1, b1⟩
  · obtain ⟨k1, k2, k3⟩ := vx_keep h0 e1 hS hAX hf hL hF
    obtain ⟨t2, a1, b1⟩ := kx E ce q u t T'.heap (locs ++ L) e1.symm (by rw [← e2]; exact X'.warmed.alike) hp hb k1 k2 k3 (by rw [e1]; exact hce) hcv hcl T' rfl X'
    exact ⟨t2, st.trans a1, b1⟩
theorem vx_callv {S SX : Type} {post : S → Prop} {px : SX → Prop} {B : S → State → Prop} {BX : String → SX → State → Prop} {AX : Nat → Prop} (hr : vx_Run p l e R s m args below meth c H locs cells slots mc ms (F0 m pc ls st0) rest (va_Qv post B A1 a) (vx_X px BX AX) free) (hS : va_S A0 H0 H locs) (hA : ∀ q, q < H.size → A1 q → A0 q) (hf : ∀ q, free q → A0 q) (hAX : ∀ q, q < H.size → AX q → A0 q)
    (kx : ∀ (E : String) (ce : Cell) (q9 : Addr) (u : SX) (t : State) (H1 : Heap) (locs1 : List Loc), t.heap = H1 → s.vm.Alike t.vm → px u → BX E u t → H.size ≤ H1.size → (∀ q : Nat, q < H.size → ¬ AX q → H1[q]? = H[q]?) → va_S A0 H0 H1 locs1 → H1[q9]? = some ce → ce.vm = .none → s.vm.findClass E = some ce.cls → vx_W p l e R s m args below meth c H1 locs1 (cells + mc) (slots + ms) Q (F0 m pc ls rest) q9)
    (kk : ∀ (u : S) (t : State) (H1 : Heap) (locs1 : List Loc), t.heap = H1 → s.vm.Alike t.vm → post u → B u t → H.size ≤ H1.size → (∀ q : Nat, q < H.size → ¬ A1 q → H1[q]? = H[q]?) → va_S A0 H0 H1 locs1 → W p l e R s m args below meth c H1 locs1 (cells + mc) (slots + ms) Q (F0 m (pc + 3) ls (rest))) : W p l e R s m args below meth c H locs cells slots Q (F0 m pc ls st0) := by
  intro T hT X
  rcases hr T hT X with ⟨v, st₀, t, T', L, h0, X', hL, e1, e2, ⟨⟨u, hv, hp, hb⟩, hF⟩, st⟩ | ⟨q, st₀, t, T', L, E, ce, h0, X', hL, e1, e2, ⟨u, hp, hb, hF⟩, hce, hcv, hcl, st⟩
  · cases hv
    obtain ⟨k1, k2, k3⟩ := vx_keep h0 e1 hS hA hf hL hF
    obtain ⟨t2, a1, b1⟩ := kk u t T'.heap (locs ++ L) e1.symm (by rw [← e2]; exact X'.warmed.alike) hp hb k1 k2 k3 T' rfl X'
    exact ⟨t2, st t2 a1, b1⟩
  · obtain ⟨k1, k2, k3⟩ := vx_keep h0 e1 hS hAX hf hL hF
    obtain ⟨t2, a1, b1⟩ := kx E ce q u t T'.heap (locs ++ L) e1.symm (by rw [← e2]; exact X'.warmed.alike) hp hb k1 k2 k3 (by rw [e1]; exact hce) hcv hcl T' rfl X'
    exact ⟨t2, st.trans a1, b1⟩
/-- caught by the row x of this method's table; the rows ahead don't take it -/
theorem vx_catch {own name : String} {E : String} {ce : Cell} {q : Addr} (hown : s.vm.findClass own = some m.cls) (pre : List ExceptionTableEntry) (x : ExceptionTableEntry) (suf : List ExceptionTableEntry) (hsplit : c.exceptionTable.toList = pre ++ x :: suf)
    (hpass : ∀ z ∈ pre, covers z pc = false ∨ (z.catchType ≠ 0 ∧ ∃ nm : String, (Cond.classLink own z.catchType nm).before args s = true ∧ va_Nc E nm s)) (hx : covers x pc = true) (h0 : x.catchType ≠ 0)
    (hlink : (Cond.classLink own x.catchType name).before args s = true) (hcast : (Cond.castable E name).before args s = true) (hcell : H[q]? = some ce) (hv : ce.vm = .none) (hcl : s.vm.findClass E = some ce.cls)
    (kk : W p l e R s m args below meth c H locs cells slots Q (F0 m x.handlerPc ls [.ref q])) : vx_W p l e R s m args below meth c H locs cells slots Q (F0 m pc ls rest) q := by
  intro T hT X
  have hpl : e.platform.magicAccessors = ({} : Platform).magicAccessors := by rw [X.admits.platform]
  obtain ⟨c3, c4, hc3, hc4, hasg⟩ := Cond.castable_spec hcast
  cases Option.some.inj (hc3.symm.trans hcl)
  obtain ⟨c5, hc5, hcl5⟩ := Cond.classLink_spec hown hlink e.platform hpl
  cases Option.some.inj (hc4.symm.trans hc5)
  obtain ⟨vm', X', st⟩ := X.thenCaughtThrough q (g := F0 m pc ls rest) rfl (Steps.refl _) (by rw [hT]; exact hcell) (by rw [hv]; rfl) (by obtain ⟨k9, h9, -⟩ := Vm.findClass_spec hcl; exact ⟨k9, h9⟩) pre x suf hsplit
    (fun z hz => by
      rcases hpass z hz with h | ⟨hz0, nm, hl1, hn1⟩
      · exact Or.inl h
      · obtain ⟨c6, hc6, hcl6⟩ := Cond.classLink_spec hown hl1 e.platform hpl
        obtain ⟨a8, b8, h1, h2, h3⟩ := hn1
        cases Option.some.inj (h1.symm.trans hcl)
        cases Option.some.inj (h2.symm.trans hc6)
        exact Or.inr ⟨hz0, _, hcl6, h3⟩) hx (Or.inr ⟨h0, c4, hcl5, hasg⟩)
  obtain ⟨t, a1, b1⟩ := kk (T.setVm vm') hT X'
  exact ⟨t, st.trans a1, b1⟩
end Rows
section Ends
variable {p : Program} {l : Launch} {e : Env} {R : Room} {s : State} {m : MethodId} {args : Array Value} {below : List Frame} {meth : Method} {c : Code} {H : Heap} {locs : List Loc} {cells slots : Nat} {Q : State → Prop}
variable {mc ms : Nat} {free : Addr → Prop} {A0 A1 : Nat → Prop} {H0 : Heap} {a : Array Value} {ls : Array Slot} {st0 rest : List Value}
variable {Qc : Array Value → State → Outcome → State → Prop} {XC : String → State → State → Prop}
/-- what a body that may throw owes at its end -/
def vx_MQ (below : List Frame) (Qc : Array Value → State → Outcome → State → Prop) (XC : String → State → State → Prop) (a : Array Value) (s : State) (mc ms : Nat) (free : Addr → Prop) : State → Prop := fun t =>
  ∃ o, t.status = .running ∧ Ended t below o ∧ vx_Q Qc XC mc ms free a s o t
theorem vx_ret {g : JFrame} {mc ms : Nat} (k : W p l e R s m args below meth c H locs cells slots (MQ below Qc args s mc ms free) g) : W p l e R s m args below meth c H locs cells slots (vx_MQ below Qc XC args s mc ms free) g := by
  intro T hT X
  obtain ⟨t, a1, o, b1, b2, b3, b4⟩ := k T hT X
  exact ⟨t, a1, o, b1, b2, Or.inl ⟨b3, b4⟩⟩
/-- not caught here: it goes on to the caller -/
theorem vx_widen {g : JFrame} {q : Addr} {k n : Nat} (h1 : cells ≤ k) (h2 : slots ≤ n) (kk : vx_W p l e R s m args below meth c H locs k n Q g q) : vx_W p l e R s m args below meth c H locs cells slots Q g q := fun T hT X => kk T hT (stand_widen X h1 h2)
theorem vx_out {pc : Nat} {E : String} {ce : Cell} {q : Addr} {mc ms : Nat} (hout : ∀ x ∈ c.exceptionTable.toList, covers x pc = false) (hlocks : meth.locks = false) (hcell : H[q]? = some ce) (hv : ce.vm = .none) (hcl : s.vm.findClass E = some ce.cls)
    (hx : ∀ t : State, t.heap = H → s.vm.Alike t.vm → XC E s t) (hf : ∀ z ∈ locs, free z.base) (hc : cells ≤ mc) (hs : slots ≤ ms) :
    vx_W p l e R s m args below meth c H locs cells slots (vx_MQ below Qc XC args s mc ms free) (F0 m pc ls rest) q := by
  intro T hT X
  obtain ⟨st1, hrun, hend, hW, hsm⟩ := X.leaveThrown q (g := F0 m pc ls rest) rfl rfl rfl hout hlocks
  have hcell9 : (T.setFrames (.throwing q :: below)).heap[q]? = some ce := by
    show T.heap[q]? = some ce
    rw [hT]; exact hcell
  exact ⟨_, st1, .threw q, hrun, hend, Or.inr ⟨q, rfl, E, ce, locs, hx _ hT hW.alike, hcell9, hv, hcl, hW, hsm.mono hc hs, hf⟩⟩
theorem vx_frame {U : State} {k n : Nat} (h : s.sameButNew ({ U with vm := s.vm } : State) locs k n) : s.heap.size ≤ U.heap.size ∧ ∀ q : Nat, q < s.heap.size → (∀ z ∈ locs, z.base ≠ q) → U.heap[q]? = s.heap[q]? := by
  obtain ⟨-, h2, -, -, -, h6⟩ := h
  refine ⟨h2, fun q hq hz => ?_⟩
  obtain ⟨c9, e1, e2, e3, e4⟩ := h6 q _ (Array.getElem?_eq_getElem hq)
  have hs : c9.slots = (s.heap[q]).slots := Array.ext_getElem? fun i => e4 i fun hm => hz _ hm rfl
  have h9 : c9 = s.heap[q] := by
    rw [hs] at e2
    exact e2
  have e5 : U.heap[q]? = some c9 := e1
  rw [e5, h9, Array.getElem?_eq_getElem hq]
/-- the words of a throw but the four that speak of the heap -/
def vx_no (w : Cond) : Bool := decide (w ≠ .isRef (.static Bundle.tN "UNASSIGNED_STACK" Bundle.steD)) && decide (w ≠ .isRef (.static Bundle.tN "SUPPRESSED_SENTINEL" Bundle.listD)) && decide (w ≠ .laysStatic Bundle.tN "UNASSIGNED_STACK" Bundle.steD) && decide (w ≠ .laysStatic Bundle.tN "SUPPRESSED_SENTINEL" Bundle.listD)
def vx_at0 (own : String) (ic : Nat) (X : String) (names : List String) : List Cond := (Bundle.ownAtoms0 own ic X names).filter vx_no
def vx_atS (own : String) (ic : Nat) (X : String) (names : List String) : List Cond := (Bundle.ownAtoms own ic X names).filter vx_no
/-- a word that the tables alone decide, or a good one -/
def vx_ot (w : Cond) : Bool := w.onTables || goodWord w
theorem vx_ot_at {args a' : Array Value} {s U : State} {w : Cond} (hW : s.WarmedH U.vm) (hvm : s.vm = U.vm) (hg : vx_ot w = true) (h : w.before args s = true) : w.before a' U = true := by
  simp only [vx_ot, Bool.or_eq_true] at hg
  rcases hg with hg | hg
  · exact va_tabs hg hvm h
  · exact word_at hW (good_of_word hg) h
/-- a list's words: the good ones out of the method's own list, the others by premises of their own -/
theorem vx_hat {args : Array Value} {s : State} {L B : List Cond} (h1 : ∀ w ∈ L.filter goodWord, w.before args s = true) (h2 : ∀ w ∈ L.filter (fun w => !goodWord w), w ∈ B) (h3 : ∀ w ∈ B, w.before args s = true) : ∀ w ∈ L, w.before args s = true := by
  intro w hw
  by_cases g : goodWord w = true
  · exact h1 w (List.mem_filter.mpr ⟨hw, g⟩)
  · refine h3 w (h2 w (List.mem_filter.mpr ⟨hw, ?_⟩))
    show (!goodWord w) = true
    cases hgw : goodWord w
    · rfl
    · exact absurd hgw g
theorem vx_c {args : Array Value} {s : State} {w : Cond} {B : List Cond} (h : w.before args s = true) (t : ∀ w ∈ B, w.before args s = true) : ∀ w' ∈ w :: B, w'.before args s = true := fun w' h' => (List.mem_cons.mp h').elim (fun e => by rw [e]; exact h) (t w')
theorem vx_n {args : Array Value} {s : State} : ∀ w ∈ ([] : List Cond), w.before args s = true := fun _ h => nomatch h
theorem vx_own {args : Array Value} {s : State} {L : List Cond} (h1 : ∀ w ∈ L.filter vx_no, w.before args s = true)
    (hU : (Cond.isRef (.static Bundle.tN "UNASSIGNED_STACK" Bundle.steD)).before args s = true) (hN : (Cond.isRef (.static Bundle.tN "SUPPRESSED_SENTINEL" Bundle.listD)).before args s = true)
    (lU : (Cond.laysStatic Bundle.tN "UNASSIGNED_STACK" Bundle.steD).before args s = true) (lN : (Cond.laysStatic Bundle.tN "SUPPRESSED_SENTINEL" Bundle.listD).before args s = true) : ∀ w ∈ L, w.before args s = true := by
  intro w hw
  by_cases e1 : w = .isRef (.static Bundle.tN "UNASSIGNED_STACK" Bundle.steD)
  · rw [e1]; exact hU
  · by_cases e2 : w = .isRef (.static Bundle.tN "SUPPRESSED_SENTINEL" Bundle.listD)
    · rw [e2]; exact hN
    · by_cases e3 : w = .laysStatic Bundle.tN "UNASSIGNED_STACK" Bundle.steD
      · rw [e3]; exact lU
      · by_cases e4 : w = .laysStatic Bundle.tN "SUPPRESSED_SENTINEL" Bundle.listD
        · rw [e4]; exact lN
        · exact h1 w (List.mem_filter.mpr ⟨hw, by unfold vx_no; rw [decide_eq_true e1, decide_eq_true e2, decide_eq_true e3, decide_eq_true e4]; rfl⟩)
/-- where a static field lies, its class's statics cell in H -/
def vx_L (C n d : String) (A : Nat → Prop) (U : State) (H : Heap) : Prop := ∃ (c : ClassId) (k : Class) (i : Nat) (f : Field) (a : Nat) (cell : Cell), U.vm.findClass C = some c ∧ U.fieldFound? C n d = some (c, k, i, f) ∧ f.isStatic = true ∧ k.statics = some a ∧ H[a]? = some cell ∧ cell.vm.isStatics = true ∧ cell.cls = c ∧ f.slot < cell.slots.size ∧ k.staticTypes[f.slot]? = some f.type ∧ ¬ A a
theorem vx_L.moved {C n d : String} {A : Nat → Prop} {u U : State} {H : Heap} (hvm : u.vm.Alike U.vm) (h : vx_L C n d A u H) : vx_L C n d A U H := by
  obtain ⟨c, k, i, f, a, cell, h1, h2, h3, h4, h5, h6, h7, h8, h9, h10⟩ := h
  obtain ⟨k', hi', he⟩ := State.fieldFound?_setVm hvm h2
  exact ⟨c, k', i, f, a, cell, by rw [hvm.findClass]; exact h1, hi', h3, by rw [he]; exact h4, h5, h6, h7, h8, by rw [he]; exact h9, h10⟩
theorem vx_L.kept {C n d : String} {A : Nat → Prop} {U : State} {H H1 : Heap} (h : vx_L C n d A U H) (hq : ∀ a : Nat, a < H.size → ¬ A a → H1[a]? = H[a]?) : vx_L C n d A U H1 := by
  obtain ⟨c, k, i, f, a, cell, h1, h2, h3, h4, h5, h6, h7, h8, h9, h10⟩ := h
  exact ⟨c, k, i, f, a, cell, h1, h2, h3, h4, by rw [hq a (Array.getElem?_eq_some_iff.mp h5).1 h10]; exact h5, h6, h7, h8, h9, h10⟩
theorem vx_L.narrow {C n d : String} {A B : Nat → Prop} {U : State} {H : Heap} (h : vx_L C n d A U H) (hAB : ∀ q, B q → A q) : vx_L C n d B U H := by
  obtain ⟨c, k, i, f, a, cell, h1, h2, h3, h4, h5, h6, h7, h8, h9, h10⟩ := h
  exact ⟨c, k, i, f, a, cell, h1, h2, h3, h4, h5, h6, h7, h8, h9, fun z => h10 (hAB _ z)⟩
theorem vx_L.word {C n d : String} {A : Nat → Prop} {s : State} {args : Array Value} (h : vx_L C n d A s s.heap) : (Cond.laysStatic C n d).before args s = true := by
  obtain ⟨c, k, i, f, a, cell, h1, h2, h3, h4, h5, h6, h7, h8, h9, -⟩ := h
  show (Cond.laysStatic C n d).holds args s none s [] = true
  exact Cond.laysStatic_of h1 h2 h3 h4 h5 h6 h7 h8 h9
/-- .. and what it holds: null or some reference -/
def vx_Zq (C n d : String) (A : Nat → Prop) (U : State) (H : Heap) : Prop := va_Zq C n d A U H ∧ vx_L C n d A U H
theorem vx_Zq.moved {C n d : String} {A : Nat → Prop} {u U : State} {H : Heap} (hvm : u.vm.Alike U.vm) (h : vx_Zq C n d A u H) : vx_Zq C n d A U H := ⟨va_Zq.moved hvm h.1, vx_L.moved hvm h.2⟩
theorem vx_Zq.kept {C n d : String} {A : Nat → Prop} {U : State} {H H1 : Heap} (h : vx_Zq C n d A U H) (hq : ∀ a : Nat, a < H.size → ¬ A a → H1[a]? = H[a]?) : vx_Zq C n d A U H1 := ⟨va_Zq.kept h.1 hq, vx_L.kept h.2 hq⟩
theorem vx_Zq.narrow {C n d : String} {A B : Nat → Prop} {U : State} {H : Heap} (h : vx_Zq C n d A U H) (hAB : ∀ q, B q → A q) : vx_Zq C n d B U H := ⟨va_Zq.narrow h.1 hAB, vx_L.narrow h.2 hAB⟩
theorem vx_Zqof {args : Array Value} {s : State} {C n d : String} {A : Nat → Prop} (hl : (Cond.laysStatic C n d).before args s = true) (hini : (Cond.initialized C).before args s = true) (h : (Cond.isRef (.static C n d)).before args s = true) (hA : ∀ a : Nat, a < s.heap.size → ¬ A a) : vx_Zq C n d A s s.heap := by
  refine ⟨va_Zqof hl hini h hA, ?_⟩
  obtain ⟨c, k, i, f, a, cell, h1, h2, h3, h4, h5, h6, h7, h8, h9⟩ := Cond.laysStatic_spec hl
  exact ⟨c, k, i, f, a, cell, h1, h2, h3, h4, h5, h6, h7, h8, h9, hA a (Array.getElem?_eq_some_iff.mp h5).1⟩
theorem vx_isRef {C n d : String} {v : Value} {A : Nat → Prop} {s : State} {args : Array Value} (h : va_Z C n d v A s s.heap) (hv : v.isRef = true) : (Cond.isRef (.static C n d)).before args s = true := by
  obtain ⟨cf, kf, fi, f, a, cell, h1, h2, h3, h4, h5, h6, h7, -⟩ := h
  have he : (Term.static C n d).eval args s none [] s = some v := by
    simp [Term.eval, State.fieldNamed?, h1, h2, h4, h5, h6, h7]
  simp only [Cond.before, Cond.holds, Cond.value, he]
  cases v <;> simp_all [Value.isRef]
theorem vx_isRefq {C n d : String} {A : Nat → Prop} {s : State} {args : Array Value} (h : va_Zq C n d A s s.heap) : (Cond.isRef (.static C n d)).before args s = true := by
  rcases h with h | ⟨t, h⟩
  · exact vx_isRef h rfl
  · exact vx_isRef h rfl
/-- the same frame, seen from here: as if the method were called anew in this heap -/
theorem vx_rebase {T : State} (X : Stand p l e R s m args below meth c T locs cells slots) {R' : Room} (hf : R'.frames ≤ R.frames) (hl : R'.locals ≤ R.locals) (hc : cells + R'.cells ≤ R.cells) (hs : slots + R'.slots ≤ R.slots) :
    Stand p l e R' ((T.setVm s.vm).setFrames (.invoking m args :: below)) m args below meth c T [] 0 0 := by
  have htop : (T.setVm s.vm).topJava?.isSome := X.here.top
  have hF : ((T.setVm s.vm).setFrames (.invoking m args :: below)).frames = .invoking m args :: below := State.frames_setFrames _ (State.cur_lt_of_top htop)
  obtain ⟨g₀, hg0⟩ := Option.isSome_iff_exists.mp htop
  obtain ⟨r, hr⟩ := State.topJava?_eq_some.mp hg0
  have hl9 : e.platform.stackLimits (T.setVm s.vm).me = e.platform.stackLimits s.me := X.limits
  have hb9 : (T.setVm s.vm).me.stackBytes = s.me.stackBytes := X.bytes
  refine ⟨X.admits, X.cas, X.clock, hF, ?_, X.hears, X.method, X.code, X.here, X.tail, X.warmed, ?_, ?_, ?_⟩
  · have h := X.room
    have hU : ((T.setVm s.vm).setFrames (.invoking m args :: below)).localsInUse = s.localsInUse := by
      rw [State.localsInUse_invoking hF (meth := meth) (c := c) X.method X.code, State.localsInUse_invoking X.frames X.method X.code]
    simp only [State.hasRoom, Bool.and_eq_true, decide_eq_true_eq] at h ⊢
    obtain ⟨⟨⟨⟨h1, h2, h3, h4, h5, h6⟩, h7⟩, h8⟩, h9⟩ := h
    rw [X.frames, List.length_cons] at h2 h3
    have q1 := X.heapSize
    have q2 := X.used
    simp only [hF, hU, List.length_cons, State.stackLimits_setFrames, State.stackBytes_setFrames, hl9, hb9]
    refine ⟨⟨⟨⟨by omega, by omega, by omega, by omega, by omega, h6⟩, ?_⟩, ?_⟩, X.book⟩
    · show T.heap.size + R'.cells ≤ e.platform.maxCells
      omega
    · show T.slotsUsed + R'.slots ≤ e.platform.maxSlots
      omega
  · rw [State.stackLimits_setFrames]; rfl
  · rw [State.stackBytes_setFrames]; rfl
  · refine ⟨?_, Nat.le_refl _, Nat.le_refl _, ?_, ?_, fun a c9 h9 => ⟨c9, h9, rfl, rfl, fun _ _ => rfl⟩⟩
    · obtain ⟨t, ht, -⟩ := State.frames_cons hr
      show T.setVm s.vm = { ((T.setVm s.vm).setFrames (.invoking m args :: below)).setFrames (T.setVm s.vm).frames with heap := T.heap, slotsUsed := T.slotsUsed }
      rw [State.setFrames_setFrames, State.setFrames_self ht]
      rfl
    · show T.slotsUsed = T.slotsUsed + ((T.heap.toList.drop T.heap.size).map (·.slots.size)).sum
      rw [List.drop_eq_nil_of_le (Nat.le_of_eq Array.length_toList)]
      rfl
    · show ((T.heap.toList.drop T.heap.size).map (·.slots.size)).sum ≤ 0
      rw [List.drop_eq_nil_of_le (Nat.le_of_eq Array.length_toList)]
      exact Nat.le_refl _
/-- 'throw new E()': new; dup; invokespecial; athrow -/
theorem vx_throw0 {cc : ByteArray} {pc : Nat} (hexec : p.tables.exec = Jvm.exec) (hb : c.code = cc) (hl : l.stackTraces = false) {own cls : String} {names : List String} {ik ic mc ms : Nat} {A : Nat → Prop}
    (hown : s.vm.findClass own = some m.cls) (hcls : Bundle.fit cls = true) (hnames : ∀ n ∈ names, Bundle.fit n = true)
    (hk : (Cond.classLink own ik cls).before args s = true) (hini : (Cond.initialized cls).before args s = true) (hat : ∀ w ∈ vx_at0 own ic cls names, w.before args s = true)
    (hgood : ∀ w ∈ Cond.classLink own ik cls :: Cond.initialized cls :: vx_at0 own ic cls names, vx_ot w = true)
    (hU : vx_Zq Bundle.tN "UNASSIGNED_STACK" Bundle.steD A s s.heap) (hN : vx_Zq Bundle.tN "SUPPRESSED_SENTINEL" Bundle.listD A s s.heap) (hS : va_S A s.heap H locs) (hsize : ls.size = c.maxLocals)
    (d0 : decode cc pc = .ok (.new ik, 3)) (d3 : decode cc (pc + 3) = .ok (.dup, 1)) (d4 : decode cc (pc + 4) = .ok (.invokespecial ic, 3)) (d7 : decode cc (pc + 7) = .ok (.athrow, 1))
    (hout : ∀ x ∈ c.exceptionTable.toList, covers x (pc + 7) = false)
    (hRframes : names.length + 3 < R.frames) (hRlocals : (rest.map fun v => v.category).sum + (13 * (names.length + 1) + 42) ≤ R.locals) (hRcells : cells + 1 ≤ R.cells) (hRslots : slots + 6 ≤ R.slots) (hlocks : meth.locks = false)
    (hx : ∀ t : State, s.vm.Alike t.vm → H.size ≤ t.heap.size → (∀ q : Nat, q < H.size → t.heap[q]? = H[q]?) → XC cls s t)
    (hf : ∀ z ∈ locs, free z.base) (hc : cells + 1 ≤ mc) (hs : slots + 6 ≤ ms) :
    W p l e R s m args below meth c H locs cells slots (vx_MQ below Qc XC args s mc ms free) (F0 m pc ls rest) := by
  intro T hT X
  have htr : e.platform.stackTraces = false := (show e.platform.stackTraces = l.stackTraces by rw [X.admits.platform]).trans hl
  have Y := vx_rebase X (R' := { frames := R.frames, locals := R.locals, cells := 1, slots := 6 }) (Nat.le_refl _) (Nat.le_refl _) hRcells hRslots
  obtain ⟨s', hA⟩ : ∃ z, z = (T.setVm s.vm).setFrames (.invoking m args :: below) := ⟨_, rfl⟩
  rw [← hA] at Y
  have hvm : s'.vm = s.vm := by rw [hA]; rfl
  have hhp : s'.heap = H := by rw [hA]; exact hT
  have hW0 : s.WarmedH s'.vm := by rw [hvm]; exact State.WarmedH.refl s
  have hat' : ∀ w ∈ vx_at0 own ic cls names, w.before args s' = true := fun w hw => vx_ot_at hW0 hvm.symm (hgood w (List.mem_cons_of_mem _ (List.mem_cons_of_mem _ hw))) (hat w hw)
  have hk' : (Cond.classLink own ik cls).before args s' = true := vx_ot_at hW0 hvm.symm (hgood _ List.mem_cons_self) hk
  have hini' : (Cond.initialized cls).before args s' = true := vx_ot_at hW0 hvm.symm (hgood _ (List.mem_cons_of_mem _ List.mem_cons_self)) hini
  have hU' : vx_Zq Bundle.tN "UNASSIGNED_STACK" Bundle.steD A s' s'.heap := by rw [hhp]; exact vx_Zq.moved hW0.alike (hU.kept hS.2.1)
  have hN' : vx_Zq Bundle.tN "SUPPRESSED_SENTINEL" Bundle.listD A s' s'.heap := by rw [hhp]; exact vx_Zq.moved hW0.alike (hN.kept hS.2.1)
  have h : ∀ w ∈ Bundle.ownAtoms0 own ic cls names, w.before args s' = true := vx_own hat' (vx_isRefq hU'.1) (vx_isRefq hN'.1) hU'.2.word hN'.2.word
  have hown' : s'.vm.findClass own = some m.cls := by rw [hvm]; exact hown
  have hins : (Cond.instantiable cls 6).before args s' = true := h _ (by simp [Bundle.ownAtoms0])
  obtain ⟨vm₁, cX, kX, hfX, hkX, -, -, X₁, st1⟩ := Y.newCold hexec (own := own) (C := cls) (index := ik) (n := 6) hown' hk' hins hini'
    (g := F0 m pc ls rest) rfl (by rw [hb]; exact d0) (Nat.le_refl _) (Nat.le_refl _)
  generalize hT1 : (T.setVm vm₁).pushCell { cls := cX, slots := kX.instanceTypes.map defaultValue, vm := .none } = T1 at X₁ st1
  have hcat : (Value.ref T.heap.size).category = 1 := rfl
  have hcellA : T1.heap[T.heap.size]? = some (freshCell cX kX) := by rw [← hT1]; exact State.heap_pushCell_size _ _
  have d3' : decode c.code (pc + 3) = .ok (.dup, 1) := by rw [hb]; exact d3
  obtain ⟨U, hsteps, hrun, hend, hW, hsame, ce, hce, hO⟩ := X₁.ctorThrow0 hexec htr (own := own) (cls := cls) (names := names) (ic := ic) hown' hcls hnames h (fun x hx => nomatch hx) hfX hkX hcellA (by rw [hhp, hT]; exact Nat.le_refl _)
    (g := { method := m, pc := pc + 4, locals := ls, stack := .ref T.heap.size :: .ref T.heap.size :: rest, locked := none }) rfl hsize rfl rfl (rest := rest) rfl
    (by rw [hb]; exact d4) (by rw [hb]; exact d7) hout hRframes (by simp only [List.map_cons, List.sum_cons, hcat]; omega) hlocks
  obtain ⟨f1, f2⟩ := vx_frame hsame
  rw [hhp] at f1 f2
  have hWs : s.WarmedH U.vm := State.WarmedH.trans hW0 hW
  have hcl : s.vm.findClass cls = some ce.cls := by
    have h9 := hO.cls
    rw [hvm] at h9
    exact h9
  have hall : s.sameButNew ({ U with vm := s.vm } : State) locs mc ms := by
    subst hA
    obtain ⟨e1, e2⟩ := hsame
    rw [State.setFrames_setFrames] at e1
    have h2 : (T.setVm s.vm).sameButNew ({ U with vm := s.vm } : State) [] (0 + 1) (0 + 6) := ⟨e1, e2⟩
    have h3 := X.same.trans h2
    rw [List.append_nil] at h3
    exact h3.mono hc hs
  refine ⟨U, ?_, .threw T.heap.size, hrun, hend, Or.inr ⟨T.heap.size, rfl, cls, ce, locs, hx U hWs.alike f1 (fun q hq => f2 q hq (fun z hz => nomatch hz)), hce, hO.vm, hcl, hWs, hall, hf⟩⟩
  refine st1 _ ?_
  show Steps p.tables e below (T1.setTop { method := m, pc := pc + 3, locals := ls, stack := .ref T.heap.size :: rest, locked := none }) _
  jvm_step X₁.here [X₁.here.top, hexec, d3', Value.category]
  exact hsteps
/-- 'throw new E("text")': new; dup; ldc; invokespecial; athrow -/
theorem vx_throwS {cc : ByteArray} {pc : Nat} (hexec : p.tables.exec = Jvm.exec) (hb : c.code = cc) (hl : l.stackTraces = false) {own cls text : String} {names : List String} {ik is ic mc ms sa : Nat} {A : Nat → Prop}
    (hown : s.vm.findClass own = some m.cls) (hcls : Bundle.fit cls = true) (hnames : ∀ n ∈ names, Bundle.fit n = true)
    (hk : (Cond.classLink own ik cls).before args s = true) (hini : (Cond.initialized cls).before args s = true) (hstr : vk_R own is text sa s) (hat : ∀ w ∈ vx_atS own ic cls names, w.before args s = true)
    (hgood : ∀ w ∈ Cond.classLink own ik cls :: Cond.initialized cls :: vx_atS own ic cls names, vx_ot w = true)
    (hU : vx_Zq Bundle.tN "UNASSIGNED_STACK" Bundle.steD A s s.heap) (hN : vx_Zq Bundle.tN "SUPPRESSED_SENTINEL" Bundle.listD A s s.heap) (hS : va_S A s.heap H locs) (hsize : ls.size = c.maxLocals)
    (d0 : decode cc pc = .ok (.new ik, 3)) (d3 : decode cc (pc + 3) = .ok (.dup, 1)) (d4 : decode cc (pc + 4) = .ok (.ldc is, 2)) (d6 : decode cc (pc + 6) = .ok (.invokespecial ic, 3)) (d9 : decode cc (pc + 9) = .ok (.athrow, 1))
    (hout : ∀ x ∈ c.exceptionTable.toList, covers x (pc + 9) = false)
    (hRframes : names.length + 3 < R.frames) (hRlocals : (rest.map fun v => v.category).sum + (13 * (names.length + 1) + 43) ≤ R.locals) (hRcells : cells + 1 ≤ R.cells) (hRslots : slots + 6 ≤ R.slots) (hlocks : meth.locks = false)
    (hx : ∀ t : State, s.vm.Alike t.vm → H.size ≤ t.heap.size → (∀ q : Nat, q < H.size → t.heap[q]? = H[q]?) → XC cls s t)
    (hf : ∀ z ∈ locs, free z.base) (hc : cells + 1 ≤ mc) (hs : slots + 6 ≤ ms) :
    W p l e R s m args below meth c H locs cells slots (vx_MQ below Qc XC args s mc ms free) (F0 m pc ls rest) := by
  intro T hT X
  have htr : e.platform.stackTraces = false := (show e.platform.stackTraces = l.stackTraces by rw [X.admits.platform]).trans hl
  have Y := vx_rebase X (R' := { frames := R.frames, locals := R.locals, cells := 1, slots := 6 }) (Nat.le_refl _) (Nat.le_refl _) hRcells hRslots
  obtain ⟨s', hA⟩ : ∃ z, z = (T.setVm s.vm).setFrames (.invoking m args :: below) := ⟨_, rfl⟩
  rw [← hA] at Y
  have hvm : s'.vm = s.vm := by rw [hA]; rfl
  have hhp : s'.heap = H := by rw [hA]; exact hT
  have hW0 : s.WarmedH s'.vm := by rw [hvm]; exact State.WarmedH.refl s
  have hat' : ∀ w ∈ vx_atS own ic cls names, w.before args s' = true := fun w hw => vx_ot_at hW0 hvm.symm (hgood w (List.mem_cons_of_mem _ (List.mem_cons_of_mem _ hw))) (hat w hw)
  have hk' : (Cond.classLink own ik cls).before args s' = true := vx_ot_at hW0 hvm.symm (hgood _ List.mem_cons_self) hk
  have hini' : (Cond.initialized cls).before args s' = true := vx_ot_at hW0 hvm.symm (hgood _ (List.mem_cons_of_mem _ List.mem_cons_self)) hini
  have hU' : vx_Zq Bundle.tN "UNASSIGNED_STACK" Bundle.steD A s' s'.heap := by rw [hhp]; exact vx_Zq.moved hW0.alike (hU.kept hS.2.1)
  have hN' : vx_Zq Bundle.tN "SUPPRESSED_SENTINEL" Bundle.listD A s' s'.heap := by rw [hhp]; exact vx_Zq.moved hW0.alike (hN.kept hS.2.1)
  have h : ∀ w ∈ Bundle.ownAtoms own ic cls names, w.before args s' = true := vx_own hat' (vx_isRefq hU'.1) (vx_isRefq hN'.1) hU'.2.word hN'.2.word
  have hown' : s'.vm.findClass own = some m.cls := by rw [hvm]; exact hown
  have hins : (Cond.instantiable cls 6).before args s' = true := h _ (by simp [Bundle.ownAtoms])
  obtain ⟨vm₁, cX, kX, hfX, hkX, -, -, X₁, st1⟩ := Y.newCold hexec (own := own) (C := cls) (index := ik) (n := 6) hown' hk' hins hini'
    (g := F0 m pc ls rest) rfl (by rw [hb]; exact d0) (Nat.le_refl _) (Nat.le_refl _)
  generalize hT1 : (T.setVm vm₁).pushCell { cls := cX, slots := kX.instanceTypes.map defaultValue, vm := .none } = T1 at X₁ st1
  have hcat : (Value.ref T.heap.size).category = 1 := rfl
  have hcellA : T1.heap[T.heap.size]? = some (freshCell cX kX) := by rw [← hT1]; exact State.heap_pushCell_size _ _
  have d3' : decode c.code (pc + 3) = .ok (.dup, 1) := by rw [hb]; exact d3
  have d4' : decode c.code (pc + 4) = .ok (.ldc is, 2) := by rw [hb]; exact d4
  have hstr' : vk_R own is text sa s' := vk_R.warm hW0 hstr
  obtain ⟨U, hsteps, hrun, hend, hW, hsame, ce, hce, hO⟩ := X₁.ctorThrowS hexec htr (own := own) (cls := cls) (names := names) (ic := ic) hown' hcls hnames h (fun x hx => nomatch hx) hfX hkX hcellA (by rw [hhp, hT]; exact Nat.le_refl _) (msg := .ref sa) rfl
    (g := { method := m, pc := pc + 6, locals := ls, stack := .ref sa :: .ref T.heap.size :: .ref T.heap.size :: rest, locked := none }) rfl hsize rfl rfl (rest := rest) rfl
    (by rw [hb]; exact d6) (by rw [hb]; exact d9) hout hRframes (by simp only [List.map_cons, List.sum_cons, hcat]; omega) hlocks
  obtain ⟨f1, f2⟩ := vx_frame hsame
  rw [hhp] at f1 f2
  have hWs : s.WarmedH U.vm := State.WarmedH.trans hW0 hW
  have hcl : s.vm.findClass cls = some ce.cls := by
    have h9 := hO.cls
    rw [hvm] at h9
    exact h9
  have hall : s.sameButNew ({ U with vm := s.vm } : State) locs mc ms := by
    subst hA
    obtain ⟨e1, e2⟩ := hsame
    rw [State.setFrames_setFrames] at e1
    have h2 : (T.setVm s.vm).sameButNew ({ U with vm := s.vm } : State) [] (0 + 1) (0 + 6) := ⟨e1, e2⟩
    have h3 := X.same.trans h2
    rw [List.append_nil] at h3
    exact h3.mono hc hs
  refine ⟨U, ?_, .threw T.heap.size, hrun, hend, Or.inr ⟨T.heap.size, rfl, cls, ce, locs, hx U hWs.alike f1 (fun q hq => f2 q hq (fun z hz => nomatch hz)), hce, hO.vm, hcl, hWs, hall, hf⟩⟩
  refine st1 _ ?_
  show Steps p.tables e below (T1.setTop { method := m, pc := pc + 3, locals := ls, stack := .ref T.heap.size :: rest, locked := none }) _
  jvm_step X₁.here [X₁.here.top, hexec, d3', Value.category]
  exact X₁.ldcString hexec (own := own) (text := text) (index := is) (a := sa) hown' hstr'.1 hstr'.2
    (g := { method := m, pc := pc + 4, locals := ls, stack := .ref T.heap.size :: .ref T.heap.size :: rest, locked := none }) rfl d4' _ hsteps
/-- 'throw new E("text")', the text by a wide index -/
theorem vx_throwSW {cc : ByteArray} {pc : Nat} (hexec : p.tables.exec = Jvm.exec) (hb : c.code = cc) (hl : l.stackTraces = false) {own cls text : String} {names : List String} {ik is ic mc ms sa : Nat} {A : Nat → Prop}
    (hown : s.vm.findClass own = some m.cls) (hcls : Bundle.fit cls = true) (hnames : ∀ n ∈ names, Bundle.fit n = true)
    (hk : (Cond.classLink own ik cls).before args s = true) (hini : (Cond.initialized cls).before args s = true) (hstr : vk_R own is text sa s) (hat : ∀ w ∈ vx_atS own ic cls names, w.before args s = true)
    (hgood : ∀ w ∈ Cond.classLink own ik cls :: Cond.initialized cls :: vx_atS own ic cls names, vx_ot w = true)
    (hU : vx_Zq Bundle.tN "UNASSIGNED_STACK" Bundle.steD A s s.heap) (hN : vx_Zq Bundle.tN "SUPPRESSED_SENTINEL" Bundle.listD A s s.heap) (hS : va_S A s.heap H locs) (hsize : ls.size = c.maxLocals)
    (d0 : decode cc pc = .ok (.new ik, 3)) (d3 : decode cc (pc + 3) = .ok (.dup, 1)) (d4 : decode cc (pc + 4) = .ok (.ldc_w is, 3)) (d7 : decode cc (pc + 7) = .ok (.invokespecial ic, 3)) (d10 : decode cc (pc + 10) = .ok (.athrow, 1))
    (hout : ∀ x ∈ c.exceptionTable.toList, covers x (pc + 10) = false)
    (hRframes : names.length + 3 < R.frames) (hRlocals : (rest.map fun v => v.category).sum + (13 * (names.length + 1) + 43) ≤ R.locals) (hRcells : cells + 1 ≤ R.cells) (hRslots : slots + 6 ≤ R.slots) (hlocks : meth.locks = false)
    (hx : ∀ t : State, s.vm.Alike t.vm → H.size ≤ t.heap.size → (∀ q : Nat, q < H.size → t.heap[q]? = H[q]?) → XC cls s t)
    (hf : ∀ z ∈ locs, free z.base) (hc : cells + 1 ≤ mc) (hs : slots + 6 ≤ ms) :
    W p l e R s m args below meth c H locs cells slots (vx_MQ below Qc XC args s mc ms free) (F0 m pc ls rest) := by
  intro T hT X
  have htr : e.platform.stackTraces = false := (show e.platform.stackTraces = l.stackTraces by rw [X.admits.platform]).trans hl
  have Y := vx_rebase X (R' := { frames := R.frames, locals := R.locals, cells := 1, slots := 6 }) (Nat.le_refl _) (Nat.le_refl _) hRcells hRslots
  obtain ⟨s', hA⟩ : ∃ z, z = (T.setVm s.vm).setFrames (.invoking m args :: below) := ⟨_, rfl⟩
  rw [← hA] at Y
  have hvm : s'.vm = s.vm := by rw [hA]; rfl
  have hhp : s'.heap = H := by rw [hA]; exact hT
  have hW0 : s.WarmedH s'.vm := by rw [hvm]; exact State.WarmedH.refl s
  have hat' : ∀ w ∈ vx_atS own ic cls names, w.before args s' = true := fun w hw => vx_ot_at hW0 hvm.symm (hgood w (List.mem_cons_of_mem _ (List.mem_cons_of_mem _ hw))) (hat w hw)
  have hk' : (Cond.classLink own ik cls).before args s' = true := vx_ot_at hW0 hvm.symm (hgood _ List.mem_cons_self) hk
  have hini' : (Cond.initialized cls).before args s' = true := vx_ot_at hW0 hvm.symm (hgood _ (List.mem_cons_of_mem _ List.mem_cons_self)) hini
  have hU' : vx_Zq Bundle.tN "UNASSIGNED_STACK" Bundle.steD A s' s'.heap := by rw [hhp]; exact vx_Zq.moved hW0.alike (hU.kept hS.2.1)
  have hN' : vx_Zq Bundle.tN "SUPPRESSED_SENTINEL" Bundle.listD A s' s'.heap := by rw [hhp]; exact vx_Zq.moved hW0.alike (hN.kept hS.2.1)
  have h : ∀ w ∈ Bundle.ownAtoms own ic cls names, w.before args s' = true := vx_own hat' (vx_isRefq hU'.1) (vx_isRefq hN'.1) hU'.2.word hN'.2.word
  have hown' : s'.vm.findClass own = some m.cls := by rw [hvm]; exact hown
  have hins : (Cond.instantiable cls 6).before args s' = true := h _ (by simp [Bundle.ownAtoms])
  obtain ⟨vm₁, cX, kX, hfX, hkX, -, -, X₁, st1⟩ := Y.newCold hexec (own := own) (C := cls) (index := ik) (n := 6) hown' hk' hins hini'
    (g := F0 m pc ls rest) rfl (by rw [hb]; exact d0) (Nat.le_refl _) (Nat.le_refl _)
  generalize hT1 : (T.setVm vm₁).pushCell { cls := cX, slots := kX.instanceTypes.map defaultValue, vm := .none } = T1 at X₁ st1
  have hcat : (Value.ref T.heap.size).category = 1 := rfl
  have hcellA : T1.heap[T.heap.size]? = some (freshCell cX kX) := by rw [← hT1]; exact State.heap_pushCell_size _ _
  have d3' : decode c.code (pc + 3) = .ok (.dup, 1) := by rw [hb]; exact d3
  have d4' : decode c.code (pc + 4) = .ok (.ldc_w is, 3) := by rw [hb]; exact d4
  have hstr' : vk_R own is text sa s' := vk_R.warm hW0 hstr
  obtain ⟨U, hsteps, hrun, hend, hW, hsame, ce, hce, hO⟩ := X₁.ctorThrowS hexec htr (own := own) (cls := cls) (names := names) (ic := ic) hown' hcls hnames h (fun x hx => nomatch hx) hfX hkX hcellA (by rw [hhp, hT]; exact Nat.le_refl _) (msg := .ref sa) rfl
    (g := { method := m, pc := pc + 7, locals := ls, stack := .ref sa :: .ref T.heap.size :: .ref T.heap.size :: rest, locked := none }) rfl hsize rfl rfl (rest := rest) rfl
    (by rw [hb]; exact d7) (by rw [hb]; exact d10) hout hRframes (by simp only [List.map_cons, List.sum_cons, hcat]; omega) hlocks
  obtain ⟨f1, f2⟩ := vx_frame hsame
  rw [hhp] at f1 f2
  have hWs : s.WarmedH U.vm := State.WarmedH.trans hW0 hW
  have hcl : s.vm.findClass cls = some ce.cls := by
    have h9 := hO.cls
    rw [hvm] at h9
    exact h9
  have hall : s.sameButNew ({ U with vm := s.vm } : State) locs mc ms := by
    subst hA
    obtain ⟨e1, e2⟩ := hsame
    rw [State.setFrames_setFrames] at e1
    have h2 : (T.setVm s.vm).sameButNew ({ U with vm := s.vm } : State) [] (0 + 1) (0 + 6) := ⟨e1, e2⟩
    have h3 := X.same.trans h2
    rw [List.append_nil] at h3
    exact h3.mono hc hs
  refine ⟨U, ?_, .threw T.heap.size, hrun, hend, Or.inr ⟨T.heap.size, rfl, cls, ce, locs, hx U hWs.alike f1 (fun q hq => f2 q hq (fun z hz => nomatch hz)), hce, hO.vm, hcl, hWs, hall, hf⟩⟩
  refine st1 _ ?_
  show Steps p.tables e below (T1.setTop { method := m, pc := pc + 3, locals := ls, stack := .ref T.heap.size :: rest, locked := none }) _
  jvm_step X₁.here [X₁.here.top, hexec, d3', Value.category]
  exact X₁.ldcStringW hexec (own := own) (text := text) (index := is) (a := sa) hown' hstr'.1 hstr'.2
    (g := { method := m, pc := pc + 4, locals := ls, stack := .ref T.heap.size :: .ref T.heap.size :: rest, locked := none }) rfl d4' _ hsteps
end Ends
section Bodies
variable {l : Launch}
theorem vx_ofW {y : MethodName} {ws ws' : List Cond} {rm : Room} {Pc : Array Value → State → Prop} {Qc : Array Value → State → Outcome → State → Prop} {XC : String → State → State → Prop} {mc ms : Nat} {free : Addr → Prop} {cc : ByteArray} {maxL : Nat} {ret : Option FieldType}
    (hy : plainName y.cls = true) (hw : ws = Cond.code y cc maxL ret :: ws')
    (body : ∀ p e s m args below meth c s₁, BodyLoose p l y (headSpec ws rm) cc maxL ret e s m args below meth c s₁ → c.maxLocals = maxL → (∀ x ∈ c.exceptionTable.toList, False) → Pc args s →
      W p l e (headSpec ws rm).room s m args below meth c s.heap [] 0 0 (vx_MQ below Qc XC args s mc ms free) (entryFrame m args maxL)) : vx_Met l y ws rm Pc Qc XC mc ms free := by
  refine MetFree.of_bodyS (code := cc) (maxLocals := maxL) (ret := ret) hy ?_ ?_
  · intro args s m h hn
    obtain ⟨meth, c, h1, h2, h3, h4, h5, h6, -, -⟩ := Cond.code_spec hn (atoms_spec (ws := ws) h _ (by rw [hw]; exact List.mem_cons_self))
    exact ⟨meth, c, h1, h2, h3, h4, h5, h6⟩
  · intro p e s m args below meth c s₁ B hml hP _
    have hh0 : s₁.heap = s.heap := by rw [B.state]; rfl
    have ht : ∀ x ∈ c.exceptionTable.toList, False := by
      obtain ⟨meth9, c9, h1, h2, -, -, -, -, h7, -⟩ := Cond.code_spec B.named (atoms_spec (ws := ws) B.pre _ (by rw [hw]; exact List.mem_cons_self))
      cases Option.some.inj (h1.symm.trans B.method)
      cases Option.some.inj (h2.symm.trans (Stand.of_body B).code)
      intro x hx
      rw [Array.isEmpty_iff.mp h7] at hx
      cases hx
    obtain ⟨t, a1, o, b1, b2, b3⟩ := body p e s m args below meth c s₁ B hml ht hP s₁ hh0 (Stand.of_body B)
    exact ⟨t, o, a1, b1, b2, b3⟩
/-- the table of a body with handlers -/
theorem vx_table {p : Program} {x y : MethodName} {S : Spec} {cc bytes : ByteArray} {maxL maxL' : Nat} {ret ret' : Option FieldType} {e : Env} {s s₁ : State} {m : MethodId} {args : Array Value} {below : List Frame} {meth : Method} {c : Code} {hh : List (Nat × Nat × Nat × Nat)}
    (B : BodyLoose p l y S cc maxL ret e s m args below meth c s₁) (h : (Cond.codeWith y bytes maxL' ret' hh).before args s = true) : c.exceptionTable.toList = tableOf hh := by
  obtain ⟨m9, meth9, c9, hn9, h1, h2, -, -, h6, -⟩ := Cond.codeWith_spec h
  cases Option.some.inj (hn9.symm.trans B.named)
  cases Option.some.inj (h1.symm.trans B.method)
  cases Option.some.inj (h2.symm.trans (Stand.of_body B).code)
  rw [← h6, table_eq]
end Bodies
end VXA
/-! ===== END ===== -/
/-! ===== BEGIN a static call of a method with an exception table ===== -/
section VXS
variable {p : Program} {l : Launch} {e : Env} {R : Room} {s : State} {m : MethodId} {args : Array Value} {below : List Frame} {meth : Method} {c : Code} {T : State} {H : Heap} {locs : List Loc} {cells slots : Nat}
abbrev vx_CSW (R : Room) (s : State) (args : Array Value) (own : String) (index : Nat) (y : MethodName) (bytes : ByteArray) (maxL : Nat) (ret : Option FieldType) (hh : List (Nat × Nat × Nat × Nat)) (ws : List Cond) (rm : Room) (mc ms n : Nat) : Prop :=
  (rm.cells = mc ∧ rm.slots = ms ∧ rm.frames + 1 ≤ R.frames ∧ 8 + (maxL + 11) + rm.locals ≤ R.locals ∧ (∀ w ∈ ws, ∀ (a' : Array Value) (U : State), s.WarmedH U.vm → w.before a' U = true) ∧ Cond.codeWith y bytes maxL ret hh ∈ ws) ∧
  (Cond.codeWith y bytes maxL ret hh).before args s = true ∧ (Cond.initialized y.cls).before args s = true ∧ (y.cls ≠ "java/lang/invoke/MethodHandle" ∧ y.cls ≠ "java/lang/invoke/VarHandle") ∧
  (∀ sig, parseMethodDescriptor y.desc = some sig → n = sig.parameters.length) ∧ (Cond.methodLink own index y).before args s = true ∧ (Cond.static y).before args s = true
theorem vx_cwSW {own : String} {index maxL mc ms : Nat} {y : MethodName} {bytes : ByteArray} {ret : Option FieldType} {hh : List (Nat × Nat × Nat × Nat)} {Ts ws ws' : List Cond} {rm : Room} (n : Nat) (ht : ∀ w ∈ Ts, w.before args s = true) (hT : GoodIn Ts (va_wsS own index y ws)) (hw : ws = Cond.codeWith y bytes maxL ret hh :: ws') (hrc : rm.cells = mc) (hrs : rm.slots = ms)
    (hd : y.cls ≠ "java/lang/invoke/MethodHandle" ∧ y.cls ≠ "java/lang/invoke/VarHandle" ∧ (parseMethodDescriptor y.desc).map (fun d => d.parameters.length) = some n) (hR : rm.frames + 1 ≤ R.frames ∧ 8 + (maxL + 11) + rm.locals ≤ R.locals) :
    vx_CSW R s args own index y bytes maxL ret hh ws rm mc ms n := by
  have ok : ∀ w ∈ va_wsS own index y ws, w.before args s = true := fun w h => ht w (hT w h).1
  have hG : GoodIn Ts ws := fun w h => hT w (by unfold va_wsS; exact List.mem_append_right _ h)
  have hc : Cond.codeWith y bytes maxL ret hh ∈ ws := by rw [hw]; exact List.mem_cons_self
  refine ⟨⟨hrc, hrs, hR.1, hR.2, pay_in ht hG, hc⟩, ht _ (hG _ hc).1, ok _ (by simp [va_wsS]), ⟨hd.1, hd.2.1⟩, fun sig h => ?_, ok _ (by simp [va_wsS]), ok _ (by simp [va_wsS])⟩
  have h2 := hd.2.2
  rw [h] at h2
  exact (Option.some.inj h2).symm
theorem vx_callSW (X : Stand p l e R s m args below meth c T locs cells slots) (hexec : p.tables.exec = Jvm.exec) {own : String} {index : Nat} {y : MethodName} {bytes : ByteArray} {maxL : Nat} {ret : Option FieldType} {hh : List (Nat × Nat × Nat × Nat)}
    (hown : s.vm.findClass own = some m.cls) (hlink : (Cond.methodLink own index y).before args s = true) (hstat : (Cond.static y).before args s = true) (hinit : (Cond.initialized y.cls).before args s = true)
    (hcode : (Cond.codeWith y bytes maxL ret hh).before args s = true) (hy : y.cls ≠ "java/lang/invoke/MethodHandle" ∧ y.cls ≠ "java/lang/invoke/VarHandle")
    {W9 : Nat} {Pre : Pt → Array Value → Prop} {Post : Pt → Array Value → Option Value → Pt → Prop} (hK : Back l R p e below s args y 3 W9 Pre Post)
    {g : JFrame} (hg : g.method = m) (hsize : g.locals.size = c.maxLocals) {argsL rest : List Value} (hlen : ∀ sig, parseMethodDescriptor y.desc = some sig → argsL.length = sig.parameters.length)
    (hstack : g.stack = argsL.reverse ++ rest) (hW : 2 * g.monitorRoom + (rest.map fun v => v.category).sum ≤ W9) (hdg : decode c.code g.pc = .ok (.invokestatic index, 3))
    (hpre : ∀ vm₁, s.WarmedH vm₁ → Pre ⟨T.setVm vm₁, locs, cells, slots⟩ argsL.toArray) :
    ∃ (v : Option Value) (vm₁ : Vm) (B : Pt), s.WarmedH vm₁ ∧ Stand p l e R s m args below meth c B.U B.locs B.cells B.slots ∧ Post ⟨T.setVm vm₁, locs, cells, slots⟩ argsL.toArray v B ∧
      ∀ target, Steps p.tables e below (B.U.setTop { g with pc := g.pc + 3, stack := v.toList ++ rest }) target → Steps p.tables e below (T.setTop g) target := by
  obtain ⟨mk, methM, cM, hnamed, hmethM, -, -, -, -, -, -, hsigM⟩ := Cond.codeWith_spec hcode
  have hstatic : methM.isStatic = true := Cond.static_spec hnamed hmethM hstat
  obtain ⟨kP, hkP, -⟩ := className_of_methodNamed hnamed
  have hinitP : kP.init = .initialized := Cond.initialized_spec (findClass_of_methodNamed hnamed) hkP hinit
  obtain ⟨vm₁, X₁, hstep₁⟩ := X.invokestatic hexec hown hlink hnamed hmethM hstatic hkP hinitP hy (g := g) hg (argsL := argsL) (rest := rest) (hlen _ hsigM) hstack hdg
  obtain ⟨v, B, X', hpost, hsteps⟩ := hK m meth c ⟨T.setVm vm₁, locs, cells, slots⟩ { g with stack := rest } (.invokestatic index) mk argsL.toArray X₁ hg hsize hdg hW (X₁.named hnamed) (hpre vm₁ X₁.warmed)
  exact ⟨v, vm₁, B, X₁.warmed, X', hpost, fun target h => hstep₁ _ fun acts => by rw [doInvoke_state]; exact hsteps.trans h⟩
theorem vx_runSW {y : MethodName} {bytes cc : ByteArray} {maxL nL mc ms n index : Nat} {ret : Option FieldType} {hh : List (Nat × Nat × Nat × Nat)} {ws : List Cond} {rm : Room} {Pc : Array Value → State → Prop} {Qc : Array Value → State → Outcome → State → Prop} {free : Addr → Prop} {Ts : List Cond} {own : String} {As rest : List Value} {g : JFrame}
    (S : CallFix p m c cc nL s args Ts own) (hM : Met l y ws rm Pc Qc mc ms free) (cw : vx_CSW R s args own index y bytes maxL ret hh ws rm mc ms n) (hp : PreS s H Pc As)
    (hg : g.method = m) (hn : As.length = n) (hsize : g.locals.size = nL) (hstack : g.stack = As.reverse ++ rest) (hW : 2 * g.monitorRoom + (rest.map fun v => v.category).sum ≤ 8) (hdg : decode cc g.pc = .ok (.invokestatic index, 3)) (hf : cells + mc ≤ R.cells ∧ slots + ms ≤ R.slots) :
    va_Run p l e R s m args below meth c H locs cells slots mc ms g rest (Qc As.toArray) (free) := by
  obtain ⟨⟨hrc, hrs, hfr, hlo, hws, hcw⟩, hcode, hini, hy, hlen, hl, hstt⟩ := cw
  have hK : Back l R p e below s args y 3 8 (PreOf R mc ms Pc) (PostOf Qc mc ms free) := va_backW (hh := hh) (bytes := bytes) (maxL := maxL) (ret := ret) hM hp.1 hrc hrs hfr hlo hws hcw (fun a' U hW => word_at hW (Or.inl (by first | rfl | simp [Cond.onTables, Cond.keeps, Cond.steady])) hini)
  obtain ⟨hx, hb, hml, ho, -⟩ := S
  intro T hT X
  obtain ⟨v, vm₁, ⟨U', l2, c2, s2⟩, hW₁, X', ⟨g', mk, t, L, e1, e2, hq, h1, hL, h2, h3⟩, st⟩ := vx_callSW X hx (hh := hh) (bytes := bytes) (maxL := maxL) (ret := ret) ho hl hstt hini hcode hy hK hg (hsize.trans hml.symm) (argsL := As) (rest := rest) (fun sig h => hn.trans (hlen sig h)) hstack hW (by rw [hb]; exact hdg)
    (fun vm₁ hW₁ => ⟨hf.1, hf.2, hp.2 (T.setVm vm₁) hT hW₁⟩)
  dsimp only [Pt.U, Pt.locs, Pt.cells, Pt.slots] at X' e1 e2 h1 h2 h3 st
  subst h1; subst h2; subst h3
  exact ⟨v, (T.setVm vm₁).calling g' mk As.toArray, t, U', L, hT, X', hL, e1, e2, hq, st⟩
/-- not caught here, past rows that name other classes: it goes on to the caller -/
theorem vx_outP {p : Program} {l : Launch} {e : Env} {R : Room} {s : State} {m : MethodId} {args : Array Value} {below : List Frame} {meth : Method} {c : Code} {H : Heap} {locs : List Loc} {cells slots : Nat} {free : Addr → Prop} {ls : Array Slot} {rest : List Value} {Qc : Array Value → State → Outcome → State → Prop} {XC : String → State → State → Prop}
    {pc : Nat} {own E : String} {ce : Cell} {q : Addr} {mc ms : Nat} (hown : s.vm.findClass own = some m.cls) (hlocks : meth.locks = false)
    (hpass : ∀ z ∈ c.exceptionTable.toList, covers z pc = false ∨ (z.catchType ≠ 0 ∧ ∃ nm : String, (Cond.classLink own z.catchType nm).before args s = true ∧ va_Nc E nm s)) (hcell : H[q]? = some ce) (hv : ce.vm = .none) (hcl : s.vm.findClass E = some ce.cls)
    (hx : ∀ t : State, t.heap = H → s.vm.Alike t.vm → XC E s t) (hf : ∀ z ∈ locs, free z.base) (hc : cells ≤ mc) (hs : slots ≤ ms) :
    vx_W p l e R s m args below meth c H locs cells slots (vx_MQ below Qc XC args s mc ms free) (F0 m pc ls rest) q := by
  intro T hT X
  have hpl : e.platform.magicAccessors = ({} : Platform).magicAccessors := by rw [X.admits.platform]
  obtain ⟨vm', hW', X', st⟩ := X.outThrough hlocks q (g := F0 m pc ls rest) rfl rfl rfl (cell := ce) (by rw [hT]; exact hcell) (by rw [hv]; rfl)
    (by obtain ⟨k9, h9, -⟩ := Vm.findClass_spec hcl; exact ⟨k9, h9⟩) (fun z hz => by
      rcases hpass z hz with h | ⟨hz0, nm, hl1, hn1⟩
      · exact Or.inl h
      · obtain ⟨c6, hc6, hcl6⟩ := Cond.classLink_spec hown hl1 e.platform hpl
        obtain ⟨a8, b8, h1, h2, h3⟩ := hn1
        cases Option.some.inj (h1.symm.trans hcl)
        cases Option.some.inj (h2.symm.trans hc6)
        exact Or.inr ⟨hz0, _, hcl6, h3⟩)
  obtain ⟨g₀, hfr⟩ := X'.frames_eq
  have hcell9 : ((T.setVm vm').setFrames (.throwing q :: below)).heap[q]? = some ce := by
    show T.heap[q]? = some ce
    rw [hT]; exact hcell
  have hend : Ended ((T.setVm vm').setFrames (.throwing q :: below)) below (.threw q) := State.frames_setFrames _ (State.cur_lt_of_frames hfr)
  refine ⟨(T.setVm vm').setFrames (.throwing q :: below), ?_, .threw q, X'.here.running, hend, Or.inr ⟨q, rfl, E, ce, locs, hx _ hT (X'.ends _).1.alike, hcell9, hv, hcl, (X'.ends _).1, (X'.ends _).2.mono hc hs, hf⟩⟩
  rw [X.pushThrowing_eq]
  exact st
/-- a thing of a world lies in the heap -/
theorem vx_lt {D : va_G} {cl : List vw_C} {ws : va_W} {H1 : Heap} (h : va_P D cl ws H1) {k : Nat} {q : Nat × va_E} (hk : ws[k]? = some q) : q.1 < H1.size := (h k q hk).lt
end VXS
/-! ===== END ===== -/
/-! ===== BEGIN methods with a table of their own: called by a name, returning or throwing ===== -/
section VXH
/-! vx_backW, vx_callVX, vx_callSX, vx_callVW, vx_runVW, vx_runVX, vx_runSX, vx_ofWH follow the same proofs as their sisters above (Free/Laws.lean, Shelf42/LK1.lean); vx_outP calls Shelf42/NT130.lean (outThrough). -/
section
variable {l : Launch} {R : Room} {p : Program} {e : Env} {below : List Frame} {s : State} {sargs : Array Value} {y : MethodName} {len W9 : Nat}
theorem vx_backW {ws : List Cond} {rm : Room} {Pc : Array Value → State → Prop} {Qc : Array Value → State → Outcome → State → Prop} {XC : String → State → State → Prop} {mc ms : Nat} {free : Addr → Prop} {bytes : ByteArray} {maxL : Nat} {ret : Option FieldType} {hh : List (Nat × Nat × Nat × Nat)}
    (hM : vx_Met l y ws rm Pc Qc XC mc ms free) (hblind : FrameBlind Pc) (hrc : rm.cells = mc) (hrs : rm.slots = ms)
    (hframes : rm.frames + 1 ≤ R.frames) (hlocals : W9 + (maxL + 11) + rm.locals ≤ R.locals)
    (hws : ∀ w ∈ ws, ∀ a' U, s.WarmedH U.vm → w.before a' U = true) (hcode : Cond.codeWith y bytes maxL ret hh ∈ ws) (hinit : ∀ a' U, s.WarmedH U.vm → (Cond.initialized y.cls).before a' U = true) :
    vx_Back l R p e below s sargs y len W9 (PreOf R mc ms Pc) (PostOf Qc mc ms free) (vx_Post XC mc ms free) := by
  intro m meth c A g ig mk a X hg hsize hdg hW hn hp
  have h1 : (headSpec ws rm).pre.before a A.U = true := atoms_intro fun w hw => hws w hw _ _ X.warmed
  have h2 : (Cond.codeWith y bytes maxL ret hh).before a A.U = true := hws _ hcode _ _ X.warmed
  have h3 : (Cond.initialized y.cls).before a A.U = true := hinit _ _ X.warmed
  have h4 : A.cells + (headSpec ws rm).room.cells ≤ R.cells := by rw [show (headSpec ws rm).room.cells = mc from hrc]; exact hp.1
  have h5 : A.slots + (headSpec ws rm).room.slots ≤ R.slots := by rw [show (headSpec ws rm).room.slots = ms from hrs]; exact hp.2.1
  have hPc : Pc a (A.U.calling g mk a) := hblind _ _ _ _ hp.2.2
  obtain ⟨U, Ls, c0, s0⟩ := A
  dsimp only [Pt.U, Pt.locs, Pt.cells, Pt.slots] at h1 h2 h3 h4 h5 X hn hPc ⊢
  obtain ⟨m9, methY, cY, hn9, hmY, hcY, -, hlY, -⟩ := Cond.codeWith_spec h2
  cases Option.some.inj (hn9.symm.trans hn)
  obtain ⟨kY, hkY, -⟩ := className_of_methodNamed hn
  have hinitY : kY.init = .initialized := Cond.initialized_spec (findClass_of_methodNamed hn) hkY h3
  have h : At U g.method c below := by rw [hg]; exact X.here
  have hlocals9 : W9 + (maxL + 11) + (headSpec ws rm).room.locals ≤ R.locals := hlocals
  have happ : (headSpec ws rm).appliesLoose y e.platform (U.calling g mk a) = true :=
    Spec.appliesLoose_calling (g := g) h hdg hn hkY hinitY
      (X.room_calling (g := g) (R' := (headSpec ws rm).room) hsize hmY hcY hframes (by rw [hlY]; omega) h4 h5) h1
  obtain ⟨mid, hmid⟩ := h.above
  have hfr : (U.setTop g).frames = (.java g :: mid) ++ below := by rw [State.frames_setTop' g h.top, hmid]; rfl
  obtain ⟨o, s₂, hsteps, -, hend, hq⟩ := Steps.callFree hM p X.admits X.cas X.clock (acts := []) hfr happ hPc trivial
  have hq' : vx_Q Qc XC mc ms free a (U.calling g mk a) o s₂ := hq
  rw [State.frames_setTop' g h.top] at hend
  obtain ⟨g₀, hg0⟩ := Option.isSome_iff_exists.mp h.top
  obtain ⟨r, hr⟩ := State.topJava?_eq_some.mp hg0
  have hr' : (({ U with heap := s₂.heap, slotsUsed := s₂.slotsUsed } : State).setVm s₂.vm).frames = .java g₀ :: r := hr
  rcases hq' with ⟨hqc, L, hfe, hL⟩ | ⟨q, rfl, E, ce, L, hx, hce, hcv, hcl, hW₂, hsm, hL⟩
  · obtain ⟨⟨v, rfl⟩, hW₂, e2, q2, q3, q4, q5, q6⟩ := id hfe
    have e3 : s₂ = ({ (U.calling g mk a).setFrames s₂.frames with heap := s₂.heap, slotsUsed := s₂.slotsUsed } : State).setVm s₂.vm := by
      have : s₂ = ({ s₂ with vm := (U.calling g mk a).vm } : State).setVm s₂.vm := rfl
      rw [e2] at this
      exact this
    obtain ⟨c₂, i₂, len₂, hc₂, hd₂, hf₂⟩ := hend
    have hW' : U.WarmedH s₂.vm := hW₂
    have hcc : c₂ = c := by
      have h1 : s₂.code? g.method = U.code? g.method := by
        rw [State.code?_eq, State.code?_eq, hW'.alike.method?]
      exact Option.some.inj (hc₂.symm.trans (h1.trans h.code))
    subst hcc
    have hlen : len₂ = len := by rw [hdg] at hd₂; cases hd₂; rfl
    subst hlen
    have hs₂ : s₂ = (({ U with heap := s₂.heap, slotsUsed := s₂.slotsUsed } : State).setVm s₂.vm).setTop { g with pc := g.pc + len₂, stack := v.toList ++ g.stack } := by
      refine e3.trans ?_
      rw [hf₂, State.calling_eq h.top, State.setFrames_setFrames, State.setTop_of_frames _ hr', hr]
      rfl
    have hsame : U.sameButNew ({ U with heap := s₂.heap, slotsUsed := s₂.slotsUsed } : State) L mc ms := by
      refine ⟨?_, q2, q3, q4, q5, q6⟩
      obtain ⟨t, ht, -⟩ := State.frames_cons hr
      show ({ U with heap := s₂.heap, slotsUsed := s₂.slotsUsed } : State) = { U.setFrames U.frames with heap := s₂.heap, slotsUsed := s₂.slotsUsed }
      rw [State.setFrames_self ht]
    subst hg
    refine Or.inl ⟨v, ⟨(({ U with heap := s₂.heap, slotsUsed := s₂.slotsUsed } : State).setVm s₂.vm), Ls ++ L, c0 + mc, s0 + ms⟩,
      ⟨X.admits, X.cas, X.clock, X.frames, X.room, X.hears, X.method, X.code, (X.here.setHeapUsed s₂.heap s₂.slotsUsed).setVm hW'.alike, X.tail, State.WarmedH.trans X.warmed hW', X.limits, X.bytes, X.same.trans (hsame.setVm s.vm)⟩,
      ⟨g, mk, s₂, L, rfl, rfl, hqc, rfl, hL, rfl, rfl⟩, ?_⟩
    show Steps p.tables e below _ ((({ U with heap := s₂.heap, slotsUsed := s₂.slotsUsed } : State).setVm s₂.vm).setTop { g with pc := g.pc + len₂, stack := v.toList ++ g.stack })
    rw [← hs₂]
    exact hsteps
  · obtain ⟨e2, q2, q3, q4, q5, q6⟩ := id hsm
    have e3 : s₂ = ({ (U.calling g mk a).setFrames s₂.frames with heap := s₂.heap, slotsUsed := s₂.slotsUsed } : State).setVm s₂.vm := by
      have : s₂ = ({ s₂ with vm := (U.calling g mk a).vm } : State).setVm s₂.vm := rfl
      rw [e2] at this
      exact this
    have hf₂ : s₂.frames = .throwing q :: .java g :: U.frames.tail := hend
    have hW' : U.WarmedH s₂.vm := hW₂
    have hs₂ : s₂ = ((({ U with heap := s₂.heap, slotsUsed := s₂.slotsUsed } : State).setVm s₂.vm).setTop g).pushFrame (.throwing q) := by
      refine e3.trans ?_
      rw [hf₂, State.calling_eq h.top, State.setFrames_setFrames, State.pushFrame, State.frames_setTop _ hr', State.setTop_of_frames _ hr', State.setFrames_setFrames, hr]
      rfl
    have hsame : U.sameButNew ({ U with heap := s₂.heap, slotsUsed := s₂.slotsUsed } : State) L mc ms := by
      refine ⟨?_, q2, q3, q4, q5, q6⟩
      obtain ⟨t, ht, -⟩ := State.frames_cons hr
      show ({ U with heap := s₂.heap, slotsUsed := s₂.slotsUsed } : State) = { U.setFrames U.frames with heap := s₂.heap, slotsUsed := s₂.slotsUsed }
      rw [State.setFrames_self ht]
    subst hg
    refine Or.inr ⟨q, ⟨(({ U with heap := s₂.heap, slotsUsed := s₂.slotsUsed } : State).setVm s₂.vm), Ls ++ L, c0 + mc, s0 + ms⟩,
      ⟨X.admits, X.cas, X.clock, X.frames, X.room, X.hears, X.method, X.code, (X.here.setHeapUsed s₂.heap s₂.slotsUsed).setVm hW'.alike, X.tail, State.WarmedH.trans X.warmed hW', X.limits, X.bytes, X.same.trans (hsame.setVm s.vm)⟩,
      ⟨g, mk, s₂, L, E, ce, rfl, rfl, hx, hce, hcv, hcl, rfl, hL, rfl, rfl⟩, ?_⟩
    show Steps p.tables e below _ (((({ U with heap := s₂.heap, slotsUsed := s₂.slotsUsed } : State).setVm s₂.vm).setTop g).pushFrame (.throwing q))
    rw [← hs₂]
    exact hsteps
end
variable {p : Program} {l : Launch} {e : Env} {R : Room} {s : State} {m : MethodId} {args : Array Value} {below : List Frame} {meth : Method} {c : Code} {T : State} {H : Heap} {locs : List Loc} {cells slots : Nat}
theorem vx_callVX (X : Stand p l e R s m args below meth c T locs cells slots) (hexec : p.tables.exec = Jvm.exec) {own C : String} {index : Nat} {y : MethodName} {bytes : ByteArray} {maxL : Nat} {ret : Option FieldType} {hh : List (Nat × Nat × Nat × Nat)}
    (hown : s.vm.findClass own = some m.cls) (hlink : (Cond.methodLink own index y).before args s = true) (hinst : (Cond.instanceMethod y).before args s = true) (hsel : (Cond.selects C y y).before args s = true)
    (hcode : (Cond.codeWith y bytes maxL ret hh).before args s = true) (hy : y.cls ≠ "java/lang/invoke/MethodHandle" ∧ y.cls ≠ "java/lang/invoke/VarHandle")
    {W9 : Nat} {Pre : Pt → Array Value → Prop} {Post : Pt → Array Value → Option Value → Pt → Prop} {PostX : Pt → Array Value → Addr → Pt → Prop} (hK : vx_Back l R p e below s args y 3 W9 Pre Post PostX)
    {b : Addr} {cellB : Cell} (hcell : T.heap[b]? = some cellB) (hobj : cellB.vm.isStatics = false) (hcls : s.vm.findClass C = some cellB.cls)
    {g : JFrame} (hg : g.method = m) (hsize : g.locals.size = c.maxLocals) {argsL rest : List Value} (hlen : ∀ sig, parseMethodDescriptor y.desc = some sig → argsL.length = sig.parameters.length)
    (hstack : g.stack = argsL.reverse ++ .ref b :: rest) (hW : 2 * g.monitorRoom + (rest.map fun v => v.category).sum ≤ W9) (hdg : decode c.code g.pc = .ok (.invokevirtual index, 3))
    (hpre : ∀ vm₁, s.WarmedH vm₁ → Pre ⟨T.setVm vm₁, locs, cells, slots⟩ (Value.ref b :: argsL).toArray) :
    (∃ (v : Option Value) (vm₁ : Vm) (B : Pt), s.WarmedH vm₁ ∧ Stand p l e R s m args below meth c B.U B.locs B.cells B.slots ∧ Post ⟨T.setVm vm₁, locs, cells, slots⟩ (Value.ref b :: argsL).toArray v B ∧
      ∀ target, Steps p.tables e below (B.U.setTop { g with pc := g.pc + 3, stack := v.toList ++ rest }) target → Steps p.tables e below (T.setTop g) target) ∨
    (∃ (q : Addr) (vm₁ : Vm) (B : Pt), s.WarmedH vm₁ ∧ Stand p l e R s m args below meth c B.U B.locs B.cells B.slots ∧ PostX ⟨T.setVm vm₁, locs, cells, slots⟩ (Value.ref b :: argsL).toArray q B ∧
      Steps p.tables e below (T.setTop g) ((B.U.setTop { g with stack := rest }).pushFrame (.throwing q))) := by
  obtain ⟨mk, methM, hnamed, hmethM, hstM, habM⟩ := Cond.instanceMethod_spec hinst
  obtain ⟨m8, methM', cM, hn8, hmethM', -, -, -, -, -, -, hsigM⟩ := Cond.codeWith_spec hcode
  cases Option.some.inj (hn8.symm.trans hnamed)
  cases hmethM.symm.trans hmethM'
  obtain ⟨c2, r2, m2, q1, q2, q3, q4, kP, hkP, hkPi⟩ := Cond.selects_spec hsel
  cases hcls.symm.trans q1
  cases (State.methodFound?_of_named hnamed hy).symm.trans q2
  cases hnamed.symm.trans q3
  have hselP : selectMethod e.platform s.vm cellB.cls mk = .method mk := by rw [Launch.admits_selectMethod X.admits]; exact q4
  obtain ⟨vm₁, X₁, hstep₁⟩ := X.invokevirtual hexec hown hlink hnamed hmethM hstM hkP hkPi hy (a := b) (cell := cellB) hcell
    (fun z h => by rw [h] at hobj; cases hobj) hselP hmethM habM hkP hkPi (g := g) hg (argsL := argsL) (rest := rest) (hlen _ hsigM) hstack hdg
  rcases hK m meth c ⟨T.setVm vm₁, locs, cells, slots⟩ { g with stack := rest } (.invokevirtual index) mk (Value.ref b :: argsL).toArray X₁ hg hsize hdg hW (X₁.named hnamed) (hpre vm₁ X₁.warmed) with ⟨v, B, X', hpost, hsteps⟩ | ⟨q, B, X', hpost, hsteps⟩
  · exact Or.inl ⟨v, vm₁, B, X₁.warmed, X', hpost, fun target h => hstep₁ _ fun acts => by rw [doInvoke_state]; exact hsteps.trans h⟩
  · exact Or.inr ⟨q, vm₁, B, X₁.warmed, X', hpost, hstep₁ _ fun acts => by rw [doInvoke_state]; exact hsteps⟩
theorem vx_callSX (X : Stand p l e R s m args below meth c T locs cells slots) (hexec : p.tables.exec = Jvm.exec) {own : String} {index : Nat} {y : MethodName} {bytes : ByteArray} {maxL : Nat} {ret : Option FieldType} {hh : List (Nat × Nat × Nat × Nat)}
    (hown : s.vm.findClass own = some m.cls) (hlink : (Cond.methodLink own index y).before args s = true) (hstat : (Cond.static y).before args s = true) (hinit : (Cond.initialized y.cls).before args s = true)
    (hcode : (Cond.codeWith y bytes maxL ret hh).before args s = true) (hy : y.cls ≠ "java/lang/invoke/MethodHandle" ∧ y.cls ≠ "java/lang/invoke/VarHandle")
    {W9 : Nat} {Pre : Pt → Array Value → Prop} {Post : Pt → Array Value → Option Value → Pt → Prop} {PostX : Pt → Array Value → Addr → Pt → Prop} (hK : vx_Back l R p e below s args y 3 W9 Pre Post PostX)
    {g : JFrame} (hg : g.method = m) (hsize : g.locals.size = c.maxLocals) {argsL rest : List Value} (hlen : ∀ sig, parseMethodDescriptor y.desc = some sig → argsL.length = sig.parameters.length)
    (hstack : g.stack = argsL.reverse ++ rest) (hW : 2 * g.monitorRoom + (rest.map fun v => v.category).sum ≤ W9) (hdg : decode c.code g.pc = .ok (.invokestatic index, 3))
    (hpre : ∀ vm₁, s.WarmedH vm₁ → Pre ⟨T.setVm vm₁, locs, cells, slots⟩ argsL.toArray) :
    (∃ (v : Option Value) (vm₁ : Vm) (B : Pt), s.WarmedH vm₁ ∧ Stand p l e R s m args below meth c B.U B.locs B.cells B.slots ∧ Post ⟨T.setVm vm₁, locs, cells, slots⟩ argsL.toArray v B ∧
      ∀ target, Steps p.tables e below (B.U.setTop { g with pc := g.pc + 3, stack := v.toList ++ rest }) target → Steps p.tables e below (T.setTop g) target) ∨
    (∃ (q : Addr) (vm₁ : Vm) (B : Pt), s.WarmedH vm₁ ∧ Stand p l e R s m args below meth c B.U B.locs B.cells B.slots ∧ PostX ⟨T.setVm vm₁, locs, cells, slots⟩ argsL.toArray q B ∧
      Steps p.tables e below (T.setTop g) ((B.U.setTop { g with stack := rest }).pushFrame (.throwing q))) := by
  obtain ⟨mk, methM, cM, hnamed, hmethM, -, -, -, -, -, -, hsigM⟩ := Cond.codeWith_spec hcode
  have hstatic : methM.isStatic = true := Cond.static_spec hnamed hmethM hstat
  obtain ⟨kP, hkP, -⟩ := className_of_methodNamed hnamed
  have hinitP : kP.init = .initialized := Cond.initialized_spec (findClass_of_methodNamed hnamed) hkP hinit
  obtain ⟨vm₁, X₁, hstep₁⟩ := X.invokestatic hexec hown hlink hnamed hmethM hstatic hkP hinitP hy (g := g) hg (argsL := argsL) (rest := rest) (hlen _ hsigM) hstack hdg
  rcases hK m meth c ⟨T.setVm vm₁, locs, cells, slots⟩ { g with stack := rest } (.invokestatic index) mk argsL.toArray X₁ hg hsize hdg hW (X₁.named hnamed) (hpre vm₁ X₁.warmed) with ⟨v, B, X', hpost, hsteps⟩ | ⟨q, B, X', hpost, hsteps⟩
  · exact Or.inl ⟨v, vm₁, B, X₁.warmed, X', hpost, fun target h => hstep₁ _ fun acts => by rw [doInvoke_state]; exact hsteps.trans h⟩
  · exact Or.inr ⟨q, vm₁, B, X₁.warmed, X', hpost, hstep₁ _ fun acts => by rw [doInvoke_state]; exact hsteps⟩
theorem vx_callVW (X : Stand p l e R s m args below meth c T locs cells slots) (hexec : p.tables.exec = Jvm.exec) {own C : String} {index : Nat} {y : MethodName} {bytes : ByteArray} {maxL : Nat} {ret : Option FieldType} {hh : List (Nat × Nat × Nat × Nat)}
    (hown : s.vm.findClass own = some m.cls) (hlink : (Cond.methodLink own index y).before args s = true) (hinst : (Cond.instanceMethod y).before args s = true) (hsel : (Cond.selects C y y).before args s = true)
    (hcode : (Cond.codeWith y bytes maxL ret hh).before args s = true) (hy : y.cls ≠ "java/lang/invoke/MethodHandle" ∧ y.cls ≠ "java/lang/invoke/VarHandle")
    {W9 : Nat} {Pre : Pt → Array Value → Prop} {Post : Pt → Array Value → Option Value → Pt → Prop} (hK : Back l R p e below s args y 3 W9 Pre Post)
    {b : Addr} {cellB : Cell} (hcell : T.heap[b]? = some cellB) (hobj : cellB.vm.isStatics = false) (hcls : s.vm.findClass C = some cellB.cls)
    {g : JFrame} (hg : g.method = m) (hsize : g.locals.size = c.maxLocals) {argsL rest : List Value} (hlen : ∀ sig, parseMethodDescriptor y.desc = some sig → argsL.length = sig.parameters.length)
    (hstack : g.stack = argsL.reverse ++ .ref b :: rest) (hW : 2 * g.monitorRoom + (rest.map fun v => v.category).sum ≤ W9) (hdg : decode c.code g.pc = .ok (.invokevirtual index, 3))
    (hpre : ∀ vm₁, s.WarmedH vm₁ → Pre ⟨T.setVm vm₁, locs, cells, slots⟩ (Value.ref b :: argsL).toArray) :
    ∃ (v : Option Value) (vm₁ : Vm) (B : Pt), s.WarmedH vm₁ ∧ Stand p l e R s m args below meth c B.U B.locs B.cells B.slots ∧ Post ⟨T.setVm vm₁, locs, cells, slots⟩ (Value.ref b :: argsL).toArray v B ∧
      ∀ target, Steps p.tables e below (B.U.setTop { g with pc := g.pc + 3, stack := v.toList ++ rest }) target → Steps p.tables e below (T.setTop g) target := by
  obtain ⟨mk, methM, hnamed, hmethM, hstM, habM⟩ := Cond.instanceMethod_spec hinst
  obtain ⟨m8, methM', cM, hn8, hmethM', -, -, -, -, -, -, hsigM⟩ := Cond.codeWith_spec hcode
  cases Option.some.inj (hn8.symm.trans hnamed)
  cases hmethM.symm.trans hmethM'
  obtain ⟨c2, r2, m2, q1, q2, q3, q4, kP, hkP, hkPi⟩ := Cond.selects_spec hsel
  cases hcls.symm.trans q1
  cases (State.methodFound?_of_named hnamed hy).symm.trans q2
  cases hnamed.symm.trans q3
  have hselP : selectMethod e.platform s.vm cellB.cls mk = .method mk := by rw [Launch.admits_selectMethod X.admits]; exact q4
  obtain ⟨vm₁, X₁, hstep₁⟩ := X.invokevirtual hexec hown hlink hnamed hmethM hstM hkP hkPi hy (a := b) (cell := cellB) hcell
    (fun z h => by rw [h] at hobj; cases hobj) hselP hmethM habM hkP hkPi (g := g) hg (argsL := argsL) (rest := rest) (hlen _ hsigM) hstack hdg
  obtain ⟨v, B, X', hpost, hsteps⟩ := hK m meth c ⟨T.setVm vm₁, locs, cells, slots⟩ { g with stack := rest } (.invokevirtual index) mk (Value.ref b :: argsL).toArray X₁ hg hsize hdg hW (X₁.named hnamed) (hpre vm₁ X₁.warmed)
  exact ⟨v, vm₁, B, X₁.warmed, X', hpost, fun target h => hstep₁ _ fun acts => by rw [doInvoke_state]; exact hsteps.trans h⟩
abbrev vx_CVW (R : Room) (s : State) (args : Array Value) (own C : String) (index : Nat) (y : MethodName) (bytes : ByteArray) (maxL : Nat) (ret : Option FieldType) (hh : List (Nat × Nat × Nat × Nat)) (ws : List Cond) (rm : Room) (mc ms n : Nat) : Prop :=
  (rm.cells = mc ∧ rm.slots = ms ∧ rm.frames + 1 ≤ R.frames ∧ 8 + (maxL + 11) + rm.locals ≤ R.locals ∧ (∀ w ∈ ws, ∀ (a' : Array Value) (U : State), s.WarmedH U.vm → w.before a' U = true) ∧ Cond.codeWith y bytes maxL ret hh ∈ ws) ∧
  (Cond.codeWith y bytes maxL ret hh).before args s = true ∧ (Cond.initialized y.cls).before args s = true ∧ (y.cls ≠ "java/lang/invoke/MethodHandle" ∧ y.cls ≠ "java/lang/invoke/VarHandle") ∧
  (∀ sig, parseMethodDescriptor y.desc = some sig → n = sig.parameters.length) ∧ (Cond.methodLink own index y).before args s = true ∧ (Cond.instanceMethod y).before args s = true ∧ (Cond.selects C y y).before args s = true
theorem vx_cwVW {own C : String} {index maxL mc ms : Nat} {y : MethodName} {bytes : ByteArray} {ret : Option FieldType} {hh : List (Nat × Nat × Nat × Nat)} {Ts ws ws' : List Cond} {rm : Room} (n : Nat) (ht : ∀ w ∈ Ts, w.before args s = true) (hT : GoodIn Ts (wsV own index C y ws)) (hw : ws = Cond.codeWith y bytes maxL ret hh :: ws') (hrc : rm.cells = mc) (hrs : rm.slots = ms)
    (hd : y.cls = C ∧ y.cls ≠ "java/lang/invoke/MethodHandle" ∧ y.cls ≠ "java/lang/invoke/VarHandle" ∧ (parseMethodDescriptor y.desc).map (fun d => d.parameters.length) = some n) (hR : rm.frames + 1 ≤ R.frames ∧ 8 + (maxL + 11) + rm.locals ≤ R.locals) :
    vx_CVW R s args own C index y bytes maxL ret hh ws rm mc ms n := by
  obtain ⟨hC, hd⟩ := hd
  subst hC
  have ok : ∀ w ∈ wsV own index y.cls y ws, w.before args s = true := fun w h => ht w (hT w h).1
  have hG : GoodIn Ts ws := fun w h => hT w (by unfold wsV; exact List.mem_append_right _ h)
  have hc : Cond.codeWith y bytes maxL ret hh ∈ ws := by rw [hw]; exact List.mem_cons_self
  refine ⟨⟨hrc, hrs, hR.1, hR.2, pay_in ht hG, hc⟩, ht _ (hG _ hc).1, ok _ (by simp [wsV]), ⟨hd.1, hd.2.1⟩, fun sig h => ?_, ok _ (by simp [wsV]), ok _ (by simp [wsV]), ok _ (by simp [wsV])⟩
  have h2 := hd.2.2
  rw [h] at h2
  exact (Option.some.inj h2).symm
theorem vx_runVW {y : MethodName} {bytes cc : ByteArray} {maxL nL mc ms n index : Nat} {ret : Option FieldType} {hh : List (Nat × Nat × Nat × Nat)} {ws : List Cond} {rm : Room} {Pc : Array Value → State → Prop} {Qc : Array Value → State → Outcome → State → Prop} {free : Addr → Prop} {Ts : List Cond} {own C : String} {b : Addr} {As rest : List Value} {g : JFrame}
    (S : CallFix p m c cc nL s args Ts own) (hM : Met l y ws rm Pc Qc mc ms free) (cw : vx_CVW R s args own C index y bytes maxL ret hh ws rm mc ms n) (hp : PreV s H C b Pc As)
    (hg : g.method = m) (hn : As.length = n) (hsize : g.locals.size = nL) (hstack : g.stack = As.reverse ++ .ref b :: rest) (hW : 2 * g.monitorRoom + (rest.map fun v => v.category).sum ≤ 8) (hdg : decode cc g.pc = .ok (.invokevirtual index, 3)) (hf : cells + mc ≤ R.cells ∧ slots + ms ≤ R.slots) :
    va_Run p l e R s m args below meth c H locs cells slots mc ms g rest (Qc (Value.ref b :: As).toArray) free := by
  obtain ⟨⟨hrc, hrs, hfr, hlo, hws, hcw⟩, hcode, hini, hy, hlen, hl, hin, hse⟩ := cw
  have hK : Back l R p e below s args y 3 8 (PreOf R mc ms Pc) (PostOf Qc mc ms free) := va_backW (hh := hh) (bytes := bytes) (maxL := maxL) (ret := ret) hM hp.1 hrc hrs hfr hlo hws hcw (fun a' U hW => word_at hW (Or.inl (by first | rfl | simp [Cond.onTables, Cond.keeps, Cond.steady])) hini)
  obtain ⟨hx, hb, hml, ho, -⟩ := S
  obtain ⟨-, ⟨cellB, hcB, hoB, hclB⟩, hPc⟩ := hp
  intro T hT X
  obtain ⟨v, vm₁, ⟨U', l2, c2, s2⟩, hW₁, X', ⟨g', mk, t, L, e1, e2, hq, h1, hL, h2, h3⟩, st⟩ := vx_callVW X hx (C := C) (hh := hh) (bytes := bytes) (maxL := maxL) (ret := ret) ho hl hin hse hcode hy hK (by rw [hT]; exact hcB) hoB hclB hg (hsize.trans hml.symm) (argsL := As) (rest := rest) (fun sig h => hn.trans (hlen sig h)) hstack hW (by rw [hb]; exact hdg)
    (fun vm₁ hW₁ => ⟨hf.1, hf.2, hPc (T.setVm vm₁) hT hW₁⟩)
  dsimp only [Pt.U, Pt.locs, Pt.cells, Pt.slots] at X' e1 e2 h1 h2 h3 st
  subst h1; subst h2; subst h3
  exact ⟨v, (T.setVm vm₁).calling g' mk (Value.ref b :: As).toArray, t, U', L, hT, X', hL, e1, e2, hq, st⟩
section
variable {y : MethodName} {bytes cc : ByteArray} {maxL nL mc ms n index : Nat} {ret : Option FieldType} {ws : List Cond} {rm : Room} {Pc : Array Value → State → Prop} {Qc : Array Value → State → Outcome → State → Prop} {XC : String → State → State → Prop} {free : Addr → Prop} {Ts : List Cond} {own C : String} {b : Addr} {As rest : List Value} {g : JFrame}
theorem vx_runVX {hh : List (Nat × Nat × Nat × Nat)} (S : CallFix p m c cc nL s args Ts own) (hM : vx_Met l y ws rm Pc Qc XC mc ms free) (cw : vx_CVW R s args own C index y bytes maxL ret hh ws rm mc ms n) (hp : PreV s H C b Pc As)
    (hg : g.method = m) (hn : As.length = n) (hsize : g.locals.size = nL) (hstack : g.stack = As.reverse ++ .ref b :: rest) (hW : 2 * g.monitorRoom + (rest.map fun v => v.category).sum ≤ 8) (hdg : decode cc g.pc = .ok (.invokevirtual index, 3)) (hf : cells + mc ≤ R.cells ∧ slots + ms ≤ R.slots) :
    vx_Run p l e R s m args below meth c H locs cells slots mc ms g rest (Qc (Value.ref b :: As).toArray) XC free := by
  obtain ⟨⟨hrc, hrs, hfr, hlo, hws, hcw⟩, hcode, hini, hy, hlen, hl, hin, hse⟩ := cw
  have hK : vx_Back l R p e below s args y 3 8 (PreOf R mc ms Pc) (PostOf Qc mc ms free) (vx_Post XC mc ms free) := vx_backW (hh := hh) (bytes := bytes) (maxL := maxL) (ret := ret) hM hp.1 hrc hrs hfr hlo hws hcw (fun a' U hW => word_at hW (Or.inl (by first | rfl | simp [Cond.onTables, Cond.keeps, Cond.steady])) hini)
  obtain ⟨hx, hb, hml, ho, -⟩ := S
  obtain ⟨-, ⟨cellB, hcB, hoB, hclB⟩, hPc⟩ := hp
  intro T hT X
  rcases vx_callVX X hx (C := C) (hh := hh) (bytes := bytes) (maxL := maxL) (ret := ret) ho hl hin hse hcode hy hK (by rw [hT]; exact hcB) hoB hclB hg (hsize.trans hml.symm) (argsL := As) (rest := rest) (fun sig h => hn.trans (hlen sig h)) hstack hW (by rw [hb]; exact hdg)
    (fun vm₁ hW₁ => ⟨hf.1, hf.2, hPc (T.setVm vm₁) hT hW₁⟩) with ⟨v, vm₁, ⟨U', l2, c2, s2⟩, hW₁, X', ⟨g', mk, t, L, e1, e2, hq, h1, hL, h2, h3⟩, st⟩ | ⟨q, vm₁, ⟨U', l2, c2, s2⟩, hW₁, X', ⟨g', mk, t, L, E, ce, e1, e2, hq, hce, hcv, hcl, h1, hL, h2, h3⟩, st⟩
  · dsimp only [Pt.U, Pt.locs, Pt.cells, Pt.slots] at X' e1 e2 h1 h2 h3 st
    subst h1; subst h2; subst h3
    exact Or.inl ⟨v, (T.setVm vm₁).calling g' mk (Value.ref b :: As).toArray, t, U', L, hT, X', hL, e1, e2, hq, st⟩
  · dsimp only [Pt.U, Pt.locs, Pt.cells, Pt.slots] at X' e1 e2 h1 h2 h3 st hcl
    subst h1; subst h2; subst h3
    exact Or.inr ⟨q, (T.setVm vm₁).calling g' mk (Value.ref b :: As).toArray, t, U', L, E, ce, hT, X', hL, e1, e2, hq, hce, hcv, vx_cls hW₁ hcl, st⟩
theorem vx_runSX {hh : List (Nat × Nat × Nat × Nat)} (S : CallFix p m c cc nL s args Ts own) (hM : vx_Met l y ws rm Pc Qc XC mc ms free) (cw : vx_CSW R s args own index y bytes maxL ret hh ws rm mc ms n) (hp : PreS s H Pc As)
    (hg : g.method = m) (hn : As.length = n) (hsize : g.locals.size = nL) (hstack : g.stack = As.reverse ++ rest) (hW : 2 * g.monitorRoom + (rest.map fun v => v.category).sum ≤ 8) (hdg : decode cc g.pc = .ok (.invokestatic index, 3)) (hf : cells + mc ≤ R.cells ∧ slots + ms ≤ R.slots) :
    vx_Run p l e R s m args below meth c H locs cells slots mc ms g rest (Qc As.toArray) XC free := by
  obtain ⟨⟨hrc, hrs, hfr, hlo, hws, hcw⟩, hcode, hini, hy, hlen, hl, hstt⟩ := cw
  have hK : vx_Back l R p e below s args y 3 8 (PreOf R mc ms Pc) (PostOf Qc mc ms free) (vx_Post XC mc ms free) := vx_backW (hh := hh) (bytes := bytes) (maxL := maxL) (ret := ret) hM hp.1 hrc hrs hfr hlo hws hcw (fun a' U hW => word_at hW (Or.inl (by first | rfl | simp [Cond.onTables, Cond.keeps, Cond.steady])) hini)
  obtain ⟨hx, hb, hml, ho, -⟩ := S
  intro T hT X
  rcases vx_callSX X hx (hh := hh) (bytes := bytes) (maxL := maxL) (ret := ret) ho hl hstt hini hcode hy hK hg (hsize.trans hml.symm) (argsL := As) (rest := rest) (fun sig h => hn.trans (hlen sig h)) hstack hW (by rw [hb]; exact hdg)
    (fun vm₁ hW₁ => ⟨hf.1, hf.2, hp.2 (T.setVm vm₁) hT hW₁⟩) with ⟨v, vm₁, ⟨U', l2, c2, s2⟩, hW₁, X', ⟨g', mk, t, L, e1, e2, hq, h1, hL, h2, h3⟩, st⟩ | ⟨q, vm₁, ⟨U', l2, c2, s2⟩, hW₁, X', ⟨g', mk, t, L, E, ce, e1, e2, hq, hce, hcv, hcl, h1, hL, h2, h3⟩, st⟩
  · dsimp only [Pt.U, Pt.locs, Pt.cells, Pt.slots] at X' e1 e2 h1 h2 h3 st
    subst h1; subst h2; subst h3
    exact Or.inl ⟨v, (T.setVm vm₁).calling g' mk As.toArray, t, U', L, hT, X', hL, e1, e2, hq, st⟩
  · dsimp only [Pt.U, Pt.locs, Pt.cells, Pt.slots] at X' e1 e2 h1 h2 h3 st hcl
    subst h1; subst h2; subst h3
    exact Or.inr ⟨q, (T.setVm vm₁).calling g' mk As.toArray, t, U', L, E, ce, hT, X', hL, e1, e2, hq, hce, hcv, vx_cls hW₁ hcl, st⟩
end
end VXH
theorem vx_ofWH {l : Launch} {y : MethodName} {ws ws' : List Cond} {rm : Room} {Pc : Array Value → State → Prop} {Qc : Array Value → State → Outcome → State → Prop} {XC : String → State → State → Prop} {mc ms : Nat} {free : Addr → Prop} {cc : ByteArray} {maxL : Nat} {ret : Option FieldType} {hh : List (Nat × Nat × Nat × Nat)}
    (hy : plainName y.cls = true) (hw : ws = Cond.codeWith y cc maxL ret hh :: ws')
    (body : ∀ p e s m args below meth c s₁, BodyLoose p l y (headSpec ws rm) cc maxL ret e s m args below meth c s₁ → c.maxLocals = maxL → Pc args s →
      W p l e (headSpec ws rm).room s m args below meth c s.heap [] 0 0 (vx_MQ below Qc XC args s mc ms free) (entryFrame m args maxL)) : vx_Met l y ws rm Pc Qc XC mc ms free := by
  refine MetFree.of_bodyS (code := cc) (maxLocals := maxL) (ret := ret) hy ?_ ?_
  · intro args s m h hn
    obtain ⟨m9, meth, c, hn9, h1, h2, h3, h4, -, h5, h6, -⟩ := Cond.codeWith_spec (atoms_spec (ws := ws) h _ (by rw [hw]; exact List.mem_cons_self))
    cases hn.symm.trans hn9
    exact ⟨meth, c, h1, h2, h3, h4, h5, h6⟩
  · intro p e s m args below meth c s₁ B hml hP _
    have hh0 : s₁.heap = s.heap := by rw [B.state]; rfl
    obtain ⟨t, a1, o, b1, b2, b3⟩ := body p e s m args below meth c s₁ B hml hP s₁ hh0 (Stand.of_body B)
    exact ⟨t, o, a1, b1, b2, b3⟩
/-! ===== END ===== -/
end
section
def RX0 : String := "TypebarMachine$Bars"
def TX0 : u_T := fun k => match k with
  | 0 => ("TypebarMachine$Bars", "settings", "LTypebarMachine$Row;", true)
  | 1 => ("TypebarMachine$Bars", "letters", "LTypebarMachine$Row;", true)
  | 2 => ("TypebarMachine$Bars", "angles", "LTypebarMachine$Row;", true)
  | 3 => ("TypebarMachine$Bars", "struckAt", "LTypebarMachine$Row;", true)
  | 4 => ("TypebarMachine$Bars", "strikes", "LTypebarMachine$Row;", true)
  | 5 => ("TypebarMachine$Bars", "number", "I", false)
  | 6 => ("TypebarMachine$Bars", "latest", "I", false)
  | 7 => ("TypebarMachine$Bars", "firstJammed", "I", false)
  | _ => ("TypebarMachine$Bars", "secondJammed", "I", false)
def tyX0 : Nat → FieldType := fun k => match k with
  | 0 => .object "TypebarMachine$Row"
  | 1 => .object "TypebarMachine$Row"
  | 2 => .object "TypebarMachine$Row"
  | 3 => .object "TypebarMachine$Row"
  | 4 => .object "TypebarMachine$Row"
  | 5 => .int
  | 6 => .int
  | 7 => .int
  | _ => .int
abbrev wsX00 : List Cond := u_ws RX0 TX0 9
theorem nmX0 : ∀ a, a < 9 → ∀ b, b < 9 → a ≠ b → (TX0 a).2.1 ≠ (TX0 b).2.1 := by decide +kernel
theorem tyX0_ok : ∀ k, k < 9 → parseFieldDescriptor (TX0 k).2.2.1 = some (tyX0 k) := by decide +kernel
abbrev cX0_init : ByteArray := prog_2_method_1_code
def yX0_init : MethodName := ⟨RX0, "<init>", "(LTypebarMachine$Row;)V"⟩
abbrev cX0_copyFrom : ByteArray := prog_2_method_2_code
def yX0_copyFrom : MethodName := ⟨RX0, "copyFrom", "(LTypebarMachine$Bars;)V"⟩
abbrev cX0_clear : ByteArray := prog_2_method_3_code
def yX0_clear : MethodName := ⟨RX0, "clear", "()V"⟩
abbrev cX0_add : ByteArray := prog_2_method_4_code
def yX0_add : MethodName := ⟨RX0, "add", "(II)V"⟩
abbrev cX0_withLetter : ByteArray := prog_2_method_5_code
def yX0_withLetter : MethodName := ⟨RX0, "withLetter", "(I)I"⟩
abbrev cX0_riseOf : ByteArray := prog_2_method_6_code
def yX0_riseOf : MethodName := ⟨RX0, "riseOf", "(I)I"⟩
abbrev cX0_backAt : ByteArray := prog_2_method_7_code
def yX0_backAt : MethodName := ⟨RX0, "backAt", "(I)I"⟩
abbrev cX0_notBackAt : ByteArray := prog_2_method_8_code
def yX0_notBackAt : MethodName := ⟨RX0, "notBackAt", "(I)I"⟩
abbrev cX0_areJammed : ByteArray := prog_2_method_9_code
def yX0_areJammed : MethodName := ⟨RX0, "areJammed", "()Z"⟩
abbrev cX0_isJammed : ByteArray := prog_2_method_10_code
def yX0_isJammed : MethodName := ⟨RX0, "isJammed", "(I)Z"⟩
abbrev cX0_strikeFault : ByteArray := prog_2_method_11_code
def yX0_strikeFault : MethodName := ⟨RX0, "strikeFault", "(II)I"⟩
abbrev cX0_roomOf : ByteArray := prog_2_method_12_code
def yX0_roomOf : MethodName := ⟨RX0, "roomOf", "(II)I"⟩
abbrev cX0_noteStrike : ByteArray := prog_2_method_13_code
def yX0_noteStrike : MethodName := ⟨RX0, "noteStrike", "(II)V"⟩
abbrev cX0_jamWithLatest : ByteArray := prog_2_method_14_code
def yX0_jamWithLatest : MethodName := ⟨RX0, "jamWithLatest", "(I)V"⟩
abbrev cX0_free : ByteArray := prog_2_method_15_code
def yX0_free : MethodName := ⟨RX0, "free", "()V"⟩
abbrev cX0_leastPace : ByteArray := prog_2_method_16_code
def yX0_leastPace : MethodName := ⟨RX0, "leastPace", "(II)I"⟩
abbrev cX0_slowestPair : ByteArray := prog_2_method_17_code
def yX0_slowestPair : MethodName := ⟨RX0, "slowestPair", "()I"⟩
abbrev cX0_withGreatestRise : ByteArray := prog_2_method_18_code
def yX0_withGreatestRise : MethodName := ⟨RX0, "withGreatestRise", "()I"⟩
def RX1 : String := "TypebarMachine$Carriage"
def TX1 : u_T := fun k => match k with
  | 0 => ("TypebarMachine$Carriage", "settings", "LTypebarMachine$Row;", true)
  | 1 => ("TypebarMachine$Carriage", "stops", "LTypebarMachine$Row;", true)
  | 2 => ("TypebarMachine$Carriage", "line", "I", false)
  | 3 => ("TypebarMachine$Carriage", "column", "I", false)
  | _ => ("TypebarMachine$Carriage", "released", "Z", false)
def tyX1 : Nat → FieldType := fun k => match k with
  | 0 => .object "TypebarMachine$Row"
  | 1 => .object "TypebarMachine$Row"
  | 2 => .int
  | 3 => .int
  | _ => .boolean
abbrev wsX10 : List Cond := u_ws RX1 TX1 5
theorem nmX1 : ∀ a, a < 5 → ∀ b, b < 5 → a ≠ b → (TX1 a).2.1 ≠ (TX1 b).2.1 := by decide +kernel
theorem tyX1_ok : ∀ k, k < 5 → parseFieldDescriptor (TX1 k).2.2.1 = some (tyX1 k) := by decide +kernel
abbrev cX1_init : ByteArray := prog_3_method_1_code
def yX1_init : MethodName := ⟨RX1, "<init>", "(LTypebarMachine$Row;)V"⟩
abbrev cX1_copyFrom : ByteArray := prog_3_method_2_code
def yX1_copyFrom : MethodName := ⟨RX1, "copyFrom", "(LTypebarMachine$Carriage;)V"⟩
abbrev cX1_goHome : ByteArray := prog_3_method_3_code
def yX1_goHome : MethodName := ⟨RX1, "goHome", "()V"⟩
abbrev cX1_goToLine : ByteArray := prog_3_method_4_code
def yX1_goToLine : MethodName := ⟨RX1, "goToLine", "(I)V"⟩
abbrev cX1_stopsAt : ByteArray := prog_3_method_5_code
def yX1_stopsAt : MethodName := ⟨RX1, "stopsAt", "(I)Z"⟩
abbrev cX1_stopsSet : ByteArray := prog_3_method_6_code
def yX1_stopsSet : MethodName := ⟨RX1, "stopsSet", "()I"⟩
abbrev cX1_locksAt : ByteArray := prog_3_method_7_code
def yX1_locksAt : MethodName := ⟨RX1, "locksAt", "(I)Z"⟩
abbrev cX1_bellColumn : ByteArray := prog_3_method_8_code
def yX1_bellColumn : MethodName := ⟨RX1, "bellColumn", "()I"⟩
abbrev cX1_spacesToBell : ByteArray := prog_3_method_9_code
def yX1_spacesToBell : MethodName := ⟨RX1, "spacesToBell", "()I"⟩
abbrev cX1_tabFrom : ByteArray := prog_3_method_10_code
def yX1_tabFrom : MethodName := ⟨RX1, "tabFrom", "(I)I"⟩
abbrev cX1_backFrom : ByteArray := prog_3_method_11_code
def yX1_backFrom : MethodName := ⟨RX1, "backFrom", "(I)I"⟩
abbrev cX1_fewestKeysTo : ByteArray := prog_3_method_12_code
def yX1_fewestKeysTo : MethodName := ⟨RX1, "fewestKeysTo", "(ILTypebarMachine$Row;)I"⟩
abbrev cX1_reachFrom : ByteArray := prog_3_method_13_code
def yX1_reachFrom : MethodName := ⟨RX1, "reachFrom", "(IILTypebarMachine$Row;)V"⟩
abbrev cX1_reachOnce : ByteArray := prog_3_method_14_code
def yX1_reachOnce : MethodName := ⟨RX1, "reachOnce", "(IILTypebarMachine$Row;)V"⟩
def RX2 : String := "TypebarMachine$History"
def TX2 : u_T := fun k => match k with
  | 0 => ("TypebarMachine$History", "kept", "[LTypebarMachine$Machine;", true)
  | 1 => ("TypebarMachine$History", "oldest", "I", false)
  | _ => ("TypebarMachine$History", "size", "I", false)
def tyX2 : Nat → FieldType := fun k => match k with
  | 0 => .array (.object "TypebarMachine$Machine")
  | 1 => .int
  | _ => .int
abbrev wsX20 : List Cond := u_ws RX2 TX2 3
theorem nmX2 : ∀ a, a < 3 → ∀ b, b < 3 → a ≠ b → (TX2 a).2.1 ≠ (TX2 b).2.1 := by decide +kernel
theorem tyX2_ok : ∀ k, k < 3 → parseFieldDescriptor (TX2 k).2.2.1 = some (tyX2 k) := by decide +kernel
abbrev cX2_init : ByteArray := prog_4_method_1_code
def yX2_init : MethodName := ⟨RX2, "<init>", "()V"⟩
abbrev cX2_clear : ByteArray := prog_4_method_2_code
def yX2_clear : MethodName := ⟨RX2, "clear", "()V"⟩
abbrev cX2_keep : ByteArray := prog_4_method_3_code
def yX2_keep : MethodName := ⟨RX2, "keep", "(LTypebarMachine$Machine;)V"⟩
abbrev cX2_takeLatest : ByteArray := prog_4_method_4_code
def yX2_takeLatest : MethodName := ⟨RX2, "takeLatest", "(LTypebarMachine$Machine;)V"⟩
abbrev cX2_placeOf : ByteArray := prog_4_method_5_code
def yX2_placeOf : MethodName := ⟨RX2, "placeOf", "(I)LTypebarMachine$Machine;"⟩
def RX3 : String := "TypebarMachine$Machine"
def TX3 : u_T := fun k => match k with
  | 0 => ("TypebarMachine$Machine", "settings", "LTypebarMachine$Row;", true)
  | 1 => ("TypebarMachine$Machine", "ribbon", "LTypebarMachine$Ribbon;", true)
  | 2 => ("TypebarMachine$Machine", "page", "LTypebarMachine$Page;", true)
  | 3 => ("TypebarMachine$Machine", "carriage", "LTypebarMachine$Carriage;", true)
  | 4 => ("TypebarMachine$Machine", "bars", "LTypebarMachine$Bars;", true)
  | 5 => ("TypebarMachine$Machine", "tally", "LTypebarMachine$Row;", true)
  | 6 => ("TypebarMachine$Machine", "time", "I", false)
  | 7 => ("TypebarMachine$Machine", "reason", "I", false)
  | 8 => ("TypebarMachine$Machine", "reasonAt", "I", false)
  | _ => ("TypebarMachine$Machine", "lastShade", "I", false)
def tyX3 : Nat → FieldType := fun k => match k with
  | 0 => .object "TypebarMachine$Row"
  | 1 => .object "TypebarMachine$Ribbon"
  | 2 => .object "TypebarMachine$Page"
  | 3 => .object "TypebarMachine$Carriage"
  | 4 => .object "TypebarMachine$Bars"
  | 5 => .object "TypebarMachine$Row"
  | 6 => .int
  | 7 => .int
  | 8 => .int
  | _ => .int
abbrev wsX30 : List Cond := u_ws RX3 TX3 10
theorem nmX3 : ∀ a, a < 10 → ∀ b, b < 10 → a ≠ b → (TX3 a).2.1 ≠ (TX3 b).2.1 := by decide +kernel
theorem tyX3_ok : ∀ k, k < 10 → parseFieldDescriptor (TX3 k).2.2.1 = some (tyX3 k) := by decide +kernel
abbrev cX3_init : ByteArray := prog_5_method_1_code
def yX3_init : MethodName := ⟨RX3, "<init>", "()V"⟩
abbrev cX3_copyFrom : ByteArray := prog_5_method_2_code
def yX3_copyFrom : MethodName := ⟨RX3, "copyFrom", "(LTypebarMachine$Machine;)V"⟩
abbrev cX3_copyMotionFrom : ByteArray := prog_5_method_3_code
def yX3_copyMotionFrom : MethodName := ⟨RX3, "copyMotionFrom", "(LTypebarMachine$Machine;)V"⟩
abbrev cX3_clear : ByteArray := prog_5_method_4_code
def yX3_clear : MethodName := ⟨RX3, "clear", "()V"⟩
abbrev cX3_begin : ByteArray := prog_5_method_5_code
def yX3_begin : MethodName := ⟨RX3, "begin", "()V"⟩
abbrev cX3_addTo : ByteArray := prog_5_method_6_code
def yX3_addTo : MethodName := ⟨RX3, "addTo", "(II)V"⟩
abbrev cX3_startKey : ByteArray := prog_5_method_7_code
def yX3_startKey : MethodName := ⟨RX3, "startKey", "()V"⟩
abbrev cX3_endKey : ByteArray := prog_5_method_8_code
def yX3_endKey : MethodName := ⟨RX3, "endKey", "(I)I"⟩
abbrev cX3_noteKey : ByteArray := prog_5_method_9_code
def yX3_noteKey : MethodName := ⟨RX3, "noteKey", "(I)I"⟩
abbrev cX3_standingFault : ByteArray := prog_5_method_10_code
def yX3_standingFault : MethodName := ⟨RX3, "standingFault", "(Z)I"⟩
abbrev cX3_letterKey : ByteArray := prog_5_method_11_code
def yX3_letterKey : MethodName := ⟨RX3, "letterKey", "(IZ)I"⟩
abbrev cX3_printLetter : ByteArray := prog_5_method_12_code
def yX3_printLetter : MethodName := ⟨RX3, "printLetter", "(IZ)V"⟩
abbrev cX3_moveOn : ByteArray := prog_5_method_13_code
def yX3_moveOn : MethodName := ⟨RX3, "moveOn", "()V"⟩
abbrev cX3_plainKey : ByteArray := prog_5_method_14_code
def yX3_plainKey : MethodName := ⟨RX3, "plainKey", "(I)I"⟩
abbrev cX3_plainFault : ByteArray := prog_5_method_15_code
def yX3_plainFault : MethodName := ⟨RX3, "plainFault", "(I)I"⟩
abbrev cX3_nextLine : ByteArray := prog_5_method_16_code
def yX3_nextLine : MethodName := ⟨RX3, "nextLine", "()I"⟩
abbrev cX3_doPlainKey : ByteArray := prog_5_method_17_code
def yX3_doPlainKey : MethodName := ⟨RX3, "doPlainKey", "(I)V"⟩
abbrev cX3_typeText : ByteArray := prog_5_method_18_code
def yX3_typeText : MethodName := ⟨RX3, "typeText", "(LTypebarMachine$Row;I)I"⟩
def RX4 : String := "TypebarMachine$Page"
def TX4 : u_T := fun k => match k with
  | 0 => ("TypebarMachine$Page", "settings", "LTypebarMachine$Row;", true)
  | 1 => ("TypebarMachine$Page", "signs", "LTypebarMachine$Row;", true)
  | _ => ("TypebarMachine$Page", "shades", "LTypebarMachine$Row;", true)
def tyX4 : Nat → FieldType := fun k => match k with
  | 0 => .object "TypebarMachine$Row"
  | 1 => .object "TypebarMachine$Row"
  | _ => .object "TypebarMachine$Row"
abbrev wsX40 : List Cond := u_ws RX4 TX4 3
theorem nmX4 : ∀ a, a < 3 → ∀ b, b < 3 → a ≠ b → (TX4 a).2.1 ≠ (TX4 b).2.1 := by decide +kernel
theorem tyX4_ok : ∀ k, k < 3 → parseFieldDescriptor (TX4 k).2.2.1 = some (tyX4 k) := by decide +kernel
abbrev cX4_init : ByteArray := prog_6_method_1_code
def yX4_init : MethodName := ⟨RX4, "<init>", "(LTypebarMachine$Row;)V"⟩
abbrev cX4_copyFrom : ByteArray := prog_6_method_2_code
def yX4_copyFrom : MethodName := ⟨RX4, "copyFrom", "(LTypebarMachine$Page;)V"⟩
abbrev cX4_clear : ByteArray := prog_6_method_3_code
def yX4_clear : MethodName := ⟨RX4, "clear", "()V"⟩
abbrev cX4_placeOf : ByteArray := prog_6_method_4_code
def yX4_placeOf : MethodName := ⟨RX4, "placeOf", "(II)I"⟩
abbrev cX4_isEmpty : ByteArray := prog_6_method_5_code
def yX4_isEmpty : MethodName := ⟨RX4, "isEmpty", "(I)Z"⟩
abbrev cX4_print : ByteArray := prog_6_method_6_code
def yX4_print : MethodName := ⟨RX4, "print", "(III)V"⟩
abbrev cX4_places : ByteArray := prog_6_method_7_code
def yX4_places : MethodName := ⟨RX4, "places", "()I"⟩
abbrev cX4_endOf : ByteArray := prog_6_method_8_code
def yX4_endOf : MethodName := ⟨RX4, "endOf", "(I)I"⟩
abbrev cX4_wordsIn : ByteArray := prog_6_method_9_code
def yX4_wordsIn : MethodName := ⟨RX4, "wordsIn", "(I)I"⟩
abbrev cX4_placesWith : ByteArray := prog_6_method_10_code
def yX4_placesWith : MethodName := ⟨RX4, "placesWith", "(I)I"⟩
abbrev cX4_filledPlaces : ByteArray := prog_6_method_11_code
def yX4_filledPlaces : MethodName := ⟨RX4, "filledPlaces", "()I"⟩
abbrev cX4_allDarkness : ByteArray := prog_6_method_12_code
def yX4_allDarkness : MethodName := ⟨RX4, "allDarkness", "()I"⟩
abbrev cX4_palestPlace : ByteArray := prog_6_method_13_code
def yX4_palestPlace : MethodName := ⟨RX4, "palestPlace", "()I"⟩
def RX5 : String := "TypebarMachine$Parser"
def TX5 : u_T := fun k => match k with
  | 0 => ("TypebarMachine$Parser", "source", "LTypebarMachine$Row;", true)
  | 1 => ("TypebarMachine$Parser", "target", "LTypebarMachine$Machine;", true)
  | 2 => ("TypebarMachine$Parser", "end", "I", false)
  | 3 => ("TypebarMachine$Parser", "cursor", "I", false)
  | 4 => ("TypebarMachine$Parser", "kind", "I", false)
  | 5 => ("TypebarMachine$Parser", "start", "I", false)
  | 6 => ("TypebarMachine$Parser", "value", "I", false)
  | 7 => ("TypebarMachine$Parser", "code", "I", false)
  | _ => ("TypebarMachine$Parser", "position", "I", false)
def tyX5 : Nat → FieldType := fun k => match k with
  | 0 => .object "TypebarMachine$Row"
  | 1 => .object "TypebarMachine$Machine"
  | 2 => .int
  | 3 => .int
  | 4 => .int
  | 5 => .int
  | 6 => .int
  | 7 => .int
  | _ => .int
abbrev wsX50 : List Cond := u_ws RX5 TX5 9
theorem nmX5 : ∀ a, a < 9 → ∀ b, b < 9 → a ≠ b → (TX5 a).2.1 ≠ (TX5 b).2.1 := by decide +kernel
theorem tyX5_ok : ∀ k, k < 9 → parseFieldDescriptor (TX5 k).2.2.1 = some (tyX5 k) := by decide +kernel
abbrev cX5_init : ByteArray := prog_7_method_1_code
def yX5_init : MethodName := ⟨RX5, "<init>", "(LTypebarMachine$Row;LTypebarMachine$Machine;)V"⟩
abbrev cX5_parse : ByteArray := prog_7_method_2_code
def yX5_parse : MethodName := ⟨RX5, "parse", "(I)V"⟩
abbrev cX5_takeBar : ByteArray := prog_7_method_3_code
def yX5_takeBar : MethodName := ⟨RX5, "takeBar", "()V"⟩
abbrev cX5_takeTab : ByteArray := prog_7_method_4_code
def yX5_takeTab : MethodName := ⟨RX5, "takeTab", "()V"⟩
abbrev cX5_takeSettings : ByteArray := prog_7_method_5_code
def yX5_takeSettings : MethodName := ⟨RX5, "takeSettings", "(II)V"⟩
abbrev cX5_takeNumber : ByteArray := prog_7_method_6_code
def yX5_takeNumber : MethodName := ⟨RX5, "takeNumber", "(II)I"⟩
abbrev cX5_requireNumber : ByteArray := prog_7_method_7_code
def yX5_requireNumber : MethodName := ⟨RX5, "requireNumber", "(II)V"⟩
abbrev cX5_takeWord : ByteArray := prog_7_method_8_code
def yX5_takeWord : MethodName := ⟨RX5, "takeWord", "(Ljava/lang/String;)V"⟩
abbrev cX5_takeSemicolon : ByteArray := prog_7_method_9_code
def yX5_takeSemicolon : MethodName := ⟨RX5, "takeSemicolon", "()V"⟩
abbrev cX5_isWord : ByteArray := prog_7_method_10_code
def yX5_isWord : MethodName := ⟨RX5, "isWord", "(Ljava/lang/String;)Z"⟩
abbrev cX5_fail : ByteArray := prog_7_method_11_code
def yX5_fail : MethodName := ⟨RX5, "fail", "(I)V"⟩
abbrev cX5_readToken : ByteArray := prog_7_method_12_code
def yX5_readToken : MethodName := ⟨RX5, "readToken", "()V"⟩
abbrev cX5_readWord : ByteArray := prog_7_method_13_code
def yX5_readWord : MethodName := ⟨RX5, "readWord", "()V"⟩
abbrev cX5_readNumber : ByteArray := prog_7_method_14_code
def yX5_readNumber : MethodName := ⟨RX5, "readNumber", "()V"⟩
def RX6 : String := "TypebarMachine$Ribbon"
def TX6 : u_T := fun k => match k with
  | 0 => ("TypebarMachine$Ribbon", "settings", "LTypebarMachine$Row;", true)
  | 1 => ("TypebarMachine$Ribbon", "inks", "LTypebarMachine$Row;", true)
  | 2 => ("TypebarMachine$Ribbon", "head", "I", false)
  | 3 => ("TypebarMachine$Ribbon", "forward", "Z", false)
  | _ => ("TypebarMachine$Ribbon", "turns", "I", false)
def tyX6 : Nat → FieldType := fun k => match k with
  | 0 => .object "TypebarMachine$Row"
  | 1 => .object "TypebarMachine$Row"
  | 2 => .int
  | 3 => .boolean
  | _ => .int
abbrev wsX60 : List Cond := u_ws RX6 TX6 5
theorem nmX6 : ∀ a, a < 5 → ∀ b, b < 5 → a ≠ b → (TX6 a).2.1 ≠ (TX6 b).2.1 := by decide +kernel
theorem tyX6_ok : ∀ k, k < 5 → parseFieldDescriptor (TX6 k).2.2.1 = some (tyX6 k) := by decide +kernel
abbrev cX6_init : ByteArray := prog_8_method_1_code
def yX6_init : MethodName := ⟨RX6, "<init>", "(LTypebarMachine$Row;)V"⟩
abbrev cX6_copyFrom : ByteArray := prog_8_method_2_code
def yX6_copyFrom : MethodName := ⟨RX6, "copyFrom", "(LTypebarMachine$Ribbon;)V"⟩
abbrev cX6_renew : ByteArray := prog_8_method_3_code
def yX6_renew : MethodName := ⟨RX6, "renew", "()V"⟩
abbrev cX6_feed : ByteArray := prog_8_method_4_code
def yX6_feed : MethodName := ⟨RX6, "feed", "()I"⟩
abbrev cX6_allInk : ByteArray := prog_8_method_5_code
def yX6_allInk : MethodName := ⟨RX6, "allInk", "()I"⟩
abbrev cX6_dryPlaces : ByteArray := prog_8_method_6_code
def yX6_dryPlaces : MethodName := ⟨RX6, "dryPlaces", "()I"⟩
def RX7 : String := "TypebarMachine$Row"
def TX7 : u_T := fun k => match k with
  | _ => ("TypebarMachine$Row", "cells", "[I", true)
def tyX7 : Nat → FieldType := fun k => match k with
  | _ => .array .int
abbrev wsX70 : List Cond := u_ws RX7 TX7 1
theorem nmX7 : ∀ a, a < 1 → ∀ b, b < 1 → a ≠ b → (TX7 a).2.1 ≠ (TX7 b).2.1 := by decide +kernel
theorem tyX7_ok : ∀ k, k < 1 → parseFieldDescriptor (TX7 k).2.2.1 = some (tyX7 k) := by decide +kernel
abbrev cX7_init : ByteArray := prog_9_method_1_code
def yX7_init : MethodName := ⟨RX7, "<init>", "(I)V"⟩
abbrev cX7_at : ByteArray := prog_9_method_2_code
def yX7_at : MethodName := ⟨RX7, "at", "(I)I"⟩
abbrev cX7_put : ByteArray := prog_9_method_3_code
def yX7_put : MethodName := ⟨RX7, "put", "(II)V"⟩
abbrev cX7_fill : ByteArray := prog_9_method_4_code
def yX7_fill : MethodName := ⟨RX7, "fill", "(I)V"⟩
abbrev cX7_copyFrom : ByteArray := prog_9_method_5_code
def yX7_copyFrom : MethodName := ⟨RX7, "copyFrom", "(LTypebarMachine$Row;)V"⟩
def RX8 : String := "TypebarMachine$Slot"
def TX8 : u_T := fun k => match k with
  | 0 => ("TypebarMachine$Slot", "machine", "LTypebarMachine$Machine;", true)
  | _ => ("TypebarMachine$Slot", "filled", "Z", false)
def tyX8 : Nat → FieldType := fun k => match k with
  | 0 => .object "TypebarMachine$Machine"
  | _ => .boolean
abbrev wsX80 : List Cond := u_ws RX8 TX8 2
theorem nmX8 : ∀ a, a < 2 → ∀ b, b < 2 → a ≠ b → (TX8 a).2.1 ≠ (TX8 b).2.1 := by decide +kernel
theorem tyX8_ok : ∀ k, k < 2 → parseFieldDescriptor (TX8 k).2.2.1 = some (tyX8 k) := by decide +kernel
abbrev cX8_init : ByteArray := prog_10_method_1_code
def yX8_init : MethodName := ⟨RX8, "<init>", "()V"⟩
def RX9 : String := "TypebarMachine"
def TX9 : u_T := fun k => match k with
  | 0 => ("TypebarMachine", "input", "LTypebarMachine$Row;", true)
  | 1 => ("TypebarMachine", "inputSize", "I", false)
  | 2 => ("TypebarMachine", "loaded", "Z", false)
  | 3 => ("TypebarMachine", "now", "LTypebarMachine$Machine;", true)
  | 4 => ("TypebarMachine", "trial", "LTypebarMachine$Machine;", true)
  | 5 => ("TypebarMachine", "parser", "LTypebarMachine$Parser;", true)
  | 6 => ("TypebarMachine", "history", "LTypebarMachine$History;", true)
  | 7 => ("TypebarMachine", "firstSlot", "LTypebarMachine$Slot;", true)
  | 8 => ("TypebarMachine", "secondSlot", "LTypebarMachine$Slot;", true)
  | 9 => ("TypebarMachine", "written", "LTypebarMachine$Row;", true)
  | 10 => ("TypebarMachine", "writtenSize", "I", false)
  | _ => ("TypebarMachine", "reach", "LTypebarMachine$Row;", true)
def tyX9 : Nat → FieldType := fun k => match k with
  | 0 => .object "TypebarMachine$Row"
  | 1 => .int
  | 2 => .boolean
  | 3 => .object "TypebarMachine$Machine"
  | 4 => .object "TypebarMachine$Machine"
  | 5 => .object "TypebarMachine$Parser"
  | 6 => .object "TypebarMachine$History"
  | 7 => .object "TypebarMachine$Slot"
  | 8 => .object "TypebarMachine$Slot"
  | 9 => .object "TypebarMachine$Row"
  | 10 => .int
  | _ => .object "TypebarMachine$Row"
abbrev wsX90 : List Cond := u_ws RX9 TX9 12
theorem nmX9 : ∀ a, a < 12 → ∀ b, b < 12 → a ≠ b → (TX9 a).2.1 ≠ (TX9 b).2.1 := by decide +kernel
theorem tyX9_ok : ∀ k, k < 12 → parseFieldDescriptor (TX9 k).2.2.1 = some (tyX9 k) := by decide +kernel
abbrev cX9_init : ByteArray := prog_1_method_1_code
def yX9_init : MethodName := ⟨RX9, "<init>", "()V"⟩
abbrev cX9_append : ByteArray := prog_1_method_2_code
def yX9_append : MethodName := ⟨RX9, "append", "(IIIII)I"⟩
abbrev cX9_appendFour : ByteArray := prog_1_method_3_code
def yX9_appendFour : MethodName := ⟨RX9, "appendFour", "(I)V"⟩
abbrev cX9_load : ByteArray := prog_1_method_4_code
def yX9_load : MethodName := ⟨RX9, "load", "(I)I"⟩
abbrev cX9_parseError : ByteArray := prog_1_method_5_code
def yX9_parseError : MethodName := ⟨RX9, "parseError", "()I"⟩
abbrev cX9_errorPosition : ByteArray := prog_1_method_6_code
def yX9_errorPosition : MethodName := ⟨RX9, "errorPosition", "()I"⟩
abbrev cX9_buffered : ByteArray := prog_1_method_7_code
def yX9_buffered : MethodName := ⟨RX9, "buffered", "()I"⟩
abbrev cX9_count : ByteArray := prog_1_method_8_code
def yX9_count : MethodName := ⟨RX9, "count", "(I)I"⟩
abbrev cX9_setting : ByteArray := prog_1_method_9_code
def yX9_setting : MethodName := ⟨RX9, "setting", "(I)I"⟩
abbrev cX9_carriage : ByteArray := prog_1_method_10_code
def yX9_carriage : MethodName := ⟨RX9, "carriage", "(I)I"⟩
abbrev cX9_bar : ByteArray := prog_1_method_11_code
def yX9_bar : MethodName := ⟨RX9, "bar", "(II)I"⟩
abbrev cX9_barOf : ByteArray := prog_1_method_12_code
def yX9_barOf : MethodName := ⟨RX9, "barOf", "(I)I"⟩
abbrev cX9_latest : ByteArray := prog_1_method_13_code
def yX9_latest : MethodName := ⟨RX9, "latest", "()I"⟩
abbrev cX9_ribbon : ByteArray := prog_1_method_14_code
def yX9_ribbon : MethodName := ⟨RX9, "ribbon", "(I)I"⟩
abbrev cX9_head : ByteArray := prog_1_method_15_code
def yX9_head : MethodName := ⟨RX9, "head", "(I)I"⟩
abbrev cX9_sign : ByteArray := prog_1_method_16_code
def yX9_sign : MethodName := ⟨RX9, "sign", "(II)I"⟩
abbrev cX9_darkness : ByteArray := prog_1_method_17_code
def yX9_darkness : MethodName := ⟨RX9, "darkness", "(II)I"⟩
abbrev cX9_isStop : ByteArray := prog_1_method_18_code
def yX9_isStop : MethodName := ⟨RX9, "isStop", "(I)Z"⟩
abbrev cX9_reason : ByteArray := prog_1_method_19_code
def yX9_reason : MethodName := ⟨RX9, "reason", "()I"⟩
abbrev cX9_reasonAt : ByteArray := prog_1_method_20_code
def yX9_reasonAt : MethodName := ⟨RX9, "reasonAt", "()I"⟩
abbrev cX9_lineLength : ByteArray := prog_1_method_21_code
def yX9_lineLength : MethodName := ⟨RX9, "lineLength", "(I)I"⟩
abbrev cX9_words : ByteArray := prog_1_method_22_code
def yX9_words : MethodName := ⟨RX9, "words", "(I)I"⟩
abbrev cX9_letters : ByteArray := prog_1_method_23_code
def yX9_letters : MethodName := ⟨RX9, "letters", "(I)I"⟩
abbrev cX9_palest : ByteArray := prog_1_method_24_code
def yX9_palest : MethodName := ⟨RX9, "palest", "()I"⟩
abbrev cX9_meanDarkness : ByteArray := prog_1_method_25_code
def yX9_meanDarkness : MethodName := ⟨RX9, "meanDarkness", "()D"⟩
abbrev cX9_inkShare : ByteArray := prog_1_method_26_code
def yX9_inkShare : MethodName := ⟨RX9, "inkShare", "()F"⟩
abbrev cX9_slowest : ByteArray := prog_1_method_27_code
def yX9_slowest : MethodName := ⟨RX9, "slowest", "()I"⟩
abbrev cX9_nextStop : ByteArray := prog_1_method_28_code
def yX9_nextStop : MethodName := ⟨RX9, "nextStop", "(I)I"⟩
abbrev cX9_bellIn : ByteArray := prog_1_method_29_code
def yX9_bellIn : MethodName := ⟨RX9, "bellIn", "()I"⟩
abbrev cX9_wouldBe : ByteArray := prog_1_method_30_code
def yX9_wouldBe : MethodName := ⟨RX9, "wouldBe", "(IZ)I"⟩
abbrev cX9_freeIn : ByteArray := prog_1_method_31_code
def yX9_freeIn : MethodName := ⟨RX9, "freeIn", "(I)I"⟩
abbrev cX9_paceOf : ByteArray := prog_1_method_32_code
def yX9_paceOf : MethodName := ⟨RX9, "paceOf", "(II)I"⟩
abbrev cX9_worstPair : ByteArray := prog_1_method_33_code
def yX9_worstPair : MethodName := ⟨RX9, "worstPair", "()I"⟩
abbrev cX9_wouldType : ByteArray := prog_1_method_34_code
def yX9_wouldType : MethodName := ⟨RX9, "wouldType", "(II)I"⟩
abbrev cX9_paceFor : ByteArray := prog_1_method_35_code
def yX9_paceFor : MethodName := ⟨RX9, "paceFor", "(I)I"⟩
abbrev cX9_keysTo : ByteArray := prog_1_method_36_code
def yX9_keysTo : MethodName := ⟨RX9, "keysTo", "(I)I"⟩
abbrev cX9_printsLeft : ByteArray := prog_1_method_37_code
def yX9_printsLeft : MethodName := ⟨RX9, "printsLeft", "()I"⟩
abbrev cX9_writeLine : ByteArray := prog_1_method_38_code
def yX9_writeLine : MethodName := ⟨RX9, "writeLine", "(I)I"⟩
abbrev cX9_writeShades : ByteArray := prog_1_method_39_code
def yX9_writeShades : MethodName := ⟨RX9, "writeShades", "(I)I"⟩
abbrev cX9_writeRuler : ByteArray := prog_1_method_40_code
def yX9_writeRuler : MethodName := ⟨RX9, "writeRuler", "()I"⟩
abbrev cX9_rulerMark : ByteArray := prog_1_method_41_code
def yX9_rulerMark : MethodName := ⟨RX9, "rulerMark", "(I)I"⟩
abbrev cX9_textByte : ByteArray := prog_1_method_42_code
def yX9_textByte : MethodName := ⟨RX9, "textByte", "(I)I"⟩
abbrev cX9_strike : ByteArray := prog_1_method_43_code
def yX9_strike : MethodName := ⟨RX9, "strike", "(IZ)I"⟩
abbrev cX9_press : ByteArray := prog_1_method_44_code
def yX9_press : MethodName := ⟨RX9, "press", "(I)I"⟩
abbrev cX9_type : ByteArray := prog_1_method_45_code
def yX9_type : MethodName := ⟨RX9, "type", "(I)I"⟩
abbrev cX9_setStop : ByteArray := prog_1_method_46_code
def yX9_setStop : MethodName := ⟨RX9, "setStop", "(IZ)Z"⟩
abbrev cX9_setMargin : ByteArray := prog_1_method_47_code
def yX9_setMargin : MethodName := ⟨RX9, "setMargin", "(ZI)I"⟩
abbrev cX9_set : ByteArray := prog_1_method_48_code
def yX9_set : MethodName := ⟨RX9, "set", "(II)I"⟩
abbrev cX9_replaceSetting : ByteArray := prog_1_method_49_code
def yX9_replaceSetting : MethodName := ⟨RX9, "replaceSetting", "(II)I"⟩
abbrev cX9_rest : ByteArray := prog_1_method_50_code
def yX9_rest : MethodName := ⟨RX9, "rest", "(I)I"⟩
abbrev cX9_newRibbon : ByteArray := prog_1_method_51_code
def yX9_newRibbon : MethodName := ⟨RX9, "newRibbon", "()I"⟩
abbrev cX9_newPage : ByteArray := prog_1_method_52_code
def yX9_newPage : MethodName := ⟨RX9, "newPage", "()I"⟩
abbrev cX9_undo : ByteArray := prog_1_method_53_code
def yX9_undo : MethodName := ⟨RX9, "undo", "()I"⟩
abbrev cX9_undoable : ByteArray := prog_1_method_54_code
def yX9_undoable : MethodName := ⟨RX9, "undoable", "()I"⟩
abbrev cX9_save : ByteArray := prog_1_method_55_code
def yX9_save : MethodName := ⟨RX9, "save", "(I)I"⟩
abbrev cX9_restore : ByteArray := prog_1_method_56_code
def yX9_restore : MethodName := ⟨RX9, "restore", "(I)I"⟩
abbrev cX9_slotOf : ByteArray := prog_1_method_57_code
def yX9_slotOf : MethodName := ⟨RX9, "slotOf", "(I)LTypebarMachine$Slot;"⟩
abbrev cX9_requireLoaded : ByteArray := prog_1_method_58_code
def yX9_requireLoaded : MethodName := ⟨RX9, "requireLoaded", "()V"⟩
abbrev cX9_requireBytes : ByteArray := prog_1_method_59_code
def yX9_requireBytes : MethodName := ⟨RX9, "requireBytes", "(I)V"⟩
abbrev cX9_requireBar : ByteArray := prog_1_method_60_code
def yX9_requireBar : MethodName := ⟨RX9, "requireBar", "(I)V"⟩
abbrev cX9_requireLine : ByteArray := prog_1_method_61_code
def yX9_requireLine : MethodName := ⟨RX9, "requireLine", "(I)V"⟩
abbrev cX9_requireColumn : ByteArray := prog_1_method_62_code
def yX9_requireColumn : MethodName := ⟨RX9, "requireColumn", "(I)V"⟩
abbrev cX9_requireCarriageColumn : ByteArray := prog_1_method_63_code
def yX9_requireCarriageColumn : MethodName := ⟨RX9, "requireCarriageColumn", "(I)V"⟩
abbrev cX9_requireSlot : ByteArray := prog_1_method_64_code
def yX9_requireSlot : MethodName := ⟨RX9, "requireSlot", "(I)V"⟩
abbrev cX9_requireIndex : ByteArray := prog_1_method_65_code
def yX9_requireIndex : MethodName := ⟨RX9, "requireIndex", "(Z)V"⟩
abbrev cX9_requireArgument : ByteArray := prog_1_method_66_code
def yX9_requireArgument : MethodName := ⟨RX9, "requireArgument", "(Z)V"⟩
abbrev cX9_isSettable : ByteArray := prog_1_method_67_code
def yX9_isSettable : MethodName := ⟨RX9, "isSettable", "(I)Z"⟩
abbrev cX9_lowest : ByteArray := prog_1_method_68_code
def yX9_lowest : MethodName := ⟨RX9, "lowest", "(LTypebarMachine$Row;I)I"⟩
abbrev cX9_highest : ByteArray := prog_1_method_69_code
def yX9_highest : MethodName := ⟨RX9, "highest", "(LTypebarMachine$Row;I)I"⟩
abbrev cX9_isSmall : ByteArray := prog_1_method_70_code
def yX9_isSmall : MethodName := ⟨RX9, "isSmall", "(I)Z"⟩
abbrev cX9_isCapital : ByteArray := prog_1_method_71_code
def yX9_isCapital : MethodName := ⟨RX9, "isCapital", "(I)Z"⟩
abbrev cX9_isDigit : ByteArray := prog_1_method_72_code
def yX9_isDigit : MethodName := ⟨RX9, "isDigit", "(I)Z"⟩
abbrev cX9_keyOf : ByteArray := prog_1_method_73_code
def yX9_keyOf : MethodName := ⟨RX9, "keyOf", "(I)I"⟩
def RX10 : String := "TypebarMachineModel"
def TX10 : u_T := fun k => match k with
  | 0 => ("TypebarMachineModel", "thrown", "I", false)
  | 1 => ("TypebarMachineModel", "isLoaded", "Z", false)
  | 2 => ("TypebarMachineModel", "bars", "I", false)
  | 3 => ("TypebarMachineModel", "letters", "[I", true)
  | 4 => ("TypebarMachineModel", "angles", "[I", true)
  | 5 => ("TypebarMachineModel", "s", "[I", true)
  | 6 => ("TypebarMachineModel", "aside", "[I", true)
  | 7 => ("TypebarMachineModel", "stores", "[I", true)
  | 8 => ("TypebarMachineModel", "changes", "I", false)
  | 9 => ("TypebarMachineModel", "isKept", "[Z", true)
  | 10 => ("TypebarMachineModel", "buffer", "[I", true)
  | 11 => ("TypebarMachineModel", "buffered", "I", false)
  | 12 => ("TypebarMachineModel", "parseError", "I", false)
  | 13 => ("TypebarMachineModel", "errorPosition", "I", false)
  | 14 => ("TypebarMachineModel", "length", "I", false)
  | 15 => ("TypebarMachineModel", "next", "I", false)
  | 16 => ("TypebarMachineModel", "from", "I", false)
  | 17 => ("TypebarMachineModel", "sort", "I", false)
  | 18 => ("TypebarMachineModel", "number", "I", false)
  | 19 => ("TypebarMachineModel", "wrong", "I", false)
  | 20 => ("TypebarMachineModel", "wrongAt", "I", false)
  | 21 => ("TypebarMachineModel", "heldRow", "[I", true)
  | 22 => ("TypebarMachineModel", "heldLetters", "[I", true)
  | 23 => ("TypebarMachineModel", "heldAngles", "[I", true)
  | 24 => ("TypebarMachineModel", "heldBars", "I", false)
  | 25 => ("TypebarMachineModel", "latestInk", "I", false)
  | 26 => ("TypebarMachineModel", "far", "[I", true)
  | 27 => ("TypebarMachineModel", "queue", "[I", true)
  | 28 => ("TypebarMachineModel", "queued", "I", false)
  | 29 => ("TypebarMachineModel", "text", "[I", true)
  | _ => ("TypebarMachineModel", "textLong", "I", false)
def tyX10 : Nat → FieldType := fun k => match k with
  | 0 => .int
  | 1 => .boolean
  | 2 => .int
  | 3 => .array .int
  | 4 => .array .int
  | 5 => .array .int
  | 6 => .array .int
  | 7 => .array .int
  | 8 => .int
  | 9 => .array .boolean
  | 10 => .array .int
  | 11 => .int
  | 12 => .int
  | 13 => .int
  | 14 => .int
  | 15 => .int
  | 16 => .int
  | 17 => .int
  | 18 => .int
  | 19 => .int
  | 20 => .int
  | 21 => .array .int
  | 22 => .array .int
  | 23 => .array .int
  | 24 => .int
  | 25 => .int
  | 26 => .array .int
  | 27 => .array .int
  | 28 => .int
  | 29 => .array .int
  | _ => .int
abbrev wsX100 : List Cond := u_ws RX10 TX10 31
theorem nmX10 : ∀ a, a < 31 → ∀ b, b < 31 → a ≠ b → (TX10 a).2.1 ≠ (TX10 b).2.1 := by decide +kernel
theorem tyX10_ok : ∀ k, k < 31 → parseFieldDescriptor (TX10 k).2.2.1 = some (tyX10 k) := by decide +kernel
abbrev cX10_init : ByteArray := prog_12_method_1_code
def yX10_init : MethodName := ⟨RX10, "<init>", "()V"⟩
abbrev cX10_thrown : ByteArray := prog_12_method_2_code
def yX10_thrown : MethodName := ⟨RX10, "thrown", "()I"⟩
abbrev cX10_in : ByteArray := prog_12_method_3_code
def yX10_in : MethodName := ⟨RX10, "in", "(III)Z"⟩
abbrev cX10_flag : ByteArray := prog_12_method_4_code
def yX10_flag : MethodName := ⟨RX10, "flag", "(Z)I"⟩
abbrev cX10_refuse : ByteArray := prog_12_method_5_code
def yX10_refuse : MethodName := ⟨RX10, "refuse", "(ZI)Z"⟩
abbrev cX10_notLoaded : ByteArray := prog_12_method_6_code
def yX10_notLoaded : MethodName := ⟨RX10, "notLoaded", "()Z"⟩
abbrev cX10_append : ByteArray := prog_12_method_7_code
def yX10_append : MethodName := ⟨RX10, "append", "(IIIII)I"⟩
abbrev cX10_buffered : ByteArray := prog_12_method_8_code
def yX10_buffered : MethodName := ⟨RX10, "buffered", "()I"⟩
abbrev cX10_parseError : ByteArray := prog_12_method_9_code
def yX10_parseError : MethodName := ⟨RX10, "parseError", "()I"⟩
abbrev cX10_errorPosition : ByteArray := prog_12_method_10_code
def yX10_errorPosition : MethodName := ⟨RX10, "errorPosition", "()I"⟩
abbrev cX10_seen : ByteArray := prog_12_method_11_code
def yX10_seen : MethodName := ⟨RX10, "seen", "(I)I"⟩
abbrev cX10_isSmall : ByteArray := prog_12_method_12_code
def yX10_isSmall : MethodName := ⟨RX10, "isSmall", "(I)Z"⟩
abbrev cX10_isDigit : ByteArray := prog_12_method_13_code
def yX10_isDigit : MethodName := ⟨RX10, "isDigit", "(I)Z"⟩
abbrev cX10_token : ByteArray := prog_12_method_14_code
def yX10_token : MethodName := ⟨RX10, "token", "()V"⟩
abbrev cX10_fails : ByteArray := prog_12_method_15_code
def yX10_fails : MethodName := ⟨RX10, "fails", "(I)V"⟩
abbrev cX10_failsIf : ByteArray := prog_12_method_16_code
def yX10_failsIf : MethodName := ⟨RX10, "failsIf", "(ZI)V"⟩
abbrev cX10_goesOn : ByteArray := prog_12_method_17_code
def yX10_goesOn : MethodName := ⟨RX10, "goesOn", "()V"⟩
abbrev cX10_isWord : ByteArray := prog_12_method_18_code
def yX10_isWord : MethodName := ⟨RX10, "isWord", "(Ljava/lang/String;)Z"⟩
abbrev cX10_word : ByteArray := prog_12_method_19_code
def yX10_word : MethodName := ⟨RX10, "word", "(Ljava/lang/String;)V"⟩
abbrev cX10_looks : ByteArray := prog_12_method_20_code
def yX10_looks : MethodName := ⟨RX10, "looks", "(II)I"⟩
abbrev cX10_takes : ByteArray := prog_12_method_21_code
def yX10_takes : MethodName := ⟨RX10, "takes", "(II)I"⟩
abbrev cX10_semicolon : ByteArray := prog_12_method_22_code
def yX10_semicolon : MethodName := ⟨RX10, "semicolon", "()V"⟩
abbrev cX10_holds : ByteArray := prog_12_method_23_code
def yX10_holds : MethodName := ⟨RX10, "holds", "()V"⟩
abbrev cX10_laysBack : ByteArray := prog_12_method_24_code
def yX10_laysBack : MethodName := ⟨RX10, "laysBack", "()V"⟩
abbrev cX10_its : ByteArray := prog_12_method_25_code
def yX10_its : MethodName := ⟨RX10, "its", "(I)I"⟩
abbrev cX10_puts : ByteArray := prog_12_method_26_code
def yX10_puts : MethodName := ⟨RX10, "puts", "(II)V"⟩
abbrev cX10_clears : ByteArray := prog_12_method_27_code
def yX10_clears : MethodName := ⟨RX10, "clears", "()V"⟩
abbrev cX10_withLetter : ByteArray := prog_12_method_28_code
def yX10_withLetter : MethodName := ⟨RX10, "withLetter", "(I)I"⟩
abbrev cX10_barLine : ByteArray := prog_12_method_29_code
def yX10_barLine : MethodName := ⟨RX10, "barLine", "()V"⟩
abbrev cX10_tabLine : ByteArray := prog_12_method_30_code
def yX10_tabLine : MethodName := ⟨RX10, "tabLine", "()V"⟩
abbrev cX10_line : ByteArray := prog_12_method_31_code
def yX10_line : MethodName := ⟨RX10, "line", "()V"⟩
abbrev cX10_readsHead : ByteArray := prog_12_method_32_code
def yX10_readsHead : MethodName := ⟨RX10, "readsHead", "()V"⟩
abbrev cX10_reads : ByteArray := prog_12_method_33_code
def yX10_reads : MethodName := ⟨RX10, "reads", "(I)V"⟩
abbrev cX10_fillsRibbon : ByteArray := prog_12_method_34_code
def yX10_fillsRibbon : MethodName := ⟨RX10, "fillsRibbon", "()V"⟩
abbrev cX10_load : ByteArray := prog_12_method_35_code
def yX10_load : MethodName := ⟨RX10, "load", "(I)I"⟩
abbrev cX10_struckAt : ByteArray := prog_12_method_36_code
def yX10_struckAt : MethodName := ⟨RX10, "struckAt", "(I)I"⟩
abbrev cX10_rise : ByteArray := prog_12_method_37_code
def yX10_rise : MethodName := ⟨RX10, "rise", "(I)I"⟩
abbrev cX10_backIn : ByteArray := prog_12_method_38_code
def yX10_backIn : MethodName := ⟨RX10, "backIn", "(II)I"⟩
abbrev cX10_clearance : ByteArray := prog_12_method_39_code
def yX10_clearance : MethodName := ⟨RX10, "clearance", "(II)I"⟩
abbrev cX10_wouldJam : ByteArray := prog_12_method_40_code
def yX10_wouldJam : MethodName := ⟨RX10, "wouldJam", "(II)Z"⟩
abbrev cX10_isLocked : ByteArray := prog_12_method_41_code
def yX10_isLocked : MethodName := ⟨RX10, "isLocked", "(I)Z"⟩
abbrev cX10_reasonOf : ByteArray := prog_12_method_42_code
def yX10_reasonOf : MethodName := ⟨RX10, "reasonOf", "(II)I"⟩
abbrev cX10_counts : ByteArray := prog_12_method_43_code
def yX10_counts : MethodName := ⟨RX10, "counts", "(I)V"⟩
abbrev cX10_advances : ByteArray := prog_12_method_44_code
def yX10_advances : MethodName := ⟨RX10, "advances", "()V"⟩
abbrev cX10_runsOn : ByteArray := prog_12_method_45_code
def yX10_runsOn : MethodName := ⟨RX10, "runsOn", "()V"⟩
abbrev cX10_prints : ByteArray := prog_12_method_46_code
def yX10_prints : MethodName := ⟨RX10, "prints", "(I)V"⟩
abbrev cX10_strikes : ByteArray := prog_12_method_47_code
def yX10_strikes : MethodName := ⟨RX10, "strikes", "(IZ)V"⟩
abbrev cX10_ends : ByteArray := prog_12_method_48_code
def yX10_ends : MethodName := ⟨RX10, "ends", "(I)I"⟩
abbrev cX10_begins : ByteArray := prog_12_method_49_code
def yX10_begins : MethodName := ⟨RX10, "begins", "()V"⟩
abbrev cX10_letterKey : ByteArray := prog_12_method_50_code
def yX10_letterKey : MethodName := ⟨RX10, "letterKey", "(IZ)I"⟩
abbrev cX10_spaceKey : ByteArray := prog_12_method_51_code
def yX10_spaceKey : MethodName := ⟨RX10, "spaceKey", "()I"⟩
abbrev cX10_stopFrom : ByteArray := prog_12_method_52_code
def yX10_stopFrom : MethodName := ⟨RX10, "stopFrom", "(I)I"⟩
abbrev cX10_backFrom : ByteArray := prog_12_method_53_code
def yX10_backFrom : MethodName := ⟨RX10, "backFrom", "(I)I"⟩
abbrev cX10_returnKey : ByteArray := prog_12_method_54_code
def yX10_returnKey : MethodName := ⟨RX10, "returnKey", "()I"⟩
abbrev cX10_frees : ByteArray := prog_12_method_55_code
def yX10_frees : MethodName := ⟨RX10, "frees", "()V"⟩
abbrev cX10_goes : ByteArray := prog_12_method_56_code
def yX10_goes : MethodName := ⟨RX10, "goes", "(I)I"⟩
abbrev cX10_otherKey : ByteArray := prog_12_method_57_code
def yX10_otherKey : MethodName := ⟨RX10, "otherKey", "(I)I"⟩
abbrev cX10_isCapital : ByteArray := prog_12_method_58_code
def yX10_isCapital : MethodName := ⟨RX10, "isCapital", "(I)Z"⟩
abbrev cX10_barFor : ByteArray := prog_12_method_59_code
def yX10_barFor : MethodName := ⟨RX10, "barFor", "(I)I"⟩
abbrev cX10_keyFor : ByteArray := prog_12_method_60_code
def yX10_keyFor : MethodName := ⟨RX10, "keyFor", "(I)I"⟩
abbrev cX10_types : ByteArray := prog_12_method_61_code
def yX10_types : MethodName := ⟨RX10, "types", "(I)I"⟩
abbrev cX10_typesAll : ByteArray := prog_12_method_62_code
def yX10_typesAll : MethodName := ⟨RX10, "typesAll", "(I)I"⟩
abbrev cX10_stops : ByteArray := prog_12_method_63_code
def yX10_stops : MethodName := ⟨RX10, "stops", "()I"⟩
abbrev cX10_count : ByteArray := prog_12_method_64_code
def yX10_count : MethodName := ⟨RX10, "count", "(I)I"⟩
abbrev cX10_setting : ByteArray := prog_12_method_65_code
def yX10_setting : MethodName := ⟨RX10, "setting", "(I)I"⟩
abbrev cX10_carriage : ByteArray := prog_12_method_66_code
def yX10_carriage : MethodName := ⟨RX10, "carriage", "(I)I"⟩
abbrev cX10_isBar : ByteArray := prog_12_method_67_code
def yX10_isBar : MethodName := ⟨RX10, "isBar", "(I)Z"⟩
abbrev cX10_noBar : ByteArray := prog_12_method_68_code
def yX10_noBar : MethodName := ⟨RX10, "noBar", "(I)Z"⟩
abbrev cX10_bar : ByteArray := prog_12_method_69_code
def yX10_bar : MethodName := ⟨RX10, "bar", "(II)I"⟩
abbrev cX10_barOf : ByteArray := prog_12_method_70_code
def yX10_barOf : MethodName := ⟨RX10, "barOf", "(I)I"⟩
abbrev cX10_latest : ByteArray := prog_12_method_71_code
def yX10_latest : MethodName := ⟨RX10, "latest", "()I"⟩
abbrev cX10_ribbon : ByteArray := prog_12_method_72_code
def yX10_ribbon : MethodName := ⟨RX10, "ribbon", "(I)I"⟩
abbrev cX10_allInk : ByteArray := prog_12_method_73_code
def yX10_allInk : MethodName := ⟨RX10, "allInk", "()I"⟩
abbrev cX10_dryPlaces : ByteArray := prog_12_method_74_code
def yX10_dryPlaces : MethodName := ⟨RX10, "dryPlaces", "()I"⟩
abbrev cX10_head : ByteArray := prog_12_method_75_code
def yX10_head : MethodName := ⟨RX10, "head", "(I)I"⟩
abbrev cX10_isLine : ByteArray := prog_12_method_76_code
def yX10_isLine : MethodName := ⟨RX10, "isLine", "(I)Z"⟩
abbrev cX10_isColumn : ByteArray := prog_12_method_77_code
def yX10_isColumn : MethodName := ⟨RX10, "isColumn", "(I)Z"⟩
abbrev cX10_noPlace : ByteArray := prog_12_method_78_code
def yX10_noPlace : MethodName := ⟨RX10, "noPlace", "(II)Z"⟩
abbrev cX10_noLine : ByteArray := prog_12_method_79_code
def yX10_noLine : MethodName := ⟨RX10, "noLine", "(I)Z"⟩
abbrev cX10_signAt : ByteArray := prog_12_method_80_code
def yX10_signAt : MethodName := ⟨RX10, "signAt", "(II)I"⟩
abbrev cX10_darkAt : ByteArray := prog_12_method_81_code
def yX10_darkAt : MethodName := ⟨RX10, "darkAt", "(II)I"⟩
abbrev cX10_sign : ByteArray := prog_12_method_82_code
def yX10_sign : MethodName := ⟨RX10, "sign", "(II)I"⟩
abbrev cX10_darkness : ByteArray := prog_12_method_83_code
def yX10_darkness : MethodName := ⟨RX10, "darkness", "(II)I"⟩
abbrev cX10_isStop : ByteArray := prog_12_method_84_code
def yX10_isStop : MethodName := ⟨RX10, "isStop", "(I)Z"⟩
abbrev cX10_reason : ByteArray := prog_12_method_85_code
def yX10_reason : MethodName := ⟨RX10, "reason", "()I"⟩
abbrev cX10_reasonAt : ByteArray := prog_12_method_86_code
def yX10_reasonAt : MethodName := ⟨RX10, "reasonAt", "()I"⟩
abbrev cX10_longOf : ByteArray := prog_12_method_87_code
def yX10_longOf : MethodName := ⟨RX10, "longOf", "(I)I"⟩
abbrev cX10_lineLength : ByteArray := prog_12_method_88_code
def yX10_lineLength : MethodName := ⟨RX10, "lineLength", "(I)I"⟩
abbrev cX10_words : ByteArray := prog_12_method_89_code
def yX10_words : MethodName := ⟨RX10, "words", "(I)I"⟩
abbrev cX10_letters : ByteArray := prog_12_method_90_code
def yX10_letters : MethodName := ⟨RX10, "letters", "(I)I"⟩
abbrev cX10_filled : ByteArray := prog_12_method_91_code
def yX10_filled : MethodName := ⟨RX10, "filled", "()I"⟩
abbrev cX10_palest : ByteArray := prog_12_method_92_code
def yX10_palest : MethodName := ⟨RX10, "palest", "()I"⟩
abbrev cX10_meanDarkness : ByteArray := prog_12_method_93_code
def yX10_meanDarkness : MethodName := ⟨RX10, "meanDarkness", "()D"⟩
abbrev cX10_inkShare : ByteArray := prog_12_method_94_code
def yX10_inkShare : MethodName := ⟨RX10, "inkShare", "()F"⟩
abbrev cX10_slowest : ByteArray := prog_12_method_95_code
def yX10_slowest : MethodName := ⟨RX10, "slowest", "()I"⟩
abbrev cX10_nextStop : ByteArray := prog_12_method_96_code
def yX10_nextStop : MethodName := ⟨RX10, "nextStop", "(I)I"⟩
abbrev cX10_bellIn : ByteArray := prog_12_method_97_code
def yX10_bellIn : MethodName := ⟨RX10, "bellIn", "()I"⟩
abbrev cX10_wouldBe : ByteArray := prog_12_method_98_code
def yX10_wouldBe : MethodName := ⟨RX10, "wouldBe", "(IZ)I"⟩
abbrev cX10_freeIn : ByteArray := prog_12_method_99_code
def yX10_freeIn : MethodName := ⟨RX10, "freeIn", "(I)I"⟩
abbrev cX10_paceBetween : ByteArray := prog_12_method_100_code
def yX10_paceBetween : MethodName := ⟨RX10, "paceBetween", "(II)I"⟩
abbrev cX10_paceOf : ByteArray := prog_12_method_101_code
def yX10_paceOf : MethodName := ⟨RX10, "paceOf", "(II)I"⟩
abbrev cX10_worstPair : ByteArray := prog_12_method_102_code
def yX10_worstPair : MethodName := ⟨RX10, "worstPair", "()I"⟩
abbrev cX10_putsAside : ByteArray := prog_12_method_103_code
def yX10_putsAside : MethodName := ⟨RX10, "putsAside", "()V"⟩
abbrev cX10_fetchesBack : ByteArray := prog_12_method_104_code
def yX10_fetchesBack : MethodName := ⟨RX10, "fetchesBack", "(I)I"⟩
abbrev cX10_noBytes : ByteArray := prog_12_method_105_code
def yX10_noBytes : MethodName := ⟨RX10, "noBytes", "(I)Z"⟩
abbrev cX10_wouldType : ByteArray := prog_12_method_106_code
def yX10_wouldType : MethodName := ⟨RX10, "wouldType", "(II)I"⟩
abbrev cX10_paceFor : ByteArray := prog_12_method_107_code
def yX10_paceFor : MethodName := ⟨RX10, "paceFor", "(I)I"⟩
abbrev cX10_reaches : ByteArray := prog_12_method_108_code
def yX10_reaches : MethodName := ⟨RX10, "reaches", "(II)V"⟩
abbrev cX10_keysTo : ByteArray := prog_12_method_109_code
def yX10_keysTo : MethodName := ⟨RX10, "keysTo", "(I)I"⟩
abbrev cX10_printsLeft : ByteArray := prog_12_method_110_code
def yX10_printsLeft : MethodName := ⟨RX10, "printsLeft", "()I"⟩
abbrev cX10_says : ByteArray := prog_12_method_111_code
def yX10_says : MethodName := ⟨RX10, "says", "(I)V"⟩
abbrev cX10_writeLine : ByteArray := prog_12_method_112_code
def yX10_writeLine : MethodName := ⟨RX10, "writeLine", "(I)I"⟩
abbrev cX10_writeShades : ByteArray := prog_12_method_113_code
def yX10_writeShades : MethodName := ⟨RX10, "writeShades", "(I)I"⟩
abbrev cX10_rulerSign : ByteArray := prog_12_method_114_code
def yX10_rulerSign : MethodName := ⟨RX10, "rulerSign", "(I)I"⟩
abbrev cX10_writeRuler : ByteArray := prog_12_method_115_code
def yX10_writeRuler : MethodName := ⟨RX10, "writeRuler", "()I"⟩
abbrev cX10_textByte : ByteArray := prog_12_method_116_code
def yX10_textByte : MethodName := ⟨RX10, "textByte", "(I)I"⟩
abbrev cX10_keeps : ByteArray := prog_12_method_117_code
def yX10_keeps : MethodName := ⟨RX10, "keeps", "(I)V"⟩
abbrev cX10_fetches : ByteArray := prog_12_method_118_code
def yX10_fetches : MethodName := ⟨RX10, "fetches", "(I)V"⟩
abbrev cX10_keepsAll : ByteArray := prog_12_method_119_code
def yX10_keepsAll : MethodName := ⟨RX10, "keepsAll", "()V"⟩
abbrev cX10_strike : ByteArray := prog_12_method_120_code
def yX10_strike : MethodName := ⟨RX10, "strike", "(IZ)I"⟩
abbrev cX10_press : ByteArray := prog_12_method_121_code
def yX10_press : MethodName := ⟨RX10, "press", "(I)I"⟩
abbrev cX10_type : ByteArray := prog_12_method_122_code
def yX10_type : MethodName := ⟨RX10, "type", "(I)I"⟩
abbrev cX10_setStop : ByteArray := prog_12_method_123_code
def yX10_setStop : MethodName := ⟨RX10, "setStop", "(IZ)Z"⟩
abbrev cX10_replaces : ByteArray := prog_12_method_124_code
def yX10_replaces : MethodName := ⟨RX10, "replaces", "(II)I"⟩
abbrev cX10_setMargin : ByteArray := prog_12_method_125_code
def yX10_setMargin : MethodName := ⟨RX10, "setMargin", "(ZI)I"⟩
abbrev cX10_maySet : ByteArray := prog_12_method_126_code
def yX10_maySet : MethodName := ⟨RX10, "maySet", "(II)Z"⟩
abbrev cX10_set : ByteArray := prog_12_method_127_code
def yX10_set : MethodName := ⟨RX10, "set", "(II)I"⟩
abbrev cX10_rest : ByteArray := prog_12_method_128_code
def yX10_rest : MethodName := ⟨RX10, "rest", "(I)I"⟩
abbrev cX10_newRibbon : ByteArray := prog_12_method_129_code
def yX10_newRibbon : MethodName := ⟨RX10, "newRibbon", "()I"⟩
abbrev cX10_newPage : ByteArray := prog_12_method_130_code
def yX10_newPage : MethodName := ⟨RX10, "newPage", "()I"⟩
abbrev cX10_undo : ByteArray := prog_12_method_131_code
def yX10_undo : MethodName := ⟨RX10, "undo", "()I"⟩
abbrev cX10_undoable : ByteArray := prog_12_method_132_code
def yX10_undoable : MethodName := ⟨RX10, "undoable", "()I"⟩
abbrev cX10_save : ByteArray := prog_12_method_133_code
def yX10_save : MethodName := ⟨RX10, "save", "(I)I"⟩
abbrev cX10_restore : ByteArray := prog_12_method_134_code
def yX10_restore : MethodName := ⟨RX10, "restore", "(I)I"⟩
def RJ9 : String := "java/lang/Math"
def TJ9 : u_T := fun k => match k with
  | _ => ("", "", "", false)
def tyJ9 : Nat → FieldType := fun k => match k with
  | _ => .int
abbrev wsJ90 : List Cond := u_ws RJ9 TJ9 0
theorem nmJ9 : ∀ a, a < 0 → ∀ b, b < 0 → a ≠ b → (TJ9 a).2.1 ≠ (TJ9 b).2.1 := by decide +kernel
theorem tyJ9_ok : ∀ k, k < 0 → parseFieldDescriptor (TJ9 k).2.2.1 = some (tyJ9 k) := by decide +kernel
abbrev cJ9_abs_0f7a4 : ByteArray := prog_17_method_59_code
def yJ9_abs_0f7a4 : MethodName := ⟨RJ9, "abs", "(I)I"⟩
abbrev cJ9_max_7cf53 : ByteArray := prog_17_method_65_code
def yJ9_max_7cf53 : MethodName := ⟨RJ9, "max", "(II)I"⟩
abbrev cJ9_min_7cf53 : ByteArray := prog_17_method_69_code
def yJ9_min_7cf53 : MethodName := ⟨RJ9, "min", "(II)I"⟩
def RJ0 : String := "java/lang/String"
def TJ0 : u_T := fun k => match k with
  | _ => ("", "", "", false)
def tyJ0 : Nat → FieldType := fun k => match k with
  | _ => .int
abbrev wsJ00 : List Cond := u_ws RJ0 TJ0 0
theorem nmJ0 : ∀ a, a < 0 → ∀ b, b < 0 → a ≠ b → (TJ0 a).2.1 ≠ (TJ0 b).2.1 := by decide +kernel
theorem tyJ0_ok : ∀ k, k < 0 → parseFieldDescriptor (TJ0 k).2.2.1 = some (tyJ0 k) := by decide +kernel
abbrev cJ0_length_8abf5 : ByteArray := prog_19_method_54_code
def yJ0_length_8abf5 : MethodName := ⟨RJ0, "length", "()I"⟩
abbrev cJ0_charAt_5068e : ByteArray := prog_19_method_56_code
def yJ0_charAt_5068e : MethodName := ⟨RJ0, "charAt", "(I)C"⟩
abbrev cJ0_coder_7d493 : ByteArray := prog_19_method_152_code
def yJ0_coder_7d493 : MethodName := ⟨RJ0, "coder", "()B"⟩
abbrev cJ0_isLatin1_aae02 : ByteArray := prog_19_method_154_code
def yJ0_isLatin1_aae02 : MethodName := ⟨RJ0, "isLatin1", "()Z"⟩
abbrev cJ0_checkIndex_df160 : ByteArray := prog_19_method_155_code
def yJ0_checkIndex_df160 : MethodName := ⟨RJ0, "checkIndex", "(II)V"⟩
def RJ1 : String := "java/lang/StringLatin1"
def TJ1 : u_T := fun k => match k with
  | _ => ("", "", "", false)
def tyJ1 : Nat → FieldType := fun k => match k with
  | _ => .int
abbrev wsJ10 : List Cond := u_ws RJ1 TJ1 0
theorem nmJ1 : ∀ a, a < 0 → ∀ b, b < 0 → a ≠ b → (TJ1 a).2.1 ≠ (TJ1 b).2.1 := by decide +kernel
theorem tyJ1_ok : ∀ k, k < 0 → parseFieldDescriptor (TJ1 k).2.2.1 = some (tyJ1 k) := by decide +kernel
abbrev cJ1_charAt_3b067 : ByteArray := prog_20_method_2_code
def yJ1_charAt_3b067 : MethodName := ⟨RJ1, "charAt", "([BI)C"⟩
def RJ2 : String := "java/lang/StringUTF16"
def TJ2 : u_T := fun k => match k with
  | _ => ("", "", "", false)
def tyJ2 : Nat → FieldType := fun k => match k with
  | _ => .int
abbrev wsJ20 : List Cond := u_ws RJ2 TJ2 0
theorem nmJ2 : ∀ a, a < 0 → ∀ b, b < 0 → a ≠ b → (TJ2 a).2.1 ≠ (TJ2 b).2.1 := by decide +kernel
theorem tyJ2_ok : ∀ k, k < 0 → parseFieldDescriptor (TJ2 k).2.2.1 = some (tyJ2 k) := by decide +kernel
abbrev cJ2_getChar_3b067 : ByteArray := prog_21_method_5_code
def yJ2_getChar_3b067 : MethodName := ⟨RJ2, "getChar", "([BI)C"⟩
abbrev cJ2_length_9d52b : ByteArray := prog_21_method_6_code
def yJ2_length_9d52b : MethodName := ⟨RJ2, "length", "([B)I"⟩
abbrev cJ2_charAt_3b067 : ByteArray := prog_21_method_83_code
def yJ2_charAt_3b067 : MethodName := ⟨RJ2, "charAt", "([BI)C"⟩
abbrev cJ2_checkIndex_2214a : ByteArray := prog_21_method_91_code
def yJ2_checkIndex_2214a : MethodName := ⟨RJ2, "checkIndex", "(I[B)V"⟩
def RJ10 : String := "java/lang/System"
def TJ10 : u_T := fun k => match k with
  | _ => ("", "", "", false)
def tyJ10 : Nat → FieldType := fun k => match k with
  | _ => .int
abbrev wsJ100 : List Cond := u_ws RJ10 TJ10 0
theorem nmJ10 : ∀ a, a < 0 → ∀ b, b < 0 → a ≠ b → (TJ10 a).2.1 ≠ (TJ10 b).2.1 := by decide +kernel
theorem tyJ10_ok : ∀ k, k < 0 → parseFieldDescriptor (TJ10 k).2.2.1 = some (tyJ10 k) := by decide +kernel
def RJ3 : String := "jdk/internal/util/Preconditions"
def TJ3 : u_T := fun k => match k with
  | _ => ("", "", "", false)
def tyJ3 : Nat → FieldType := fun k => match k with
  | _ => .int
abbrev wsJ30 : List Cond := u_ws RJ3 TJ3 0
theorem nmJ3 : ∀ a, a < 0 → ∀ b, b < 0 → a ≠ b → (TJ3 a).2.1 ≠ (TJ3 b).2.1 := by decide +kernel
theorem tyJ3_ok : ∀ k, k < 0 → parseFieldDescriptor (TJ3 k).2.2.1 = some (tyJ3 k) := by decide +kernel
abbrev cJ3_checkIndex_8e157 : ByteArray := prog_24_method_11_code
def yJ3_checkIndex_8e157 : MethodName := ⟨RJ3, "checkIndex", "(IILjava/util/function/BiFunction;)I"⟩
def RL : String := "TypebarMachineLaw"
abbrev cL_load : ByteArray := method_3_code
def yL_load : MethodName := ⟨RL, "load", "(LTypebarMachine;I[J)I"⟩
abbrev cL_count : ByteArray := method_4_code
def yL_count : MethodName := ⟨RL, "count", "(LTypebarMachine;I[J)I"⟩
abbrev cL_setting : ByteArray := method_5_code
def yL_setting : MethodName := ⟨RL, "setting", "(LTypebarMachine;I[J)I"⟩
abbrev cL_carriage : ByteArray := method_6_code
def yL_carriage : MethodName := ⟨RL, "carriage", "(LTypebarMachine;I[J)I"⟩
abbrev cL_bar : ByteArray := method_7_code
def yL_bar : MethodName := ⟨RL, "bar", "(LTypebarMachine;II[J)I"⟩
abbrev cL_barOf : ByteArray := method_8_code
def yL_barOf : MethodName := ⟨RL, "barOf", "(LTypebarMachine;I[J)I"⟩
abbrev cL_latest : ByteArray := method_9_code
def yL_latest : MethodName := ⟨RL, "latest", "(LTypebarMachine;[J)I"⟩
abbrev cL_ribbon : ByteArray := method_10_code
def yL_ribbon : MethodName := ⟨RL, "ribbon", "(LTypebarMachine;I[J)I"⟩
abbrev cL_head : ByteArray := method_11_code
def yL_head : MethodName := ⟨RL, "head", "(LTypebarMachine;I[J)I"⟩
abbrev cL_sign : ByteArray := method_12_code
def yL_sign : MethodName := ⟨RL, "sign", "(LTypebarMachine;II[J)I"⟩
abbrev cL_darkness : ByteArray := method_13_code
def yL_darkness : MethodName := ⟨RL, "darkness", "(LTypebarMachine;II[J)I"⟩
abbrev cL_isStop : ByteArray := method_14_code
def yL_isStop : MethodName := ⟨RL, "isStop", "(LTypebarMachine;I[J)I"⟩
abbrev cL_reason : ByteArray := method_15_code
def yL_reason : MethodName := ⟨RL, "reason", "(LTypebarMachine;[J)I"⟩
abbrev cL_reasonAt : ByteArray := method_16_code
def yL_reasonAt : MethodName := ⟨RL, "reasonAt", "(LTypebarMachine;[J)I"⟩
abbrev cL_lineLength : ByteArray := method_17_code
def yL_lineLength : MethodName := ⟨RL, "lineLength", "(LTypebarMachine;I[J)I"⟩
abbrev cL_words : ByteArray := method_18_code
def yL_words : MethodName := ⟨RL, "words", "(LTypebarMachine;I[J)I"⟩
abbrev cL_letters : ByteArray := method_19_code
def yL_letters : MethodName := ⟨RL, "letters", "(LTypebarMachine;I[J)I"⟩
abbrev cL_palest : ByteArray := method_20_code
def yL_palest : MethodName := ⟨RL, "palest", "(LTypebarMachine;[J)I"⟩
abbrev cL_meanDarkness : ByteArray := method_21_code
def yL_meanDarkness : MethodName := ⟨RL, "meanDarkness", "(LTypebarMachine;[D)I"⟩
abbrev cL_inkShare : ByteArray := method_22_code
def yL_inkShare : MethodName := ⟨RL, "inkShare", "(LTypebarMachine;[D)I"⟩
abbrev cL_slowest : ByteArray := method_23_code
def yL_slowest : MethodName := ⟨RL, "slowest", "(LTypebarMachine;[J)I"⟩
abbrev cL_nextStop : ByteArray := method_24_code
def yL_nextStop : MethodName := ⟨RL, "nextStop", "(LTypebarMachine;I[J)I"⟩
abbrev cL_bellIn : ByteArray := method_25_code
def yL_bellIn : MethodName := ⟨RL, "bellIn", "(LTypebarMachine;[J)I"⟩
abbrev cL_wouldBe : ByteArray := method_26_code
def yL_wouldBe : MethodName := ⟨RL, "wouldBe", "(LTypebarMachine;IZ[J)I"⟩
abbrev cL_freeIn : ByteArray := method_27_code
def yL_freeIn : MethodName := ⟨RL, "freeIn", "(LTypebarMachine;I[J)I"⟩
abbrev cL_paceOf : ByteArray := method_28_code
def yL_paceOf : MethodName := ⟨RL, "paceOf", "(LTypebarMachine;II[J)I"⟩
abbrev cL_worstPair : ByteArray := method_29_code
def yL_worstPair : MethodName := ⟨RL, "worstPair", "(LTypebarMachine;[J)I"⟩
abbrev cL_wouldType : ByteArray := method_30_code
def yL_wouldType : MethodName := ⟨RL, "wouldType", "(LTypebarMachine;II[J)I"⟩
abbrev cL_paceFor : ByteArray := method_31_code
def yL_paceFor : MethodName := ⟨RL, "paceFor", "(LTypebarMachine;I[J)I"⟩
abbrev cL_keysTo : ByteArray := method_32_code
def yL_keysTo : MethodName := ⟨RL, "keysTo", "(LTypebarMachine;I[J)I"⟩
abbrev cL_printsLeft : ByteArray := method_33_code
def yL_printsLeft : MethodName := ⟨RL, "printsLeft", "(LTypebarMachine;[J)I"⟩
abbrev cL_writeLine : ByteArray := method_34_code
def yL_writeLine : MethodName := ⟨RL, "writeLine", "(LTypebarMachine;I[J)I"⟩
abbrev cL_writeShades : ByteArray := method_35_code
def yL_writeShades : MethodName := ⟨RL, "writeShades", "(LTypebarMachine;I[J)I"⟩
abbrev cL_writeRuler : ByteArray := method_36_code
def yL_writeRuler : MethodName := ⟨RL, "writeRuler", "(LTypebarMachine;[J)I"⟩
abbrev cL_textByte : ByteArray := method_37_code
def yL_textByte : MethodName := ⟨RL, "textByte", "(LTypebarMachine;I[J)I"⟩
abbrev cL_strike : ByteArray := method_38_code
def yL_strike : MethodName := ⟨RL, "strike", "(LTypebarMachine;IZ[J)I"⟩
abbrev cL_press : ByteArray := method_39_code
def yL_press : MethodName := ⟨RL, "press", "(LTypebarMachine;I[J)I"⟩
abbrev cL_type : ByteArray := method_40_code
def yL_type : MethodName := ⟨RL, "type", "(LTypebarMachine;I[J)I"⟩
abbrev cL_setStop : ByteArray := method_41_code
def yL_setStop : MethodName := ⟨RL, "setStop", "(LTypebarMachine;IZ[J)I"⟩
abbrev cL_setMargin : ByteArray := method_42_code
def yL_setMargin : MethodName := ⟨RL, "setMargin", "(LTypebarMachine;ZI[J)I"⟩
abbrev cL_set : ByteArray := method_43_code
def yL_set : MethodName := ⟨RL, "set", "(LTypebarMachine;II[J)I"⟩
abbrev cL_rest : ByteArray := method_44_code
def yL_rest : MethodName := ⟨RL, "rest", "(LTypebarMachine;I[J)I"⟩
abbrev cL_newRibbon : ByteArray := method_45_code
def yL_newRibbon : MethodName := ⟨RL, "newRibbon", "(LTypebarMachine;[J)I"⟩
abbrev cL_newPage : ByteArray := method_46_code
def yL_newPage : MethodName := ⟨RL, "newPage", "(LTypebarMachine;[J)I"⟩
abbrev cL_undo : ByteArray := method_47_code
def yL_undo : MethodName := ⟨RL, "undo", "(LTypebarMachine;[J)I"⟩
abbrev cL_save : ByteArray := method_48_code
def yL_save : MethodName := ⟨RL, "save", "(LTypebarMachine;I[J)I"⟩
abbrev cL_restore : ByteArray := method_49_code
def yL_restore : MethodName := ⟨RL, "restore", "(LTypebarMachine;I[J)I"⟩
abbrev cL_law : ByteArray := code
def yL_law : MethodName := ⟨RL, "law", "([I)Z"⟩
abbrev vwCl : List vw_C := [(RX0, TX0, 9), (RX1, TX1, 5), (RX2, TX2, 3), (RX3, TX3, 10), (RX4, TX4, 3), (RX5, TX5, 9), (RX6, TX6, 5), (RX7, TX7, 1), (RX8, TX8, 2), (RX9, TX9, 12), (RX10, TX10, 31)]
end
section
/-! ===== a small machine of numbers: what the methods of the class and of the reference do, instruction by instruction ===== -/
abbrev RF : Type := Nat × Nat × Nat
abbrev VL : Type := Int32 ⊕ (RF ⊕ (UInt64 ⊕ UInt32))
abbrev HP : Type := RF → Nat → Int32
abbrev vI (x : Int32) : VL := .inl x
abbrev vR (r : RF) : VL := .inr (.inl r)
abbrev vD (x : UInt64) : VL := .inr (.inr (.inl x))
abbrev vF (x : UInt32) : VL := .inr (.inr (.inr x))
abbrev EN : Type := Nat × Instr × Nat × Nat × Nat × Int32
abbrev ACT : Type := ((Nat × List (Option VL) × List VL) × HP) ⊕ ((Nat × List VL × List VL) ⊕ (Option VL ⊕ Nat))
abbrev RES : Type := (Option VL ⊕ Nat) × HP
def up (hp : HP) (r : RF) (k : Nat) (x : Int32) : HP := fun r' k' => if r' = r ∧ k' = k then x else hp r' k'
/-- the fields: how many, of which kind (0 a number, 1 a truth value, 2 a reference) -/
def nF (c : Nat) : Nat := match c with
  | 0 => 9 | 1 => 5 | 2 => 3 | 3 => 10 | 4 => 3 | 5 => 9 | 6 => 5 | 7 => 1 | 8 => 2 | 9 => 12 | 10 => 31 | _ => 0
def inb (i : Int32) (n : Nat) : Bool := !(decide (i < 0)) && decide (i.toNatClampNeg < n)
def isB (x : Int32) : Bool := decide (x = 0) || decide (x = 1)
def imax (x y : Int32) : Int32 := if x < y then y else x
def imin (x y : Int32) : Int32 := if y < x then y else x
def iabs (x : Int32) : Int32 := if 0 ≤ x then x else 0 - x
def idv (x y : Int32) : Int32 := x / y
def irm (x y : Int32) : Int32 := x - x / y * y
def okD (x : UInt64) : Bool := decide (x &&& 0x7fffffffffffffff ≤ 0x7ff0000000000000)
def okF (x : UInt32) : Bool := decide (x &&& 0x7fffffff ≤ 0x7f800000)
def tg (pc : Nat) (off : Int) : Nat := ((pc : Int) + off).toNat
def aC (pc : Nat) (ls : List (Option VL)) (st : List VL) (hp : HP) : Option ACT := some (.inl ((pc, ls, st), hp))
def aCall (μ : Nat) (args rest : List VL) : Option ACT := some (.inr (.inl (μ, args, rest)))
def aRet (v : Option VL) : Option ACT := some (.inr (.inr (.inl v)))
def aThr (E : Nat) : Option ACT := some (.inr (.inr (.inr E)))
def brI {α : Type} (c : Jvm.ClassFile.Cond) (x y : Int32) (a b : α) : α := match c with
  | .eq => if x = y then a else b
  | .ne => if x = y then b else a
  | .lt => if x < y then a else b
  | .ge => if x < y then b else a
  | .gt => if y < x then a else b
  | .le => if y < x then b else a
/-- a switch: its cases one behind the other -/
def swI {α : Type} (x : Int32) (f : Int → α) (d : α) : List (Int × Int) → α
  | [] => d
  | (k, off) :: l => if x = Int32.ofInt k then f off else swI x f d l
def tsP (lo : Int) (offs : List Int) : List (Int × Int) := match offs with
  | [] => []
  | o :: l => (lo, o) :: tsP (lo + 1) l
def cpA (hp : HP) (src dst : RF) (sp dp n : Nat) : HP := fun r k => if r = dst ∧ (dp ≤ k ∧ k < dp + n) then hp src (sp + (k - dp)) else hp r k
def fK (c k : Nat) : Nat := match c with
  | 0 => (match k with | 0 => 2 | 1 => 2 | 2 => 2 | 3 => 2 | 4 => 2 | 5 => 0 | 6 => 0 | 7 => 0 | 8 => 0 | _ => 3)
  | 1 => (match k with | 0 => 2 | 1 => 2 | 2 => 0 | 3 => 0 | 4 => 1 | _ => 3)
  | 2 => (match k with | 0 => 2 | 1 => 0 | 2 => 0 | _ => 3)
  | 3 => (match k with | 0 => 2 | 1 => 2 | 2 => 2 | 3 => 2 | 4 => 2 | 5 => 2 | 6 => 0 | 7 => 0 | 8 => 0 | 9 => 0 | _ => 3)
  | 4 => (match k with | 0 => 2 | 1 => 2 | 2 => 2 | _ => 3)
  | 5 => (match k with | 0 => 2 | 1 => 2 | 2 => 0 | 3 => 0 | 4 => 0 | 5 => 0 | 6 => 0 | 7 => 0 | 8 => 0 | _ => 3)
  | 6 => (match k with | 0 => 2 | 1 => 2 | 2 => 0 | 3 => 1 | 4 => 0 | _ => 3)
  | 7 => (match k with | 0 => 2 | _ => 3)
  | 8 => (match k with | 0 => 2 | 1 => 1 | _ => 3)
  | 9 => (match k with | 0 => 2 | 1 => 0 | 2 => 1 | 3 => 2 | 4 => 2 | 5 => 2 | 6 => 2 | 7 => 2 | 8 => 2 | 9 => 2 | 10 => 0 | 11 => 2 | _ => 3)
  | 10 => (match k with | 0 => 0 | 1 => 1 | 2 => 0 | 3 => 2 | 4 => 2 | 5 => 2 | 6 => 2 | 7 => 2 | 8 => 0 | 9 => 2 | 10 => 2 | 11 => 0 | 12 => 0 | 13 => 0 | 14 => 0 | 15 => 0 | 16 => 0 | 17 => 0 | 18 => 0 | 19 => 0 | 20 => 0 | 21 => 2 | 22 => 2 | 23 => 2 | 24 => 0 | 25 => 0 | 26 => 2 | 27 => 2 | 28 => 0 | 29 => 2 | 30 => 0 | _ => 3)
  | _ => 3
/-- where a reference field points, in the finished system -/
def fref (r : RF) (k : Nat) : RF := match r with | (c, w, m) => (match c with
  | 0 => (match k with | 0 => (7, 0, m) | 1 => (7, 5, m) | 2 => (7, 6, m) | 3 => (7, 7, m) | 4 => (7, 8, m) | _ => (99, 0, 0))
  | 1 => (match k with | 0 => (7, 0, m) | 1 => (7, 4, m) | _ => (99, 0, 0))
  | 2 => (match k with | 0 => (13, 0, 0) | _ => (99, 0, 0))
  | 3 => (match k with | 0 => (7, 0, m) | 1 => (6, 0, m) | 2 => (4, 0, m) | 3 => (1, 0, m) | 4 => (0, 0, m) | 5 => (7, 9, m) | _ => (99, 0, 0))
  | 4 => (match k with | 0 => (7, 0, m) | 1 => (7, 2, m) | 2 => (7, 3, m) | _ => (99, 0, 0))
  | 5 => (match k with | 0 => (7, 10, 0) | 1 => (3, 0, 1) | _ => (99, 0, 0))
  | 6 => (match k with | 0 => (7, 0, m) | 1 => (7, 1, m) | _ => (99, 0, 0))
  | 7 => (match k with | 0 => (11, w, m) | _ => (99, 0, 0))
  | 8 => (match k with | 0 => (3, 0, 10 + m) | _ => (99, 0, 0))
  | 9 => (match k with | 0 => (7, 10, 0) | 3 => (3, 0, 0) | 4 => (3, 0, 1) | 5 => (5, 0, 0) | 6 => (2, 0, 0) | 7 => (8, 0, 0) | 8 => (8, 0, 1) | 9 => (7, 11, 0) | 11 => (7, 12, 0) | _ => (99, 0, 0))
  | 10 => (match k with | 3 => (11, 20, 0) | 4 => (11, 21, 0) | 5 => (11, 22, 0) | 6 => (11, 23, 0) | 7 => (11, 24, 0) | 9 => (12, 0, 0) | 10 => (11, 25, 0) | 21 => (11, 26, 0) | 22 => (11, 27, 0) | 23 => (11, 28, 0) | 26 => (11, 29, 0) | 27 => (11, 30, 0) | 29 => (11, 31, 0) | _ => (99, 0, 0))
  | _ => (99, 0, 0))
def wlen (w : Nat) : Nat := match w with | 0 => 13 | 1 => 60 | 2 => 480 | 3 => 480 | 4 => 40 | 5 => 26 | 6 => 26 | 7 => 26 | 8 => 26 | 9 => 14 | 10 => 500 | 11 => 40 | 12 => 41 | 20 => 26 | 21 => 26 | 22 => 1150 | 23 => 1150 | 24 => 11500 | 25 => 500 | 26 => 1150 | 27 => 26 | 28 => 26 | 29 => 41 | 30 => 41 | 31 => 60 | _ => 0
def alen (r : RF) : Nat := if r.1 = 11 then wlen r.2.1 else if r.1 = 12 then 2 else 8
/-- the words: 0 machine, 1 speed, 2 ribbon, 3 bar, 4 tab -/
def txt (w : Nat) : List Int32 := match w with | 0 => [109, 97, 99, 104, 105, 110, 101] | 1 => [115, 112, 101, 101, 100] | 2 => [114, 105, 98, 98, 111, 110] | 3 => [98, 97, 114] | 4 => [116, 97, 98] | _ => []
/-- one instruction -/
def exec1 (i : Instr) (len a b : Nat) (z : Int32) (d pc : Nat) (ls : List (Option VL)) (st : List VL) (hp : HP) : Option ACT := match i with
  | .iconst _ => aC (pc + len) ls (vI z :: st) hp
  | .bipush _ => aC (pc + len) ls (vI z :: st) hp
  | .sipush _ => aC (pc + len) ls (vI z :: st) hp
  | .iload k => (match ls[k]? with | some (some (.inl x)) => aC (pc + len) ls (vI x :: st) hp | _ => none)
  | .iload_n k => (match ls[k.val]? with | some (some (.inl x)) => aC (pc + len) ls (vI x :: st) hp | _ => none)
  | .aload k => (match ls[k]? with | some (some (.inr (.inl r))) => aC (pc + len) ls (vR r :: st) hp | _ => none)
  | .aload_n k => (match ls[k.val]? with | some (some (.inr (.inl r))) => aC (pc + len) ls (vR r :: st) hp | _ => none)
  | .istore k => (match st with | .inl x :: st => aC (pc + len) (ls.set k (some (vI x))) st hp | _ => none)
  | .istore_n k => (match st with | .inl x :: st => aC (pc + len) (ls.set k.val (some (vI x))) st hp | _ => none)
  | .astore k => (match st with | .inr (.inl r) :: st => aC (pc + len) (ls.set k (some (vR r))) st hp | _ => none)
  | .astore_n k => (match st with | .inr (.inl r) :: st => aC (pc + len) (ls.set k.val (some (vR r))) st hp | _ => none)
  | .iinc k _ => (match ls[k]? with | some (some (.inl x)) => aC (pc + len) (ls.set k (some (vI (x + z)))) st hp | _ => none)
  | .iadd => (match st with | .inl y :: .inl x :: st => aC (pc + len) ls (vI (x + y) :: st) hp | _ => none)
  | .isub => (match st with | .inl y :: .inl x :: st => aC (pc + len) ls (vI (x - y) :: st) hp | _ => none)
  | .imul => (match st with | .inl y :: .inl x :: st => aC (pc + len) ls (vI (x * y) :: st) hp | _ => none)
  | .iand => (match st with | .inl y :: .inl x :: st => aC (pc + len) ls (vI (x &&& y) :: st) hp | _ => none)
  | .ishr => (match st with | .inl y :: .inl x :: st => aC (pc + len) ls (vI (x >>> (y &&& 31)) :: st) hp | _ => none)
  | .idiv => (match st with | .inl y :: .inl x :: st => if y = 0 then none else aC (pc + len) ls (vI (idv x y) :: st) hp | _ => none)
  | .irem => (match st with | .inl y :: .inl x :: st => if y = 0 then none else aC (pc + len) ls (vI (irm x y) :: st) hp | _ => none)
  | .dup => (match st with | .inl x :: st => aC (pc + len) ls (vI x :: vI x :: st) hp | .inr (.inl r) :: st => aC (pc + len) ls (vR r :: vR r :: st) hp | _ => none)
  | .dup2 => (match st with | .inl x :: .inr (.inl r) :: st => aC (pc + len) ls (vI x :: vR r :: vI x :: vR r :: st) hp | _ => none)
  | .pop => (match st with | .inl _ :: st => aC (pc + len) ls st hp | _ => none)
  | .goto off => aC (tg pc off) ls st hp
  | .if_icmp c off => (match st with | .inl y :: .inl x :: st => brI c x y (aC (tg pc off) ls st hp) (aC (pc + len) ls st hp) | _ => none)
  | .ifCond c off => (match st with | .inl x :: st => brI c x 0 (aC (tg pc off) ls st hp) (aC (pc + len) ls st hp) | _ => none)
  | .ifnull _ => (match st with | .inr (.inl _) :: st => aC (pc + len) ls st hp | _ => none)
  | .getfield _ => (match st with | .inr (.inl r) :: st => if r.1 = a then (if fK a b = 2 then aC (pc + len) ls (vR (fref r b) :: st) hp else aC (pc + len) ls (vI (hp r b) :: st) hp) else none | _ => none)
  | .putfield _ => (match st with | .inl x :: .inr (.inl r) :: st => if r.1 = a then (if fK a b = 0 then aC (pc + len) ls st (up hp r b x) else if isB x = true then aC (pc + len) ls st (up hp r b x) else none) else none | _ => none)
  | .iaload => (match st with | .inl j :: .inr (.inl r) :: st => if r.1 = 11 then (if inb j (alen r) = true then aC (pc + len) ls (vI (hp r j.toNatClampNeg) :: st) hp else none) else none | _ => none)
  | .iastore => (match st with | .inl x :: .inl j :: .inr (.inl r) :: st => if r.1 = 11 then (if inb j (alen r) = true then aC (pc + len) ls st (up hp r j.toNatClampNeg x) else none) else none | _ => none)
  | .baload => (match st with | .inl j :: .inr (.inl r) :: st => if r.1 = 12 then (if inb j (alen r) = true then aC (pc + len) ls (vI (hp r j.toNatClampNeg) :: st) hp else none) else none | _ => none)
  | .bastore => (match st with | .inl x :: .inl j :: .inr (.inl r) :: st => if r.1 = 12 then (if inb j (alen r) = true then (if isB x = true then aC (pc + len) ls st (up hp r j.toNatClampNeg x) else none) else none) else none | _ => none)
  | .aaload => (match st with | .inl j :: .inr (.inl r) :: st => if r.1 = 13 then (if inb j 8 = true then aC (pc + len) ls (vR (3, 0, 2 + j.toNatClampNeg) :: st) hp else none) else none | _ => none)
  | .arraylength => (match st with | .inr (.inl r) :: st => if 11 ≤ r.1 ∧ r.1 ≠ 20 then aC (pc + len) ls (vI (nI (alen r)) :: st) hp else none | _ => none)
  | .i2d => (match st with | .inl x :: st => aC (pc + len) ls (vD (FP.i2d x) :: st) hp | _ => none)
  | .i2f => (match st with | .inl x :: st => aC (pc + len) ls (vF (FP.i2f x) :: st) hp | _ => none)
  | .ddiv => (match st with | .inr (.inr (.inl y)) :: .inr (.inr (.inl x)) :: st => if okD (FP.ddiv x y) = true then aC (pc + len) ls (vD (FP.ddiv x y) :: st) hp else none | _ => none)
  | .fdiv => (match st with | .inr (.inr (.inr y)) :: .inr (.inr (.inr x)) :: st => if okF (FP.fdiv x y) = true then aC (pc + len) ls (vF (FP.fdiv x y) :: st) hp else none | _ => none)
  | .dconst k => if k = 0 then aC (pc + len) ls (vD FP.dconst0 :: st) hp else none
  | .fconst k => if k = 0 then aC (pc + len) ls (vF FP.fconst0 :: st) hp else none
  | .tableswitch dflt lo _ offs => (match st with | .inl x :: st => swI x (fun o => aC (tg pc o) ls st hp) (aC (tg pc dflt) ls st hp) (tsP lo offs.toList) | _ => none)
  | .lookupswitch dflt ps => (match st with | .inl x :: st => swI x (fun o => aC (tg pc o) ls st hp) (aC (tg pc dflt) ls st hp) ps.toList | _ => none)
  | .ldc _ => aC (pc + len) ls (vR (20, a, 0) :: st) hp
  | .new _ => (match d with | _ + 6 => aThr a | _ => none)
  | .invokevirtual _ =>
    if a = 1004 then (match d, st with | _ + 5, .inr (.inl r) :: st => if r.1 = 20 ∧ st.length ≤ 4 then aC (pc + len) ls (vI (nI (txt r.2.1).length) :: st) hp else none | _, _ => none)
    else if a = 1005 then (match d, st with | _ + 5, .inl j :: .inr (.inl r) :: st => if r.1 = 20 ∧ st.length ≤ 4 then (if inb j (txt r.2.1).length = true then aC (pc + len) ls (vI ((txt r.2.1).getD j.toNatClampNeg 0) :: st) hp else none) else none | _, _ => none)
    else (match st.drop (b % 16 - 1) with | .inr (.inl r) :: rest => if r.1 = b / 16 ∧ 1 ≤ b % 16 ∧ rest.length ≤ 4 then aCall a (vR r :: (st.take (b % 16 - 1)).reverse) rest else none | _ => none)
  | .invokestatic _ =>
    if a = 1000 then (match d, st with | _ + 1, .inl y :: .inl x :: st => if st.length ≤ 4 then aC (pc + len) ls (vI (imax x y) :: st) hp else none | _, _ => none)
    else if a = 1001 then (match d, st with | _ + 1, .inl y :: .inl x :: st => if st.length ≤ 4 then aC (pc + len) ls (vI (imin x y) :: st) hp else none | _, _ => none)
    else if a = 1002 then (match d, st with | _ + 1, .inl x :: st => if st.length ≤ 4 then aC (pc + len) ls (vI (iabs x) :: st) hp else none | _, _ => none)
    else if a = 1003 then (match d, st with
      | _ + 2, .inl n :: .inl dp :: .inr (.inl r1) :: .inl sp :: .inr (.inl r0) :: st =>
        if r0.1 = 11 ∧ r1.1 = 11 ∧ ¬ r0 = r1 ∧ st.length ≤ 4 then (if sp = 0 ∧ dp = 0 ∧ ¬ n < 0 ∧ n.toNatClampNeg ≤ alen r0 ∧ n.toNatClampNeg ≤ alen r1 then aC (pc + len) ls st (cpA hp r0 r1 0 0 n.toNatClampNeg) else none) else none
      | _, _ => none)
    else if b ≤ st.length ∧ (st.drop b).length ≤ 4 then aCall a (st.take b).reverse (st.drop b) else none
  | .ireturn => (match st with | [.inl x] => if a = 1 then (if isB x = true then aRet (some (vI x)) else none) else aRet (some (vI x)) | _ => none)
  | .areturn => (match st with | [.inr (.inl r)] => aRet (some (vR r)) | _ => none)
  | .dreturn => (match st with | [.inr (.inr (.inl x))] => aRet (some (vD x)) | _ => none)
  | .freturn => (match st with | [.inr (.inr (.inr x))] => aRet (some (vF x)) | _ => none)
  | .return_ => (match st with | [] => aRet none | _ => none)
  | _ => none
def lkp (pc : Nat) : List EN → Option EN
  | [] => none
  | e :: l => if e.1 = pc then some e else lkp pc l
end
section
def kX0_copyFrom : List EN := [(0, .aload_n 0, 1, 0, 0, 0), (1, .getfield 14, 3, 0, 1, 0), (4, .aload_n 1, 1, 0, 0, 0), (5, .getfield 14, 3, 0, 1, 0), (8, .invokevirtual 32, 3, 84, 114, 0), (11, .aload_n 0, 1, 0, 0, 0), (12, .getfield 20, 3, 0, 2, 0), (15, .aload_n 1, 1, 0, 0, 0), (16, .getfield 20, 3, 0, 2, 0), (19, .invokevirtual 32, 3, 84, 114, 0), (22, .aload_n 0, 1, 0, 0, 0), (23, .getfield 23, 3, 0, 3, 0), (26, .aload_n 1, 1, 0, 0, 0), (27, .getfield 23, 3, 0, 3, 0), (30, .invokevirtual 32, 3, 84, 114, 0), (33, .aload_n 0, 1, 0, 0, 0), (34, .getfield 26, 3, 0, 4, 0), (37, .aload_n 1, 1, 0, 0, 0), (38, .getfield 26, 3, 0, 4, 0), (41, .invokevirtual 32, 3, 84, 114, 0), (44, .aload_n 0, 1, 0, 0, 0), (45, .aload_n 1, 1, 0, 0, 0), (46, .getfield 36, 3, 0, 5, 0), (49, .putfield 36, 3, 0, 5, 0), (52, .aload_n 0, 1, 0, 0, 0), (53, .aload_n 1, 1, 0, 0, 0), (54, .getfield 40, 3, 0, 6, 0), (57, .putfield 40, 3, 0, 6, 0), (60, .aload_n 0, 1, 0, 0, 0), (61, .aload_n 1, 1, 0, 0, 0), (62, .getfield 43, 3, 0, 7, 0), (65, .putfield 43, 3, 0, 7, 0), (68, .aload_n 0, 1, 0, 0, 0), (69, .aload_n 1, 1, 0, 0, 0), (70, .getfield 46, 3, 0, 8, 0), (73, .putfield 46, 3, 0, 8, 0), (76, .return_, 1, 0, 0, 0)]
def kX0_clear : List EN := [(0, .aload_n 0, 1, 0, 0, 0), (1, .getfield 23, 3, 0, 3, 0), (4, .iconst (-1), 1, 0, 0, (-1)), (5, .invokevirtual 49, 3, 83, 114, 0), (8, .aload_n 0, 1, 0, 0, 0), (9, .getfield 26, 3, 0, 4, 0), (12, .iconst 0, 1, 0, 0, 0), (13, .invokevirtual 49, 3, 83, 114, 0), (16, .aload_n 0, 1, 0, 0, 0), (17, .iconst 0, 1, 0, 0, 0), (18, .putfield 36, 3, 0, 5, 0), (21, .aload_n 0, 1, 0, 0, 0), (22, .iconst (-1), 1, 0, 0, (-1)), (23, .putfield 40, 3, 0, 6, 0), (26, .aload_n 0, 1, 0, 0, 0), (27, .iconst (-1), 1, 0, 0, (-1)), (28, .putfield 43, 3, 0, 7, 0), (31, .aload_n 0, 1, 0, 0, 0), (32, .iconst (-1), 1, 0, 0, (-1)), (33, .putfield 46, 3, 0, 8, 0), (36, .return_, 1, 0, 0, 0)]
def kX0_add : List EN := [(0, .aload_n 0, 1, 0, 0, 0), (1, .getfield 14, 3, 0, 1, 0), (4, .aload_n 0, 1, 0, 0, 0), (5, .getfield 36, 3, 0, 5, 0), (8, .iload_n 1, 1, 0, 0, 0), (9, .invokevirtual 52, 3, 82, 115, 0), (12, .aload_n 0, 1, 0, 0, 0), (13, .getfield 20, 3, 0, 2, 0), (16, .aload_n 0, 1, 0, 0, 0), (17, .getfield 36, 3, 0, 5, 0), (20, .iload_n 2, 1, 0, 0, 0), (21, .invokevirtual 52, 3, 82, 115, 0), (24, .aload_n 0, 1, 0, 0, 0), (25, .dup, 1, 0, 0, 0), (26, .getfield 36, 3, 0, 5, 0), (29, .iconst 1, 1, 0, 0, 1), (30, .iadd, 1, 0, 0, 0), (31, .putfield 36, 3, 0, 5, 0), (34, .return_, 1, 0, 0, 0)]
def kX0_withLetter : List EN := [(0, .iload_n 1, 1, 0, 0, 0), (1, .invokestatic 56, 3, 154, 1, 0), (4, .ifCond .eq 13, 3, 0, 0, 0), (7, .iload_n 1, 1, 0, 0, 0), (8, .bipush 65, 2, 0, 0, 65), (10, .isub, 1, 0, 0, 0), (11, .bipush 97, 2, 0, 0, 97), (13, .iadd, 1, 0, 0, 0), (14, .goto 4, 3, 0, 0, 0), (17, .iload_n 1, 1, 0, 0, 0), (18, .istore_n 2, 1, 0, 0, 0), (19, .iconst 0, 1, 0, 0, 0), (20, .istore_n 3, 1, 0, 0, 0), (21, .iload_n 3, 1, 0, 0, 0), (22, .aload_n 0, 1, 0, 0, 0), (23, .getfield 36, 3, 0, 5, 0), (26, .if_icmp .ge 23, 3, 0, 0, 0), (29, .aload_n 0, 1, 0, 0, 0), (30, .getfield 14, 3, 0, 1, 0), (33, .iload_n 3, 1, 0, 0, 0), (34, .invokevirtual 60, 3, 81, 114, 0), (37, .iload_n 2, 1, 0, 0, 0), (38, .if_icmp .ne 5, 3, 0, 0, 0), (41, .iload_n 3, 1, 0, 0, 0), (42, .ireturn, 1, 0, 0, 0), (43, .iinc 3 1, 3, 0, 0, 1), (46, .goto (-25), 3, 0, 0, 0), (49, .iconst (-1), 1, 0, 0, (-1)), (50, .ireturn, 1, 0, 0, 0)]
def kX0_riseOf : List EN := [(0, .aload_n 0, 1, 0, 0, 0), (1, .getfield 29, 3, 0, 0, 0), (4, .bipush 6, 2, 0, 0, 6), (6, .invokevirtual 60, 3, 81, 114, 0), (9, .aload_n 0, 1, 0, 0, 0), (10, .getfield 20, 3, 0, 2, 0), (13, .iload_n 1, 1, 0, 0, 0), (14, .invokevirtual 60, 3, 81, 114, 0), (17, .bipush 90, 2, 0, 0, 90), (19, .isub, 1, 0, 0, 0), (20, .invokestatic 64, 3, 1002, 0, 0), (23, .bipush 10, 2, 0, 0, 10), (25, .idiv, 1, 0, 0, 0), (26, .iadd, 1, 0, 0, 0), (27, .ireturn, 1, 0, 0, 0)]
def kX0_backAt : List EN := [(0, .aload_n 0, 1, 0, 0, 0), (1, .getfield 23, 3, 0, 3, 0), (4, .iload_n 1, 1, 0, 0, 0), (5, .invokevirtual 60, 3, 81, 114, 0), (8, .istore_n 2, 1, 0, 0, 0), (9, .iload_n 2, 1, 0, 0, 0), (10, .iconst (-1), 1, 0, 0, (-1)), (11, .if_icmp .ne 7, 3, 0, 0, 0), (14, .iconst 0, 1, 0, 0, 0), (15, .goto 12, 3, 0, 0, 0), (18, .iload_n 2, 1, 0, 0, 0), (19, .iconst 2, 1, 0, 0, 2), (20, .aload_n 0, 1, 0, 0, 0), (21, .iload_n 1, 1, 0, 0, 0), (22, .invokevirtual 69, 3, 4, 2, 0), (25, .imul, 1, 0, 0, 0), (26, .iadd, 1, 0, 0, 0), (27, .ireturn, 1, 0, 0, 0)]
def kX0_notBackAt : List EN := [(0, .iconst 0, 1, 0, 0, 0), (1, .istore_n 2, 1, 0, 0, 0), (2, .iconst 0, 1, 0, 0, 0), (3, .istore_n 3, 1, 0, 0, 0), (4, .iload_n 3, 1, 0, 0, 0), (5, .aload_n 0, 1, 0, 0, 0), (6, .getfield 36, 3, 0, 5, 0), (9, .if_icmp .ge 21, 3, 0, 0, 0), (12, .iload_n 1, 1, 0, 0, 0), (13, .aload_n 0, 1, 0, 0, 0), (14, .iload_n 3, 1, 0, 0, 0), (15, .invokevirtual 72, 3, 5, 2, 0), (18, .if_icmp .ge 6, 3, 0, 0, 0), (21, .iinc 2 1, 3, 0, 0, 1), (24, .iinc 3 1, 3, 0, 0, 1), (27, .goto (-23), 3, 0, 0, 0), (30, .iload_n 2, 1, 0, 0, 0), (31, .ireturn, 1, 0, 0, 0)]
def kX0_areJammed : List EN := [(0, .aload_n 0, 1, 0, 0, 0), (1, .getfield 43, 3, 0, 7, 0), (4, .iconst (-1), 1, 0, 0, (-1)), (5, .if_icmp .eq 7, 3, 0, 0, 0), (8, .iconst 1, 1, 0, 0, 1), (9, .goto 4, 3, 0, 0, 0), (12, .iconst 0, 1, 0, 0, 0), (13, .ireturn, 1, 1, 0, 0)]
def kX0_isJammed : List EN := [(0, .iload_n 1, 1, 0, 0, 0), (1, .aload_n 0, 1, 0, 0, 0), (2, .getfield 43, 3, 0, 7, 0), (5, .if_icmp .eq 11, 3, 0, 0, 0), (8, .iload_n 1, 1, 0, 0, 0), (9, .aload_n 0, 1, 0, 0, 0), (10, .getfield 46, 3, 0, 8, 0), (13, .if_icmp .ne 7, 3, 0, 0, 0), (16, .iconst 1, 1, 0, 0, 1), (17, .goto 4, 3, 0, 0, 0), (20, .iconst 0, 1, 0, 0, 0), (21, .ireturn, 1, 1, 0, 0)]
def kX0_strikeFault : List EN := [(0, .iload_n 2, 1, 0, 0, 0), (1, .aload_n 0, 1, 0, 0, 0), (2, .iload_n 1, 1, 0, 0, 0), (3, .invokevirtual 72, 3, 5, 2, 0), (6, .if_icmp .ge 5, 3, 0, 0, 0), (9, .iconst 4, 1, 0, 0, 4), (10, .ireturn, 1, 0, 0, 0), (11, .aload_n 0, 1, 0, 0, 0), (12, .getfield 40, 3, 0, 6, 0), (15, .iconst (-1), 1, 0, 0, (-1)), (16, .if_icmp .eq 23, 3, 0, 0, 0), (19, .aload_n 0, 1, 0, 0, 0), (20, .getfield 40, 3, 0, 6, 0), (23, .iload_n 1, 1, 0, 0, 0), (24, .if_icmp .eq 15, 3, 0, 0, 0), (27, .iload_n 2, 1, 0, 0, 0), (28, .aload_n 0, 1, 0, 0, 0), (29, .aload_n 0, 1, 0, 0, 0), (30, .getfield 40, 3, 0, 6, 0), (33, .invokevirtual 72, 3, 5, 2, 0), (36, .if_icmp .lt 5, 3, 0, 0, 0), (39, .iconst 0, 1, 0, 0, 0), (40, .ireturn, 1, 0, 0, 0), (41, .iload_n 2, 1, 0, 0, 0), (42, .aload_n 0, 1, 0, 0, 0), (43, .iload_n 1, 1, 0, 0, 0), (44, .invokevirtual 69, 3, 4, 2, 0), (47, .iadd, 1, 0, 0, 0), (48, .aload_n 0, 1, 0, 0, 0), (49, .getfield 23, 3, 0, 3, 0), (52, .aload_n 0, 1, 0, 0, 0), (53, .getfield 40, 3, 0, 6, 0), (56, .invokevirtual 60, 3, 81, 114, 0), (59, .isub, 1, 0, 0, 0), (60, .aload_n 0, 1, 0, 0, 0), (61, .aload_n 0, 1, 0, 0, 0), (62, .getfield 40, 3, 0, 6, 0), (65, .invokevirtual 69, 3, 4, 2, 0), (68, .isub, 1, 0, 0, 0), (69, .istore_n 3, 1, 0, 0, 0), (70, .iload_n 3, 1, 0, 0, 0), (71, .invokestatic 64, 3, 1002, 0, 0), (74, .aload_n 0, 1, 0, 0, 0), (75, .iload_n 1, 1, 0, 0, 0), (76, .aload_n 0, 1, 0, 0, 0), (77, .getfield 40, 3, 0, 6, 0), (80, .invokevirtual 75, 3, 10, 3, 0), (83, .if_icmp .ge 7, 3, 0, 0, 0), (86, .iconst 5, 1, 0, 0, 5), (87, .goto 4, 3, 0, 0, 0), (90, .iconst 0, 1, 0, 0, 0), (91, .ireturn, 1, 0, 0, 0)]
def kX0_roomOf : List EN := [(0, .aload_n 0, 1, 0, 0, 0), (1, .getfield 20, 3, 0, 2, 0), (4, .iload_n 1, 1, 0, 0, 0), (5, .invokevirtual 60, 3, 81, 114, 0), (8, .aload_n 0, 1, 0, 0, 0), (9, .getfield 20, 3, 0, 2, 0), (12, .iload_n 2, 1, 0, 0, 0), (13, .invokevirtual 60, 3, 81, 114, 0), (16, .isub, 1, 0, 0, 0), (17, .invokestatic 64, 3, 1002, 0, 0), (20, .istore_n 3, 1, 0, 0, 0), (21, .aload_n 0, 1, 0, 0, 0), (22, .getfield 29, 3, 0, 0, 0), (25, .bipush 7, 2, 0, 0, 7), (27, .invokevirtual 60, 3, 81, 114, 0), (30, .iconst 0, 1, 0, 0, 0), (31, .aload_n 0, 1, 0, 0, 0), (32, .getfield 29, 3, 0, 0, 0), (35, .bipush 8, 2, 0, 0, 8), (37, .invokevirtual 60, 3, 81, 114, 0), (40, .iload_n 3, 1, 0, 0, 0), (41, .isub, 1, 0, 0, 0), (42, .invokestatic 79, 3, 1000, 0, 0), (45, .iadd, 1, 0, 0, 0), (46, .ireturn, 1, 0, 0, 0)]
def kX0_noteStrike : List EN := [(0, .aload_n 0, 1, 0, 0, 0), (1, .getfield 23, 3, 0, 3, 0), (4, .iload_n 1, 1, 0, 0, 0), (5, .iload_n 2, 1, 0, 0, 0), (6, .invokevirtual 52, 3, 82, 115, 0), (9, .aload_n 0, 1, 0, 0, 0), (10, .getfield 26, 3, 0, 4, 0), (13, .iload_n 1, 1, 0, 0, 0), (14, .aload_n 0, 1, 0, 0, 0), (15, .getfield 26, 3, 0, 4, 0), (18, .iload_n 1, 1, 0, 0, 0), (19, .invokevirtual 60, 3, 81, 114, 0), (22, .iconst 1, 1, 0, 0, 1), (23, .iadd, 1, 0, 0, 0), (24, .invokevirtual 52, 3, 82, 115, 0), (27, .aload_n 0, 1, 0, 0, 0), (28, .iload_n 1, 1, 0, 0, 0), (29, .putfield 40, 3, 0, 6, 0), (32, .return_, 1, 0, 0, 0)]
def kX0_jamWithLatest : List EN := [(0, .aload_n 0, 1, 0, 0, 0), (1, .iload_n 1, 1, 0, 0, 0), (2, .putfield 43, 3, 0, 7, 0), (5, .aload_n 0, 1, 0, 0, 0), (6, .aload_n 0, 1, 0, 0, 0), (7, .getfield 40, 3, 0, 6, 0), (10, .putfield 46, 3, 0, 8, 0), (13, .return_, 1, 0, 0, 0)]
def kX0_free : List EN := [(0, .aload_n 0, 1, 0, 0, 0), (1, .getfield 23, 3, 0, 3, 0), (4, .aload_n 0, 1, 0, 0, 0), (5, .getfield 43, 3, 0, 7, 0), (8, .iconst (-1), 1, 0, 0, (-1)), (9, .invokevirtual 52, 3, 82, 115, 0), (12, .aload_n 0, 1, 0, 0, 0), (13, .getfield 23, 3, 0, 3, 0), (16, .aload_n 0, 1, 0, 0, 0), (17, .getfield 46, 3, 0, 8, 0), (20, .iconst (-1), 1, 0, 0, (-1)), (21, .invokevirtual 52, 3, 82, 115, 0), (24, .aload_n 0, 1, 0, 0, 0), (25, .iconst (-1), 1, 0, 0, (-1)), (26, .putfield 43, 3, 0, 7, 0), (29, .aload_n 0, 1, 0, 0, 0), (30, .iconst (-1), 1, 0, 0, (-1)), (31, .putfield 46, 3, 0, 8, 0), (34, .return_, 1, 0, 0, 0)]
def kX0_leastPace : List EN := [(0, .iconst 2, 1, 0, 0, 2), (1, .aload_n 0, 1, 0, 0, 0), (2, .iload_n 1, 1, 0, 0, 0), (3, .invokevirtual 69, 3, 4, 2, 0), (6, .imul, 1, 0, 0, 0), (7, .istore_n 3, 1, 0, 0, 0), (8, .aload_n 0, 1, 0, 0, 0), (9, .iload_n 2, 1, 0, 0, 0), (10, .invokevirtual 69, 3, 4, 2, 0), (13, .aload_n 0, 1, 0, 0, 0), (14, .iload_n 1, 1, 0, 0, 0), (15, .invokevirtual 69, 3, 4, 2, 0), (18, .isub, 1, 0, 0, 0), (19, .istore 4, 2, 0, 0, 0), (21, .aload_n 0, 1, 0, 0, 0), (22, .iload_n 1, 1, 0, 0, 0), (23, .iload_n 2, 1, 0, 0, 0), (24, .invokevirtual 75, 3, 10, 3, 0), (27, .istore 5, 2, 0, 0, 0), (29, .iconst 1, 1, 0, 0, 1), (30, .istore 6, 2, 0, 0, 0), (32, .iload 6, 2, 0, 0, 0), (34, .sipush 999, 3, 0, 0, 999), (37, .if_icmp .gt 48, 3, 0, 0, 0), (40, .iload_n 1, 1, 0, 0, 0), (41, .iload_n 2, 1, 0, 0, 0), (42, .if_icmp .eq 20, 3, 0, 0, 0), (45, .iload 6, 2, 0, 0, 0), (47, .iload 4, 2, 0, 0, 0), (49, .iadd, 1, 0, 0, 0), (50, .invokestatic 64, 3, 1002, 0, 0), (53, .iload 5, 2, 0, 0, 0), (55, .if_icmp .lt 7, 3, 0, 0, 0), (58, .iconst 1, 1, 0, 0, 1), (59, .goto 4, 3, 0, 0, 0), (62, .iconst 0, 1, 0, 0, 0), (63, .istore 7, 2, 0, 0, 0), (65, .iload 6, 2, 0, 0, 0), (67, .iload_n 3, 1, 0, 0, 0), (68, .if_icmp .ge 8, 3, 0, 0, 0), (71, .iload 7, 2, 0, 0, 0), (73, .ifCond .eq 6, 3, 0, 0, 0), (76, .iload 6, 2, 0, 0, 0), (78, .ireturn, 1, 0, 0, 0), (79, .iinc 6 1, 3, 0, 0, 1), (82, .goto (-50), 3, 0, 0, 0), (85, .iconst (-1), 1, 0, 0, (-1)), (86, .ireturn, 1, 0, 0, 0)]
def kX0_slowestPair : List EN := [(0, .iconst (-1), 1, 0, 0, (-1)), (1, .istore_n 1, 1, 0, 0, 0), (2, .iconst 0, 1, 0, 0, 0), (3, .istore_n 2, 1, 0, 0, 0), (4, .iconst 0, 1, 0, 0, 0), (5, .istore_n 3, 1, 0, 0, 0), (6, .iload_n 3, 1, 0, 0, 0), (7, .aload_n 0, 1, 0, 0, 0), (8, .getfield 36, 3, 0, 5, 0), (11, .if_icmp .ge 69, 3, 0, 0, 0), (14, .iconst 0, 1, 0, 0, 0), (15, .istore 4, 2, 0, 0, 0), (17, .iload 4, 2, 0, 0, 0), (19, .aload_n 0, 1, 0, 0, 0), (20, .getfield 36, 3, 0, 5, 0), (23, .if_icmp .ge 51, 3, 0, 0, 0), (26, .aload_n 0, 1, 0, 0, 0), (27, .iload_n 3, 1, 0, 0, 0), (28, .iload 4, 2, 0, 0, 0), (30, .invokevirtual 82, 3, 14, 3, 0), (33, .istore 5, 2, 0, 0, 0), (35, .iload 5, 2, 0, 0, 0), (37, .iconst (-1), 1, 0, 0, (-1)), (38, .if_icmp .ne 9, 3, 0, 0, 0), (41, .sipush 1000, 3, 0, 0, 1000), (44, .goto 5, 3, 0, 0, 0), (47, .iload 5, 2, 0, 0, 0), (49, .istore 6, 2, 0, 0, 0), (51, .iload 6, 2, 0, 0, 0), (53, .iload_n 2, 1, 0, 0, 0), (54, .if_icmp .le 14, 3, 0, 0, 0), (57, .iload 6, 2, 0, 0, 0), (59, .istore_n 2, 1, 0, 0, 0), (60, .bipush 100, 2, 0, 0, 100), (62, .iload_n 3, 1, 0, 0, 0), (63, .imul, 1, 0, 0, 0), (64, .iload 4, 2, 0, 0, 0), (66, .iadd, 1, 0, 0, 0), (67, .istore_n 1, 1, 0, 0, 0), (68, .iinc 4 1, 3, 0, 0, 1), (71, .goto (-54), 3, 0, 0, 0), (74, .iinc 3 1, 3, 0, 0, 1), (77, .goto (-71), 3, 0, 0, 0), (80, .iload_n 1, 1, 0, 0, 0), (81, .ireturn, 1, 0, 0, 0)]
def kX0_withGreatestRise : List EN := [(0, .iconst (-1), 1, 0, 0, (-1)), (1, .istore_n 1, 1, 0, 0, 0), (2, .iconst 0, 1, 0, 0, 0), (3, .istore_n 2, 1, 0, 0, 0), (4, .iload_n 2, 1, 0, 0, 0), (5, .aload_n 0, 1, 0, 0, 0), (6, .getfield 36, 3, 0, 5, 0), (9, .if_icmp .ge 29, 3, 0, 0, 0), (12, .iload_n 1, 1, 0, 0, 0), (13, .iconst (-1), 1, 0, 0, (-1)), (14, .if_icmp .eq 16, 3, 0, 0, 0), (17, .aload_n 0, 1, 0, 0, 0), (18, .iload_n 2, 1, 0, 0, 0), (19, .invokevirtual 69, 3, 4, 2, 0), (22, .aload_n 0, 1, 0, 0, 0), (23, .iload_n 1, 1, 0, 0, 0), (24, .invokevirtual 69, 3, 4, 2, 0), (27, .if_icmp .le 5, 3, 0, 0, 0), (30, .iload_n 2, 1, 0, 0, 0), (31, .istore_n 1, 1, 0, 0, 0), (32, .iinc 2 1, 3, 0, 0, 1), (35, .goto (-31), 3, 0, 0, 0), (38, .iload_n 1, 1, 0, 0, 0), (39, .ireturn, 1, 0, 0, 0)]
def kX1_copyFrom : List EN := [(0, .aload_n 0, 1, 0, 0, 0), (1, .getfield 14, 3, 1, 1, 0), (4, .aload_n 1, 1, 0, 0, 0), (5, .getfield 14, 3, 1, 1, 0), (8, .invokevirtual 23, 3, 84, 114, 0), (11, .aload_n 0, 1, 0, 0, 0), (12, .aload_n 1, 1, 0, 0, 0), (13, .getfield 27, 3, 1, 2, 0), (16, .putfield 27, 3, 1, 2, 0), (19, .aload_n 0, 1, 0, 0, 0), (20, .aload_n 1, 1, 0, 0, 0), (21, .getfield 31, 3, 1, 3, 0), (24, .putfield 31, 3, 1, 3, 0), (27, .aload_n 0, 1, 0, 0, 0), (28, .aload_n 1, 1, 0, 0, 0), (29, .getfield 34, 3, 1, 4, 0), (32, .putfield 34, 3, 1, 4, 0), (35, .return_, 1, 0, 0, 0)]
def kX1_goHome : List EN := [(0, .aload_n 0, 1, 0, 0, 0), (1, .iconst 0, 1, 0, 0, 0), (2, .invokevirtual 38, 3, 19, 18, 0), (5, .return_, 1, 0, 0, 0)]
def kX1_goToLine : List EN := [(0, .aload_n 0, 1, 0, 0, 0), (1, .iload_n 1, 1, 0, 0, 0), (2, .putfield 27, 3, 1, 2, 0), (5, .aload_n 0, 1, 0, 0, 0), (6, .aload_n 0, 1, 0, 0, 0), (7, .getfield 20, 3, 1, 0, 0), (10, .iconst 2, 1, 0, 0, 2), (11, .invokevirtual 41, 3, 81, 114, 0), (14, .putfield 31, 3, 1, 3, 0), (17, .aload_n 0, 1, 0, 0, 0), (18, .iconst 0, 1, 0, 0, 0), (19, .putfield 34, 3, 1, 4, 0), (22, .return_, 1, 0, 0, 0)]
def kX1_stopsAt : List EN := [(0, .aload_n 0, 1, 0, 0, 0), (1, .getfield 14, 3, 1, 1, 0), (4, .iload_n 1, 1, 0, 0, 0), (5, .invokevirtual 41, 3, 81, 114, 0), (8, .ifCond .eq 7, 3, 0, 0, 0), (11, .iconst 1, 1, 0, 0, 1), (12, .goto 4, 3, 0, 0, 0), (15, .iconst 0, 1, 0, 0, 0), (16, .ireturn, 1, 1, 0, 0)]
def kX1_stopsSet : List EN := [(0, .iconst 0, 1, 0, 0, 0), (1, .istore_n 1, 1, 0, 0, 0), (2, .iconst 0, 1, 0, 0, 0), (3, .istore_n 2, 1, 0, 0, 0), (4, .iload_n 2, 1, 0, 0, 0), (5, .aload_n 0, 1, 0, 0, 0), (6, .getfield 20, 3, 1, 0, 0), (9, .iconst 0, 1, 0, 0, 0), (10, .invokevirtual 41, 3, 81, 114, 0), (13, .if_icmp .ge 20, 3, 0, 0, 0), (16, .aload_n 0, 1, 0, 0, 0), (17, .iload_n 2, 1, 0, 0, 0), (18, .invokevirtual 45, 3, 20, 18, 0), (21, .ifCond .eq 6, 3, 0, 0, 0), (24, .iinc 1 1, 3, 0, 0, 1), (27, .iinc 2 1, 3, 0, 0, 1), (30, .goto (-26), 3, 0, 0, 0), (33, .iload_n 1, 1, 0, 0, 0), (34, .ireturn, 1, 0, 0, 0)]
def kX1_locksAt : List EN := [(0, .iload_n 1, 1, 0, 0, 0), (1, .aload_n 0, 1, 0, 0, 0), (2, .getfield 20, 3, 1, 0, 0), (5, .iconst 0, 1, 0, 0, 0), (6, .invokevirtual 41, 3, 81, 114, 0), (9, .if_icmp .ge 22, 3, 0, 0, 0), (12, .iload_n 1, 1, 0, 0, 0), (13, .aload_n 0, 1, 0, 0, 0), (14, .getfield 20, 3, 1, 0, 0), (17, .iconst 3, 1, 0, 0, 3), (18, .invokevirtual 41, 3, 81, 114, 0), (21, .if_icmp .le 14, 3, 0, 0, 0), (24, .aload_n 0, 1, 0, 0, 0), (25, .getfield 34, 3, 1, 4, 0), (28, .ifCond .ne 7, 3, 0, 0, 0), (31, .iconst 1, 1, 0, 0, 1), (32, .goto 4, 3, 0, 0, 0), (35, .iconst 0, 1, 0, 0, 0), (36, .ireturn, 1, 1, 0, 0)]
def kX1_bellColumn : List EN := [(0, .aload_n 0, 1, 0, 0, 0), (1, .getfield 20, 3, 1, 0, 0), (4, .iconst 3, 1, 0, 0, 3), (5, .invokevirtual 41, 3, 81, 114, 0), (8, .aload_n 0, 1, 0, 0, 0), (9, .getfield 20, 3, 1, 0, 0), (12, .iconst 4, 1, 0, 0, 4), (13, .invokevirtual 41, 3, 81, 114, 0), (16, .isub, 1, 0, 0, 0), (17, .ireturn, 1, 0, 0, 0)]
def kX1_spacesToBell : List EN := [(0, .aload_n 0, 1, 0, 0, 0), (1, .getfield 31, 3, 1, 3, 0), (4, .aload_n 0, 1, 0, 0, 0), (5, .invokevirtual 49, 3, 23, 17, 0), (8, .if_icmp .ge 15, 3, 0, 0, 0), (11, .aload_n 0, 1, 0, 0, 0), (12, .invokevirtual 49, 3, 23, 17, 0), (15, .aload_n 0, 1, 0, 0, 0), (16, .getfield 31, 3, 1, 3, 0), (19, .isub, 1, 0, 0, 0), (20, .goto 4, 3, 0, 0, 0), (23, .iconst (-1), 1, 0, 0, (-1)), (24, .ireturn, 1, 0, 0, 0)]
def kX1_tabFrom : List EN := [(0, .iload_n 1, 1, 0, 0, 0), (1, .iconst 1, 1, 0, 0, 1), (2, .iadd, 1, 0, 0, 0), (3, .istore_n 2, 1, 0, 0, 0), (4, .iload_n 2, 1, 0, 0, 0), (5, .aload_n 0, 1, 0, 0, 0), (6, .getfield 20, 3, 1, 0, 0), (9, .iconst 0, 1, 0, 0, 0), (10, .invokevirtual 41, 3, 81, 114, 0), (13, .if_icmp .ge 19, 3, 0, 0, 0), (16, .aload_n 0, 1, 0, 0, 0), (17, .iload_n 2, 1, 0, 0, 0), (18, .invokevirtual 45, 3, 20, 18, 0), (21, .ifCond .eq 5, 3, 0, 0, 0), (24, .iload_n 2, 1, 0, 0, 0), (25, .ireturn, 1, 0, 0, 0), (26, .iinc 2 1, 3, 0, 0, 1), (29, .goto (-25), 3, 0, 0, 0), (32, .iload_n 1, 1, 0, 0, 0), (33, .aload_n 0, 1, 0, 0, 0), (34, .getfield 20, 3, 1, 0, 0), (37, .iconst 3, 1, 0, 0, 3), (38, .invokevirtual 41, 3, 81, 114, 0), (41, .invokestatic 53, 3, 1000, 0, 0), (44, .ireturn, 1, 0, 0, 0)]
def kX1_backFrom : List EN := [(0, .iload_n 1, 1, 0, 0, 0), (1, .ifCond .eq 22, 3, 0, 0, 0), (4, .iload_n 1, 1, 0, 0, 0), (5, .aload_n 0, 1, 0, 0, 0), (6, .getfield 20, 3, 1, 0, 0), (9, .iconst 2, 1, 0, 0, 2), (10, .invokevirtual 41, 3, 81, 114, 0), (13, .if_icmp .ne 14, 3, 0, 0, 0), (16, .aload_n 0, 1, 0, 0, 0), (17, .getfield 34, 3, 1, 4, 0), (20, .ifCond .ne 7, 3, 0, 0, 0), (23, .iconst 1, 1, 0, 0, 1), (24, .goto 4, 3, 0, 0, 0), (27, .iconst 0, 1, 0, 0, 0), (28, .istore_n 2, 1, 0, 0, 0), (29, .iload_n 2, 1, 0, 0, 0), (30, .ifCond .eq 7, 3, 0, 0, 0), (33, .iload_n 1, 1, 0, 0, 0), (34, .goto 6, 3, 0, 0, 0), (37, .iload_n 1, 1, 0, 0, 0), (38, .iconst 1, 1, 0, 0, 1), (39, .isub, 1, 0, 0, 0), (40, .ireturn, 1, 0, 0, 0)]
def kX1_fewestKeysTo : List EN := [(0, .aload_n 2, 1, 0, 0, 0), (1, .iconst (-1), 1, 0, 0, (-1)), (2, .invokevirtual 59, 3, 83, 114, 0), (5, .aload_n 2, 1, 0, 0, 0), (6, .aload_n 0, 1, 0, 0, 0), (7, .getfield 31, 3, 1, 3, 0), (10, .iconst 0, 1, 0, 0, 0), (11, .invokevirtual 62, 3, 82, 115, 0), (14, .aload_n 0, 1, 0, 0, 0), (15, .getfield 20, 3, 1, 0, 0), (18, .iconst 0, 1, 0, 0, 0), (19, .invokevirtual 41, 3, 81, 114, 0), (22, .istore_n 3, 1, 0, 0, 0), (23, .iconst 0, 1, 0, 0, 0), (24, .istore 4, 2, 0, 0, 0), (26, .iload 4, 2, 0, 0, 0), (28, .iload_n 3, 1, 0, 0, 0), (29, .if_icmp .gt 55, 3, 0, 0, 0), (32, .aload_n 2, 1, 0, 0, 0), (33, .iload_n 1, 1, 0, 0, 0), (34, .invokevirtual 41, 3, 81, 114, 0), (37, .iconst (-1), 1, 0, 0, (-1)), (38, .if_icmp .ne 46, 3, 0, 0, 0), (41, .iconst 0, 1, 0, 0, 0), (42, .istore 5, 2, 0, 0, 0), (44, .iload 5, 2, 0, 0, 0), (46, .iload_n 3, 1, 0, 0, 0), (47, .if_icmp .gt 31, 3, 0, 0, 0), (50, .aload_n 2, 1, 0, 0, 0), (51, .iload 5, 2, 0, 0, 0), (53, .invokevirtual 41, 3, 81, 114, 0), (56, .iload 4, 2, 0, 0, 0), (58, .if_icmp .ne 14, 3, 0, 0, 0), (61, .aload_n 0, 1, 0, 0, 0), (62, .iload 5, 2, 0, 0, 0), (64, .iload 4, 2, 0, 0, 0), (66, .iconst 1, 1, 0, 0, 1), (67, .iadd, 1, 0, 0, 0), (68, .aload_n 2, 1, 0, 0, 0), (69, .invokevirtual 66, 3, 28, 20, 0), (72, .iinc 5 1, 3, 0, 0, 1), (75, .goto (-31), 3, 0, 0, 0), (78, .iinc 4 1, 3, 0, 0, 1), (81, .goto (-55), 3, 0, 0, 0), (84, .aload_n 2, 1, 0, 0, 0), (85, .iload_n 1, 1, 0, 0, 0), (86, .invokevirtual 41, 3, 81, 114, 0), (89, .ireturn, 1, 0, 0, 0)]
def kX1_reachFrom : List EN := [(0, .aload_n 0, 1, 0, 0, 0), (1, .iload_n 1, 1, 0, 0, 0), (2, .invokevirtual 70, 3, 22, 18, 0), (5, .ifCond .ne 11, 3, 0, 0, 0), (8, .iload_n 1, 1, 0, 0, 0), (9, .iconst 1, 1, 0, 0, 1), (10, .iadd, 1, 0, 0, 0), (11, .iload_n 2, 1, 0, 0, 0), (12, .aload_n 3, 1, 0, 0, 0), (13, .invokestatic 73, 3, 29, 3, 0), (16, .aload_n 0, 1, 0, 0, 0), (17, .iload_n 1, 1, 0, 0, 0), (18, .invokevirtual 76, 3, 25, 18, 0), (21, .iload_n 2, 1, 0, 0, 0), (22, .aload_n 3, 1, 0, 0, 0), (23, .invokestatic 73, 3, 29, 3, 0), (26, .aload_n 0, 1, 0, 0, 0), (27, .iload_n 1, 1, 0, 0, 0), (28, .invokevirtual 79, 3, 26, 18, 0), (31, .iload_n 2, 1, 0, 0, 0), (32, .aload_n 3, 1, 0, 0, 0), (33, .invokestatic 73, 3, 29, 3, 0), (36, .return_, 1, 0, 0, 0)]
def kX1_reachOnce : List EN := [(0, .aload_n 2, 1, 0, 0, 0), (1, .iload_n 0, 1, 0, 0, 0), (2, .invokevirtual 41, 3, 81, 114, 0), (5, .iconst (-1), 1, 0, 0, (-1)), (6, .if_icmp .ne 9, 3, 0, 0, 0), (9, .aload_n 2, 1, 0, 0, 0), (10, .iload_n 0, 1, 0, 0, 0), (11, .iload_n 1, 1, 0, 0, 0), (12, .invokevirtual 62, 3, 82, 115, 0), (15, .return_, 1, 0, 0, 0)]
def kX2_clear : List EN := [(0, .aload_n 0, 1, 0, 0, 0), (1, .iconst 0, 1, 0, 0, 0), (2, .putfield 18, 3, 2, 2, 0), (5, .return_, 1, 0, 0, 0)]
def kX2_keep : List EN := [(0, .aload_n 0, 1, 0, 0, 0), (1, .getfield 18, 3, 2, 2, 0), (4, .bipush 8, 2, 0, 0, 8), (6, .if_icmp .ne 26, 3, 0, 0, 0), (9, .aload_n 0, 1, 0, 0, 0), (10, .aload_n 0, 1, 0, 0, 0), (11, .getfield 22, 3, 2, 1, 0), (14, .iconst 1, 1, 0, 0, 1), (15, .iadd, 1, 0, 0, 0), (16, .bipush 8, 2, 0, 0, 8), (18, .irem, 1, 0, 0, 0), (19, .putfield 22, 3, 2, 1, 0), (22, .aload_n 0, 1, 0, 0, 0), (23, .dup, 1, 0, 0, 0), (24, .getfield 18, 3, 2, 2, 0), (27, .iconst 1, 1, 0, 0, 1), (28, .isub, 1, 0, 0, 0), (29, .putfield 18, 3, 2, 2, 0), (32, .aload_n 0, 1, 0, 0, 0), (33, .aload_n 0, 1, 0, 0, 0), (34, .getfield 18, 3, 2, 2, 0), (37, .invokevirtual 25, 3, 33, 34, 0), (40, .astore_n 2, 1, 0, 0, 0), (41, .aload_n 2, 1, 0, 0, 0), (42, .ifnull 18, 3, 0, 0, 0), (45, .aload_n 2, 1, 0, 0, 0), (46, .aload_n 1, 1, 0, 0, 0), (47, .invokevirtual 29, 3, 34, 50, 0), (50, .aload_n 0, 1, 0, 0, 0), (51, .dup, 1, 0, 0, 0), (52, .getfield 18, 3, 2, 2, 0), (55, .iconst 1, 1, 0, 0, 1), (56, .iadd, 1, 0, 0, 0), (57, .putfield 18, 3, 2, 2, 0), (60, .return_, 1, 0, 0, 0)]
def kX2_takeLatest : List EN := [(0, .aload_n 0, 1, 0, 0, 0), (1, .aload_n 0, 1, 0, 0, 0), (2, .getfield 18, 3, 2, 2, 0), (5, .iconst 1, 1, 0, 0, 1), (6, .isub, 1, 0, 0, 0), (7, .invokevirtual 25, 3, 33, 34, 0), (10, .astore_n 2, 1, 0, 0, 0), (11, .aload_n 2, 1, 0, 0, 0), (12, .ifnull 18, 3, 0, 0, 0), (15, .aload_n 1, 1, 0, 0, 0), (16, .aload_n 2, 1, 0, 0, 0), (17, .invokevirtual 29, 3, 34, 50, 0), (20, .aload_n 0, 1, 0, 0, 0), (21, .dup, 1, 0, 0, 0), (22, .getfield 18, 3, 2, 2, 0), (25, .iconst 1, 1, 0, 0, 1), (26, .isub, 1, 0, 0, 0), (27, .putfield 18, 3, 2, 2, 0), (30, .return_, 1, 0, 0, 0)]
def kX2_placeOf : List EN := [(0, .aload_n 0, 1, 0, 0, 0), (1, .getfield 22, 3, 2, 1, 0), (4, .iload_n 1, 1, 0, 0, 0), (5, .iadd, 1, 0, 0, 0), (6, .bipush 8, 2, 0, 0, 8), (8, .irem, 1, 0, 0, 0), (9, .istore_n 2, 1, 0, 0, 0), (10, .iload_n 2, 1, 0, 0, 0), (11, .ifCond .lt 21, 3, 0, 0, 0), (14, .iload_n 2, 1, 0, 0, 0), (15, .aload_n 0, 1, 0, 0, 0), (16, .getfield 11, 3, 2, 0, 0), (19, .arraylength, 1, 0, 0, 0), (20, .if_icmp .ge 12, 3, 0, 0, 0), (23, .aload_n 0, 1, 0, 0, 0), (24, .getfield 11, 3, 2, 0, 0), (27, .iload_n 2, 1, 0, 0, 0), (28, .aaload, 1, 0, 0, 0), (29, .goto 4, 3, 0, 0, 0), (32, .aconst_null, 1, 0, 0, 0), (33, .areturn, 1, 0, 0, 0)]
def kX3_copyFrom : List EN := [(0, .aload_n 0, 1, 0, 0, 0), (1, .aload_n 1, 1, 0, 0, 0), (2, .invokevirtual 53, 3, 35, 50, 0), (5, .aload_n 0, 1, 0, 0, 0), (6, .getfield 25, 3, 3, 1, 0), (9, .aload_n 1, 1, 0, 0, 0), (10, .getfield 25, 3, 3, 1, 0), (13, .invokevirtual 57, 3, 76, 98, 0), (16, .aload_n 0, 1, 0, 0, 0), (17, .getfield 32, 3, 3, 2, 0), (20, .aload_n 1, 1, 0, 0, 0), (21, .getfield 32, 3, 3, 2, 0), (24, .invokevirtual 61, 3, 51, 66, 0), (27, .aload_n 0, 1, 0, 0, 0), (28, .getfield 50, 3, 3, 5, 0), (31, .aload_n 1, 1, 0, 0, 0), (32, .getfield 50, 3, 3, 5, 0), (35, .invokevirtual 64, 3, 84, 114, 0), (38, .aload_n 0, 1, 0, 0, 0), (39, .aload_n 1, 1, 0, 0, 0), (40, .getfield 66, 3, 3, 7, 0), (43, .putfield 66, 3, 3, 7, 0), (46, .aload_n 0, 1, 0, 0, 0), (47, .aload_n 1, 1, 0, 0, 0), (48, .getfield 70, 3, 3, 8, 0), (51, .putfield 70, 3, 3, 8, 0), (54, .return_, 1, 0, 0, 0)]
def kX3_copyMotionFrom : List EN := [(0, .aload_n 0, 1, 0, 0, 0), (1, .getfield 14, 3, 3, 0, 0), (4, .aload_n 1, 1, 0, 0, 0), (5, .getfield 14, 3, 3, 0, 0), (8, .invokevirtual 64, 3, 84, 114, 0), (11, .aload_n 0, 1, 0, 0, 0), (12, .getfield 39, 3, 3, 3, 0), (15, .aload_n 1, 1, 0, 0, 0), (16, .getfield 39, 3, 3, 3, 0), (19, .invokevirtual 73, 3, 17, 18, 0), (22, .aload_n 0, 1, 0, 0, 0), (23, .getfield 46, 3, 3, 4, 0), (26, .aload_n 1, 1, 0, 0, 0), (27, .getfield 46, 3, 3, 4, 0), (30, .invokevirtual 76, 3, 0, 2, 0), (33, .aload_n 0, 1, 0, 0, 0), (34, .aload_n 1, 1, 0, 0, 0), (35, .getfield 79, 3, 3, 6, 0), (38, .putfield 79, 3, 3, 6, 0), (41, .return_, 1, 0, 0, 0)]
def kX3_clear : List EN := [(0, .aload_n 0, 1, 0, 0, 0), (1, .getfield 39, 3, 3, 3, 0), (4, .getfield 82, 3, 1, 1, 0), (7, .iconst 0, 1, 0, 0, 0), (8, .invokevirtual 85, 3, 83, 114, 0), (11, .aload_n 0, 1, 0, 0, 0), (12, .getfield 46, 3, 3, 4, 0), (15, .invokevirtual 88, 3, 1, 1, 0), (18, .return_, 1, 0, 0, 0)]
def kX3_begin : List EN := [(0, .aload_n 0, 1, 0, 0, 0), (1, .getfield 14, 3, 3, 0, 0), (4, .bipush 12, 2, 0, 0, 12), (6, .iconst 1, 1, 0, 0, 1), (7, .invokevirtual 91, 3, 82, 115, 0), (10, .aload_n 0, 1, 0, 0, 0), (11, .getfield 25, 3, 3, 1, 0), (14, .invokevirtual 95, 3, 77, 97, 0), (17, .aload_n 0, 1, 0, 0, 0), (18, .getfield 25, 3, 3, 1, 0), (21, .iconst 0, 1, 0, 0, 0), (22, .putfield 98, 3, 6, 4, 0), (25, .aload_n 0, 1, 0, 0, 0), (26, .getfield 32, 3, 3, 2, 0), (29, .invokevirtual 101, 3, 52, 65, 0), (32, .aload_n 0, 1, 0, 0, 0), (33, .getfield 39, 3, 3, 3, 0), (36, .invokevirtual 102, 3, 18, 17, 0), (39, .aload_n 0, 1, 0, 0, 0), (40, .getfield 50, 3, 3, 5, 0), (43, .iconst 0, 1, 0, 0, 0), (44, .invokevirtual 85, 3, 83, 114, 0), (47, .aload_n 0, 1, 0, 0, 0), (48, .iconst 0, 1, 0, 0, 0), (49, .putfield 79, 3, 3, 6, 0), (52, .aload_n 0, 1, 0, 0, 0), (53, .iconst 0, 1, 0, 0, 0), (54, .putfield 66, 3, 3, 7, 0), (57, .aload_n 0, 1, 0, 0, 0), (58, .iconst (-1), 1, 0, 0, (-1)), (59, .putfield 70, 3, 3, 8, 0), (62, .return_, 1, 0, 0, 0)]
def kX3_addTo : List EN := [(0, .aload_n 0, 1, 0, 0, 0), (1, .getfield 50, 3, 3, 5, 0), (4, .iload_n 1, 1, 0, 0, 0), (5, .aload_n 0, 1, 0, 0, 0), (6, .getfield 50, 3, 3, 5, 0), (9, .iload_n 1, 1, 0, 0, 0), (10, .invokevirtual 105, 3, 81, 114, 0), (13, .iload_n 2, 1, 0, 0, 0), (14, .iadd, 1, 0, 0, 0), (15, .invokevirtual 91, 3, 82, 115, 0), (18, .return_, 1, 0, 0, 0)]
def kX3_startKey : List EN := [(0, .aload_n 0, 1, 0, 0, 0), (1, .dup, 1, 0, 0, 0), (2, .getfield 79, 3, 3, 6, 0), (5, .aload_n 0, 1, 0, 0, 0), (6, .getfield 14, 3, 3, 0, 0), (9, .iconst 5, 1, 0, 0, 5), (10, .invokevirtual 105, 3, 81, 114, 0), (13, .iadd, 1, 0, 0, 0), (14, .putfield 79, 3, 3, 6, 0), (17, .aload_n 0, 1, 0, 0, 0), (18, .bipush 13, 2, 0, 0, 13), (20, .iconst 1, 1, 0, 0, 1), (21, .invokevirtual 109, 3, 38, 51, 0), (24, .return_, 1, 0, 0, 0)]
def kX3_endKey : List EN := [(0, .aload_n 0, 1, 0, 0, 0), (1, .bipush 9, 2, 0, 0, 9), (3, .iload_n 1, 1, 0, 0, 0), (4, .ifCond .ne 7, 3, 0, 0, 0), (7, .iconst 0, 1, 0, 0, 0), (8, .goto 4, 3, 0, 0, 0), (11, .iconst 1, 1, 0, 0, 1), (12, .invokevirtual 109, 3, 38, 51, 0), (15, .iload_n 1, 1, 0, 0, 0), (16, .ireturn, 1, 0, 0, 0)]
def kX3_noteKey : List EN := [(0, .aload_n 0, 1, 0, 0, 0), (1, .iload_n 1, 1, 0, 0, 0), (2, .putfield 66, 3, 3, 7, 0), (5, .aload_n 0, 1, 0, 0, 0), (6, .iconst (-1), 1, 0, 0, (-1)), (7, .putfield 70, 3, 3, 8, 0), (10, .iload_n 1, 1, 0, 0, 0), (11, .ireturn, 1, 0, 0, 0)]
def kX3_standingFault : List EN := [(0, .aload_n 0, 1, 0, 0, 0), (1, .getfield 46, 3, 3, 4, 0), (4, .invokevirtual 112, 3, 7, 1, 0), (7, .ifCond .eq 5, 3, 0, 0, 0), (10, .iconst 1, 1, 0, 0, 1), (11, .ireturn, 1, 0, 0, 0), (12, .iload_n 1, 1, 0, 0, 0), (13, .ifCond .eq 24, 3, 0, 0, 0), (16, .aload_n 0, 1, 0, 0, 0), (17, .getfield 39, 3, 3, 3, 0), (20, .aload_n 0, 1, 0, 0, 0), (21, .getfield 39, 3, 3, 3, 0), (24, .getfield 116, 3, 1, 3, 0), (27, .invokevirtual 119, 3, 22, 18, 0), (30, .ifCond .eq 7, 3, 0, 0, 0), (33, .iconst 2, 1, 0, 0, 2), (34, .goto 4, 3, 0, 0, 0), (37, .iconst 0, 1, 0, 0, 0), (38, .ireturn, 1, 0, 0, 0)]
def kX3_letterKey : List EN := [(0, .aload_n 0, 1, 0, 0, 0), (1, .invokevirtual 123, 3, 39, 49, 0), (4, .aload_n 0, 1, 0, 0, 0), (5, .iconst 1, 1, 0, 0, 1), (6, .invokevirtual 126, 3, 42, 50, 0), (9, .istore_n 3, 1, 0, 0, 0), (10, .iload_n 3, 1, 0, 0, 0), (11, .ifCond .ne 16, 3, 0, 0, 0), (14, .aload_n 0, 1, 0, 0, 0), (15, .getfield 46, 3, 3, 4, 0), (18, .iload_n 1, 1, 0, 0, 0), (19, .aload_n 0, 1, 0, 0, 0), (20, .getfield 79, 3, 3, 6, 0), (23, .invokevirtual 130, 3, 9, 3, 0), (26, .istore_n 3, 1, 0, 0, 0), (27, .iload_n 3, 1, 0, 0, 0), (28, .ifCond .ne 12, 3, 0, 0, 0), (31, .aload_n 0, 1, 0, 0, 0), (32, .iload_n 1, 1, 0, 0, 0), (33, .iload_n 2, 1, 0, 0, 0), (34, .invokevirtual 134, 3, 44, 51, 0), (37, .goto 23, 3, 0, 0, 0), (40, .iload_n 3, 1, 0, 0, 0), (41, .iconst 5, 1, 0, 0, 5), (42, .if_icmp .ne 18, 3, 0, 0, 0), (45, .aload_n 0, 1, 0, 0, 0), (46, .getfield 46, 3, 3, 4, 0), (49, .iload_n 1, 1, 0, 0, 0), (50, .invokevirtual 138, 3, 12, 2, 0), (53, .aload_n 0, 1, 0, 0, 0), (54, .bipush 8, 2, 0, 0, 8), (56, .iconst 1, 1, 0, 0, 1), (57, .invokevirtual 109, 3, 38, 51, 0), (60, .aload_n 0, 1, 0, 0, 0), (61, .iload_n 3, 1, 0, 0, 0), (62, .invokevirtual 141, 3, 40, 50, 0), (65, .ireturn, 1, 0, 0, 0)]
def kX3_printLetter : List EN := [(0, .aload_n 0, 1, 0, 0, 0), (1, .getfield 46, 3, 3, 4, 0), (4, .iload_n 1, 1, 0, 0, 0), (5, .aload_n 0, 1, 0, 0, 0), (6, .getfield 79, 3, 3, 6, 0), (9, .invokevirtual 144, 3, 11, 3, 0), (12, .aload_n 0, 1, 0, 0, 0), (13, .aload_n 0, 1, 0, 0, 0), (14, .getfield 25, 3, 3, 1, 0), (17, .invokevirtual 147, 3, 78, 97, 0), (20, .putfield 151, 3, 3, 9, 0), (23, .aload_n 0, 1, 0, 0, 0), (24, .getfield 32, 3, 3, 2, 0), (27, .aload_n 0, 1, 0, 0, 0), (28, .getfield 39, 3, 3, 3, 0), (31, .getfield 154, 3, 1, 2, 0), (34, .aload_n 0, 1, 0, 0, 0), (35, .getfield 39, 3, 3, 3, 0), (38, .getfield 116, 3, 1, 3, 0), (41, .invokevirtual 157, 3, 53, 67, 0), (44, .istore_n 3, 1, 0, 0, 0), (45, .aload_n 0, 1, 0, 0, 0), (46, .iconst 3, 1, 0, 0, 3), (47, .iconst 1, 1, 0, 0, 1), (48, .invokevirtual 109, 3, 38, 51, 0), (51, .aload_n 0, 1, 0, 0, 0), (52, .bipush 12, 2, 0, 0, 12), (54, .aload_n 0, 1, 0, 0, 0), (55, .getfield 32, 3, 3, 2, 0), (58, .iload_n 3, 1, 0, 0, 0), (59, .invokevirtual 160, 3, 54, 66, 0), (62, .ifCond .eq 7, 3, 0, 0, 0), (65, .iconst 0, 1, 0, 0, 0), (66, .goto 4, 3, 0, 0, 0), (69, .iconst 1, 1, 0, 0, 1), (70, .invokevirtual 109, 3, 38, 51, 0), (73, .aload_n 0, 1, 0, 0, 0), (74, .getfield 46, 3, 3, 4, 0), (77, .getfield 163, 3, 0, 1, 0), (80, .iload_n 1, 1, 0, 0, 0), (81, .invokevirtual 105, 3, 81, 114, 0), (84, .istore 4, 2, 0, 0, 0), (86, .aload_n 0, 1, 0, 0, 0), (87, .getfield 32, 3, 3, 2, 0), (90, .iload_n 3, 1, 0, 0, 0), (91, .iload_n 2, 1, 0, 0, 0), (92, .ifCond .eq 14, 3, 0, 0, 0), (95, .iload 4, 2, 0, 0, 0), (97, .bipush 97, 2, 0, 0, 97), (99, .isub, 1, 0, 0, 0), (100, .bipush 65, 2, 0, 0, 65), (102, .iadd, 1, 0, 0, 0), (103, .goto 5, 3, 0, 0, 0), (106, .iload 4, 2, 0, 0, 0), (108, .aload_n 0, 1, 0, 0, 0), (109, .getfield 151, 3, 3, 9, 0), (112, .invokevirtual 166, 3, 55, 68, 0), (115, .aload_n 0, 1, 0, 0, 0), (116, .invokevirtual 170, 3, 45, 49, 0), (119, .return_, 1, 0, 0, 0)]
def kX3_moveOn : List EN := [(0, .aload_n 0, 1, 0, 0, 0), (1, .getfield 39, 3, 3, 3, 0), (4, .dup, 1, 0, 0, 0), (5, .getfield 116, 3, 1, 3, 0), (8, .iconst 1, 1, 0, 0, 1), (9, .iadd, 1, 0, 0, 0), (10, .putfield 116, 3, 1, 3, 0), (13, .aload_n 0, 1, 0, 0, 0), (14, .bipush 10, 2, 0, 0, 10), (16, .aload_n 0, 1, 0, 0, 0), (17, .getfield 39, 3, 3, 3, 0), (20, .getfield 116, 3, 1, 3, 0), (23, .aload_n 0, 1, 0, 0, 0), (24, .getfield 39, 3, 3, 3, 0), (27, .invokevirtual 173, 3, 23, 17, 0), (30, .if_icmp .ne 7, 3, 0, 0, 0), (33, .iconst 1, 1, 0, 0, 1), (34, .goto 4, 3, 0, 0, 0), (37, .iconst 0, 1, 0, 0, 0), (38, .invokevirtual 109, 3, 38, 51, 0), (41, .return_, 1, 0, 0, 0)]
def kX3_plainKey : List EN := [(0, .aload_n 0, 1, 0, 0, 0), (1, .invokevirtual 123, 3, 39, 49, 0), (4, .aload_n 0, 1, 0, 0, 0), (5, .iload_n 1, 1, 0, 0, 0), (6, .invokevirtual 176, 3, 47, 50, 0), (9, .istore_n 2, 1, 0, 0, 0), (10, .iload_n 2, 1, 0, 0, 0), (11, .ifCond .ne 8, 3, 0, 0, 0), (14, .aload_n 0, 1, 0, 0, 0), (15, .iload_n 1, 1, 0, 0, 0), (16, .invokevirtual 179, 3, 49, 50, 0), (19, .aload_n 0, 1, 0, 0, 0), (20, .iload_n 2, 1, 0, 0, 0), (21, .invokevirtual 141, 3, 40, 50, 0), (24, .ireturn, 1, 0, 0, 0)]
def kX3_plainFault : List EN := [(0, .iload_n 1, 1, 0, 0, 0), (1, .iconst 4, 1, 0, 0, 4), (2, .if_icmp .eq 8, 3, 0, 0, 0), (5, .iload_n 1, 1, 0, 0, 0), (6, .iconst 5, 1, 0, 0, 5), (7, .if_icmp .ne 5, 3, 0, 0, 0), (10, .iconst 0, 1, 0, 0, 0), (11, .ireturn, 1, 0, 0, 0), (12, .aload_n 0, 1, 0, 0, 0), (13, .iload_n 1, 1, 0, 0, 0), (14, .ifCond .ne 7, 3, 0, 0, 0), (17, .iconst 1, 1, 0, 0, 1), (18, .goto 4, 3, 0, 0, 0), (21, .iconst 0, 1, 0, 0, 0), (22, .invokevirtual 126, 3, 42, 50, 0), (25, .istore_n 2, 1, 0, 0, 0), (26, .iload_n 2, 1, 0, 0, 0), (27, .ifCond .ne 26, 3, 0, 0, 0), (30, .iload_n 1, 1, 0, 0, 0), (31, .iconst 3, 1, 0, 0, 3), (32, .if_icmp .ne 21, 3, 0, 0, 0), (35, .aload_n 0, 1, 0, 0, 0), (36, .invokevirtual 182, 3, 48, 49, 0), (39, .aload_n 0, 1, 0, 0, 0), (40, .getfield 14, 3, 3, 0, 0), (43, .iconst 1, 1, 0, 0, 1), (44, .invokevirtual 105, 3, 81, 114, 0), (47, .if_icmp .lt 6, 3, 0, 0, 0), (50, .bipush 6, 2, 0, 0, 6), (52, .ireturn, 1, 0, 0, 0), (53, .iload_n 2, 1, 0, 0, 0), (54, .ireturn, 1, 0, 0, 0)]
def kX3_nextLine : List EN := [(0, .aload_n 0, 1, 0, 0, 0), (1, .getfield 39, 3, 3, 3, 0), (4, .getfield 154, 3, 1, 2, 0), (7, .aload_n 0, 1, 0, 0, 0), (8, .getfield 14, 3, 3, 0, 0), (11, .bipush 12, 2, 0, 0, 12), (13, .invokevirtual 105, 3, 81, 114, 0), (16, .iadd, 1, 0, 0, 0), (17, .ireturn, 1, 0, 0, 0)]
def kX3_doPlainKey : List EN := [(0, .iload_n 1, 1, 0, 0, 0), (1, .tableswitch 141 0 4 #[35, 48, 78, 109, 130], 35, 0, 0, 0), (36, .aload_n 0, 1, 0, 0, 0), (37, .iconst 4, 1, 0, 0, 4), (38, .iconst 1, 1, 0, 0, 1), (39, .invokevirtual 109, 3, 38, 51, 0), (42, .aload_n 0, 1, 0, 0, 0), (43, .invokevirtual 170, 3, 45, 49, 0), (46, .goto 114, 3, 0, 0, 0), (49, .aload_n 0, 1, 0, 0, 0), (50, .iconst 5, 1, 0, 0, 5), (51, .iconst 1, 1, 0, 0, 1), (52, .invokevirtual 109, 3, 38, 51, 0), (55, .aload_n 0, 1, 0, 0, 0), (56, .getfield 39, 3, 3, 3, 0), (59, .aload_n 0, 1, 0, 0, 0), (60, .getfield 39, 3, 3, 3, 0), (63, .aload_n 0, 1, 0, 0, 0), (64, .getfield 39, 3, 3, 3, 0), (67, .getfield 116, 3, 1, 3, 0), (70, .invokevirtual 185, 3, 25, 18, 0), (73, .putfield 116, 3, 1, 3, 0), (76, .goto 84, 3, 0, 0, 0), (79, .aload_n 0, 1, 0, 0, 0), (80, .bipush 6, 2, 0, 0, 6), (82, .iconst 1, 1, 0, 0, 1), (83, .invokevirtual 109, 3, 38, 51, 0), (86, .aload_n 0, 1, 0, 0, 0), (87, .getfield 39, 3, 3, 3, 0), (90, .aload_n 0, 1, 0, 0, 0), (91, .getfield 39, 3, 3, 3, 0), (94, .aload_n 0, 1, 0, 0, 0), (95, .getfield 39, 3, 3, 3, 0), (98, .getfield 116, 3, 1, 3, 0), (101, .invokevirtual 188, 3, 26, 18, 0), (104, .putfield 116, 3, 1, 3, 0), (107, .goto 53, 3, 0, 0, 0), (110, .aload_n 0, 1, 0, 0, 0), (111, .bipush 7, 2, 0, 0, 7), (113, .iconst 1, 1, 0, 0, 1), (114, .invokevirtual 109, 3, 38, 51, 0), (117, .aload_n 0, 1, 0, 0, 0), (118, .getfield 39, 3, 3, 3, 0), (121, .aload_n 0, 1, 0, 0, 0), (122, .invokevirtual 182, 3, 48, 49, 0), (125, .invokevirtual 191, 3, 19, 18, 0), (128, .goto 32, 3, 0, 0, 0), (131, .aload_n 0, 1, 0, 0, 0), (132, .getfield 39, 3, 3, 3, 0), (135, .iconst 1, 1, 0, 0, 1), (136, .putfield 194, 3, 1, 4, 0), (139, .goto 21, 3, 0, 0, 0), (142, .aload_n 0, 1, 0, 0, 0), (143, .getfield 46, 3, 3, 4, 0), (146, .invokevirtual 198, 3, 13, 1, 0), (149, .aload_n 0, 1, 0, 0, 0), (150, .dup, 1, 0, 0, 0), (151, .getfield 79, 3, 3, 6, 0), (154, .bipush 100, 2, 0, 0, 100), (156, .iadd, 1, 0, 0, 0), (157, .putfield 79, 3, 3, 6, 0), (160, .return_, 1, 0, 0, 0)]
def kX3_typeText : List EN := [(0, .iconst 0, 1, 0, 0, 0), (1, .istore_n 3, 1, 0, 0, 0), (2, .iload_n 3, 1, 0, 0, 0), (3, .iload_n 2, 1, 0, 0, 0), (4, .if_icmp .ge 125, 3, 0, 0, 0), (7, .aload_n 1, 1, 0, 0, 0), (8, .iload_n 3, 1, 0, 0, 0), (9, .invokevirtual 105, 3, 81, 114, 0), (12, .istore 4, 2, 0, 0, 0), (14, .aload_n 0, 1, 0, 0, 0), (15, .getfield 46, 3, 3, 4, 0), (18, .iload 4, 2, 0, 0, 0), (20, .invokevirtual 201, 3, 3, 2, 0), (23, .istore 5, 2, 0, 0, 0), (25, .iload 4, 2, 0, 0, 0), (27, .invokestatic 204, 3, 156, 1, 0), (30, .istore 6, 2, 0, 0, 0), (32, .iconst 0, 1, 0, 0, 0), (33, .istore 7, 2, 0, 0, 0), (35, .iload 5, 2, 0, 0, 0), (37, .iconst (-1), 1, 0, 0, (-1)), (38, .if_icmp .eq 19, 3, 0, 0, 0), (41, .aload_n 0, 1, 0, 0, 0), (42, .iload 5, 2, 0, 0, 0), (44, .iload 4, 2, 0, 0, 0), (46, .invokestatic 207, 3, 154, 1, 0), (49, .invokevirtual 210, 3, 43, 51, 0), (52, .istore 7, 2, 0, 0, 0), (54, .goto 51, 3, 0, 0, 0), (57, .iload 6, 2, 0, 0, 0), (59, .iconst (-1), 1, 0, 0, (-1)), (60, .if_icmp .eq 14, 3, 0, 0, 0), (63, .aload_n 0, 1, 0, 0, 0), (64, .iload 6, 2, 0, 0, 0), (66, .invokevirtual 214, 3, 46, 50, 0), (69, .istore 7, 2, 0, 0, 0), (71, .goto 34, 3, 0, 0, 0), (74, .iload 4, 2, 0, 0, 0), (76, .invokestatic 217, 3, 155, 1, 0), (79, .ifCond .eq 23, 3, 0, 0, 0), (82, .aload_n 0, 1, 0, 0, 0), (83, .dup, 1, 0, 0, 0), (84, .getfield 79, 3, 3, 6, 0), (87, .bipush 10, 2, 0, 0, 10), (89, .iload 4, 2, 0, 0, 0), (91, .bipush 48, 2, 0, 0, 48), (93, .isub, 1, 0, 0, 0), (94, .imul, 1, 0, 0, 0), (95, .iadd, 1, 0, 0, 0), (96, .putfield 79, 3, 3, 6, 0), (99, .goto 6, 3, 0, 0, 0), (102, .iconst 3, 1, 0, 0, 3), (103, .istore 7, 2, 0, 0, 0), (105, .iload 7, 2, 0, 0, 0), (107, .ifCond .eq 16, 3, 0, 0, 0), (110, .aload_n 0, 1, 0, 0, 0), (111, .iload 7, 2, 0, 0, 0), (113, .putfield 66, 3, 3, 7, 0), (116, .aload_n 0, 1, 0, 0, 0), (117, .iload_n 3, 1, 0, 0, 0), (118, .putfield 70, 3, 3, 8, 0), (121, .iload_n 3, 1, 0, 0, 0), (122, .ireturn, 1, 0, 0, 0), (123, .iinc 3 1, 3, 0, 0, 1), (126, .goto (-124), 3, 0, 0, 0), (129, .aload_n 0, 1, 0, 0, 0), (130, .iconst 0, 1, 0, 0, 0), (131, .putfield 66, 3, 3, 7, 0), (134, .aload_n 0, 1, 0, 0, 0), (135, .iconst (-1), 1, 0, 0, (-1)), (136, .putfield 70, 3, 3, 8, 0), (139, .iload_n 2, 1, 0, 0, 0), (140, .ireturn, 1, 0, 0, 0)]
def kX4_copyFrom : List EN := [(0, .aload_n 0, 1, 0, 0, 0), (1, .getfield 14, 3, 4, 1, 0), (4, .aload_n 1, 1, 0, 0, 0), (5, .getfield 14, 3, 4, 1, 0), (8, .invokevirtual 26, 3, 84, 114, 0), (11, .aload_n 0, 1, 0, 0, 0), (12, .getfield 20, 3, 4, 2, 0), (15, .aload_n 1, 1, 0, 0, 0), (16, .getfield 20, 3, 4, 2, 0), (19, .invokevirtual 26, 3, 84, 114, 0), (22, .return_, 1, 0, 0, 0)]
def kX4_clear : List EN := [(0, .aload_n 0, 1, 0, 0, 0), (1, .getfield 14, 3, 4, 1, 0), (4, .bipush 32, 2, 0, 0, 32), (6, .invokevirtual 30, 3, 83, 114, 0), (9, .aload_n 0, 1, 0, 0, 0), (10, .getfield 20, 3, 4, 2, 0), (13, .iconst 0, 1, 0, 0, 0), (14, .invokevirtual 30, 3, 83, 114, 0), (17, .return_, 1, 0, 0, 0)]
def kX4_placeOf : List EN := [(0, .iload_n 1, 1, 0, 0, 0), (1, .aload_n 0, 1, 0, 0, 0), (2, .getfield 23, 3, 4, 0, 0), (5, .iconst 0, 1, 0, 0, 0), (6, .invokevirtual 33, 3, 81, 114, 0), (9, .imul, 1, 0, 0, 0), (10, .iload_n 2, 1, 0, 0, 0), (11, .iadd, 1, 0, 0, 0), (12, .ireturn, 1, 0, 0, 0)]
def kX4_isEmpty : List EN := [(0, .aload_n 0, 1, 0, 0, 0), (1, .getfield 14, 3, 4, 1, 0), (4, .iload_n 1, 1, 0, 0, 0), (5, .invokevirtual 33, 3, 81, 114, 0), (8, .bipush 32, 2, 0, 0, 32), (10, .if_icmp .ne 7, 3, 0, 0, 0), (13, .iconst 1, 1, 0, 0, 1), (14, .goto 4, 3, 0, 0, 0), (17, .iconst 0, 1, 0, 0, 0), (18, .ireturn, 1, 1, 0, 0)]
def kX4_print : List EN := [(0, .aload_n 0, 1, 0, 0, 0), (1, .getfield 14, 3, 4, 1, 0), (4, .iload_n 1, 1, 0, 0, 0), (5, .iload_n 2, 1, 0, 0, 0), (6, .invokevirtual 37, 3, 82, 115, 0), (9, .aload_n 0, 1, 0, 0, 0), (10, .getfield 20, 3, 4, 2, 0), (13, .iload_n 1, 1, 0, 0, 0), (14, .bipush 9, 2, 0, 0, 9), (16, .aload_n 0, 1, 0, 0, 0), (17, .getfield 20, 3, 4, 2, 0), (20, .iload_n 1, 1, 0, 0, 0), (21, .invokevirtual 33, 3, 81, 114, 0), (24, .iload_n 3, 1, 0, 0, 0), (25, .iadd, 1, 0, 0, 0), (26, .invokestatic 41, 3, 1001, 0, 0), (29, .invokevirtual 37, 3, 82, 115, 0), (32, .return_, 1, 0, 0, 0)]
def kX4_places : List EN := [(0, .aload_n 0, 1, 0, 0, 0), (1, .getfield 23, 3, 4, 0, 0), (4, .iconst 1, 1, 0, 0, 1), (5, .invokevirtual 33, 3, 81, 114, 0), (8, .aload_n 0, 1, 0, 0, 0), (9, .getfield 23, 3, 4, 0, 0), (12, .iconst 0, 1, 0, 0, 0), (13, .invokevirtual 33, 3, 81, 114, 0), (16, .imul, 1, 0, 0, 0), (17, .ireturn, 1, 0, 0, 0)]
def kX4_endOf : List EN := [(0, .aload_n 0, 1, 0, 0, 0), (1, .getfield 23, 3, 4, 0, 0), (4, .iconst 0, 1, 0, 0, 0), (5, .invokevirtual 33, 3, 81, 114, 0), (8, .iconst 1, 1, 0, 0, 1), (9, .isub, 1, 0, 0, 0), (10, .istore_n 2, 1, 0, 0, 0), (11, .iload_n 2, 1, 0, 0, 0), (12, .ifCond .lt 26, 3, 0, 0, 0), (15, .aload_n 0, 1, 0, 0, 0), (16, .aload_n 0, 1, 0, 0, 0), (17, .iload_n 1, 1, 0, 0, 0), (18, .iload_n 2, 1, 0, 0, 0), (19, .invokevirtual 47, 3, 53, 67, 0), (22, .invokevirtual 50, 3, 54, 66, 0), (25, .ifCond .ne 7, 3, 0, 0, 0), (28, .iload_n 2, 1, 0, 0, 0), (29, .iconst 1, 1, 0, 0, 1), (30, .iadd, 1, 0, 0, 0), (31, .ireturn, 1, 0, 0, 0), (32, .iinc 2 (-1), 3, 0, 0, (-1)), (35, .goto (-24), 3, 0, 0, 0), (38, .iconst 0, 1, 0, 0, 0), (39, .ireturn, 1, 0, 0, 0)]
def kX4_wordsIn : List EN := [(0, .iconst 0, 1, 0, 0, 0), (1, .istore_n 2, 1, 0, 0, 0), (2, .iconst 0, 1, 0, 0, 0), (3, .istore_n 3, 1, 0, 0, 0), (4, .iconst 0, 1, 0, 0, 0), (5, .istore 4, 2, 0, 0, 0), (7, .iload 4, 2, 0, 0, 0), (9, .aload_n 0, 1, 0, 0, 0), (10, .getfield 23, 3, 4, 0, 0), (13, .iconst 0, 1, 0, 0, 0), (14, .invokevirtual 33, 3, 81, 114, 0), (17, .if_icmp .ge 45, 3, 0, 0, 0), (20, .aload_n 0, 1, 0, 0, 0), (21, .aload_n 0, 1, 0, 0, 0), (22, .iload_n 1, 1, 0, 0, 0), (23, .iload 4, 2, 0, 0, 0), (25, .invokevirtual 47, 3, 53, 67, 0), (28, .invokevirtual 50, 3, 54, 66, 0), (31, .ifCond .ne 7, 3, 0, 0, 0), (34, .iconst 1, 1, 0, 0, 1), (35, .goto 4, 3, 0, 0, 0), (38, .iconst 0, 1, 0, 0, 0), (39, .istore 5, 2, 0, 0, 0), (41, .iload 5, 2, 0, 0, 0), (43, .ifCond .eq 10, 3, 0, 0, 0), (46, .iload_n 3, 1, 0, 0, 0), (47, .ifCond .ne 6, 3, 0, 0, 0), (50, .iinc 2 1, 3, 0, 0, 1), (53, .iload 5, 2, 0, 0, 0), (55, .istore_n 3, 1, 0, 0, 0), (56, .iinc 4 1, 3, 0, 0, 1), (59, .goto (-52), 3, 0, 0, 0), (62, .iload_n 2, 1, 0, 0, 0), (63, .ireturn, 1, 0, 0, 0)]
def kX4_placesWith : List EN := [(0, .iconst 0, 1, 0, 0, 0), (1, .istore_n 2, 1, 0, 0, 0), (2, .iconst 0, 1, 0, 0, 0), (3, .istore_n 3, 1, 0, 0, 0), (4, .iload_n 3, 1, 0, 0, 0), (5, .aload_n 0, 1, 0, 0, 0), (6, .invokevirtual 54, 3, 56, 65, 0), (9, .if_icmp .ge 24, 3, 0, 0, 0), (12, .aload_n 0, 1, 0, 0, 0), (13, .getfield 14, 3, 4, 1, 0), (16, .iload_n 3, 1, 0, 0, 0), (17, .invokevirtual 33, 3, 81, 114, 0), (20, .iload_n 1, 1, 0, 0, 0), (21, .if_icmp .ne 6, 3, 0, 0, 0), (24, .iinc 2 1, 3, 0, 0, 1), (27, .iinc 3 1, 3, 0, 0, 1), (30, .goto (-26), 3, 0, 0, 0), (33, .iload_n 2, 1, 0, 0, 0), (34, .ireturn, 1, 0, 0, 0)]
def kX4_filledPlaces : List EN := [(0, .aload_n 0, 1, 0, 0, 0), (1, .invokevirtual 54, 3, 56, 65, 0), (4, .aload_n 0, 1, 0, 0, 0), (5, .bipush 32, 2, 0, 0, 32), (7, .invokevirtual 58, 3, 59, 66, 0), (10, .isub, 1, 0, 0, 0), (11, .ireturn, 1, 0, 0, 0)]
def kX4_allDarkness : List EN := [(0, .iconst 0, 1, 0, 0, 0), (1, .istore_n 1, 1, 0, 0, 0), (2, .iconst 0, 1, 0, 0, 0), (3, .istore_n 2, 1, 0, 0, 0), (4, .iload_n 2, 1, 0, 0, 0), (5, .aload_n 0, 1, 0, 0, 0), (6, .invokevirtual 54, 3, 56, 65, 0), (9, .if_icmp .ge 20, 3, 0, 0, 0), (12, .iload_n 1, 1, 0, 0, 0), (13, .aload_n 0, 1, 0, 0, 0), (14, .getfield 20, 3, 4, 2, 0), (17, .iload_n 2, 1, 0, 0, 0), (18, .invokevirtual 33, 3, 81, 114, 0), (21, .iadd, 1, 0, 0, 0), (22, .istore_n 1, 1, 0, 0, 0), (23, .iinc 2 1, 3, 0, 0, 1), (26, .goto (-22), 3, 0, 0, 0), (29, .iload_n 1, 1, 0, 0, 0), (30, .ireturn, 1, 0, 0, 0)]
def kX4_palestPlace : List EN := [(0, .iconst (-1), 1, 0, 0, (-1)), (1, .istore_n 1, 1, 0, 0, 0), (2, .iconst 0, 1, 0, 0, 0), (3, .istore_n 2, 1, 0, 0, 0), (4, .iload_n 2, 1, 0, 0, 0), (5, .aload_n 0, 1, 0, 0, 0), (6, .invokevirtual 54, 3, 56, 65, 0), (9, .if_icmp .ge 43, 3, 0, 0, 0), (12, .aload_n 0, 1, 0, 0, 0), (13, .iload_n 2, 1, 0, 0, 0), (14, .invokevirtual 50, 3, 54, 66, 0), (17, .ifCond .ne 29, 3, 0, 0, 0), (20, .iload_n 1, 1, 0, 0, 0), (21, .iconst (-1), 1, 0, 0, (-1)), (22, .if_icmp .eq 22, 3, 0, 0, 0), (25, .aload_n 0, 1, 0, 0, 0), (26, .getfield 20, 3, 4, 2, 0), (29, .iload_n 2, 1, 0, 0, 0), (30, .invokevirtual 33, 3, 81, 114, 0), (33, .aload_n 0, 1, 0, 0, 0), (34, .getfield 20, 3, 4, 2, 0), (37, .iload_n 1, 1, 0, 0, 0), (38, .invokevirtual 33, 3, 81, 114, 0), (41, .if_icmp .ge 5, 3, 0, 0, 0), (44, .iload_n 2, 1, 0, 0, 0), (45, .istore_n 1, 1, 0, 0, 0), (46, .iinc 2 1, 3, 0, 0, 1), (49, .goto (-45), 3, 0, 0, 0), (52, .iload_n 1, 1, 0, 0, 0), (53, .ireturn, 1, 0, 0, 0)]
def kX5_parse : List EN := [(0, .aload_n 0, 1, 0, 0, 0), (1, .iload_n 1, 1, 0, 0, 0), (2, .putfield 23, 3, 5, 2, 0), (5, .aload_n 0, 1, 0, 0, 0), (6, .iconst 0, 1, 0, 0, 0), (7, .putfield 26, 3, 5, 3, 0), (10, .aload_n 0, 1, 0, 0, 0), (11, .iconst 0, 1, 0, 0, 0), (12, .putfield 29, 3, 5, 7, 0), (15, .aload_n 0, 1, 0, 0, 0), (16, .iconst (-1), 1, 0, 0, (-1)), (17, .putfield 9, 3, 5, 8, 0), (20, .aload_n 0, 1, 0, 0, 0), (21, .getfield 19, 3, 5, 1, 0), (24, .invokevirtual 32, 3, 36, 49, 0), (27, .aload_n 0, 1, 0, 0, 0), (28, .invokevirtual 37, 3, 73, 81, 0), (31, .aload_n 0, 1, 0, 0, 0), (32, .ldc 40, 2, 0, 0, 0), (34, .invokevirtual 42, 3, 69, 82, 0), (37, .aload_n 0, 1, 0, 0, 0), (38, .iconst 0, 1, 0, 0, 0), (39, .iconst 4, 1, 0, 0, 4), (40, .invokevirtual 46, 3, 66, 83, 0), (43, .aload_n 0, 1, 0, 0, 0), (44, .invokevirtual 50, 3, 70, 81, 0), (47, .aload_n 0, 1, 0, 0, 0), (48, .ldc 53, 2, 1, 0, 0), (50, .invokevirtual 42, 3, 69, 82, 0), (53, .aload_n 0, 1, 0, 0, 0), (54, .iconst 5, 1, 0, 0, 5), (55, .bipush 8, 2, 0, 0, 8), (57, .invokevirtual 46, 3, 66, 83, 0), (60, .aload_n 0, 1, 0, 0, 0), (61, .invokevirtual 50, 3, 70, 81, 0), (64, .aload_n 0, 1, 0, 0, 0), (65, .ldc 55, 2, 2, 0, 0), (67, .invokevirtual 42, 3, 69, 82, 0), (70, .aload_n 0, 1, 0, 0, 0), (71, .bipush 9, 2, 0, 0, 9), (73, .bipush 11, 2, 0, 0, 11), (75, .invokevirtual 46, 3, 66, 83, 0), (78, .iconst 0, 1, 0, 0, 0), (79, .istore_n 2, 1, 0, 0, 0), (80, .iload_n 2, 1, 0, 0, 0), (81, .aload_n 0, 1, 0, 0, 0), (82, .getfield 23, 3, 5, 2, 0), (85, .if_icmp .ge 64, 3, 0, 0, 0), (88, .aload_n 0, 1, 0, 0, 0), (89, .getfield 29, 3, 5, 7, 0), (92, .ifCond .ne 57, 3, 0, 0, 0), (95, .aload_n 0, 1, 0, 0, 0), (96, .getfield 57, 3, 5, 4, 0), (99, .ifCond .eq 50, 3, 0, 0, 0), (102, .aload_n 0, 1, 0, 0, 0), (103, .invokevirtual 50, 3, 70, 81, 0), (106, .aload_n 0, 1, 0, 0, 0), (107, .ldc 60, 2, 3, 0, 0), (109, .invokevirtual 62, 3, 71, 82, 0), (112, .ifCond .eq 10, 3, 0, 0, 0), (115, .aload_n 0, 1, 0, 0, 0), (116, .invokevirtual 66, 3, 64, 81, 0), (119, .goto 24, 3, 0, 0, 0), (122, .aload_n 0, 1, 0, 0, 0), (123, .ldc 69, 2, 4, 0, 0), (125, .invokevirtual 62, 3, 71, 82, 0), (128, .ifCond .eq 10, 3, 0, 0, 0), (131, .aload_n 0, 1, 0, 0, 0), (132, .invokevirtual 71, 3, 65, 81, 0), (135, .goto 8, 3, 0, 0, 0), (138, .aload_n 0, 1, 0, 0, 0), (139, .iconst 1, 1, 0, 0, 1), (140, .invokevirtual 74, 3, 72, 82, 0), (143, .iinc 2 1, 3, 0, 0, 1), (146, .goto (-66), 3, 0, 0, 0), (149, .aload_n 0, 1, 0, 0, 0), (150, .getfield 19, 3, 5, 1, 0), (153, .invokevirtual 78, 3, 37, 49, 0), (156, .return_, 1, 0, 0, 0)]
def kX5_takeBar : List EN := [(0, .aload_n 0, 1, 0, 0, 0), (1, .invokevirtual 37, 3, 73, 81, 0), (4, .aload_n 0, 1, 0, 0, 0), (5, .getfield 57, 3, 5, 4, 0), (8, .iconst 1, 1, 0, 0, 1), (9, .if_icmp .ne 20, 3, 0, 0, 0), (12, .aload_n 0, 1, 0, 0, 0), (13, .getfield 26, 3, 5, 3, 0), (16, .aload_n 0, 1, 0, 0, 0), (17, .getfield 81, 3, 5, 5, 0), (20, .isub, 1, 0, 0, 0), (21, .iconst 1, 1, 0, 0, 1), (22, .if_icmp .ne 7, 3, 0, 0, 0), (25, .iconst 1, 1, 0, 0, 1), (26, .goto 4, 3, 0, 0, 0), (29, .iconst 0, 1, 0, 0, 0), (30, .istore_n 1, 1, 0, 0, 0), (31, .aload_n 0, 1, 0, 0, 0), (32, .getfield 15, 3, 5, 0, 0), (35, .aload_n 0, 1, 0, 0, 0), (36, .getfield 81, 3, 5, 5, 0), (39, .invokevirtual 84, 3, 81, 114, 0), (42, .istore_n 2, 1, 0, 0, 0), (43, .iload_n 1, 1, 0, 0, 0), (44, .ifCond .ne 11, 3, 0, 0, 0), (47, .aload_n 0, 1, 0, 0, 0), (48, .iconst 1, 1, 0, 0, 1), (49, .invokevirtual 74, 3, 72, 82, 0), (52, .goto 23, 3, 0, 0, 0), (55, .aload_n 0, 1, 0, 0, 0), (56, .getfield 19, 3, 5, 1, 0), (59, .getfield 90, 3, 3, 4, 0), (62, .iload_n 2, 1, 0, 0, 0), (63, .invokevirtual 94, 3, 3, 2, 0), (66, .iconst (-1), 1, 0, 0, (-1)), (67, .if_icmp .eq 8, 3, 0, 0, 0), (70, .aload_n 0, 1, 0, 0, 0), (71, .iconst 3, 1, 0, 0, 3), (72, .invokevirtual 74, 3, 72, 82, 0), (75, .aload_n 0, 1, 0, 0, 0), (76, .invokevirtual 37, 3, 73, 81, 0), (79, .aload_n 0, 1, 0, 0, 0), (80, .iconst 0, 1, 0, 0, 0), (81, .sipush 180, 3, 0, 0, 180), (84, .invokevirtual 99, 3, 67, 83, 0), (87, .istore_n 3, 1, 0, 0, 0), (88, .aload_n 0, 1, 0, 0, 0), (89, .getfield 19, 3, 5, 1, 0), (92, .getfield 90, 3, 3, 4, 0), (95, .iload_n 2, 1, 0, 0, 0), (96, .iload_n 3, 1, 0, 0, 0), (97, .invokevirtual 103, 3, 2, 3, 0), (100, .return_, 1, 0, 0, 0)]
def kX5_takeTab : List EN := [(0, .aload_n 0, 1, 0, 0, 0), (1, .invokevirtual 37, 3, 73, 81, 0), (4, .aload_n 0, 1, 0, 0, 0), (5, .iconst 0, 1, 0, 0, 0), (6, .aload_n 0, 1, 0, 0, 0), (7, .getfield 19, 3, 5, 1, 0), (10, .getfield 106, 3, 3, 0, 0), (13, .iconst 0, 1, 0, 0, 0), (14, .invokevirtual 84, 3, 81, 114, 0), (17, .iconst 1, 1, 0, 0, 1), (18, .isub, 1, 0, 0, 0), (19, .invokevirtual 109, 3, 68, 83, 0), (22, .aload_n 0, 1, 0, 0, 0), (23, .getfield 112, 3, 5, 6, 0), (26, .istore_n 1, 1, 0, 0, 0), (27, .aload_n 0, 1, 0, 0, 0), (28, .getfield 19, 3, 5, 1, 0), (31, .getfield 115, 3, 3, 3, 0), (34, .iload_n 1, 1, 0, 0, 0), (35, .invokevirtual 119, 3, 20, 18, 0), (38, .ifCond .eq 8, 3, 0, 0, 0), (41, .aload_n 0, 1, 0, 0, 0), (42, .iconst 3, 1, 0, 0, 3), (43, .invokevirtual 74, 3, 72, 82, 0), (46, .aload_n 0, 1, 0, 0, 0), (47, .invokevirtual 37, 3, 73, 81, 0), (50, .aload_n 0, 1, 0, 0, 0), (51, .getfield 19, 3, 5, 1, 0), (54, .getfield 115, 3, 3, 3, 0), (57, .getfield 125, 3, 1, 1, 0), (60, .iload_n 1, 1, 0, 0, 0), (61, .iconst 1, 1, 0, 0, 1), (62, .invokevirtual 128, 3, 82, 115, 0), (65, .return_, 1, 0, 0, 0)]
def kX5_takeSettings : List EN := [(0, .iload_n 1, 1, 0, 0, 0), (1, .istore_n 3, 1, 0, 0, 0), (2, .iload_n 3, 1, 0, 0, 0), (3, .iload_n 2, 1, 0, 0, 0), (4, .if_icmp .gt 54, 3, 0, 0, 0), (7, .aload_n 0, 1, 0, 0, 0), (8, .getfield 19, 3, 5, 1, 0), (11, .getfield 106, 3, 3, 0, 0), (14, .iload_n 3, 1, 0, 0, 0), (15, .invokestatic 131, 3, 151, 2, 0), (18, .istore 4, 2, 0, 0, 0), (20, .aload_n 0, 1, 0, 0, 0), (21, .getfield 19, 3, 5, 1, 0), (24, .getfield 106, 3, 3, 0, 0), (27, .iload_n 3, 1, 0, 0, 0), (28, .invokestatic 135, 3, 152, 2, 0), (31, .istore 5, 2, 0, 0, 0), (33, .aload_n 0, 1, 0, 0, 0), (34, .getfield 19, 3, 5, 1, 0), (37, .getfield 106, 3, 3, 0, 0), (40, .iload_n 3, 1, 0, 0, 0), (41, .aload_n 0, 1, 0, 0, 0), (42, .iload 4, 2, 0, 0, 0), (44, .iload 5, 2, 0, 0, 0), (46, .invokevirtual 99, 3, 67, 83, 0), (49, .invokevirtual 128, 3, 82, 115, 0), (52, .iinc 3 1, 3, 0, 0, 1), (55, .goto (-53), 3, 0, 0, 0), (58, .return_, 1, 0, 0, 0)]
def kX5_takeNumber : List EN := [(0, .aload_n 0, 1, 0, 0, 0), (1, .iload_n 1, 1, 0, 0, 0), (2, .iload_n 2, 1, 0, 0, 0), (3, .invokevirtual 109, 3, 68, 83, 0), (6, .aload_n 0, 1, 0, 0, 0), (7, .getfield 112, 3, 5, 6, 0), (10, .istore_n 3, 1, 0, 0, 0), (11, .aload_n 0, 1, 0, 0, 0), (12, .invokevirtual 37, 3, 73, 81, 0), (15, .iload_n 3, 1, 0, 0, 0), (16, .ireturn, 1, 0, 0, 0)]
def kX5_requireNumber : List EN := [(0, .aload_n 0, 1, 0, 0, 0), (1, .getfield 57, 3, 5, 4, 0), (4, .iconst 2, 1, 0, 0, 2), (5, .if_icmp .eq 11, 3, 0, 0, 0), (8, .aload_n 0, 1, 0, 0, 0), (9, .iconst 1, 1, 0, 0, 1), (10, .invokevirtual 74, 3, 72, 82, 0), (13, .goto 24, 3, 0, 0, 0), (16, .aload_n 0, 1, 0, 0, 0), (17, .getfield 112, 3, 5, 6, 0), (20, .iload_n 1, 1, 0, 0, 0), (21, .if_icmp .lt 11, 3, 0, 0, 0), (24, .aload_n 0, 1, 0, 0, 0), (25, .getfield 112, 3, 5, 6, 0), (28, .iload_n 2, 1, 0, 0, 0), (29, .if_icmp .le 8, 3, 0, 0, 0), (32, .aload_n 0, 1, 0, 0, 0), (33, .iconst 2, 1, 0, 0, 2), (34, .invokevirtual 74, 3, 72, 82, 0), (37, .return_, 1, 0, 0, 0)]
def kX5_takeWord : List EN := [(0, .aload_n 0, 1, 0, 0, 0), (1, .aload_n 1, 1, 0, 0, 0), (2, .invokevirtual 62, 3, 71, 82, 0), (5, .ifCond .ne 8, 3, 0, 0, 0), (8, .aload_n 0, 1, 0, 0, 0), (9, .iconst 1, 1, 0, 0, 1), (10, .invokevirtual 74, 3, 72, 82, 0), (13, .aload_n 0, 1, 0, 0, 0), (14, .invokevirtual 37, 3, 73, 81, 0), (17, .return_, 1, 0, 0, 0)]
def kX5_takeSemicolon : List EN := [(0, .aload_n 0, 1, 0, 0, 0), (1, .getfield 57, 3, 5, 4, 0), (4, .iconst 3, 1, 0, 0, 3), (5, .if_icmp .eq 8, 3, 0, 0, 0), (8, .aload_n 0, 1, 0, 0, 0), (9, .iconst 1, 1, 0, 0, 1), (10, .invokevirtual 74, 3, 72, 82, 0), (13, .aload_n 0, 1, 0, 0, 0), (14, .invokevirtual 37, 3, 73, 81, 0), (17, .return_, 1, 0, 0, 0)]
def kX5_isWord : List EN := [(0, .aload_n 0, 1, 0, 0, 0), (1, .getfield 57, 3, 5, 4, 0), (4, .iconst 1, 1, 0, 0, 1), (5, .if_icmp .ne 19, 3, 0, 0, 0), (8, .aload_n 0, 1, 0, 0, 0), (9, .getfield 26, 3, 5, 3, 0), (12, .aload_n 0, 1, 0, 0, 0), (13, .getfield 81, 3, 5, 5, 0), (16, .isub, 1, 0, 0, 0), (17, .aload_n 1, 1, 0, 0, 0), (18, .invokevirtual 138, 3, 1004, 0, 0), (21, .if_icmp .eq 5, 3, 0, 0, 0), (24, .iconst 0, 1, 0, 0, 0), (25, .ireturn, 1, 1, 0, 0), (26, .iconst 0, 1, 0, 0, 0), (27, .istore_n 2, 1, 0, 0, 0), (28, .iload_n 2, 1, 0, 0, 0), (29, .aload_n 1, 1, 0, 0, 0), (30, .invokevirtual 138, 3, 1004, 0, 0), (33, .if_icmp .ge 32, 3, 0, 0, 0), (36, .aload_n 0, 1, 0, 0, 0), (37, .getfield 15, 3, 5, 0, 0), (40, .aload_n 0, 1, 0, 0, 0), (41, .getfield 81, 3, 5, 5, 0), (44, .iload_n 2, 1, 0, 0, 0), (45, .iadd, 1, 0, 0, 0), (46, .invokevirtual 84, 3, 81, 114, 0), (49, .aload_n 1, 1, 0, 0, 0), (50, .iload_n 2, 1, 0, 0, 0), (51, .invokevirtual 144, 3, 1005, 0, 0), (54, .if_icmp .eq 5, 3, 0, 0, 0), (57, .iconst 0, 1, 0, 0, 0), (58, .ireturn, 1, 1, 0, 0), (59, .iinc 2 1, 3, 0, 0, 1), (62, .goto (-34), 3, 0, 0, 0), (65, .iconst 1, 1, 0, 0, 1), (66, .ireturn, 1, 1, 0, 0)]
def kX5_fail : List EN := [(0, .aload_n 0, 1, 0, 0, 0), (1, .getfield 29, 3, 5, 7, 0), (4, .ifCond .ne 16, 3, 0, 0, 0), (7, .aload_n 0, 1, 0, 0, 0), (8, .iload_n 1, 1, 0, 0, 0), (9, .putfield 29, 3, 5, 7, 0), (12, .aload_n 0, 1, 0, 0, 0), (13, .aload_n 0, 1, 0, 0, 0), (14, .getfield 81, 3, 5, 5, 0), (17, .putfield 9, 3, 5, 8, 0), (20, .return_, 1, 0, 0, 0)]
def kX5_readToken : List EN := [(0, .aload_n 0, 1, 0, 0, 0), (1, .getfield 29, 3, 5, 7, 0), (4, .ifCond .eq 4, 3, 0, 0, 0), (7, .return_, 1, 0, 0, 0), (8, .aload_n 0, 1, 0, 0, 0), (9, .getfield 26, 3, 5, 3, 0), (12, .aload_n 0, 1, 0, 0, 0), (13, .getfield 23, 3, 5, 2, 0), (16, .if_icmp .ge 32, 3, 0, 0, 0), (19, .aload_n 0, 1, 0, 0, 0), (20, .getfield 15, 3, 5, 0, 0), (23, .aload_n 0, 1, 0, 0, 0), (24, .getfield 26, 3, 5, 3, 0), (27, .invokevirtual 84, 3, 81, 114, 0), (30, .bipush 32, 2, 0, 0, 32), (32, .if_icmp .ne 16, 3, 0, 0, 0), (35, .aload_n 0, 1, 0, 0, 0), (36, .dup, 1, 0, 0, 0), (37, .getfield 26, 3, 5, 3, 0), (40, .iconst 1, 1, 0, 0, 1), (41, .iadd, 1, 0, 0, 0), (42, .putfield 26, 3, 5, 3, 0), (45, .goto (-37), 3, 0, 0, 0), (48, .aload_n 0, 1, 0, 0, 0), (49, .aload_n 0, 1, 0, 0, 0), (50, .getfield 26, 3, 5, 3, 0), (53, .putfield 81, 3, 5, 5, 0), (56, .aload_n 0, 1, 0, 0, 0), (57, .getfield 15, 3, 5, 0, 0), (60, .aload_n 0, 1, 0, 0, 0), (61, .getfield 26, 3, 5, 3, 0), (64, .invokevirtual 84, 3, 81, 114, 0), (67, .istore_n 1, 1, 0, 0, 0), (68, .aload_n 0, 1, 0, 0, 0), (69, .getfield 26, 3, 5, 3, 0), (72, .aload_n 0, 1, 0, 0, 0), (73, .getfield 23, 3, 5, 2, 0), (76, .if_icmp .lt 11, 3, 0, 0, 0), (79, .aload_n 0, 1, 0, 0, 0), (80, .iconst 0, 1, 0, 0, 0), (81, .putfield 57, 3, 5, 4, 0), (84, .goto 56, 3, 0, 0, 0), (87, .iload_n 1, 1, 0, 0, 0), (88, .invokestatic 148, 3, 153, 1, 0), (91, .ifCond .eq 10, 3, 0, 0, 0), (94, .aload_n 0, 1, 0, 0, 0), (95, .invokevirtual 151, 3, 74, 81, 0), (98, .goto 42, 3, 0, 0, 0), (101, .iload_n 1, 1, 0, 0, 0), (102, .invokestatic 154, 3, 155, 1, 0), (105, .ifCond .eq 10, 3, 0, 0, 0), (108, .aload_n 0, 1, 0, 0, 0), (109, .invokevirtual 157, 3, 75, 81, 0), (112, .goto 28, 3, 0, 0, 0), (115, .aload_n 0, 1, 0, 0, 0), (116, .iload_n 1, 1, 0, 0, 0), (117, .bipush 59, 2, 0, 0, 59), (119, .if_icmp .ne 7, 3, 0, 0, 0), (122, .iconst 3, 1, 0, 0, 3), (123, .goto 4, 3, 0, 0, 0), (126, .iconst 4, 1, 0, 0, 4), (127, .putfield 57, 3, 5, 4, 0), (130, .aload_n 0, 1, 0, 0, 0), (131, .dup, 1, 0, 0, 0), (132, .getfield 26, 3, 5, 3, 0), (135, .iconst 1, 1, 0, 0, 1), (136, .iadd, 1, 0, 0, 0), (137, .putfield 26, 3, 5, 3, 0), (140, .return_, 1, 0, 0, 0)]
def kX5_readWord : List EN := [(0, .aload_n 0, 1, 0, 0, 0), (1, .getfield 26, 3, 5, 3, 0), (4, .aload_n 0, 1, 0, 0, 0), (5, .getfield 23, 3, 5, 2, 0), (8, .if_icmp .ge 33, 3, 0, 0, 0), (11, .aload_n 0, 1, 0, 0, 0), (12, .getfield 15, 3, 5, 0, 0), (15, .aload_n 0, 1, 0, 0, 0), (16, .getfield 26, 3, 5, 3, 0), (19, .invokevirtual 84, 3, 81, 114, 0), (22, .invokestatic 148, 3, 153, 1, 0), (25, .ifCond .eq 16, 3, 0, 0, 0), (28, .aload_n 0, 1, 0, 0, 0), (29, .dup, 1, 0, 0, 0), (30, .getfield 26, 3, 5, 3, 0), (33, .iconst 1, 1, 0, 0, 1), (34, .iadd, 1, 0, 0, 0), (35, .putfield 26, 3, 5, 3, 0), (38, .goto (-38), 3, 0, 0, 0), (41, .aload_n 0, 1, 0, 0, 0), (42, .aload_n 0, 1, 0, 0, 0), (43, .getfield 26, 3, 5, 3, 0), (46, .aload_n 0, 1, 0, 0, 0), (47, .getfield 81, 3, 5, 5, 0), (50, .isub, 1, 0, 0, 0), (51, .bipush 7, 2, 0, 0, 7), (53, .if_icmp .gt 7, 3, 0, 0, 0), (56, .iconst 1, 1, 0, 0, 1), (57, .goto 4, 3, 0, 0, 0), (60, .iconst 4, 1, 0, 0, 4), (61, .putfield 57, 3, 5, 4, 0), (64, .return_, 1, 0, 0, 0)]
def kX5_readNumber : List EN := [(0, .aload_n 0, 1, 0, 0, 0), (1, .iconst 0, 1, 0, 0, 0), (2, .putfield 112, 3, 5, 6, 0), (5, .aload_n 0, 1, 0, 0, 0), (6, .getfield 26, 3, 5, 3, 0), (9, .aload_n 0, 1, 0, 0, 0), (10, .getfield 23, 3, 5, 2, 0), (13, .if_icmp .ge 59, 3, 0, 0, 0), (16, .aload_n 0, 1, 0, 0, 0), (17, .getfield 15, 3, 5, 0, 0), (20, .aload_n 0, 1, 0, 0, 0), (21, .getfield 26, 3, 5, 3, 0), (24, .invokevirtual 84, 3, 81, 114, 0), (27, .invokestatic 154, 3, 155, 1, 0), (30, .ifCond .eq 42, 3, 0, 0, 0), (33, .aload_n 0, 1, 0, 0, 0), (34, .bipush 10, 2, 0, 0, 10), (36, .aload_n 0, 1, 0, 0, 0), (37, .getfield 112, 3, 5, 6, 0), (40, .imul, 1, 0, 0, 0), (41, .aload_n 0, 1, 0, 0, 0), (42, .getfield 15, 3, 5, 0, 0), (45, .aload_n 0, 1, 0, 0, 0), (46, .getfield 26, 3, 5, 3, 0), (49, .invokevirtual 84, 3, 81, 114, 0), (52, .iadd, 1, 0, 0, 0), (53, .bipush 48, 2, 0, 0, 48), (55, .isub, 1, 0, 0, 0), (56, .putfield 112, 3, 5, 6, 0), (59, .aload_n 0, 1, 0, 0, 0), (60, .dup, 1, 0, 0, 0), (61, .getfield 26, 3, 5, 3, 0), (64, .iconst 1, 1, 0, 0, 1), (65, .iadd, 1, 0, 0, 0), (66, .putfield 26, 3, 5, 3, 0), (69, .goto (-64), 3, 0, 0, 0), (72, .aload_n 0, 1, 0, 0, 0), (73, .aload_n 0, 1, 0, 0, 0), (74, .getfield 26, 3, 5, 3, 0), (77, .aload_n 0, 1, 0, 0, 0), (78, .getfield 81, 3, 5, 5, 0), (81, .isub, 1, 0, 0, 0), (82, .iconst 3, 1, 0, 0, 3), (83, .if_icmp .gt 7, 3, 0, 0, 0), (86, .iconst 2, 1, 0, 0, 2), (87, .goto 4, 3, 0, 0, 0), (90, .iconst 4, 1, 0, 0, 4), (91, .putfield 57, 3, 5, 4, 0), (94, .return_, 1, 0, 0, 0)]
def kX6_copyFrom : List EN := [(0, .aload_n 0, 1, 0, 0, 0), (1, .getfield 14, 3, 6, 1, 0), (4, .aload_n 1, 1, 0, 0, 0), (5, .getfield 14, 3, 6, 1, 0), (8, .invokevirtual 23, 3, 84, 114, 0), (11, .aload_n 0, 1, 0, 0, 0), (12, .aload_n 1, 1, 0, 0, 0), (13, .getfield 27, 3, 6, 2, 0), (16, .putfield 27, 3, 6, 2, 0), (19, .aload_n 0, 1, 0, 0, 0), (20, .aload_n 1, 1, 0, 0, 0), (21, .getfield 31, 3, 6, 3, 0), (24, .putfield 31, 3, 6, 3, 0), (27, .aload_n 0, 1, 0, 0, 0), (28, .aload_n 1, 1, 0, 0, 0), (29, .getfield 35, 3, 6, 4, 0), (32, .putfield 35, 3, 6, 4, 0), (35, .return_, 1, 0, 0, 0)]
def kX6_renew : List EN := [(0, .aload_n 0, 1, 0, 0, 0), (1, .getfield 14, 3, 6, 1, 0), (4, .aload_n 0, 1, 0, 0, 0), (5, .getfield 20, 3, 6, 0, 0), (8, .bipush 10, 2, 0, 0, 10), (10, .invokevirtual 38, 3, 81, 114, 0), (13, .invokevirtual 42, 3, 83, 114, 0), (16, .aload_n 0, 1, 0, 0, 0), (17, .iconst 0, 1, 0, 0, 0), (18, .putfield 27, 3, 6, 2, 0), (21, .aload_n 0, 1, 0, 0, 0), (22, .iconst 1, 1, 0, 0, 1), (23, .putfield 31, 3, 6, 3, 0), (26, .return_, 1, 0, 0, 0)]
def kX6_feed : List EN := [(0, .aload_n 0, 1, 0, 0, 0), (1, .getfield 14, 3, 6, 1, 0), (4, .aload_n 0, 1, 0, 0, 0), (5, .getfield 27, 3, 6, 2, 0), (8, .invokevirtual 38, 3, 81, 114, 0), (11, .istore_n 1, 1, 0, 0, 0), (12, .aload_n 0, 1, 0, 0, 0), (13, .getfield 14, 3, 6, 1, 0), (16, .aload_n 0, 1, 0, 0, 0), (17, .getfield 27, 3, 6, 2, 0), (20, .iconst 0, 1, 0, 0, 0), (21, .iload_n 1, 1, 0, 0, 0), (22, .aload_n 0, 1, 0, 0, 0), (23, .getfield 20, 3, 6, 0, 0), (26, .bipush 11, 2, 0, 0, 11), (28, .invokevirtual 38, 3, 81, 114, 0), (31, .isub, 1, 0, 0, 0), (32, .invokestatic 45, 3, 1000, 0, 0), (35, .invokevirtual 51, 3, 82, 115, 0), (38, .aload_n 0, 1, 0, 0, 0), (39, .getfield 31, 3, 6, 3, 0), (42, .ifCond .eq 12, 3, 0, 0, 0), (45, .aload_n 0, 1, 0, 0, 0), (46, .getfield 27, 3, 6, 2, 0), (49, .iconst 1, 1, 0, 0, 1), (50, .iadd, 1, 0, 0, 0), (51, .goto 9, 3, 0, 0, 0), (54, .aload_n 0, 1, 0, 0, 0), (55, .getfield 27, 3, 6, 2, 0), (58, .iconst 1, 1, 0, 0, 1), (59, .isub, 1, 0, 0, 0), (60, .istore_n 2, 1, 0, 0, 0), (61, .iload_n 2, 1, 0, 0, 0), (62, .ifCond .lt 16, 3, 0, 0, 0), (65, .iload_n 2, 1, 0, 0, 0), (66, .aload_n 0, 1, 0, 0, 0), (67, .getfield 20, 3, 6, 0, 0), (70, .bipush 9, 2, 0, 0, 9), (72, .invokevirtual 38, 3, 81, 114, 0), (75, .if_icmp .lt 32, 3, 0, 0, 0), (78, .aload_n 0, 1, 0, 0, 0), (79, .aload_n 0, 1, 0, 0, 0), (80, .getfield 31, 3, 6, 3, 0), (83, .ifCond .ne 7, 3, 0, 0, 0), (86, .iconst 1, 1, 0, 0, 1), (87, .goto 4, 3, 0, 0, 0), (90, .iconst 0, 1, 0, 0, 0), (91, .putfield 31, 3, 6, 3, 0), (94, .aload_n 0, 1, 0, 0, 0), (95, .dup, 1, 0, 0, 0), (96, .getfield 35, 3, 6, 4, 0), (99, .iconst 1, 1, 0, 0, 1), (100, .iadd, 1, 0, 0, 0), (101, .putfield 35, 3, 6, 4, 0), (104, .goto 8, 3, 0, 0, 0), (107, .aload_n 0, 1, 0, 0, 0), (108, .iload_n 2, 1, 0, 0, 0), (109, .putfield 27, 3, 6, 2, 0), (112, .iload_n 1, 1, 0, 0, 0), (113, .ireturn, 1, 0, 0, 0)]
def kX6_allInk : List EN := [(0, .iconst 0, 1, 0, 0, 0), (1, .istore_n 1, 1, 0, 0, 0), (2, .iconst 0, 1, 0, 0, 0), (3, .istore_n 2, 1, 0, 0, 0), (4, .iload_n 2, 1, 0, 0, 0), (5, .aload_n 0, 1, 0, 0, 0), (6, .getfield 20, 3, 6, 0, 0), (9, .bipush 9, 2, 0, 0, 9), (11, .invokevirtual 38, 3, 81, 114, 0), (14, .if_icmp .ge 20, 3, 0, 0, 0), (17, .iload_n 1, 1, 0, 0, 0), (18, .aload_n 0, 1, 0, 0, 0), (19, .getfield 14, 3, 6, 1, 0), (22, .iload_n 2, 1, 0, 0, 0), (23, .invokevirtual 38, 3, 81, 114, 0), (26, .iadd, 1, 0, 0, 0), (27, .istore_n 1, 1, 0, 0, 0), (28, .iinc 2 1, 3, 0, 0, 1), (31, .goto (-27), 3, 0, 0, 0), (34, .iload_n 1, 1, 0, 0, 0), (35, .ireturn, 1, 0, 0, 0)]
def kX6_dryPlaces : List EN := [(0, .iconst 0, 1, 0, 0, 0), (1, .istore_n 1, 1, 0, 0, 0), (2, .iconst 0, 1, 0, 0, 0), (3, .istore_n 2, 1, 0, 0, 0), (4, .iload_n 2, 1, 0, 0, 0), (5, .aload_n 0, 1, 0, 0, 0), (6, .getfield 20, 3, 6, 0, 0), (9, .bipush 9, 2, 0, 0, 9), (11, .invokevirtual 38, 3, 81, 114, 0), (14, .if_icmp .ge 23, 3, 0, 0, 0), (17, .aload_n 0, 1, 0, 0, 0), (18, .getfield 14, 3, 6, 1, 0), (21, .iload_n 2, 1, 0, 0, 0), (22, .invokevirtual 38, 3, 81, 114, 0), (25, .ifCond .ne 6, 3, 0, 0, 0), (28, .iinc 1 1, 3, 0, 0, 1), (31, .iinc 2 1, 3, 0, 0, 1), (34, .goto (-30), 3, 0, 0, 0), (37, .iload_n 1, 1, 0, 0, 0), (38, .ireturn, 1, 0, 0, 0)]
def kX7_at : List EN := [(0, .iload_n 1, 1, 0, 0, 0), (1, .ifCond .lt 21, 3, 0, 0, 0), (4, .iload_n 1, 1, 0, 0, 0), (5, .aload_n 0, 1, 0, 0, 0), (6, .getfield 13, 3, 7, 0, 0), (9, .arraylength, 1, 0, 0, 0), (10, .if_icmp .ge 12, 3, 0, 0, 0), (13, .aload_n 0, 1, 0, 0, 0), (14, .getfield 13, 3, 7, 0, 0), (17, .iload_n 1, 1, 0, 0, 0), (18, .iaload, 1, 0, 0, 0), (19, .goto 4, 3, 0, 0, 0), (22, .iconst 0, 1, 0, 0, 0), (23, .ireturn, 1, 0, 0, 0)]
def kX7_put : List EN := [(0, .iload_n 1, 1, 0, 0, 0), (1, .ifCond .lt 19, 3, 0, 0, 0), (4, .iload_n 1, 1, 0, 0, 0), (5, .aload_n 0, 1, 0, 0, 0), (6, .getfield 13, 3, 7, 0, 0), (9, .arraylength, 1, 0, 0, 0), (10, .if_icmp .ge 10, 3, 0, 0, 0), (13, .aload_n 0, 1, 0, 0, 0), (14, .getfield 13, 3, 7, 0, 0), (17, .iload_n 1, 1, 0, 0, 0), (18, .iload_n 2, 1, 0, 0, 0), (19, .iastore, 1, 0, 0, 0), (20, .return_, 1, 0, 0, 0)]
def kX7_fill : List EN := [(0, .iconst 0, 1, 0, 0, 0), (1, .istore_n 2, 1, 0, 0, 0), (2, .iload_n 2, 1, 0, 0, 0), (3, .aload_n 0, 1, 0, 0, 0), (4, .getfield 13, 3, 7, 0, 0), (7, .arraylength, 1, 0, 0, 0), (8, .if_icmp .ge 16, 3, 0, 0, 0), (11, .aload_n 0, 1, 0, 0, 0), (12, .getfield 13, 3, 7, 0, 0), (15, .iload_n 2, 1, 0, 0, 0), (16, .iload_n 1, 1, 0, 0, 0), (17, .iastore, 1, 0, 0, 0), (18, .iinc 2 1, 3, 0, 0, 1), (21, .goto (-19), 3, 0, 0, 0), (24, .return_, 1, 0, 0, 0)]
def kX7_copyFrom : List EN := [(0, .aload_n 1, 1, 0, 0, 0), (1, .getfield 13, 3, 7, 0, 0), (4, .iconst 0, 1, 0, 0, 0), (5, .aload_n 0, 1, 0, 0, 0), (6, .getfield 13, 3, 7, 0, 0), (9, .iconst 0, 1, 0, 0, 0), (10, .aload_n 0, 1, 0, 0, 0), (11, .getfield 13, 3, 7, 0, 0), (14, .arraylength, 1, 0, 0, 0), (15, .aload_n 1, 1, 0, 0, 0), (16, .getfield 13, 3, 7, 0, 0), (19, .arraylength, 1, 0, 0, 0), (20, .invokestatic 19, 3, 1001, 0, 0), (23, .invokestatic 22, 3, 1003, 0, 0), (26, .return_, 1, 0, 0, 0)]
def kX9_append : List EN := [(0, .aload_n 0, 1, 0, 0, 0), (1, .getfield 60, 3, 9, 1, 0), (4, .bipush 20, 2, 0, 0, 20), (6, .iadd, 1, 0, 0, 0), (7, .sipush 500, 3, 0, 0, 500), (10, .if_icmp .le 5, 3, 0, 0, 0), (13, .iconst (-1), 1, 0, 0, (-1)), (14, .ireturn, 1, 0, 0, 0), (15, .aload_n 0, 1, 0, 0, 0), (16, .iload_n 1, 1, 0, 0, 0), (17, .invokevirtual 64, 3, 86, 146, 0), (20, .aload_n 0, 1, 0, 0, 0), (21, .iload_n 2, 1, 0, 0, 0), (22, .invokevirtual 64, 3, 86, 146, 0), (25, .aload_n 0, 1, 0, 0, 0), (26, .iload_n 3, 1, 0, 0, 0), (27, .invokevirtual 64, 3, 86, 146, 0), (30, .aload_n 0, 1, 0, 0, 0), (31, .iload 4, 2, 0, 0, 0), (33, .invokevirtual 64, 3, 86, 146, 0), (36, .aload_n 0, 1, 0, 0, 0), (37, .iload 5, 2, 0, 0, 0), (39, .invokevirtual 64, 3, 86, 146, 0), (42, .aload_n 0, 1, 0, 0, 0), (43, .getfield 60, 3, 9, 1, 0), (46, .ireturn, 1, 0, 0, 0)]
def kX9_appendFour : List EN := [(0, .bipush 24, 2, 0, 0, 24), (2, .istore_n 2, 1, 0, 0, 0), (3, .iload_n 2, 1, 0, 0, 0), (4, .ifCond .lt 37, 3, 0, 0, 0), (7, .aload_n 0, 1, 0, 0, 0), (8, .getfield 14, 3, 9, 0, 0), (11, .aload_n 0, 1, 0, 0, 0), (12, .getfield 60, 3, 9, 1, 0), (15, .iload_n 1, 1, 0, 0, 0), (16, .iload_n 2, 1, 0, 0, 0), (17, .ishr, 1, 0, 0, 0), (18, .sipush 255, 3, 0, 0, 255), (21, .iand, 1, 0, 0, 0), (22, .invokevirtual 67, 3, 82, 115, 0), (25, .aload_n 0, 1, 0, 0, 0), (26, .dup, 1, 0, 0, 0), (27, .getfield 60, 3, 9, 1, 0), (30, .iconst 1, 1, 0, 0, 1), (31, .iadd, 1, 0, 0, 0), (32, .putfield 60, 3, 9, 1, 0), (35, .iinc 2 (-8), 3, 0, 0, (-8)), (38, .goto (-35), 3, 0, 0, 0), (41, .return_, 1, 0, 0, 0)]
def kX9_load : List EN := [(0, .aload_n 0, 1, 0, 0, 0), (1, .iload_n 1, 1, 0, 0, 0), (2, .invokevirtual 71, 3, 142, 146, 0), (5, .aload_n 0, 1, 0, 0, 0), (6, .getfield 33, 3, 9, 5, 0), (9, .iload_n 1, 1, 0, 0, 0), (10, .invokevirtual 74, 3, 63, 82, 0), (13, .aload_n 0, 1, 0, 0, 0), (14, .iconst 0, 1, 0, 0, 0), (15, .putfield 60, 3, 9, 1, 0), (18, .aload_n 0, 1, 0, 0, 0), (19, .getfield 33, 3, 9, 5, 0), (22, .getfield 77, 3, 5, 7, 0), (25, .ifCond .ne 7, 3, 0, 0, 0), (28, .iconst 1, 1, 0, 0, 1), (29, .goto 4, 3, 0, 0, 0), (32, .iconst 0, 1, 0, 0, 0), (33, .invokestatic 80, 3, 149, 1, 0), (36, .aload_n 0, 1, 0, 0, 0), (37, .getfield 21, 3, 9, 3, 0), (40, .aload_n 0, 1, 0, 0, 0), (41, .getfield 25, 3, 9, 4, 0), (44, .invokevirtual 84, 3, 34, 50, 0), (47, .aload_n 0, 1, 0, 0, 0), (48, .iconst 1, 1, 0, 0, 1), (49, .putfield 88, 3, 9, 2, 0), (52, .aload_n 0, 1, 0, 0, 0), (53, .getfield 40, 3, 9, 6, 0), (56, .invokevirtual 92, 3, 30, 33, 0), (59, .aload_n 0, 1, 0, 0, 0), (60, .getfield 47, 3, 9, 7, 0), (63, .iconst 0, 1, 0, 0, 0), (64, .putfield 95, 3, 8, 1, 0), (67, .aload_n 0, 1, 0, 0, 0), (68, .getfield 51, 3, 9, 8, 0), (71, .iconst 0, 1, 0, 0, 0), (72, .putfield 95, 3, 8, 1, 0), (75, .aload_n 0, 1, 0, 0, 0), (76, .getfield 21, 3, 9, 3, 0), (79, .getfield 98, 3, 3, 4, 0), (82, .getfield 102, 3, 0, 5, 0), (85, .ireturn, 1, 0, 0, 0)]
def kX9_parseError : List EN := [(0, .aload_n 0, 1, 0, 0, 0), (1, .getfield 33, 3, 9, 5, 0), (4, .getfield 77, 3, 5, 7, 0), (7, .ireturn, 1, 0, 0, 0)]
def kX9_errorPosition : List EN := [(0, .aload_n 0, 1, 0, 0, 0), (1, .getfield 33, 3, 9, 5, 0), (4, .getfield 107, 3, 5, 8, 0), (7, .ireturn, 1, 0, 0, 0)]
def kX9_buffered : List EN := [(0, .aload_n 0, 1, 0, 0, 0), (1, .getfield 60, 3, 9, 1, 0), (4, .ireturn, 1, 0, 0, 0)]
def kX9_count : List EN := [(0, .aload_n 0, 1, 0, 0, 0), (1, .invokevirtual 110, 3, 141, 145, 0), (4, .iload_n 1, 1, 0, 0, 0), (5, .ifCond .lt 13, 3, 0, 0, 0), (8, .iload_n 1, 1, 0, 0, 0), (9, .bipush 14, 2, 0, 0, 14), (11, .if_icmp .ge 7, 3, 0, 0, 0), (14, .iconst 1, 1, 0, 0, 1), (15, .goto 4, 3, 0, 0, 0), (18, .iconst 0, 1, 0, 0, 0), (19, .invokestatic 80, 3, 149, 1, 0), (22, .iload_n 1, 1, 0, 0, 0), (23, .lookupswitch 82 #[(0, 41), (1, 52), (2, 63), (11, 71)], 41, 0, 0, 0), (64, .aload_n 0, 1, 0, 0, 0), (65, .getfield 21, 3, 9, 3, 0), (68, .getfield 98, 3, 3, 4, 0), (71, .getfield 102, 3, 0, 5, 0), (74, .ireturn, 1, 0, 0, 0), (75, .aload_n 0, 1, 0, 0, 0), (76, .getfield 21, 3, 9, 3, 0), (79, .getfield 113, 3, 3, 3, 0), (82, .invokevirtual 117, 3, 21, 17, 0), (85, .ireturn, 1, 0, 0, 0), (86, .aload_n 0, 1, 0, 0, 0), (87, .getfield 21, 3, 9, 3, 0), (90, .getfield 123, 3, 3, 6, 0), (93, .ireturn, 1, 0, 0, 0), (94, .aload_n 0, 1, 0, 0, 0), (95, .getfield 21, 3, 9, 3, 0), (98, .getfield 126, 3, 3, 1, 0), (101, .getfield 130, 3, 6, 4, 0), (104, .ireturn, 1, 0, 0, 0), (105, .aload_n 0, 1, 0, 0, 0), (106, .getfield 21, 3, 9, 3, 0), (109, .getfield 135, 3, 3, 5, 0), (112, .iload_n 1, 1, 0, 0, 0), (113, .invokevirtual 138, 3, 81, 114, 0), (116, .ireturn, 1, 0, 0, 0)]
def kX9_setting : List EN := [(0, .aload_n 0, 1, 0, 0, 0), (1, .invokevirtual 110, 3, 141, 145, 0), (4, .iload_n 1, 1, 0, 0, 0), (5, .ifCond .lt 13, 3, 0, 0, 0), (8, .iload_n 1, 1, 0, 0, 0), (9, .bipush 13, 2, 0, 0, 13), (11, .if_icmp .ge 7, 3, 0, 0, 0), (14, .iconst 1, 1, 0, 0, 1), (15, .goto 4, 3, 0, 0, 0), (18, .iconst 0, 1, 0, 0, 0), (19, .invokestatic 80, 3, 149, 1, 0), (22, .aload_n 0, 1, 0, 0, 0), (23, .getfield 21, 3, 9, 3, 0), (26, .getfield 142, 3, 3, 0, 0), (29, .iload_n 1, 1, 0, 0, 0), (30, .invokevirtual 138, 3, 81, 114, 0), (33, .ireturn, 1, 0, 0, 0)]
def kX9_carriage : List EN := [(0, .aload_n 0, 1, 0, 0, 0), (1, .invokevirtual 110, 3, 141, 145, 0), (4, .iload_n 1, 1, 0, 0, 0), (5, .ifCond .lt 12, 3, 0, 0, 0), (8, .iload_n 1, 1, 0, 0, 0), (9, .iconst 3, 1, 0, 0, 3), (10, .if_icmp .gt 7, 3, 0, 0, 0), (13, .iconst 1, 1, 0, 0, 1), (14, .goto 4, 3, 0, 0, 0), (17, .iconst 0, 1, 0, 0, 0), (18, .invokestatic 80, 3, 149, 1, 0), (21, .aload_n 0, 1, 0, 0, 0), (22, .getfield 21, 3, 9, 3, 0), (25, .getfield 113, 3, 3, 3, 0), (28, .astore_n 2, 1, 0, 0, 0), (29, .iload_n 1, 1, 0, 0, 0), (30, .tableswitch 53 0 2 #[26, 31, 36], 26, 0, 0, 0), (56, .aload_n 2, 1, 0, 0, 0), (57, .getfield 145, 3, 1, 2, 0), (60, .ireturn, 1, 0, 0, 0), (61, .aload_n 2, 1, 0, 0, 0), (62, .getfield 148, 3, 1, 3, 0), (65, .ireturn, 1, 0, 0, 0), (66, .aload_n 2, 1, 0, 0, 0), (67, .aload_n 2, 1, 0, 0, 0), (68, .getfield 148, 3, 1, 3, 0), (71, .invokevirtual 151, 3, 22, 18, 0), (74, .ifCond .eq 7, 3, 0, 0, 0), (77, .iconst 1, 1, 0, 0, 1), (78, .goto 4, 3, 0, 0, 0), (81, .iconst 0, 1, 0, 0, 0), (82, .ireturn, 1, 0, 0, 0), (83, .aload_n 2, 1, 0, 0, 0), (84, .getfield 155, 3, 1, 4, 0), (87, .ifCond .eq 7, 3, 0, 0, 0), (90, .iconst 1, 1, 0, 0, 1), (91, .goto 4, 3, 0, 0, 0), (94, .iconst 0, 1, 0, 0, 0), (95, .ireturn, 1, 0, 0, 0)]
def kX9_bar : List EN := [(0, .aload_n 0, 1, 0, 0, 0), (1, .invokevirtual 110, 3, 141, 145, 0), (4, .aload_n 0, 1, 0, 0, 0), (5, .iload_n 1, 1, 0, 0, 0), (6, .invokevirtual 158, 3, 143, 146, 0), (9, .iload_n 2, 1, 0, 0, 0), (10, .ifCond .lt 12, 3, 0, 0, 0), (13, .iload_n 2, 1, 0, 0, 0), (14, .iconst 5, 1, 0, 0, 5), (15, .if_icmp .gt 7, 3, 0, 0, 0), (18, .iconst 1, 1, 0, 0, 1), (19, .goto 4, 3, 0, 0, 0), (22, .iconst 0, 1, 0, 0, 0), (23, .invokestatic 80, 3, 149, 1, 0), (26, .aload_n 0, 1, 0, 0, 0), (27, .getfield 21, 3, 9, 3, 0), (30, .getfield 98, 3, 3, 4, 0), (33, .astore_n 3, 1, 0, 0, 0), (34, .iload_n 2, 1, 0, 0, 0), (35, .tableswitch 84 0 4 #[33, 42, 51, 57, 66], 33, 0, 0, 0), (68, .aload_n 3, 1, 0, 0, 0), (69, .getfield 161, 3, 0, 1, 0), (72, .iload_n 1, 1, 0, 0, 0), (73, .invokevirtual 138, 3, 81, 114, 0), (76, .ireturn, 1, 0, 0, 0), (77, .aload_n 3, 1, 0, 0, 0), (78, .getfield 164, 3, 0, 2, 0), (81, .iload_n 1, 1, 0, 0, 0), (82, .invokevirtual 138, 3, 81, 114, 0), (85, .ireturn, 1, 0, 0, 0), (86, .aload_n 3, 1, 0, 0, 0), (87, .iload_n 1, 1, 0, 0, 0), (88, .invokevirtual 167, 3, 4, 2, 0), (91, .ireturn, 1, 0, 0, 0), (92, .aload_n 3, 1, 0, 0, 0), (93, .getfield 170, 3, 0, 4, 0), (96, .iload_n 1, 1, 0, 0, 0), (97, .invokevirtual 138, 3, 81, 114, 0), (100, .ireturn, 1, 0, 0, 0), (101, .iconst 0, 1, 0, 0, 0), (102, .aload_n 3, 1, 0, 0, 0), (103, .iload_n 1, 1, 0, 0, 0), (104, .invokevirtual 173, 3, 5, 2, 0), (107, .aload_n 0, 1, 0, 0, 0), (108, .getfield 21, 3, 9, 3, 0), (111, .getfield 123, 3, 3, 6, 0), (114, .isub, 1, 0, 0, 0), (115, .invokestatic 176, 3, 1000, 0, 0), (118, .ireturn, 1, 0, 0, 0), (119, .aload_n 3, 1, 0, 0, 0), (120, .iload_n 1, 1, 0, 0, 0), (121, .invokevirtual 182, 3, 8, 2, 0), (124, .ifCond .eq 7, 3, 0, 0, 0), (127, .iconst 1, 1, 0, 0, 1), (128, .goto 4, 3, 0, 0, 0), (131, .iconst 0, 1, 0, 0, 0), (132, .ireturn, 1, 0, 0, 0)]
def kX9_barOf : List EN := [(0, .aload_n 0, 1, 0, 0, 0), (1, .invokevirtual 110, 3, 141, 145, 0), (4, .aload_n 0, 1, 0, 0, 0), (5, .getfield 21, 3, 9, 3, 0), (8, .getfield 98, 3, 3, 4, 0), (11, .iload_n 1, 1, 0, 0, 0), (12, .invokevirtual 185, 3, 3, 2, 0), (15, .ireturn, 1, 0, 0, 0)]
def kX9_latest : List EN := [(0, .aload_n 0, 1, 0, 0, 0), (1, .invokevirtual 110, 3, 141, 145, 0), (4, .aload_n 0, 1, 0, 0, 0), (5, .getfield 21, 3, 9, 3, 0), (8, .getfield 98, 3, 3, 4, 0), (11, .getfield 188, 3, 0, 6, 0), (14, .ireturn, 1, 0, 0, 0)]
def kX9_ribbon : List EN := [(0, .aload_n 0, 1, 0, 0, 0), (1, .invokevirtual 110, 3, 141, 145, 0), (4, .iload_n 1, 1, 0, 0, 0), (5, .ifCond .lt 23, 3, 0, 0, 0), (8, .iload_n 1, 1, 0, 0, 0), (9, .aload_n 0, 1, 0, 0, 0), (10, .getfield 21, 3, 9, 3, 0), (13, .getfield 142, 3, 3, 0, 0), (16, .bipush 9, 2, 0, 0, 9), (18, .invokevirtual 138, 3, 81, 114, 0), (21, .if_icmp .ge 7, 3, 0, 0, 0), (24, .iconst 1, 1, 0, 0, 1), (25, .goto 4, 3, 0, 0, 0), (28, .iconst 0, 1, 0, 0, 0), (29, .invokestatic 191, 3, 148, 1, 0), (32, .aload_n 0, 1, 0, 0, 0), (33, .getfield 21, 3, 9, 3, 0), (36, .getfield 126, 3, 3, 1, 0), (39, .getfield 194, 3, 6, 1, 0), (42, .iload_n 1, 1, 0, 0, 0), (43, .invokevirtual 138, 3, 81, 114, 0), (46, .ireturn, 1, 0, 0, 0)]
def kX9_head : List EN := [(0, .aload_n 0, 1, 0, 0, 0), (1, .invokevirtual 110, 3, 141, 145, 0), (4, .iload_n 1, 1, 0, 0, 0), (5, .ifCond .lt 12, 3, 0, 0, 0), (8, .iload_n 1, 1, 0, 0, 0), (9, .iconst 3, 1, 0, 0, 3), (10, .if_icmp .gt 7, 3, 0, 0, 0), (13, .iconst 1, 1, 0, 0, 1), (14, .goto 4, 3, 0, 0, 0), (17, .iconst 0, 1, 0, 0, 0), (18, .invokestatic 80, 3, 149, 1, 0), (21, .aload_n 0, 1, 0, 0, 0), (22, .getfield 21, 3, 9, 3, 0), (25, .getfield 126, 3, 3, 1, 0), (28, .astore_n 2, 1, 0, 0, 0), (29, .iload_n 1, 1, 0, 0, 0), (30, .tableswitch 49 0 2 #[26, 31, 44], 26, 0, 0, 0), (56, .aload_n 2, 1, 0, 0, 0), (57, .getfield 197, 3, 6, 2, 0), (60, .ireturn, 1, 0, 0, 0), (61, .aload_n 2, 1, 0, 0, 0), (62, .getfield 200, 3, 6, 3, 0), (65, .ifCond .eq 7, 3, 0, 0, 0), (68, .iconst 1, 1, 0, 0, 1), (69, .goto 4, 3, 0, 0, 0), (72, .iconst 0, 1, 0, 0, 0), (73, .ireturn, 1, 0, 0, 0), (74, .aload_n 2, 1, 0, 0, 0), (75, .invokevirtual 203, 3, 79, 97, 0), (78, .ireturn, 1, 0, 0, 0), (79, .aload_n 2, 1, 0, 0, 0), (80, .invokevirtual 206, 3, 80, 97, 0), (83, .ireturn, 1, 0, 0, 0)]
def kX9_sign : List EN := [(0, .aload_n 0, 1, 0, 0, 0), (1, .invokevirtual 110, 3, 141, 145, 0), (4, .aload_n 0, 1, 0, 0, 0), (5, .iload_n 1, 1, 0, 0, 0), (6, .invokevirtual 209, 3, 144, 146, 0), (9, .aload_n 0, 1, 0, 0, 0), (10, .iload_n 2, 1, 0, 0, 0), (11, .invokevirtual 212, 3, 145, 146, 0), (14, .aload_n 0, 1, 0, 0, 0), (15, .getfield 21, 3, 9, 3, 0), (18, .getfield 215, 3, 3, 2, 0), (21, .getfield 219, 3, 4, 1, 0), (24, .aload_n 0, 1, 0, 0, 0), (25, .getfield 21, 3, 9, 3, 0), (28, .getfield 215, 3, 3, 2, 0), (31, .iload_n 1, 1, 0, 0, 0), (32, .iload_n 2, 1, 0, 0, 0), (33, .invokevirtual 224, 3, 53, 67, 0), (36, .invokevirtual 138, 3, 81, 114, 0), (39, .ireturn, 1, 0, 0, 0)]
def kX9_darkness : List EN := [(0, .aload_n 0, 1, 0, 0, 0), (1, .invokevirtual 110, 3, 141, 145, 0), (4, .aload_n 0, 1, 0, 0, 0), (5, .iload_n 1, 1, 0, 0, 0), (6, .invokevirtual 209, 3, 144, 146, 0), (9, .aload_n 0, 1, 0, 0, 0), (10, .iload_n 2, 1, 0, 0, 0), (11, .invokevirtual 212, 3, 145, 146, 0), (14, .aload_n 0, 1, 0, 0, 0), (15, .getfield 21, 3, 9, 3, 0), (18, .getfield 215, 3, 3, 2, 0), (21, .getfield 227, 3, 4, 2, 0), (24, .aload_n 0, 1, 0, 0, 0), (25, .getfield 21, 3, 9, 3, 0), (28, .getfield 215, 3, 3, 2, 0), (31, .iload_n 1, 1, 0, 0, 0), (32, .iload_n 2, 1, 0, 0, 0), (33, .invokevirtual 224, 3, 53, 67, 0), (36, .invokevirtual 138, 3, 81, 114, 0), (39, .ireturn, 1, 0, 0, 0)]
def kX9_isStop : List EN := [(0, .aload_n 0, 1, 0, 0, 0), (1, .invokevirtual 110, 3, 141, 145, 0), (4, .aload_n 0, 1, 0, 0, 0), (5, .iload_n 1, 1, 0, 0, 0), (6, .invokevirtual 212, 3, 145, 146, 0), (9, .aload_n 0, 1, 0, 0, 0), (10, .getfield 21, 3, 9, 3, 0), (13, .getfield 113, 3, 3, 3, 0), (16, .iload_n 1, 1, 0, 0, 0), (17, .invokevirtual 230, 3, 20, 18, 0), (20, .ireturn, 1, 1, 0, 0)]
def kX9_reason : List EN := [(0, .aload_n 0, 1, 0, 0, 0), (1, .invokevirtual 110, 3, 141, 145, 0), (4, .aload_n 0, 1, 0, 0, 0), (5, .getfield 21, 3, 9, 3, 0), (8, .getfield 233, 3, 3, 7, 0), (11, .ireturn, 1, 0, 0, 0)]
def kX9_reasonAt : List EN := [(0, .aload_n 0, 1, 0, 0, 0), (1, .invokevirtual 110, 3, 141, 145, 0), (4, .aload_n 0, 1, 0, 0, 0), (5, .getfield 21, 3, 9, 3, 0), (8, .getfield 236, 3, 3, 8, 0), (11, .ireturn, 1, 0, 0, 0)]
def kX9_lineLength : List EN := [(0, .aload_n 0, 1, 0, 0, 0), (1, .invokevirtual 110, 3, 141, 145, 0), (4, .aload_n 0, 1, 0, 0, 0), (5, .iload_n 1, 1, 0, 0, 0), (6, .invokevirtual 209, 3, 144, 146, 0), (9, .aload_n 0, 1, 0, 0, 0), (10, .getfield 21, 3, 9, 3, 0), (13, .getfield 215, 3, 3, 2, 0), (16, .iload_n 1, 1, 0, 0, 0), (17, .invokevirtual 239, 3, 57, 66, 0), (20, .ireturn, 1, 0, 0, 0)]
def kX9_words : List EN := [(0, .aload_n 0, 1, 0, 0, 0), (1, .invokevirtual 110, 3, 141, 145, 0), (4, .aload_n 0, 1, 0, 0, 0), (5, .iload_n 1, 1, 0, 0, 0), (6, .invokevirtual 209, 3, 144, 146, 0), (9, .aload_n 0, 1, 0, 0, 0), (10, .getfield 21, 3, 9, 3, 0), (13, .getfield 215, 3, 3, 2, 0), (16, .iload_n 1, 1, 0, 0, 0), (17, .invokevirtual 242, 3, 58, 66, 0), (20, .ireturn, 1, 0, 0, 0)]
def kX9_letters : List EN := [(0, .aload_n 0, 1, 0, 0, 0), (1, .invokevirtual 110, 3, 141, 145, 0), (4, .iload_n 1, 1, 0, 0, 0), (5, .invokestatic 245, 3, 153, 1, 0), (8, .ifCond .ne 10, 3, 0, 0, 0), (11, .iload_n 1, 1, 0, 0, 0), (12, .invokestatic 248, 3, 154, 1, 0), (15, .ifCond .eq 17, 3, 0, 0, 0), (18, .aload_n 0, 1, 0, 0, 0), (19, .getfield 21, 3, 9, 3, 0), (22, .getfield 215, 3, 3, 2, 0), (25, .iload_n 1, 1, 0, 0, 0), (26, .invokevirtual 251, 3, 59, 66, 0), (29, .goto 4, 3, 0, 0, 0), (32, .iconst 0, 1, 0, 0, 0), (33, .ireturn, 1, 0, 0, 0)]
def kX9_palest : List EN := [(0, .aload_n 0, 1, 0, 0, 0), (1, .invokevirtual 110, 3, 141, 145, 0), (4, .aload_n 0, 1, 0, 0, 0), (5, .getfield 21, 3, 9, 3, 0), (8, .getfield 215, 3, 3, 2, 0), (11, .invokevirtual 254, 3, 62, 65, 0), (14, .ireturn, 1, 0, 0, 0)]
def kX9_meanDarkness : List EN := [(0, .aload_n 0, 1, 0, 0, 0), (1, .invokevirtual 110, 3, 141, 145, 0), (4, .aload_n 0, 1, 0, 0, 0), (5, .getfield 21, 3, 9, 3, 0), (8, .getfield 215, 3, 3, 2, 0), (11, .invokevirtual 257, 3, 60, 65, 0), (14, .istore_n 1, 1, 0, 0, 0), (15, .iload_n 1, 1, 0, 0, 0), (16, .ifCond .ne 7, 3, 0, 0, 0), (19, .dconst 0, 1, 0, 0, 0), (20, .goto 17, 3, 0, 0, 0), (23, .aload_n 0, 1, 0, 0, 0), (24, .getfield 21, 3, 9, 3, 0), (27, .getfield 215, 3, 3, 2, 0), (30, .invokevirtual 260, 3, 61, 65, 0), (33, .i2d, 1, 0, 0, 0), (34, .iload_n 1, 1, 0, 0, 0), (35, .i2d, 1, 0, 0, 0), (36, .ddiv, 1, 0, 0, 0), (37, .dreturn, 1, 0, 0, 0)]
def kX9_inkShare : List EN := [(0, .aload_n 0, 1, 0, 0, 0), (1, .invokevirtual 110, 3, 141, 145, 0), (4, .aload_n 0, 1, 0, 0, 0), (5, .getfield 21, 3, 9, 3, 0), (8, .getfield 142, 3, 3, 0, 0), (11, .bipush 9, 2, 0, 0, 9), (13, .invokevirtual 138, 3, 81, 114, 0), (16, .aload_n 0, 1, 0, 0, 0), (17, .getfield 21, 3, 9, 3, 0), (20, .getfield 142, 3, 3, 0, 0), (23, .bipush 10, 2, 0, 0, 10), (25, .invokevirtual 138, 3, 81, 114, 0), (28, .imul, 1, 0, 0, 0), (29, .istore_n 1, 1, 0, 0, 0), (30, .iload_n 1, 1, 0, 0, 0), (31, .ifCond .ne 7, 3, 0, 0, 0), (34, .fconst 0, 1, 0, 0, 0), (35, .goto 17, 3, 0, 0, 0), (38, .aload_n 0, 1, 0, 0, 0), (39, .getfield 21, 3, 9, 3, 0), (42, .getfield 126, 3, 3, 1, 0), (45, .invokevirtual 203, 3, 79, 97, 0), (48, .i2f, 1, 0, 0, 0), (49, .iload_n 1, 1, 0, 0, 0), (50, .i2f, 1, 0, 0, 0), (51, .fdiv, 1, 0, 0, 0), (52, .freturn, 1, 0, 0, 0)]
def kX9_slowest : List EN := [(0, .aload_n 0, 1, 0, 0, 0), (1, .invokevirtual 110, 3, 141, 145, 0), (4, .aload_n 0, 1, 0, 0, 0), (5, .getfield 21, 3, 9, 3, 0), (8, .getfield 98, 3, 3, 4, 0), (11, .invokevirtual 263, 3, 16, 1, 0), (14, .ireturn, 1, 0, 0, 0)]
def kX9_nextStop : List EN := [(0, .aload_n 0, 1, 0, 0, 0), (1, .invokevirtual 110, 3, 141, 145, 0), (4, .aload_n 0, 1, 0, 0, 0), (5, .iload_n 1, 1, 0, 0, 0), (6, .invokevirtual 266, 3, 146, 146, 0), (9, .aload_n 0, 1, 0, 0, 0), (10, .getfield 21, 3, 9, 3, 0), (13, .getfield 113, 3, 3, 3, 0), (16, .iload_n 1, 1, 0, 0, 0), (17, .invokevirtual 269, 3, 25, 18, 0), (20, .ireturn, 1, 0, 0, 0)]
def kX9_bellIn : List EN := [(0, .aload_n 0, 1, 0, 0, 0), (1, .invokevirtual 110, 3, 141, 145, 0), (4, .aload_n 0, 1, 0, 0, 0), (5, .getfield 21, 3, 9, 3, 0), (8, .getfield 113, 3, 3, 3, 0), (11, .invokevirtual 272, 3, 24, 17, 0), (14, .ireturn, 1, 0, 0, 0)]
def kX9_wouldBe : List EN := [(0, .aload_n 0, 1, 0, 0, 0), (1, .invokevirtual 110, 3, 141, 145, 0), (4, .aload_n 0, 1, 0, 0, 0), (5, .iload_n 1, 1, 0, 0, 0), (6, .invokevirtual 158, 3, 143, 146, 0), (9, .aload_n 0, 1, 0, 0, 0), (10, .getfield 21, 3, 9, 3, 0), (13, .iconst 1, 1, 0, 0, 1), (14, .invokevirtual 275, 3, 42, 50, 0), (17, .istore_n 3, 1, 0, 0, 0), (18, .iload_n 3, 1, 0, 0, 0), (19, .ifCond .ne 36, 3, 0, 0, 0), (22, .aload_n 0, 1, 0, 0, 0), (23, .getfield 21, 3, 9, 3, 0), (26, .getfield 98, 3, 3, 4, 0), (29, .iload_n 1, 1, 0, 0, 0), (30, .aload_n 0, 1, 0, 0, 0), (31, .getfield 21, 3, 9, 3, 0), (34, .getfield 123, 3, 3, 6, 0), (37, .aload_n 0, 1, 0, 0, 0), (38, .getfield 21, 3, 9, 3, 0), (41, .getfield 142, 3, 3, 0, 0), (44, .iconst 5, 1, 0, 0, 5), (45, .invokevirtual 138, 3, 81, 114, 0), (48, .iadd, 1, 0, 0, 0), (49, .invokevirtual 279, 3, 9, 3, 0), (52, .goto 4, 3, 0, 0, 0), (55, .iload_n 3, 1, 0, 0, 0), (56, .ireturn, 1, 0, 0, 0)]
def kX9_freeIn : List EN := [(0, .aload_n 0, 1, 0, 0, 0), (1, .invokevirtual 110, 3, 141, 145, 0), (4, .aload_n 0, 1, 0, 0, 0), (5, .iload_n 1, 1, 0, 0, 0), (6, .invokevirtual 158, 3, 143, 146, 0), (9, .iconst 1, 1, 0, 0, 1), (10, .istore_n 2, 1, 0, 0, 0), (11, .iload_n 2, 1, 0, 0, 0), (12, .sipush 999, 3, 0, 0, 999), (15, .if_icmp .gt 34, 3, 0, 0, 0), (18, .aload_n 0, 1, 0, 0, 0), (19, .getfield 21, 3, 9, 3, 0), (22, .getfield 98, 3, 3, 4, 0), (25, .iload_n 1, 1, 0, 0, 0), (26, .aload_n 0, 1, 0, 0, 0), (27, .getfield 21, 3, 9, 3, 0), (30, .getfield 123, 3, 3, 6, 0), (33, .iload_n 2, 1, 0, 0, 0), (34, .iadd, 1, 0, 0, 0), (35, .invokevirtual 279, 3, 9, 3, 0), (38, .ifCond .ne 5, 3, 0, 0, 0), (41, .iload_n 2, 1, 0, 0, 0), (42, .ireturn, 1, 0, 0, 0), (43, .iinc 2 1, 3, 0, 0, 1), (46, .goto (-35), 3, 0, 0, 0), (49, .iconst (-1), 1, 0, 0, (-1)), (50, .ireturn, 1, 0, 0, 0)]
def kX9_paceOf : List EN := [(0, .aload_n 0, 1, 0, 0, 0), (1, .invokevirtual 110, 3, 141, 145, 0), (4, .aload_n 0, 1, 0, 0, 0), (5, .iload_n 1, 1, 0, 0, 0), (6, .invokevirtual 158, 3, 143, 146, 0), (9, .aload_n 0, 1, 0, 0, 0), (10, .iload_n 2, 1, 0, 0, 0), (11, .invokevirtual 158, 3, 143, 146, 0), (14, .aload_n 0, 1, 0, 0, 0), (15, .getfield 21, 3, 9, 3, 0), (18, .getfield 98, 3, 3, 4, 0), (21, .iload_n 1, 1, 0, 0, 0), (22, .iload_n 2, 1, 0, 0, 0), (23, .invokevirtual 282, 3, 14, 3, 0), (26, .ireturn, 1, 0, 0, 0)]
def kX9_worstPair : List EN := [(0, .aload_n 0, 1, 0, 0, 0), (1, .invokevirtual 110, 3, 141, 145, 0), (4, .aload_n 0, 1, 0, 0, 0), (5, .getfield 21, 3, 9, 3, 0), (8, .getfield 98, 3, 3, 4, 0), (11, .invokevirtual 285, 3, 15, 1, 0), (14, .ireturn, 1, 0, 0, 0)]
def kX9_wouldType : List EN := [(0, .aload_n 0, 1, 0, 0, 0), (1, .invokevirtual 110, 3, 141, 145, 0), (4, .aload_n 0, 1, 0, 0, 0), (5, .iload_n 1, 1, 0, 0, 0), (6, .invokevirtual 71, 3, 142, 146, 0), (9, .iload_n 2, 1, 0, 0, 0), (10, .ifCond .lt 12, 3, 0, 0, 0), (13, .iload_n 2, 1, 0, 0, 0), (14, .iconst 5, 1, 0, 0, 5), (15, .if_icmp .gt 7, 3, 0, 0, 0), (18, .iconst 1, 1, 0, 0, 1), (19, .goto 4, 3, 0, 0, 0), (22, .iconst 0, 1, 0, 0, 0), (23, .invokestatic 80, 3, 149, 1, 0), (26, .aload_n 0, 1, 0, 0, 0), (27, .getfield 25, 3, 9, 4, 0), (30, .aload_n 0, 1, 0, 0, 0), (31, .getfield 21, 3, 9, 3, 0), (34, .invokevirtual 84, 3, 34, 50, 0), (37, .aload_n 0, 1, 0, 0, 0), (38, .getfield 25, 3, 9, 4, 0), (41, .iconst 0, 1, 0, 0, 0), (42, .putfield 288, 3, 3, 9, 0), (45, .aload_n 0, 1, 0, 0, 0), (46, .getfield 25, 3, 9, 4, 0), (49, .aload_n 0, 1, 0, 0, 0), (50, .getfield 14, 3, 9, 0, 0), (53, .iload_n 1, 1, 0, 0, 0), (54, .invokevirtual 291, 3, 50, 51, 0), (57, .istore_n 3, 1, 0, 0, 0), (58, .iload_n 2, 1, 0, 0, 0), (59, .tableswitch 91 0 4 #[33, 35, 43, 54, 65], 33, 0, 0, 0), (92, .iload_n 3, 1, 0, 0, 0), (93, .ireturn, 1, 0, 0, 0), (94, .aload_n 0, 1, 0, 0, 0), (95, .getfield 25, 3, 9, 4, 0), (98, .getfield 233, 3, 3, 7, 0), (101, .ireturn, 1, 0, 0, 0), (102, .aload_n 0, 1, 0, 0, 0), (103, .getfield 25, 3, 9, 4, 0), (106, .getfield 113, 3, 3, 3, 0), (109, .getfield 148, 3, 1, 3, 0), (112, .ireturn, 1, 0, 0, 0), (113, .aload_n 0, 1, 0, 0, 0), (114, .getfield 25, 3, 9, 4, 0), (117, .getfield 113, 3, 3, 3, 0), (120, .getfield 145, 3, 1, 2, 0), (123, .ireturn, 1, 0, 0, 0), (124, .aload_n 0, 1, 0, 0, 0), (125, .getfield 25, 3, 9, 4, 0), (128, .getfield 135, 3, 3, 5, 0), (131, .bipush 10, 2, 0, 0, 10), (133, .invokevirtual 138, 3, 81, 114, 0), (136, .aload_n 0, 1, 0, 0, 0), (137, .getfield 21, 3, 9, 3, 0), (140, .getfield 135, 3, 3, 5, 0), (143, .bipush 10, 2, 0, 0, 10), (145, .invokevirtual 138, 3, 81, 114, 0), (148, .isub, 1, 0, 0, 0), (149, .ireturn, 1, 0, 0, 0), (150, .aload_n 0, 1, 0, 0, 0), (151, .getfield 25, 3, 9, 4, 0), (154, .getfield 288, 3, 3, 9, 0), (157, .ireturn, 1, 0, 0, 0)]
def kX9_paceFor : List EN := [(0, .aload_n 0, 1, 0, 0, 0), (1, .invokevirtual 110, 3, 141, 145, 0), (4, .aload_n 0, 1, 0, 0, 0), (5, .iload_n 1, 1, 0, 0, 0), (6, .invokevirtual 71, 3, 142, 146, 0), (9, .iconst 1, 1, 0, 0, 1), (10, .istore_n 2, 1, 0, 0, 0), (11, .iload_n 2, 1, 0, 0, 0), (12, .sipush 300, 3, 0, 0, 300), (15, .if_icmp .gt 69, 3, 0, 0, 0), (18, .aload_n 0, 1, 0, 0, 0), (19, .getfield 25, 3, 9, 4, 0), (22, .aload_n 0, 1, 0, 0, 0), (23, .getfield 21, 3, 9, 3, 0), (26, .invokevirtual 295, 3, 35, 50, 0), (29, .aload_n 0, 1, 0, 0, 0), (30, .getfield 25, 3, 9, 4, 0), (33, .getfield 142, 3, 3, 0, 0), (36, .iconst 5, 1, 0, 0, 5), (37, .iload_n 2, 1, 0, 0, 0), (38, .invokevirtual 67, 3, 82, 115, 0), (41, .aload_n 0, 1, 0, 0, 0), (42, .getfield 25, 3, 9, 4, 0), (45, .aload_n 0, 1, 0, 0, 0), (46, .getfield 14, 3, 9, 0, 0), (49, .iload_n 1, 1, 0, 0, 0), (50, .invokevirtual 291, 3, 50, 51, 0), (53, .pop, 1, 0, 0, 0), (54, .aload_n 0, 1, 0, 0, 0), (55, .getfield 25, 3, 9, 4, 0), (58, .getfield 233, 3, 3, 7, 0), (61, .iconst 4, 1, 0, 0, 4), (62, .if_icmp .eq 16, 3, 0, 0, 0), (65, .aload_n 0, 1, 0, 0, 0), (66, .getfield 25, 3, 9, 4, 0), (69, .getfield 233, 3, 3, 7, 0), (72, .iconst 5, 1, 0, 0, 5), (73, .if_icmp .eq 5, 3, 0, 0, 0), (76, .iload_n 2, 1, 0, 0, 0), (77, .ireturn, 1, 0, 0, 0), (78, .iinc 2 1, 3, 0, 0, 1), (81, .goto (-70), 3, 0, 0, 0), (84, .iconst (-1), 1, 0, 0, (-1)), (85, .ireturn, 1, 0, 0, 0)]
def kX9_keysTo : List EN := [(0, .aload_n 0, 1, 0, 0, 0), (1, .invokevirtual 110, 3, 141, 145, 0), (4, .aload_n 0, 1, 0, 0, 0), (5, .iload_n 1, 1, 0, 0, 0), (6, .invokevirtual 266, 3, 146, 146, 0), (9, .aload_n 0, 1, 0, 0, 0), (10, .getfield 21, 3, 9, 3, 0), (13, .getfield 113, 3, 3, 3, 0), (16, .iload_n 1, 1, 0, 0, 0), (17, .aload_n 0, 1, 0, 0, 0), (18, .getfield 57, 3, 9, 11, 0), (21, .invokevirtual 298, 3, 27, 19, 0), (24, .ireturn, 1, 0, 0, 0)]
def kX9_printsLeft : List EN := [(0, .aload_n 0, 1, 0, 0, 0), (1, .invokevirtual 110, 3, 141, 145, 0), (4, .aload_n 0, 1, 0, 0, 0), (5, .getfield 25, 3, 9, 4, 0), (8, .getfield 126, 3, 3, 1, 0), (11, .astore_n 1, 1, 0, 0, 0), (12, .aload_n 0, 1, 0, 0, 0), (13, .getfield 25, 3, 9, 4, 0), (16, .getfield 142, 3, 3, 0, 0), (19, .aload_n 0, 1, 0, 0, 0), (20, .getfield 21, 3, 9, 3, 0), (23, .getfield 142, 3, 3, 0, 0), (26, .invokevirtual 302, 3, 84, 114, 0), (29, .aload_n 1, 1, 0, 0, 0), (30, .aload_n 0, 1, 0, 0, 0), (31, .getfield 21, 3, 9, 3, 0), (34, .getfield 126, 3, 3, 1, 0), (37, .invokevirtual 305, 3, 76, 98, 0), (40, .iconst 0, 1, 0, 0, 0), (41, .istore_n 2, 1, 0, 0, 0), (42, .iload_n 2, 1, 0, 0, 0), (43, .sipush 540, 3, 0, 0, 540), (46, .if_icmp .gt 18, 3, 0, 0, 0), (49, .aload_n 1, 1, 0, 0, 0), (50, .invokevirtual 308, 3, 78, 97, 0), (53, .ifCond .ne 5, 3, 0, 0, 0), (56, .iload_n 2, 1, 0, 0, 0), (57, .ireturn, 1, 0, 0, 0), (58, .iinc 2 1, 3, 0, 0, 1), (61, .goto (-19), 3, 0, 0, 0), (64, .iconst (-1), 1, 0, 0, (-1)), (65, .ireturn, 1, 0, 0, 0)]
def kX9_writeLine : List EN := [(0, .aload_n 0, 1, 0, 0, 0), (1, .invokevirtual 110, 3, 141, 145, 0), (4, .aload_n 0, 1, 0, 0, 0), (5, .iload_n 1, 1, 0, 0, 0), (6, .invokevirtual 209, 3, 144, 146, 0), (9, .aload_n 0, 1, 0, 0, 0), (10, .aload_n 0, 1, 0, 0, 0), (11, .getfield 21, 3, 9, 3, 0), (14, .getfield 215, 3, 3, 2, 0), (17, .iload_n 1, 1, 0, 0, 0), (18, .invokevirtual 239, 3, 57, 66, 0), (21, .putfield 311, 3, 9, 10, 0), (24, .iconst 0, 1, 0, 0, 0), (25, .istore_n 2, 1, 0, 0, 0), (26, .iload_n 2, 1, 0, 0, 0), (27, .aload_n 0, 1, 0, 0, 0), (28, .getfield 311, 3, 9, 10, 0), (31, .if_icmp .ge 42, 3, 0, 0, 0), (34, .aload_n 0, 1, 0, 0, 0), (35, .getfield 54, 3, 9, 9, 0), (38, .iload_n 2, 1, 0, 0, 0), (39, .aload_n 0, 1, 0, 0, 0), (40, .getfield 21, 3, 9, 3, 0), (43, .getfield 215, 3, 3, 2, 0), (46, .getfield 219, 3, 4, 1, 0), (49, .aload_n 0, 1, 0, 0, 0), (50, .getfield 21, 3, 9, 3, 0), (53, .getfield 215, 3, 3, 2, 0), (56, .iload_n 1, 1, 0, 0, 0), (57, .iload_n 2, 1, 0, 0, 0), (58, .invokevirtual 224, 3, 53, 67, 0), (61, .invokevirtual 138, 3, 81, 114, 0), (64, .invokevirtual 67, 3, 82, 115, 0), (67, .iinc 2 1, 3, 0, 0, 1), (70, .goto (-44), 3, 0, 0, 0), (73, .aload_n 0, 1, 0, 0, 0), (74, .getfield 311, 3, 9, 10, 0), (77, .ireturn, 1, 0, 0, 0)]
def kX9_writeShades : List EN := [(0, .aload_n 0, 1, 0, 0, 0), (1, .invokevirtual 110, 3, 141, 145, 0), (4, .aload_n 0, 1, 0, 0, 0), (5, .iload_n 1, 1, 0, 0, 0), (6, .invokevirtual 209, 3, 144, 146, 0), (9, .aload_n 0, 1, 0, 0, 0), (10, .aload_n 0, 1, 0, 0, 0), (11, .getfield 21, 3, 9, 3, 0), (14, .getfield 215, 3, 3, 2, 0), (17, .iload_n 1, 1, 0, 0, 0), (18, .invokevirtual 239, 3, 57, 66, 0), (21, .putfield 311, 3, 9, 10, 0), (24, .iconst 0, 1, 0, 0, 0), (25, .istore_n 2, 1, 0, 0, 0), (26, .iload_n 2, 1, 0, 0, 0), (27, .aload_n 0, 1, 0, 0, 0), (28, .getfield 311, 3, 9, 10, 0), (31, .if_icmp .ge 66, 3, 0, 0, 0), (34, .aload_n 0, 1, 0, 0, 0), (35, .getfield 21, 3, 9, 3, 0), (38, .getfield 215, 3, 3, 2, 0), (41, .iload_n 1, 1, 0, 0, 0), (42, .iload_n 2, 1, 0, 0, 0), (43, .invokevirtual 224, 3, 53, 67, 0), (46, .istore_n 3, 1, 0, 0, 0), (47, .aload_n 0, 1, 0, 0, 0), (48, .getfield 54, 3, 9, 9, 0), (51, .iload_n 2, 1, 0, 0, 0), (52, .aload_n 0, 1, 0, 0, 0), (53, .getfield 21, 3, 9, 3, 0), (56, .getfield 215, 3, 3, 2, 0), (59, .iload_n 3, 1, 0, 0, 0), (60, .invokevirtual 314, 3, 54, 66, 0), (63, .ifCond .eq 8, 3, 0, 0, 0), (66, .bipush 32, 2, 0, 0, 32), (68, .goto 20, 3, 0, 0, 0), (71, .bipush 48, 2, 0, 0, 48), (73, .aload_n 0, 1, 0, 0, 0), (74, .getfield 21, 3, 9, 3, 0), (77, .getfield 215, 3, 3, 2, 0), (80, .getfield 227, 3, 4, 2, 0), (83, .iload_n 3, 1, 0, 0, 0), (84, .invokevirtual 138, 3, 81, 114, 0), (87, .iadd, 1, 0, 0, 0), (88, .invokevirtual 67, 3, 82, 115, 0), (91, .iinc 2 1, 3, 0, 0, 1), (94, .goto (-68), 3, 0, 0, 0), (97, .aload_n 0, 1, 0, 0, 0), (98, .getfield 311, 3, 9, 10, 0), (101, .ireturn, 1, 0, 0, 0)]
def kX9_writeRuler : List EN := [(0, .aload_n 0, 1, 0, 0, 0), (1, .invokevirtual 110, 3, 141, 145, 0), (4, .aload_n 0, 1, 0, 0, 0), (5, .aload_n 0, 1, 0, 0, 0), (6, .getfield 21, 3, 9, 3, 0), (9, .getfield 142, 3, 3, 0, 0), (12, .iconst 0, 1, 0, 0, 0), (13, .invokevirtual 138, 3, 81, 114, 0), (16, .putfield 311, 3, 9, 10, 0), (19, .iconst 0, 1, 0, 0, 0), (20, .istore_n 1, 1, 0, 0, 0), (21, .iload_n 1, 1, 0, 0, 0), (22, .aload_n 0, 1, 0, 0, 0), (23, .getfield 311, 3, 9, 10, 0), (26, .if_icmp .ge 22, 3, 0, 0, 0), (29, .aload_n 0, 1, 0, 0, 0), (30, .getfield 54, 3, 9, 9, 0), (33, .iload_n 1, 1, 0, 0, 0), (34, .aload_n 0, 1, 0, 0, 0), (35, .iload_n 1, 1, 0, 0, 0), (36, .invokevirtual 317, 3, 124, 146, 0), (39, .invokevirtual 67, 3, 82, 115, 0), (42, .iinc 1 1, 3, 0, 0, 1), (45, .goto (-24), 3, 0, 0, 0), (48, .aload_n 0, 1, 0, 0, 0), (49, .getfield 311, 3, 9, 10, 0), (52, .ireturn, 1, 0, 0, 0)]
def kX9_rulerMark : List EN := [(0, .iload_n 1, 1, 0, 0, 0), (1, .aload_n 0, 1, 0, 0, 0), (2, .getfield 21, 3, 9, 3, 0), (5, .getfield 113, 3, 3, 3, 0), (8, .getfield 148, 3, 1, 3, 0), (11, .if_icmp .ne 6, 3, 0, 0, 0), (14, .bipush 86, 2, 0, 0, 86), (16, .ireturn, 1, 0, 0, 0), (17, .iload_n 1, 1, 0, 0, 0), (18, .aload_n 0, 1, 0, 0, 0), (19, .getfield 21, 3, 9, 3, 0), (22, .getfield 142, 3, 3, 0, 0), (25, .iconst 2, 1, 0, 0, 2), (26, .invokevirtual 138, 3, 81, 114, 0), (29, .if_icmp .ne 6, 3, 0, 0, 0), (32, .bipush 76, 2, 0, 0, 76), (34, .ireturn, 1, 0, 0, 0), (35, .iload_n 1, 1, 0, 0, 0), (36, .aload_n 0, 1, 0, 0, 0), (37, .getfield 21, 3, 9, 3, 0), (40, .getfield 142, 3, 3, 0, 0), (43, .iconst 3, 1, 0, 0, 3), (44, .invokevirtual 138, 3, 81, 114, 0), (47, .if_icmp .ne 6, 3, 0, 0, 0), (50, .bipush 82, 2, 0, 0, 82), (52, .ireturn, 1, 0, 0, 0), (53, .aload_n 0, 1, 0, 0, 0), (54, .getfield 21, 3, 9, 3, 0), (57, .getfield 113, 3, 3, 3, 0), (60, .iload_n 1, 1, 0, 0, 0), (61, .invokevirtual 230, 3, 20, 18, 0), (64, .ifCond .eq 8, 3, 0, 0, 0), (67, .bipush 84, 2, 0, 0, 84), (69, .goto 5, 3, 0, 0, 0), (72, .bipush 46, 2, 0, 0, 46), (74, .ireturn, 1, 0, 0, 0)]
def kX9_textByte : List EN := [(0, .iload_n 1, 1, 0, 0, 0), (1, .ifCond .lt 15, 3, 0, 0, 0), (4, .iload_n 1, 1, 0, 0, 0), (5, .aload_n 0, 1, 0, 0, 0), (6, .getfield 311, 3, 9, 10, 0), (9, .if_icmp .ge 7, 3, 0, 0, 0), (12, .iconst 1, 1, 0, 0, 1), (13, .goto 4, 3, 0, 0, 0), (16, .iconst 0, 1, 0, 0, 0), (17, .invokestatic 191, 3, 148, 1, 0), (20, .aload_n 0, 1, 0, 0, 0), (21, .getfield 54, 3, 9, 9, 0), (24, .iload_n 1, 1, 0, 0, 0), (25, .invokevirtual 138, 3, 81, 114, 0), (28, .ireturn, 1, 0, 0, 0)]
def kX9_strike : List EN := [(0, .aload_n 0, 1, 0, 0, 0), (1, .invokevirtual 110, 3, 141, 145, 0), (4, .aload_n 0, 1, 0, 0, 0), (5, .iload_n 1, 1, 0, 0, 0), (6, .invokevirtual 158, 3, 143, 146, 0), (9, .aload_n 0, 1, 0, 0, 0), (10, .getfield 40, 3, 9, 6, 0), (13, .aload_n 0, 1, 0, 0, 0), (14, .getfield 21, 3, 9, 3, 0), (17, .invokevirtual 320, 3, 31, 34, 0), (20, .aload_n 0, 1, 0, 0, 0), (21, .getfield 21, 3, 9, 3, 0), (24, .aload_n 0, 1, 0, 0, 0), (25, .getfield 21, 3, 9, 3, 0), (28, .iload_n 1, 1, 0, 0, 0), (29, .iload_n 2, 1, 0, 0, 0), (30, .invokevirtual 323, 3, 43, 51, 0), (33, .invokevirtual 327, 3, 41, 50, 0), (36, .ireturn, 1, 0, 0, 0)]
def kX9_press : List EN := [(0, .aload_n 0, 1, 0, 0, 0), (1, .invokevirtual 110, 3, 141, 145, 0), (4, .iload_n 1, 1, 0, 0, 0), (5, .ifCond .lt 12, 3, 0, 0, 0), (8, .iload_n 1, 1, 0, 0, 0), (9, .iconst 5, 1, 0, 0, 5), (10, .if_icmp .gt 7, 3, 0, 0, 0), (13, .iconst 1, 1, 0, 0, 1), (14, .goto 4, 3, 0, 0, 0), (17, .iconst 0, 1, 0, 0, 0), (18, .invokestatic 80, 3, 149, 1, 0), (21, .aload_n 0, 1, 0, 0, 0), (22, .getfield 40, 3, 9, 6, 0), (25, .aload_n 0, 1, 0, 0, 0), (26, .getfield 21, 3, 9, 3, 0), (29, .invokevirtual 320, 3, 31, 34, 0), (32, .aload_n 0, 1, 0, 0, 0), (33, .getfield 21, 3, 9, 3, 0), (36, .aload_n 0, 1, 0, 0, 0), (37, .getfield 21, 3, 9, 3, 0), (40, .iload_n 1, 1, 0, 0, 0), (41, .invokevirtual 330, 3, 46, 50, 0), (44, .invokevirtual 327, 3, 41, 50, 0), (47, .ireturn, 1, 0, 0, 0)]
def kX9_type : List EN := [(0, .aload_n 0, 1, 0, 0, 0), (1, .invokevirtual 110, 3, 141, 145, 0), (4, .aload_n 0, 1, 0, 0, 0), (5, .iload_n 1, 1, 0, 0, 0), (6, .invokevirtual 71, 3, 142, 146, 0), (9, .aload_n 0, 1, 0, 0, 0), (10, .getfield 40, 3, 9, 6, 0), (13, .aload_n 0, 1, 0, 0, 0), (14, .getfield 21, 3, 9, 3, 0), (17, .invokevirtual 320, 3, 31, 34, 0), (20, .aload_n 0, 1, 0, 0, 0), (21, .iconst 0, 1, 0, 0, 0), (22, .putfield 60, 3, 9, 1, 0), (25, .aload_n 0, 1, 0, 0, 0), (26, .getfield 21, 3, 9, 3, 0), (29, .aload_n 0, 1, 0, 0, 0), (30, .getfield 14, 3, 9, 0, 0), (33, .iload_n 1, 1, 0, 0, 0), (34, .invokevirtual 291, 3, 50, 51, 0), (37, .ireturn, 1, 0, 0, 0)]
def kX9_setStop : List EN := [(0, .aload_n 0, 1, 0, 0, 0), (1, .invokevirtual 110, 3, 141, 145, 0), (4, .aload_n 0, 1, 0, 0, 0), (5, .iload_n 1, 1, 0, 0, 0), (6, .invokevirtual 212, 3, 145, 146, 0), (9, .aload_n 0, 1, 0, 0, 0), (10, .getfield 40, 3, 9, 6, 0), (13, .aload_n 0, 1, 0, 0, 0), (14, .getfield 21, 3, 9, 3, 0), (17, .invokevirtual 320, 3, 31, 34, 0), (20, .aload_n 0, 1, 0, 0, 0), (21, .getfield 21, 3, 9, 3, 0), (24, .getfield 113, 3, 3, 3, 0), (27, .iload_n 1, 1, 0, 0, 0), (28, .invokevirtual 230, 3, 20, 18, 0), (31, .istore_n 3, 1, 0, 0, 0), (32, .aload_n 0, 1, 0, 0, 0), (33, .getfield 21, 3, 9, 3, 0), (36, .getfield 113, 3, 3, 3, 0), (39, .getfield 333, 3, 1, 1, 0), (42, .iload_n 1, 1, 0, 0, 0), (43, .iload_n 2, 1, 0, 0, 0), (44, .ifCond .eq 7, 3, 0, 0, 0), (47, .iconst 1, 1, 0, 0, 1), (48, .goto 4, 3, 0, 0, 0), (51, .iconst 0, 1, 0, 0, 0), (52, .invokevirtual 67, 3, 82, 115, 0), (55, .iload_n 3, 1, 0, 0, 0), (56, .ireturn, 1, 1, 0, 0)]
def kX9_setMargin : List EN := [(0, .aload_n 0, 1, 0, 0, 0), (1, .invokevirtual 110, 3, 141, 145, 0), (4, .iconst 1, 1, 0, 0, 1), (5, .aload_n 0, 1, 0, 0, 0), (6, .getfield 21, 3, 9, 3, 0), (9, .getfield 142, 3, 3, 0, 0), (12, .iconst 4, 1, 0, 0, 4), (13, .invokevirtual 138, 3, 81, 114, 0), (16, .invokestatic 176, 3, 1000, 0, 0), (19, .istore_n 3, 1, 0, 0, 0), (20, .iload_n 1, 1, 0, 0, 0), (21, .ifCond .eq 19, 3, 0, 0, 0), (24, .aload_n 0, 1, 0, 0, 0), (25, .getfield 21, 3, 9, 3, 0), (28, .getfield 142, 3, 3, 0, 0), (31, .iconst 2, 1, 0, 0, 2), (32, .invokevirtual 138, 3, 81, 114, 0), (35, .iload_n 3, 1, 0, 0, 0), (36, .iadd, 1, 0, 0, 0), (37, .goto 4, 3, 0, 0, 0), (40, .iconst 0, 1, 0, 0, 0), (41, .istore 4, 2, 0, 0, 0), (43, .iload_n 1, 1, 0, 0, 0), (44, .ifCond .eq 19, 3, 0, 0, 0), (47, .aload_n 0, 1, 0, 0, 0), (48, .getfield 21, 3, 9, 3, 0), (51, .getfield 142, 3, 3, 0, 0), (54, .iconst 0, 1, 0, 0, 0), (55, .invokevirtual 138, 3, 81, 114, 0), (58, .iconst 1, 1, 0, 0, 1), (59, .isub, 1, 0, 0, 0), (60, .goto 16, 3, 0, 0, 0), (63, .aload_n 0, 1, 0, 0, 0), (64, .getfield 21, 3, 9, 3, 0), (67, .getfield 142, 3, 3, 0, 0), (70, .iconst 3, 1, 0, 0, 3), (71, .invokevirtual 138, 3, 81, 114, 0), (74, .iload_n 3, 1, 0, 0, 0), (75, .isub, 1, 0, 0, 0), (76, .istore 5, 2, 0, 0, 0), (78, .iload_n 2, 1, 0, 0, 0), (79, .iload 4, 2, 0, 0, 0), (81, .if_icmp .lt 13, 3, 0, 0, 0), (84, .iload_n 2, 1, 0, 0, 0), (85, .iload 5, 2, 0, 0, 0), (87, .if_icmp .gt 7, 3, 0, 0, 0), (90, .iconst 1, 1, 0, 0, 1), (91, .goto 4, 3, 0, 0, 0), (94, .iconst 0, 1, 0, 0, 0), (95, .invokestatic 80, 3, 149, 1, 0), (98, .aload_n 0, 1, 0, 0, 0), (99, .getfield 40, 3, 9, 6, 0), (102, .aload_n 0, 1, 0, 0, 0), (103, .getfield 21, 3, 9, 3, 0), (106, .invokevirtual 320, 3, 31, 34, 0), (109, .aload_n 0, 1, 0, 0, 0), (110, .iload_n 1, 1, 0, 0, 0), (111, .ifCond .eq 7, 3, 0, 0, 0), (114, .iconst 3, 1, 0, 0, 3), (115, .goto 4, 3, 0, 0, 0), (118, .iconst 2, 1, 0, 0, 2), (119, .iload_n 2, 1, 0, 0, 0), (120, .invokevirtual 336, 3, 132, 147, 0), (123, .ireturn, 1, 0, 0, 0)]
def kX9_set : List EN := [(0, .aload_n 0, 1, 0, 0, 0), (1, .invokevirtual 110, 3, 141, 145, 0), (4, .iload_n 1, 1, 0, 0, 0), (5, .invokestatic 339, 3, 150, 1, 0), (8, .invokestatic 80, 3, 149, 1, 0), (11, .iload_n 2, 1, 0, 0, 0), (12, .aload_n 0, 1, 0, 0, 0), (13, .getfield 21, 3, 9, 3, 0), (16, .getfield 142, 3, 3, 0, 0), (19, .iload_n 1, 1, 0, 0, 0), (20, .invokestatic 342, 3, 151, 2, 0), (23, .if_icmp .lt 22, 3, 0, 0, 0), (26, .iload_n 2, 1, 0, 0, 0), (27, .aload_n 0, 1, 0, 0, 0), (28, .getfield 21, 3, 9, 3, 0), (31, .getfield 142, 3, 3, 0, 0), (34, .iload_n 1, 1, 0, 0, 0), (35, .invokestatic 345, 3, 152, 2, 0), (38, .if_icmp .gt 7, 3, 0, 0, 0), (41, .iconst 1, 1, 0, 0, 1), (42, .goto 4, 3, 0, 0, 0), (45, .iconst 0, 1, 0, 0, 0), (46, .invokestatic 80, 3, 149, 1, 0), (49, .aload_n 0, 1, 0, 0, 0), (50, .getfield 40, 3, 9, 6, 0), (53, .aload_n 0, 1, 0, 0, 0), (54, .getfield 21, 3, 9, 3, 0), (57, .invokevirtual 320, 3, 31, 34, 0), (60, .aload_n 0, 1, 0, 0, 0), (61, .iload_n 1, 1, 0, 0, 0), (62, .iload_n 2, 1, 0, 0, 0), (63, .invokevirtual 336, 3, 132, 147, 0), (66, .ireturn, 1, 0, 0, 0)]
def kX9_replaceSetting : List EN := [(0, .aload_n 0, 1, 0, 0, 0), (1, .getfield 21, 3, 9, 3, 0), (4, .getfield 142, 3, 3, 0, 0), (7, .iload_n 1, 1, 0, 0, 0), (8, .invokevirtual 138, 3, 81, 114, 0), (11, .istore_n 3, 1, 0, 0, 0), (12, .aload_n 0, 1, 0, 0, 0), (13, .getfield 21, 3, 9, 3, 0), (16, .getfield 142, 3, 3, 0, 0), (19, .iload_n 1, 1, 0, 0, 0), (20, .iload_n 2, 1, 0, 0, 0), (21, .invokevirtual 67, 3, 82, 115, 0), (24, .iload_n 3, 1, 0, 0, 0), (25, .ireturn, 1, 0, 0, 0)]
def kX9_rest : List EN := [(0, .aload_n 0, 1, 0, 0, 0), (1, .invokevirtual 110, 3, 141, 145, 0), (4, .iload_n 1, 1, 0, 0, 0), (5, .iconst 1, 1, 0, 0, 1), (6, .if_icmp .lt 14, 3, 0, 0, 0), (9, .iload_n 1, 1, 0, 0, 0), (10, .sipush 9999, 3, 0, 0, 9999), (13, .if_icmp .gt 7, 3, 0, 0, 0), (16, .iconst 1, 1, 0, 0, 1), (17, .goto 4, 3, 0, 0, 0), (20, .iconst 0, 1, 0, 0, 0), (21, .invokestatic 80, 3, 149, 1, 0), (24, .aload_n 0, 1, 0, 0, 0), (25, .getfield 40, 3, 9, 6, 0), (28, .aload_n 0, 1, 0, 0, 0), (29, .getfield 21, 3, 9, 3, 0), (32, .invokevirtual 320, 3, 31, 34, 0), (35, .aload_n 0, 1, 0, 0, 0), (36, .getfield 21, 3, 9, 3, 0), (39, .dup, 1, 0, 0, 0), (40, .getfield 123, 3, 3, 6, 0), (43, .iload_n 1, 1, 0, 0, 0), (44, .iadd, 1, 0, 0, 0), (45, .putfield 123, 3, 3, 6, 0), (48, .aload_n 0, 1, 0, 0, 0), (49, .getfield 21, 3, 9, 3, 0), (52, .getfield 98, 3, 3, 4, 0), (55, .aload_n 0, 1, 0, 0, 0), (56, .getfield 21, 3, 9, 3, 0), (59, .getfield 123, 3, 3, 6, 0), (62, .invokevirtual 348, 3, 6, 2, 0), (65, .ireturn, 1, 0, 0, 0)]
def kX9_newRibbon : List EN := [(0, .aload_n 0, 1, 0, 0, 0), (1, .invokevirtual 110, 3, 141, 145, 0), (4, .aload_n 0, 1, 0, 0, 0), (5, .getfield 40, 3, 9, 6, 0), (8, .aload_n 0, 1, 0, 0, 0), (9, .getfield 21, 3, 9, 3, 0), (12, .invokevirtual 320, 3, 31, 34, 0), (15, .aload_n 0, 1, 0, 0, 0), (16, .getfield 21, 3, 9, 3, 0), (19, .getfield 126, 3, 3, 1, 0), (22, .invokevirtual 203, 3, 79, 97, 0), (25, .istore_n 1, 1, 0, 0, 0), (26, .aload_n 0, 1, 0, 0, 0), (27, .getfield 21, 3, 9, 3, 0), (30, .getfield 126, 3, 3, 1, 0), (33, .invokevirtual 351, 3, 77, 97, 0), (36, .iload_n 1, 1, 0, 0, 0), (37, .ireturn, 1, 0, 0, 0)]
def kX9_newPage : List EN := [(0, .aload_n 0, 1, 0, 0, 0), (1, .invokevirtual 110, 3, 141, 145, 0), (4, .aload_n 0, 1, 0, 0, 0), (5, .getfield 40, 3, 9, 6, 0), (8, .aload_n 0, 1, 0, 0, 0), (9, .getfield 21, 3, 9, 3, 0), (12, .invokevirtual 320, 3, 31, 34, 0), (15, .aload_n 0, 1, 0, 0, 0), (16, .getfield 21, 3, 9, 3, 0), (19, .getfield 215, 3, 3, 2, 0), (22, .invokevirtual 257, 3, 60, 65, 0), (25, .istore_n 1, 1, 0, 0, 0), (26, .aload_n 0, 1, 0, 0, 0), (27, .getfield 21, 3, 9, 3, 0), (30, .getfield 215, 3, 3, 2, 0), (33, .invokevirtual 354, 3, 52, 65, 0), (36, .aload_n 0, 1, 0, 0, 0), (37, .getfield 21, 3, 9, 3, 0), (40, .getfield 113, 3, 3, 3, 0), (43, .invokevirtual 355, 3, 18, 17, 0), (46, .iload_n 1, 1, 0, 0, 0), (47, .ireturn, 1, 0, 0, 0)]
def kX9_undo : List EN := [(0, .aload_n 0, 1, 0, 0, 0), (1, .getfield 40, 3, 9, 6, 0), (4, .getfield 358, 3, 2, 2, 0), (7, .ifCond .ne 14, 3, 0, 0, 0), (10, .new 361, 3, 1, 0, 0), (21, .aload_n 0, 1, 0, 0, 0), (22, .getfield 40, 3, 9, 6, 0), (25, .aload_n 0, 1, 0, 0, 0), (26, .getfield 21, 3, 9, 3, 0), (29, .invokevirtual 368, 3, 32, 34, 0), (32, .aload_n 0, 1, 0, 0, 0), (33, .getfield 40, 3, 9, 6, 0), (36, .getfield 358, 3, 2, 2, 0), (39, .ireturn, 1, 0, 0, 0)]
def kX9_undoable : List EN := [(0, .aload_n 0, 1, 0, 0, 0), (1, .getfield 40, 3, 9, 6, 0), (4, .getfield 358, 3, 2, 2, 0), (7, .ireturn, 1, 0, 0, 0)]
def kX9_save : List EN := [(0, .aload_n 0, 1, 0, 0, 0), (1, .invokevirtual 110, 3, 141, 145, 0), (4, .iload_n 1, 1, 0, 0, 0), (5, .invokestatic 371, 3, 147, 1, 0), (8, .aload_n 0, 1, 0, 0, 0), (9, .iload_n 1, 1, 0, 0, 0), (10, .invokevirtual 374, 3, 140, 146, 0), (13, .astore_n 2, 1, 0, 0, 0), (14, .aload_n 2, 1, 0, 0, 0), (15, .getfield 378, 3, 8, 0, 0), (18, .aload_n 0, 1, 0, 0, 0), (19, .getfield 21, 3, 9, 3, 0), (22, .invokevirtual 84, 3, 34, 50, 0), (25, .aload_n 2, 1, 0, 0, 0), (26, .iconst 1, 1, 0, 0, 1), (27, .putfield 95, 3, 8, 1, 0), (30, .aload_n 0, 1, 0, 0, 0), (31, .getfield 21, 3, 9, 3, 0), (34, .getfield 123, 3, 3, 6, 0), (37, .ireturn, 1, 0, 0, 0)]
def kX9_restore : List EN := [(0, .iload_n 1, 1, 0, 0, 0), (1, .invokestatic 371, 3, 147, 1, 0), (4, .aload_n 0, 1, 0, 0, 0), (5, .iload_n 1, 1, 0, 0, 0), (6, .invokevirtual 374, 3, 140, 146, 0), (9, .astore_n 2, 1, 0, 0, 0), (10, .aload_n 2, 1, 0, 0, 0), (11, .getfield 95, 3, 8, 1, 0), (14, .ifCond .ne 14, 3, 0, 0, 0), (17, .new 361, 3, 1, 0, 0), (28, .aload_n 0, 1, 0, 0, 0), (29, .getfield 21, 3, 9, 3, 0), (32, .aload_n 2, 1, 0, 0, 0), (33, .getfield 378, 3, 8, 0, 0), (36, .invokevirtual 84, 3, 34, 50, 0), (39, .aload_n 0, 1, 0, 0, 0), (40, .getfield 40, 3, 9, 6, 0), (43, .invokevirtual 92, 3, 30, 33, 0), (46, .aload_n 0, 1, 0, 0, 0), (47, .getfield 21, 3, 9, 3, 0), (50, .getfield 123, 3, 3, 6, 0), (53, .ireturn, 1, 0, 0, 0)]
def kX9_slotOf : List EN := [(0, .iload_n 1, 1, 0, 0, 0), (1, .ifCond .ne 10, 3, 0, 0, 0), (4, .aload_n 0, 1, 0, 0, 0), (5, .getfield 47, 3, 9, 7, 0), (8, .goto 7, 3, 0, 0, 0), (11, .aload_n 0, 1, 0, 0, 0), (12, .getfield 51, 3, 9, 8, 0), (15, .areturn, 1, 0, 0, 0)]
def kX9_requireLoaded : List EN := [(0, .aload_n 0, 1, 0, 0, 0), (1, .getfield 88, 3, 9, 2, 0), (4, .ifCond .ne 14, 3, 0, 0, 0), (7, .new 361, 3, 1, 0, 0), (18, .return_, 1, 0, 0, 0)]
def kX9_requireBytes : List EN := [(0, .iload_n 1, 1, 0, 0, 0), (1, .ifCond .lt 15, 3, 0, 0, 0), (4, .iload_n 1, 1, 0, 0, 0), (5, .aload_n 0, 1, 0, 0, 0), (6, .getfield 60, 3, 9, 1, 0), (9, .if_icmp .gt 7, 3, 0, 0, 0), (12, .iconst 1, 1, 0, 0, 1), (13, .goto 4, 3, 0, 0, 0), (16, .iconst 0, 1, 0, 0, 0), (17, .invokestatic 191, 3, 148, 1, 0), (20, .return_, 1, 0, 0, 0)]
def kX9_requireBar : List EN := [(0, .iload_n 1, 1, 0, 0, 0), (1, .ifCond .lt 21, 3, 0, 0, 0), (4, .iload_n 1, 1, 0, 0, 0), (5, .aload_n 0, 1, 0, 0, 0), (6, .getfield 21, 3, 9, 3, 0), (9, .getfield 98, 3, 3, 4, 0), (12, .getfield 102, 3, 0, 5, 0), (15, .if_icmp .ge 7, 3, 0, 0, 0), (18, .iconst 1, 1, 0, 0, 1), (19, .goto 4, 3, 0, 0, 0), (22, .iconst 0, 1, 0, 0, 0), (23, .invokestatic 191, 3, 148, 1, 0), (26, .return_, 1, 0, 0, 0)]
def kX9_requireLine : List EN := [(0, .iload_n 1, 1, 0, 0, 0), (1, .ifCond .lt 22, 3, 0, 0, 0), (4, .iload_n 1, 1, 0, 0, 0), (5, .aload_n 0, 1, 0, 0, 0), (6, .getfield 21, 3, 9, 3, 0), (9, .getfield 142, 3, 3, 0, 0), (12, .iconst 1, 1, 0, 0, 1), (13, .invokevirtual 138, 3, 81, 114, 0), (16, .if_icmp .ge 7, 3, 0, 0, 0), (19, .iconst 1, 1, 0, 0, 1), (20, .goto 4, 3, 0, 0, 0), (23, .iconst 0, 1, 0, 0, 0), (24, .invokestatic 191, 3, 148, 1, 0), (27, .return_, 1, 0, 0, 0)]
def kX9_requireColumn : List EN := [(0, .iload_n 1, 1, 0, 0, 0), (1, .ifCond .lt 22, 3, 0, 0, 0), (4, .iload_n 1, 1, 0, 0, 0), (5, .aload_n 0, 1, 0, 0, 0), (6, .getfield 21, 3, 9, 3, 0), (9, .getfield 142, 3, 3, 0, 0), (12, .iconst 0, 1, 0, 0, 0), (13, .invokevirtual 138, 3, 81, 114, 0), (16, .if_icmp .ge 7, 3, 0, 0, 0), (19, .iconst 1, 1, 0, 0, 1), (20, .goto 4, 3, 0, 0, 0), (23, .iconst 0, 1, 0, 0, 0), (24, .invokestatic 191, 3, 148, 1, 0), (27, .return_, 1, 0, 0, 0)]
def kX9_requireCarriageColumn : List EN := [(0, .iload_n 1, 1, 0, 0, 0), (1, .ifCond .lt 22, 3, 0, 0, 0), (4, .iload_n 1, 1, 0, 0, 0), (5, .aload_n 0, 1, 0, 0, 0), (6, .getfield 21, 3, 9, 3, 0), (9, .getfield 142, 3, 3, 0, 0), (12, .iconst 0, 1, 0, 0, 0), (13, .invokevirtual 138, 3, 81, 114, 0), (16, .if_icmp .gt 7, 3, 0, 0, 0), (19, .iconst 1, 1, 0, 0, 1), (20, .goto 4, 3, 0, 0, 0), (23, .iconst 0, 1, 0, 0, 0), (24, .invokestatic 191, 3, 148, 1, 0), (27, .return_, 1, 0, 0, 0)]
def kX9_requireSlot : List EN := [(0, .iload_n 0, 1, 0, 0, 0), (1, .ifCond .eq 8, 3, 0, 0, 0), (4, .iload_n 0, 1, 0, 0, 0), (5, .iconst 1, 1, 0, 0, 1), (6, .if_icmp .ne 7, 3, 0, 0, 0), (9, .iconst 1, 1, 0, 0, 1), (10, .goto 4, 3, 0, 0, 0), (13, .iconst 0, 1, 0, 0, 0), (14, .invokestatic 191, 3, 148, 1, 0), (17, .return_, 1, 0, 0, 0)]
def kX9_requireIndex : List EN := [(0, .iload_n 0, 1, 0, 0, 0), (1, .ifCond .ne 14, 3, 0, 0, 0), (4, .new 385, 3, 3, 0, 0), (15, .return_, 1, 0, 0, 0)]
def kX9_requireArgument : List EN := [(0, .iload_n 0, 1, 0, 0, 0), (1, .ifCond .ne 14, 3, 0, 0, 0), (4, .new 390, 3, 2, 0, 0), (15, .return_, 1, 0, 0, 0)]
def kX9_isSettable : List EN := [(0, .iload_n 0, 1, 0, 0, 0), (1, .iconst 4, 1, 0, 0, 4), (2, .if_icmp .lt 9, 3, 0, 0, 0), (5, .iload_n 0, 1, 0, 0, 0), (6, .bipush 8, 2, 0, 0, 8), (8, .if_icmp .le 15, 3, 0, 0, 0), (11, .iload_n 0, 1, 0, 0, 0), (12, .bipush 11, 2, 0, 0, 11), (14, .if_icmp .eq 9, 3, 0, 0, 0), (17, .iload_n 0, 1, 0, 0, 0), (18, .bipush 12, 2, 0, 0, 12), (20, .if_icmp .ne 7, 3, 0, 0, 0), (23, .iconst 1, 1, 0, 0, 1), (24, .goto 4, 3, 0, 0, 0), (27, .iconst 0, 1, 0, 0, 0), (28, .ireturn, 1, 1, 0, 0)]
def kX9_lowest : List EN := [(0, .iload_n 1, 1, 0, 0, 0), (1, .tableswitch 82 0 12 #[67, 80, 82, 70, 82, 80, 80, 82, 82, 78, 80, 82, 80], 67, 0, 0, 0), (68, .bipush 10, 2, 0, 0, 10), (70, .ireturn, 1, 0, 0, 0), (71, .aload_n 0, 1, 0, 0, 0), (72, .iconst 2, 1, 0, 0, 2), (73, .invokevirtual 138, 3, 81, 114, 0), (76, .iconst 1, 1, 0, 0, 1), (77, .iadd, 1, 0, 0, 0), (78, .ireturn, 1, 0, 0, 0), (79, .iconst 5, 1, 0, 0, 5), (80, .ireturn, 1, 0, 0, 0), (81, .iconst 1, 1, 0, 0, 1), (82, .ireturn, 1, 0, 0, 0), (83, .iconst 0, 1, 0, 0, 0), (84, .ireturn, 1, 0, 0, 0)]
def kX9_highest : List EN := [(0, .iload_n 1, 1, 0, 0, 0), (1, .tableswitch 113 0 12 #[67, 70, 73, 81, 89, 101, 113, 113, 113, 105, 108, 111, 111], 67, 0, 0, 0), (68, .bipush 40, 2, 0, 0, 40), (70, .ireturn, 1, 0, 0, 0), (71, .bipush 12, 2, 0, 0, 12), (73, .ireturn, 1, 0, 0, 0), (74, .aload_n 0, 1, 0, 0, 0), (75, .iconst 0, 1, 0, 0, 0), (76, .invokevirtual 138, 3, 81, 114, 0), (79, .iconst 2, 1, 0, 0, 2), (80, .isub, 1, 0, 0, 0), (81, .ireturn, 1, 0, 0, 0), (82, .aload_n 0, 1, 0, 0, 0), (83, .iconst 0, 1, 0, 0, 0), (84, .invokevirtual 138, 3, 81, 114, 0), (87, .iconst 1, 1, 0, 0, 1), (88, .isub, 1, 0, 0, 0), (89, .ireturn, 1, 0, 0, 0), (90, .aload_n 0, 1, 0, 0, 0), (91, .iconst 3, 1, 0, 0, 3), (92, .invokevirtual 138, 3, 81, 114, 0), (95, .aload_n 0, 1, 0, 0, 0), (96, .iconst 2, 1, 0, 0, 2), (97, .invokevirtual 138, 3, 81, 114, 0), (100, .isub, 1, 0, 0, 0), (101, .ireturn, 1, 0, 0, 0), (102, .sipush 999, 3, 0, 0, 999), (105, .ireturn, 1, 0, 0, 0), (106, .bipush 60, 2, 0, 0, 60), (108, .ireturn, 1, 0, 0, 0), (109, .bipush 9, 2, 0, 0, 9), (111, .ireturn, 1, 0, 0, 0), (112, .iconst 3, 1, 0, 0, 3), (113, .ireturn, 1, 0, 0, 0), (114, .bipush 99, 2, 0, 0, 99), (116, .ireturn, 1, 0, 0, 0)]
def kX9_isSmall : List EN := [(0, .iload_n 0, 1, 0, 0, 0), (1, .bipush 97, 2, 0, 0, 97), (3, .if_icmp .lt 13, 3, 0, 0, 0), (6, .iload_n 0, 1, 0, 0, 0), (7, .bipush 122, 2, 0, 0, 122), (9, .if_icmp .gt 7, 3, 0, 0, 0), (12, .iconst 1, 1, 0, 0, 1), (13, .goto 4, 3, 0, 0, 0), (16, .iconst 0, 1, 0, 0, 0), (17, .ireturn, 1, 1, 0, 0)]
def kX9_isCapital : List EN := [(0, .iload_n 0, 1, 0, 0, 0), (1, .bipush 65, 2, 0, 0, 65), (3, .if_icmp .lt 13, 3, 0, 0, 0), (6, .iload_n 0, 1, 0, 0, 0), (7, .bipush 90, 2, 0, 0, 90), (9, .if_icmp .gt 7, 3, 0, 0, 0), (12, .iconst 1, 1, 0, 0, 1), (13, .goto 4, 3, 0, 0, 0), (16, .iconst 0, 1, 0, 0, 0), (17, .ireturn, 1, 1, 0, 0)]
def kX9_isDigit : List EN := [(0, .iload_n 0, 1, 0, 0, 0), (1, .bipush 48, 2, 0, 0, 48), (3, .if_icmp .lt 13, 3, 0, 0, 0), (6, .iload_n 0, 1, 0, 0, 0), (7, .bipush 57, 2, 0, 0, 57), (9, .if_icmp .gt 7, 3, 0, 0, 0), (12, .iconst 1, 1, 0, 0, 1), (13, .goto 4, 3, 0, 0, 0), (16, .iconst 0, 1, 0, 0, 0), (17, .ireturn, 1, 1, 0, 0)]
def kX9_keyOf : List EN := [(0, .iload_n 0, 1, 0, 0, 0), (1, .lookupswitch 71 #[(32, 59), (33, 69), (47, 65), (60, 63), (62, 61), (94, 67)], 59, 0, 0, 0), (60, .iconst 0, 1, 0, 0, 0), (61, .ireturn, 1, 0, 0, 0), (62, .iconst 1, 1, 0, 0, 1), (63, .ireturn, 1, 0, 0, 0), (64, .iconst 2, 1, 0, 0, 2), (65, .ireturn, 1, 0, 0, 0), (66, .iconst 3, 1, 0, 0, 3), (67, .ireturn, 1, 0, 0, 0), (68, .iconst 4, 1, 0, 0, 4), (69, .ireturn, 1, 0, 0, 0), (70, .iconst 5, 1, 0, 0, 5), (71, .ireturn, 1, 0, 0, 0), (72, .iconst (-1), 1, 0, 0, (-1)), (73, .ireturn, 1, 0, 0, 0)]
def kX10_thrown : List EN := [(0, .aload_n 0, 1, 0, 0, 0), (1, .getfield 54, 3, 10, 0, 0), (4, .ireturn, 1, 0, 0, 0)]
def kX10_in : List EN := [(0, .iload_n 0, 1, 0, 0, 0), (1, .iload_n 1, 1, 0, 0, 0), (2, .if_icmp .lt 12, 3, 0, 0, 0), (5, .iload_n 0, 1, 0, 0, 0), (6, .iload_n 2, 1, 0, 0, 0), (7, .if_icmp .gt 7, 3, 0, 0, 0), (10, .iconst 1, 1, 0, 0, 1), (11, .goto 4, 3, 0, 0, 0), (14, .iconst 0, 1, 0, 0, 0), (15, .ireturn, 1, 1, 0, 0)]
def kX10_flag : List EN := [(0, .iload_n 0, 1, 0, 0, 0), (1, .ifCond .eq 7, 3, 0, 0, 0), (4, .iconst 1, 1, 0, 0, 1), (5, .goto 4, 3, 0, 0, 0), (8, .iconst 0, 1, 0, 0, 0), (9, .ireturn, 1, 0, 0, 0)]
def kX10_refuse : List EN := [(0, .aload_n 0, 1, 0, 0, 0), (1, .getfield 54, 3, 10, 0, 0), (4, .ifCond .ne 12, 3, 0, 0, 0), (7, .iload_n 1, 1, 0, 0, 0), (8, .ifCond .eq 8, 3, 0, 0, 0), (11, .aload_n 0, 1, 0, 0, 0), (12, .iload_n 2, 1, 0, 0, 0), (13, .putfield 54, 3, 10, 0, 0), (16, .aload_n 0, 1, 0, 0, 0), (17, .getfield 54, 3, 10, 0, 0), (20, .ifCond .eq 7, 3, 0, 0, 0), (23, .iconst 1, 1, 0, 0, 1), (24, .goto 4, 3, 0, 0, 0), (27, .iconst 0, 1, 0, 0, 0), (28, .ireturn, 1, 1, 0, 0)]
def kX10_notLoaded : List EN := [(0, .aload_n 0, 1, 0, 0, 0), (1, .iconst 0, 1, 0, 0, 0), (2, .putfield 54, 3, 10, 0, 0), (5, .aload_n 0, 1, 0, 0, 0), (6, .aload_n 0, 1, 0, 0, 0), (7, .getfield 57, 3, 10, 1, 0), (10, .ifCond .ne 7, 3, 0, 0, 0), (13, .iconst 1, 1, 0, 0, 1), (14, .goto 4, 3, 0, 0, 0), (17, .iconst 0, 1, 0, 0, 0), (18, .iconst 1, 1, 0, 0, 1), (19, .invokevirtual 61, 3, 160, 163, 0), (22, .ireturn, 1, 1, 0, 0)]
def kX10_append : List EN := [(0, .aload_n 0, 1, 0, 0, 0), (1, .iconst 0, 1, 0, 0, 0), (2, .putfield 54, 3, 10, 0, 0), (5, .aload_n 0, 1, 0, 0, 0), (6, .getfield 65, 3, 10, 11, 0), (9, .bipush 20, 2, 0, 0, 20), (11, .iadd, 1, 0, 0, 0), (12, .sipush 500, 3, 0, 0, 500), (15, .if_icmp .le 5, 3, 0, 0, 0), (18, .iconst (-1), 1, 0, 0, (-1)), (19, .ireturn, 1, 0, 0, 0), (20, .iconst 0, 1, 0, 0, 0), (21, .istore 6, 2, 0, 0, 0), (23, .iload 6, 2, 0, 0, 0), (25, .bipush 20, 2, 0, 0, 20), (27, .if_icmp .ge 86, 3, 0, 0, 0), (30, .iload 6, 2, 0, 0, 0), (32, .iconst 4, 1, 0, 0, 4), (33, .if_icmp .ge 7, 3, 0, 0, 0), (36, .iload_n 1, 1, 0, 0, 0), (37, .goto 39, 3, 0, 0, 0), (40, .iload 6, 2, 0, 0, 0), (42, .bipush 8, 2, 0, 0, 8), (44, .if_icmp .ge 7, 3, 0, 0, 0), (47, .iload_n 2, 1, 0, 0, 0), (48, .goto 28, 3, 0, 0, 0), (51, .iload 6, 2, 0, 0, 0), (53, .bipush 12, 2, 0, 0, 12), (55, .if_icmp .ge 7, 3, 0, 0, 0), (58, .iload_n 3, 1, 0, 0, 0), (59, .goto 17, 3, 0, 0, 0), (62, .iload 6, 2, 0, 0, 0), (64, .bipush 16, 2, 0, 0, 16), (66, .if_icmp .ge 8, 3, 0, 0, 0), (69, .iload 4, 2, 0, 0, 0), (71, .goto 5, 3, 0, 0, 0), (74, .iload 5, 2, 0, 0, 0), (76, .istore 7, 2, 0, 0, 0), (78, .aload_n 0, 1, 0, 0, 0), (79, .getfield 29, 3, 10, 10, 0), (82, .aload_n 0, 1, 0, 0, 0), (83, .getfield 65, 3, 10, 11, 0), (86, .iload 6, 2, 0, 0, 0), (88, .iadd, 1, 0, 0, 0), (89, .iload 7, 2, 0, 0, 0), (91, .bipush 24, 2, 0, 0, 24), (93, .bipush 8, 2, 0, 0, 8), (95, .iload 6, 2, 0, 0, 0), (97, .iconst 4, 1, 0, 0, 4), (98, .irem, 1, 0, 0, 0), (99, .imul, 1, 0, 0, 0), (100, .isub, 1, 0, 0, 0), (101, .ishr, 1, 0, 0, 0), (102, .sipush 255, 3, 0, 0, 255), (105, .iand, 1, 0, 0, 0), (106, .iastore, 1, 0, 0, 0), (107, .iinc 6 1, 3, 0, 0, 1), (110, .goto (-87), 3, 0, 0, 0), (113, .aload_n 0, 1, 0, 0, 0), (114, .dup, 1, 0, 0, 0), (115, .getfield 65, 3, 10, 11, 0), (118, .bipush 20, 2, 0, 0, 20), (120, .iadd, 1, 0, 0, 0), (121, .putfield 65, 3, 10, 11, 0), (124, .aload_n 0, 1, 0, 0, 0), (125, .getfield 65, 3, 10, 11, 0), (128, .ireturn, 1, 0, 0, 0)]
def kX10_buffered : List EN := [(0, .aload_n 0, 1, 0, 0, 0), (1, .iconst 0, 1, 0, 0, 0), (2, .putfield 54, 3, 10, 0, 0), (5, .aload_n 0, 1, 0, 0, 0), (6, .getfield 65, 3, 10, 11, 0), (9, .ireturn, 1, 0, 0, 0)]
def kX10_parseError : List EN := [(0, .aload_n 0, 1, 0, 0, 0), (1, .iconst 0, 1, 0, 0, 0), (2, .putfield 54, 3, 10, 0, 0), (5, .aload_n 0, 1, 0, 0, 0), (6, .getfield 68, 3, 10, 12, 0), (9, .ireturn, 1, 0, 0, 0)]
def kX10_errorPosition : List EN := [(0, .aload_n 0, 1, 0, 0, 0), (1, .iconst 0, 1, 0, 0, 0), (2, .putfield 54, 3, 10, 0, 0), (5, .aload_n 0, 1, 0, 0, 0), (6, .getfield 32, 3, 10, 13, 0), (9, .ireturn, 1, 0, 0, 0)]
def kX10_seen : List EN := [(0, .iload_n 1, 1, 0, 0, 0), (1, .aload_n 0, 1, 0, 0, 0), (2, .getfield 71, 3, 10, 14, 0), (5, .if_icmp .ge 12, 3, 0, 0, 0), (8, .aload_n 0, 1, 0, 0, 0), (9, .getfield 29, 3, 10, 10, 0), (12, .iload_n 1, 1, 0, 0, 0), (13, .iaload, 1, 0, 0, 0), (14, .goto 4, 3, 0, 0, 0), (17, .iconst (-1), 1, 0, 0, (-1)), (18, .ireturn, 1, 0, 0, 0)]
def kX10_isSmall : List EN := [(0, .iload_n 0, 1, 0, 0, 0), (1, .bipush 97, 2, 0, 0, 97), (3, .if_icmp .lt 13, 3, 0, 0, 0), (6, .iload_n 0, 1, 0, 0, 0), (7, .bipush 122, 2, 0, 0, 122), (9, .if_icmp .gt 7, 3, 0, 0, 0), (12, .iconst 1, 1, 0, 0, 1), (13, .goto 4, 3, 0, 0, 0), (16, .iconst 0, 1, 0, 0, 0), (17, .ireturn, 1, 1, 0, 0)]
def kX10_isDigit : List EN := [(0, .iload_n 0, 1, 0, 0, 0), (1, .bipush 48, 2, 0, 0, 48), (3, .if_icmp .lt 13, 3, 0, 0, 0), (6, .iload_n 0, 1, 0, 0, 0), (7, .bipush 57, 2, 0, 0, 57), (9, .if_icmp .gt 7, 3, 0, 0, 0), (12, .iconst 1, 1, 0, 0, 1), (13, .goto 4, 3, 0, 0, 0), (16, .iconst 0, 1, 0, 0, 0), (17, .ireturn, 1, 1, 0, 0)]
def kX10_token : List EN := [(0, .aload_n 0, 1, 0, 0, 0), (1, .aload_n 0, 1, 0, 0, 0), (2, .getfield 74, 3, 10, 15, 0), (5, .invokevirtual 77, 3, 166, 162, 0), (8, .bipush 32, 2, 0, 0, 32), (10, .if_icmp .ne 16, 3, 0, 0, 0), (13, .aload_n 0, 1, 0, 0, 0), (14, .dup, 1, 0, 0, 0), (15, .getfield 74, 3, 10, 15, 0), (18, .iconst 1, 1, 0, 0, 1), (19, .iadd, 1, 0, 0, 0), (20, .putfield 74, 3, 10, 15, 0), (23, .goto (-23), 3, 0, 0, 0), (26, .aload_n 0, 1, 0, 0, 0), (27, .aload_n 0, 1, 0, 0, 0), (28, .getfield 74, 3, 10, 15, 0), (31, .putfield 81, 3, 10, 16, 0), (34, .aload_n 0, 1, 0, 0, 0), (35, .aload_n 0, 1, 0, 0, 0), (36, .getfield 74, 3, 10, 15, 0), (39, .invokevirtual 77, 3, 166, 162, 0), (42, .istore_n 1, 1, 0, 0, 0), (43, .iload_n 1, 1, 0, 0, 0), (44, .iconst (-1), 1, 0, 0, (-1)), (45, .if_icmp .ne 11, 3, 0, 0, 0), (48, .aload_n 0, 1, 0, 0, 0), (49, .iconst 0, 1, 0, 0, 0), (50, .putfield 84, 3, 10, 17, 0), (53, .goto 192, 3, 0, 0, 0), (56, .iload_n 1, 1, 0, 0, 0), (57, .invokestatic 87, 3, 167, 1, 0), (60, .ifCond .eq 56, 3, 0, 0, 0), (63, .aload_n 0, 1, 0, 0, 0), (64, .aload_n 0, 1, 0, 0, 0), (65, .getfield 74, 3, 10, 15, 0), (68, .invokevirtual 77, 3, 166, 162, 0), (71, .invokestatic 87, 3, 167, 1, 0), (74, .ifCond .eq 16, 3, 0, 0, 0), (77, .aload_n 0, 1, 0, 0, 0), (78, .dup, 1, 0, 0, 0), (79, .getfield 74, 3, 10, 15, 0), (82, .iconst 1, 1, 0, 0, 1), (83, .iadd, 1, 0, 0, 0), (84, .putfield 74, 3, 10, 15, 0), (87, .goto (-24), 3, 0, 0, 0), (90, .aload_n 0, 1, 0, 0, 0), (91, .aload_n 0, 1, 0, 0, 0), (92, .getfield 74, 3, 10, 15, 0), (95, .aload_n 0, 1, 0, 0, 0), (96, .getfield 81, 3, 10, 16, 0), (99, .isub, 1, 0, 0, 0), (100, .bipush 7, 2, 0, 0, 7), (102, .if_icmp .le 7, 3, 0, 0, 0), (105, .iconst 4, 1, 0, 0, 4), (106, .goto 4, 3, 0, 0, 0), (109, .iconst 1, 1, 0, 0, 1), (110, .putfield 84, 3, 10, 17, 0), (113, .goto 132, 3, 0, 0, 0), (116, .iload_n 1, 1, 0, 0, 0), (117, .invokestatic 91, 3, 168, 1, 0), (120, .ifCond .eq 100, 3, 0, 0, 0), (123, .aload_n 0, 1, 0, 0, 0), (124, .iconst 0, 1, 0, 0, 0), (125, .putfield 94, 3, 10, 18, 0), (128, .aload_n 0, 1, 0, 0, 0), (129, .aload_n 0, 1, 0, 0, 0), (130, .getfield 74, 3, 10, 15, 0), (133, .invokevirtual 77, 3, 166, 162, 0), (136, .invokestatic 91, 3, 168, 1, 0), (139, .ifCond .eq 56, 3, 0, 0, 0), (142, .aload_n 0, 1, 0, 0, 0), (143, .aload_n 0, 1, 0, 0, 0), (144, .getfield 74, 3, 10, 15, 0), (147, .aload_n 0, 1, 0, 0, 0), (148, .getfield 81, 3, 10, 16, 0), (151, .isub, 1, 0, 0, 0), (152, .iconst 3, 1, 0, 0, 3), (153, .if_icmp .ge 25, 3, 0, 0, 0), (156, .bipush 10, 2, 0, 0, 10), (158, .aload_n 0, 1, 0, 0, 0), (159, .getfield 94, 3, 10, 18, 0), (162, .imul, 1, 0, 0, 0), (163, .aload_n 0, 1, 0, 0, 0), (164, .aload_n 0, 1, 0, 0, 0), (165, .getfield 74, 3, 10, 15, 0), (168, .invokevirtual 77, 3, 166, 162, 0), (171, .iadd, 1, 0, 0, 0), (172, .bipush 48, 2, 0, 0, 48), (174, .isub, 1, 0, 0, 0), (175, .goto 4, 3, 0, 0, 0), (178, .iconst 0, 1, 0, 0, 0), (179, .putfield 94, 3, 10, 18, 0), (182, .aload_n 0, 1, 0, 0, 0), (183, .dup, 1, 0, 0, 0), (184, .getfield 74, 3, 10, 15, 0), (187, .iconst 1, 1, 0, 0, 1), (188, .iadd, 1, 0, 0, 0), (189, .putfield 74, 3, 10, 15, 0), (192, .goto (-64), 3, 0, 0, 0), (195, .aload_n 0, 1, 0, 0, 0), (196, .aload_n 0, 1, 0, 0, 0), (197, .getfield 74, 3, 10, 15, 0), (200, .aload_n 0, 1, 0, 0, 0), (201, .getfield 81, 3, 10, 16, 0), (204, .isub, 1, 0, 0, 0), (205, .iconst 3, 1, 0, 0, 3), (206, .if_icmp .le 7, 3, 0, 0, 0), (209, .iconst 4, 1, 0, 0, 4), (210, .goto 4, 3, 0, 0, 0), (213, .iconst 2, 1, 0, 0, 2), (214, .putfield 84, 3, 10, 17, 0), (217, .goto 28, 3, 0, 0, 0), (220, .aload_n 0, 1, 0, 0, 0), (221, .iload_n 1, 1, 0, 0, 0), (222, .bipush 59, 2, 0, 0, 59), (224, .if_icmp .ne 7, 3, 0, 0, 0), (227, .iconst 3, 1, 0, 0, 3), (228, .goto 4, 3, 0, 0, 0), (231, .iconst 4, 1, 0, 0, 4), (232, .putfield 84, 3, 10, 17, 0), (235, .aload_n 0, 1, 0, 0, 0), (236, .dup, 1, 0, 0, 0), (237, .getfield 74, 3, 10, 15, 0), (240, .iconst 1, 1, 0, 0, 1), (241, .iadd, 1, 0, 0, 0), (242, .putfield 74, 3, 10, 15, 0), (245, .return_, 1, 0, 0, 0)]
def kX10_fails : List EN := [(0, .aload_n 0, 1, 0, 0, 0), (1, .getfield 97, 3, 10, 19, 0), (4, .ifCond .ne 16, 3, 0, 0, 0), (7, .aload_n 0, 1, 0, 0, 0), (8, .iload_n 1, 1, 0, 0, 0), (9, .putfield 97, 3, 10, 19, 0), (12, .aload_n 0, 1, 0, 0, 0), (13, .aload_n 0, 1, 0, 0, 0), (14, .getfield 81, 3, 10, 16, 0), (17, .putfield 100, 3, 10, 20, 0), (20, .return_, 1, 0, 0, 0)]
def kX10_failsIf : List EN := [(0, .iload_n 1, 1, 0, 0, 0), (1, .ifCond .eq 8, 3, 0, 0, 0), (4, .aload_n 0, 1, 0, 0, 0), (5, .iload_n 2, 1, 0, 0, 0), (6, .invokevirtual 103, 3, 170, 162, 0), (9, .return_, 1, 0, 0, 0)]
def kX10_goesOn : List EN := [(0, .aload_n 0, 1, 0, 0, 0), (1, .getfield 97, 3, 10, 19, 0), (4, .ifCond .ne 7, 3, 0, 0, 0), (7, .aload_n 0, 1, 0, 0, 0), (8, .invokevirtual 107, 3, 169, 161, 0), (11, .return_, 1, 0, 0, 0)]
def kX10_isWord : List EN := [(0, .aload_n 0, 1, 0, 0, 0), (1, .getfield 97, 3, 10, 19, 0), (4, .ifCond .ne 27, 3, 0, 0, 0), (7, .aload_n 0, 1, 0, 0, 0), (8, .getfield 84, 3, 10, 17, 0), (11, .iconst 1, 1, 0, 0, 1), (12, .if_icmp .ne 19, 3, 0, 0, 0), (15, .aload_n 0, 1, 0, 0, 0), (16, .getfield 74, 3, 10, 15, 0), (19, .aload_n 0, 1, 0, 0, 0), (20, .getfield 81, 3, 10, 16, 0), (23, .isub, 1, 0, 0, 0), (24, .aload_n 1, 1, 0, 0, 0), (25, .invokevirtual 110, 3, 1004, 0, 0), (28, .if_icmp .eq 5, 3, 0, 0, 0), (31, .iconst 0, 1, 0, 0, 0), (32, .ireturn, 1, 1, 0, 0), (33, .iconst 0, 1, 0, 0, 0), (34, .istore_n 2, 1, 0, 0, 0), (35, .iload_n 2, 1, 0, 0, 0), (36, .aload_n 1, 1, 0, 0, 0), (37, .invokevirtual 110, 3, 1004, 0, 0), (40, .if_icmp .ge 29, 3, 0, 0, 0), (43, .aload_n 0, 1, 0, 0, 0), (44, .aload_n 0, 1, 0, 0, 0), (45, .getfield 81, 3, 10, 16, 0), (48, .iload_n 2, 1, 0, 0, 0), (49, .iadd, 1, 0, 0, 0), (50, .invokevirtual 77, 3, 166, 162, 0), (53, .aload_n 1, 1, 0, 0, 0), (54, .iload_n 2, 1, 0, 0, 0), (55, .invokevirtual 115, 3, 1005, 0, 0), (58, .if_icmp .eq 5, 3, 0, 0, 0), (61, .iconst 0, 1, 0, 0, 0), (62, .ireturn, 1, 1, 0, 0), (63, .iinc 2 1, 3, 0, 0, 1), (66, .goto (-31), 3, 0, 0, 0), (69, .iconst 1, 1, 0, 0, 1), (70, .ireturn, 1, 1, 0, 0)]
def kX10_word : List EN := [(0, .aload_n 0, 1, 0, 0, 0), (1, .aload_n 0, 1, 0, 0, 0), (2, .aload_n 1, 1, 0, 0, 0), (3, .invokevirtual 119, 3, 173, 162, 0), (6, .ifCond .ne 7, 3, 0, 0, 0), (9, .iconst 1, 1, 0, 0, 1), (10, .goto 4, 3, 0, 0, 0), (13, .iconst 0, 1, 0, 0, 0), (14, .iconst 1, 1, 0, 0, 1), (15, .invokevirtual 123, 3, 171, 163, 0), (18, .aload_n 0, 1, 0, 0, 0), (19, .invokevirtual 127, 3, 172, 161, 0), (22, .return_, 1, 0, 0, 0)]
def kX10_looks : List EN := [(0, .aload_n 0, 1, 0, 0, 0), (1, .getfield 84, 3, 10, 17, 0), (4, .iconst 2, 1, 0, 0, 2), (5, .if_icmp .eq 11, 3, 0, 0, 0), (8, .aload_n 0, 1, 0, 0, 0), (9, .iconst 1, 1, 0, 0, 1), (10, .invokevirtual 103, 3, 170, 162, 0), (13, .goto 20, 3, 0, 0, 0), (16, .aload_n 0, 1, 0, 0, 0), (17, .getfield 94, 3, 10, 18, 0), (20, .iload_n 1, 1, 0, 0, 0), (21, .iload_n 2, 1, 0, 0, 0), (22, .invokestatic 130, 3, 158, 3, 0), (25, .ifCond .ne 8, 3, 0, 0, 0), (28, .aload_n 0, 1, 0, 0, 0), (29, .iconst 2, 1, 0, 0, 2), (30, .invokevirtual 103, 3, 170, 162, 0), (33, .aload_n 0, 1, 0, 0, 0), (34, .getfield 97, 3, 10, 19, 0), (37, .ifCond .eq 7, 3, 0, 0, 0), (40, .iload_n 1, 1, 0, 0, 0), (41, .goto 7, 3, 0, 0, 0), (44, .aload_n 0, 1, 0, 0, 0), (45, .getfield 94, 3, 10, 18, 0), (48, .ireturn, 1, 0, 0, 0)]
def kX10_takes : List EN := [(0, .aload_n 0, 1, 0, 0, 0), (1, .iload_n 1, 1, 0, 0, 0), (2, .iload_n 2, 1, 0, 0, 0), (3, .invokevirtual 134, 3, 175, 163, 0), (6, .istore_n 3, 1, 0, 0, 0), (7, .aload_n 0, 1, 0, 0, 0), (8, .invokevirtual 127, 3, 172, 161, 0), (11, .iload_n 3, 1, 0, 0, 0), (12, .ireturn, 1, 0, 0, 0)]
def kX10_semicolon : List EN := [(0, .aload_n 0, 1, 0, 0, 0), (1, .aload_n 0, 1, 0, 0, 0), (2, .getfield 97, 3, 10, 19, 0), (5, .ifCond .ne 15, 3, 0, 0, 0), (8, .aload_n 0, 1, 0, 0, 0), (9, .getfield 84, 3, 10, 17, 0), (12, .iconst 3, 1, 0, 0, 3), (13, .if_icmp .eq 7, 3, 0, 0, 0), (16, .iconst 1, 1, 0, 0, 1), (17, .goto 4, 3, 0, 0, 0), (20, .iconst 0, 1, 0, 0, 0), (21, .iconst 1, 1, 0, 0, 1), (22, .invokevirtual 123, 3, 171, 163, 0), (25, .aload_n 0, 1, 0, 0, 0), (26, .invokevirtual 127, 3, 172, 161, 0), (29, .return_, 1, 0, 0, 0)]
def kX10_holds : List EN := [(0, .iconst 0, 1, 0, 0, 0), (1, .istore_n 1, 1, 0, 0, 0), (2, .iload_n 1, 1, 0, 0, 0), (3, .sipush 1150, 3, 0, 0, 1150), (6, .if_icmp .ge 21, 3, 0, 0, 0), (9, .aload_n 0, 1, 0, 0, 0), (10, .getfield 36, 3, 10, 21, 0), (13, .iload_n 1, 1, 0, 0, 0), (14, .aload_n 0, 1, 0, 0, 0), (15, .getfield 16, 3, 10, 5, 0), (18, .iload_n 1, 1, 0, 0, 0), (19, .iaload, 1, 0, 0, 0), (20, .iastore, 1, 0, 0, 0), (21, .iinc 1 1, 3, 0, 0, 1), (24, .goto (-22), 3, 0, 0, 0), (27, .iconst 0, 1, 0, 0, 0), (28, .istore_n 1, 1, 0, 0, 0), (29, .iload_n 1, 1, 0, 0, 0), (30, .bipush 26, 2, 0, 0, 26), (32, .if_icmp .ge 33, 3, 0, 0, 0), (35, .aload_n 0, 1, 0, 0, 0), (36, .getfield 39, 3, 10, 22, 0), (39, .iload_n 1, 1, 0, 0, 0), (40, .aload_n 0, 1, 0, 0, 0), (41, .getfield 7, 3, 10, 3, 0), (44, .iload_n 1, 1, 0, 0, 0), (45, .iaload, 1, 0, 0, 0), (46, .iastore, 1, 0, 0, 0), (47, .aload_n 0, 1, 0, 0, 0), (48, .getfield 42, 3, 10, 23, 0), (51, .iload_n 1, 1, 0, 0, 0), (52, .aload_n 0, 1, 0, 0, 0), (53, .getfield 13, 3, 10, 4, 0), (56, .iload_n 1, 1, 0, 0, 0), (57, .iaload, 1, 0, 0, 0), (58, .iastore, 1, 0, 0, 0), (59, .iinc 1 1, 3, 0, 0, 1), (62, .goto (-33), 3, 0, 0, 0), (65, .aload_n 0, 1, 0, 0, 0), (66, .aload_n 0, 1, 0, 0, 0), (67, .getfield 138, 3, 10, 2, 0), (70, .putfield 141, 3, 10, 24, 0), (73, .return_, 1, 0, 0, 0)]
def kX10_laysBack : List EN := [(0, .iconst 0, 1, 0, 0, 0), (1, .istore_n 1, 1, 0, 0, 0), (2, .iload_n 1, 1, 0, 0, 0), (3, .sipush 1150, 3, 0, 0, 1150), (6, .if_icmp .ge 21, 3, 0, 0, 0), (9, .aload_n 0, 1, 0, 0, 0), (10, .getfield 16, 3, 10, 5, 0), (13, .iload_n 1, 1, 0, 0, 0), (14, .aload_n 0, 1, 0, 0, 0), (15, .getfield 36, 3, 10, 21, 0), (18, .iload_n 1, 1, 0, 0, 0), (19, .iaload, 1, 0, 0, 0), (20, .iastore, 1, 0, 0, 0), (21, .iinc 1 1, 3, 0, 0, 1), (24, .goto (-22), 3, 0, 0, 0), (27, .iconst 0, 1, 0, 0, 0), (28, .istore_n 1, 1, 0, 0, 0), (29, .iload_n 1, 1, 0, 0, 0), (30, .bipush 26, 2, 0, 0, 26), (32, .if_icmp .ge 33, 3, 0, 0, 0), (35, .aload_n 0, 1, 0, 0, 0), (36, .getfield 7, 3, 10, 3, 0), (39, .iload_n 1, 1, 0, 0, 0), (40, .aload_n 0, 1, 0, 0, 0), (41, .getfield 39, 3, 10, 22, 0), (44, .iload_n 1, 1, 0, 0, 0), (45, .iaload, 1, 0, 0, 0), (46, .iastore, 1, 0, 0, 0), (47, .aload_n 0, 1, 0, 0, 0), (48, .getfield 13, 3, 10, 4, 0), (51, .iload_n 1, 1, 0, 0, 0), (52, .aload_n 0, 1, 0, 0, 0), (53, .getfield 42, 3, 10, 23, 0), (56, .iload_n 1, 1, 0, 0, 0), (57, .iaload, 1, 0, 0, 0), (58, .iastore, 1, 0, 0, 0), (59, .iinc 1 1, 3, 0, 0, 1), (62, .goto (-33), 3, 0, 0, 0), (65, .aload_n 0, 1, 0, 0, 0), (66, .aload_n 0, 1, 0, 0, 0), (67, .getfield 141, 3, 10, 24, 0), (70, .putfield 138, 3, 10, 2, 0), (73, .return_, 1, 0, 0, 0)]
def kX10_its : List EN := [(0, .aload_n 0, 1, 0, 0, 0), (1, .getfield 16, 3, 10, 5, 0), (4, .bipush 9, 2, 0, 0, 9), (6, .iload_n 1, 1, 0, 0, 0), (7, .iadd, 1, 0, 0, 0), (8, .iaload, 1, 0, 0, 0), (9, .ireturn, 1, 0, 0, 0)]
def kX10_puts : List EN := [(0, .aload_n 0, 1, 0, 0, 0), (1, .getfield 16, 3, 10, 5, 0), (4, .bipush 9, 2, 0, 0, 9), (6, .iload_n 1, 1, 0, 0, 0), (7, .iadd, 1, 0, 0, 0), (8, .iload_n 2, 1, 0, 0, 0), (9, .iastore, 1, 0, 0, 0), (10, .return_, 1, 0, 0, 0)]
def kX10_clears : List EN := [(0, .aload_n 0, 1, 0, 0, 0), (1, .iconst 0, 1, 0, 0, 0), (2, .putfield 138, 3, 10, 2, 0), (5, .iconst 0, 1, 0, 0, 0), (6, .istore_n 1, 1, 0, 0, 0), (7, .iload_n 1, 1, 0, 0, 0), (8, .sipush 1150, 3, 0, 0, 1150), (11, .if_icmp .ge 16, 3, 0, 0, 0), (14, .aload_n 0, 1, 0, 0, 0), (15, .getfield 16, 3, 10, 5, 0), (18, .iload_n 1, 1, 0, 0, 0), (19, .iconst 0, 1, 0, 0, 0), (20, .iastore, 1, 0, 0, 0), (21, .iinc 1 1, 3, 0, 0, 1), (24, .goto (-17), 3, 0, 0, 0), (27, .aload_n 0, 1, 0, 0, 0), (28, .getfield 16, 3, 10, 5, 0), (31, .iconst 4, 1, 0, 0, 4), (32, .iconst (-1), 1, 0, 0, (-1)), (33, .iastore, 1, 0, 0, 0), (34, .aload_n 0, 1, 0, 0, 0), (35, .getfield 16, 3, 10, 5, 0), (38, .iconst 5, 1, 0, 0, 5), (39, .iconst (-1), 1, 0, 0, (-1)), (40, .iastore, 1, 0, 0, 0), (41, .aload_n 0, 1, 0, 0, 0), (42, .getfield 16, 3, 10, 5, 0), (45, .bipush 6, 2, 0, 0, 6), (47, .iconst (-1), 1, 0, 0, (-1)), (48, .iastore, 1, 0, 0, 0), (49, .aload_n 0, 1, 0, 0, 0), (50, .getfield 16, 3, 10, 5, 0), (53, .bipush 37, 2, 0, 0, 37), (55, .iconst (-1), 1, 0, 0, (-1)), (56, .iastore, 1, 0, 0, 0), (57, .aload_n 0, 1, 0, 0, 0), (58, .getfield 16, 3, 10, 5, 0), (61, .bipush 8, 2, 0, 0, 8), (63, .iconst 1, 1, 0, 0, 1), (64, .iastore, 1, 0, 0, 0), (65, .aload_n 0, 1, 0, 0, 0), (66, .bipush 12, 2, 0, 0, 12), (68, .iconst 1, 1, 0, 0, 1), (69, .invokevirtual 144, 3, 181, 163, 0), (72, .return_, 1, 0, 0, 0)]
def kX10_withLetter : List EN := [(0, .iconst 0, 1, 0, 0, 0), (1, .istore_n 2, 1, 0, 0, 0), (2, .iload_n 2, 1, 0, 0, 0), (3, .aload_n 0, 1, 0, 0, 0), (4, .getfield 138, 3, 10, 2, 0), (7, .if_icmp .ge 21, 3, 0, 0, 0), (10, .aload_n 0, 1, 0, 0, 0), (11, .getfield 7, 3, 10, 3, 0), (14, .iload_n 2, 1, 0, 0, 0), (15, .iaload, 1, 0, 0, 0), (16, .iload_n 1, 1, 0, 0, 0), (17, .if_icmp .ne 5, 3, 0, 0, 0), (20, .iload_n 2, 1, 0, 0, 0), (21, .ireturn, 1, 0, 0, 0), (22, .iinc 2 1, 3, 0, 0, 1), (25, .goto (-23), 3, 0, 0, 0), (28, .iconst (-1), 1, 0, 0, (-1)), (29, .ireturn, 1, 0, 0, 0)]
def kX10_barLine : List EN := [(0, .aload_n 0, 1, 0, 0, 0), (1, .invokevirtual 127, 3, 172, 161, 0), (4, .aload_n 0, 1, 0, 0, 0), (5, .aload_n 0, 1, 0, 0, 0), (6, .getfield 97, 3, 10, 19, 0), (9, .ifCond .ne 28, 3, 0, 0, 0), (12, .aload_n 0, 1, 0, 0, 0), (13, .getfield 84, 3, 10, 17, 0), (16, .iconst 1, 1, 0, 0, 1), (17, .if_icmp .ne 16, 3, 0, 0, 0), (20, .aload_n 0, 1, 0, 0, 0), (21, .getfield 74, 3, 10, 15, 0), (24, .aload_n 0, 1, 0, 0, 0), (25, .getfield 81, 3, 10, 16, 0), (28, .isub, 1, 0, 0, 0), (29, .iconst 1, 1, 0, 0, 1), (30, .if_icmp .eq 7, 3, 0, 0, 0), (33, .iconst 1, 1, 0, 0, 1), (34, .goto 4, 3, 0, 0, 0), (37, .iconst 0, 1, 0, 0, 0), (38, .iconst 1, 1, 0, 0, 1), (39, .invokevirtual 123, 3, 171, 163, 0), (42, .aload_n 0, 1, 0, 0, 0), (43, .getfield 97, 3, 10, 19, 0), (46, .ifCond .ne 14, 3, 0, 0, 0), (49, .aload_n 0, 1, 0, 0, 0), (50, .aload_n 0, 1, 0, 0, 0), (51, .getfield 81, 3, 10, 16, 0), (54, .invokevirtual 77, 3, 166, 162, 0), (57, .goto 5, 3, 0, 0, 0), (60, .bipush 97, 2, 0, 0, 97), (62, .istore_n 1, 1, 0, 0, 0), (63, .aload_n 0, 1, 0, 0, 0), (64, .aload_n 0, 1, 0, 0, 0), (65, .getfield 97, 3, 10, 19, 0), (68, .ifCond .ne 16, 3, 0, 0, 0), (71, .aload_n 0, 1, 0, 0, 0), (72, .iload_n 1, 1, 0, 0, 0), (73, .invokevirtual 148, 3, 183, 162, 0), (76, .iconst (-1), 1, 0, 0, (-1)), (77, .if_icmp .eq 7, 3, 0, 0, 0), (80, .iconst 1, 1, 0, 0, 1), (81, .goto 4, 3, 0, 0, 0), (84, .iconst 0, 1, 0, 0, 0), (85, .iconst 3, 1, 0, 0, 3), (86, .invokevirtual 123, 3, 171, 163, 0), (89, .aload_n 0, 1, 0, 0, 0), (90, .invokevirtual 127, 3, 172, 161, 0), (93, .aload_n 0, 1, 0, 0, 0), (94, .iconst 0, 1, 0, 0, 0), (95, .sipush 180, 3, 0, 0, 180), (98, .invokevirtual 151, 3, 176, 163, 0), (101, .istore_n 2, 1, 0, 0, 0), (102, .aload_n 0, 1, 0, 0, 0), (103, .getfield 97, 3, 10, 19, 0), (106, .ifCond .ne 50, 3, 0, 0, 0), (109, .aload_n 0, 1, 0, 0, 0), (110, .getfield 7, 3, 10, 3, 0), (113, .aload_n 0, 1, 0, 0, 0), (114, .getfield 138, 3, 10, 2, 0), (117, .iload_n 1, 1, 0, 0, 0), (118, .iastore, 1, 0, 0, 0), (119, .aload_n 0, 1, 0, 0, 0), (120, .getfield 13, 3, 10, 4, 0), (123, .aload_n 0, 1, 0, 0, 0), (124, .getfield 138, 3, 10, 2, 0), (127, .iload_n 2, 1, 0, 0, 0), (128, .iastore, 1, 0, 0, 0), (129, .aload_n 0, 1, 0, 0, 0), (130, .getfield 16, 3, 10, 5, 0), (133, .bipush 38, 2, 0, 0, 38), (135, .iconst 2, 1, 0, 0, 2), (136, .aload_n 0, 1, 0, 0, 0), (137, .getfield 138, 3, 10, 2, 0), (140, .imul, 1, 0, 0, 0), (141, .iadd, 1, 0, 0, 0), (142, .iconst 0, 1, 0, 0, 0), (143, .iadd, 1, 0, 0, 0), (144, .iconst (-1), 1, 0, 0, (-1)), (145, .iastore, 1, 0, 0, 0), (146, .aload_n 0, 1, 0, 0, 0), (147, .dup, 1, 0, 0, 0), (148, .getfield 138, 3, 10, 2, 0), (151, .iconst 1, 1, 0, 0, 1), (152, .iadd, 1, 0, 0, 0), (153, .putfield 138, 3, 10, 2, 0), (156, .return_, 1, 0, 0, 0)]
def kX10_tabLine : List EN := [(0, .aload_n 0, 1, 0, 0, 0), (1, .invokevirtual 127, 3, 172, 161, 0), (4, .aload_n 0, 1, 0, 0, 0), (5, .iconst 0, 1, 0, 0, 0), (6, .aload_n 0, 1, 0, 0, 0), (7, .iconst 0, 1, 0, 0, 0), (8, .invokevirtual 154, 3, 180, 162, 0), (11, .iconst 1, 1, 0, 0, 1), (12, .isub, 1, 0, 0, 0), (13, .invokevirtual 134, 3, 175, 163, 0), (16, .istore_n 1, 1, 0, 0, 0), (17, .aload_n 0, 1, 0, 0, 0), (18, .aload_n 0, 1, 0, 0, 0), (19, .getfield 97, 3, 10, 19, 0), (22, .ifCond .ne 20, 3, 0, 0, 0), (25, .aload_n 0, 1, 0, 0, 0), (26, .getfield 16, 3, 10, 5, 0), (29, .bipush 90, 2, 0, 0, 90), (31, .iload_n 1, 1, 0, 0, 0), (32, .iadd, 1, 0, 0, 0), (33, .iaload, 1, 0, 0, 0), (34, .iconst 1, 1, 0, 0, 1), (35, .if_icmp .ne 7, 3, 0, 0, 0), (38, .iconst 1, 1, 0, 0, 1), (39, .goto 4, 3, 0, 0, 0), (42, .iconst 0, 1, 0, 0, 0), (43, .iconst 3, 1, 0, 0, 3), (44, .invokevirtual 123, 3, 171, 163, 0), (47, .aload_n 0, 1, 0, 0, 0), (48, .getfield 97, 3, 10, 19, 0), (51, .ifCond .ne 13, 3, 0, 0, 0), (54, .aload_n 0, 1, 0, 0, 0), (55, .getfield 16, 3, 10, 5, 0), (58, .bipush 90, 2, 0, 0, 90), (60, .iload_n 1, 1, 0, 0, 0), (61, .iadd, 1, 0, 0, 0), (62, .iconst 1, 1, 0, 0, 1), (63, .iastore, 1, 0, 0, 0), (64, .aload_n 0, 1, 0, 0, 0), (65, .invokevirtual 127, 3, 172, 161, 0), (68, .return_, 1, 0, 0, 0)]
def kX10_line : List EN := [(0, .aload_n 0, 1, 0, 0, 0), (1, .ldc 157, 2, 3, 0, 0), (3, .invokevirtual 119, 3, 173, 162, 0), (6, .ifCond .eq 10, 3, 0, 0, 0), (9, .aload_n 0, 1, 0, 0, 0), (10, .invokevirtual 159, 3, 184, 161, 0), (13, .goto 24, 3, 0, 0, 0), (16, .aload_n 0, 1, 0, 0, 0), (17, .ldc 162, 2, 4, 0, 0), (19, .invokevirtual 119, 3, 173, 162, 0), (22, .ifCond .eq 10, 3, 0, 0, 0), (25, .aload_n 0, 1, 0, 0, 0), (26, .invokevirtual 164, 3, 185, 161, 0), (29, .goto 8, 3, 0, 0, 0), (32, .aload_n 0, 1, 0, 0, 0), (33, .iconst 1, 1, 0, 0, 1), (34, .invokevirtual 103, 3, 170, 162, 0), (37, .return_, 1, 0, 0, 0)]
def kX10_readsHead : List EN := [(0, .aload_n 0, 1, 0, 0, 0), (1, .ldc 167, 2, 0, 0, 0), (3, .invokevirtual 169, 3, 174, 162, 0), (6, .aload_n 0, 1, 0, 0, 0), (7, .iconst 0, 1, 0, 0, 0), (8, .aload_n 0, 1, 0, 0, 0), (9, .bipush 10, 2, 0, 0, 10), (11, .bipush 40, 2, 0, 0, 40), (13, .invokevirtual 151, 3, 176, 163, 0), (16, .invokevirtual 144, 3, 181, 163, 0), (19, .aload_n 0, 1, 0, 0, 0), (20, .iconst 1, 1, 0, 0, 1), (21, .aload_n 0, 1, 0, 0, 0), (22, .iconst 1, 1, 0, 0, 1), (23, .bipush 12, 2, 0, 0, 12), (25, .invokevirtual 151, 3, 176, 163, 0), (28, .invokevirtual 144, 3, 181, 163, 0), (31, .aload_n 0, 1, 0, 0, 0), (32, .iconst 2, 1, 0, 0, 2), (33, .aload_n 0, 1, 0, 0, 0), (34, .iconst 0, 1, 0, 0, 0), (35, .aload_n 0, 1, 0, 0, 0), (36, .iconst 0, 1, 0, 0, 0), (37, .invokevirtual 154, 3, 180, 162, 0), (40, .iconst 2, 1, 0, 0, 2), (41, .isub, 1, 0, 0, 0), (42, .invokevirtual 151, 3, 176, 163, 0), (45, .invokevirtual 144, 3, 181, 163, 0), (48, .aload_n 0, 1, 0, 0, 0), (49, .iconst 3, 1, 0, 0, 3), (50, .aload_n 0, 1, 0, 0, 0), (51, .aload_n 0, 1, 0, 0, 0), (52, .iconst 2, 1, 0, 0, 2), (53, .invokevirtual 154, 3, 180, 162, 0), (56, .iconst 1, 1, 0, 0, 1), (57, .iadd, 1, 0, 0, 0), (58, .aload_n 0, 1, 0, 0, 0), (59, .iconst 0, 1, 0, 0, 0), (60, .invokevirtual 154, 3, 180, 162, 0), (63, .iconst 1, 1, 0, 0, 1), (64, .isub, 1, 0, 0, 0), (65, .invokevirtual 151, 3, 176, 163, 0), (68, .invokevirtual 144, 3, 181, 163, 0), (71, .aload_n 0, 1, 0, 0, 0), (72, .iconst 4, 1, 0, 0, 4), (73, .aload_n 0, 1, 0, 0, 0), (74, .iconst 0, 1, 0, 0, 0), (75, .aload_n 0, 1, 0, 0, 0), (76, .iconst 3, 1, 0, 0, 3), (77, .invokevirtual 154, 3, 180, 162, 0), (80, .aload_n 0, 1, 0, 0, 0), (81, .iconst 2, 1, 0, 0, 2), (82, .invokevirtual 154, 3, 180, 162, 0), (85, .isub, 1, 0, 0, 0), (86, .invokevirtual 151, 3, 176, 163, 0), (89, .invokevirtual 144, 3, 181, 163, 0), (92, .aload_n 0, 1, 0, 0, 0), (93, .invokevirtual 173, 3, 177, 161, 0), (96, .aload_n 0, 1, 0, 0, 0), (97, .ldc 176, 2, 1, 0, 0), (99, .invokevirtual 169, 3, 174, 162, 0), (102, .aload_n 0, 1, 0, 0, 0), (103, .iconst 5, 1, 0, 0, 5), (104, .aload_n 0, 1, 0, 0, 0), (105, .iconst 1, 1, 0, 0, 1), (106, .sipush 999, 3, 0, 0, 999), (109, .invokevirtual 151, 3, 176, 163, 0), (112, .invokevirtual 144, 3, 181, 163, 0), (115, .aload_n 0, 1, 0, 0, 0), (116, .bipush 6, 2, 0, 0, 6), (118, .aload_n 0, 1, 0, 0, 0), (119, .iconst 1, 1, 0, 0, 1), (120, .bipush 99, 2, 0, 0, 99), (122, .invokevirtual 151, 3, 176, 163, 0), (125, .invokevirtual 144, 3, 181, 163, 0), (128, .aload_n 0, 1, 0, 0, 0), (129, .bipush 7, 2, 0, 0, 7), (131, .aload_n 0, 1, 0, 0, 0), (132, .iconst 0, 1, 0, 0, 0), (133, .bipush 99, 2, 0, 0, 99), (135, .invokevirtual 151, 3, 176, 163, 0), (138, .invokevirtual 144, 3, 181, 163, 0), (141, .aload_n 0, 1, 0, 0, 0), (142, .bipush 8, 2, 0, 0, 8), (144, .aload_n 0, 1, 0, 0, 0), (145, .iconst 0, 1, 0, 0, 0), (146, .bipush 99, 2, 0, 0, 99), (148, .invokevirtual 151, 3, 176, 163, 0), (151, .invokevirtual 144, 3, 181, 163, 0), (154, .aload_n 0, 1, 0, 0, 0), (155, .invokevirtual 173, 3, 177, 161, 0), (158, .aload_n 0, 1, 0, 0, 0), (159, .ldc 178, 2, 2, 0, 0), (161, .invokevirtual 169, 3, 174, 162, 0), (164, .aload_n 0, 1, 0, 0, 0), (165, .bipush 9, 2, 0, 0, 9), (167, .aload_n 0, 1, 0, 0, 0), (168, .iconst 5, 1, 0, 0, 5), (169, .bipush 60, 2, 0, 0, 60), (171, .invokevirtual 151, 3, 176, 163, 0), (174, .invokevirtual 144, 3, 181, 163, 0), (177, .aload_n 0, 1, 0, 0, 0), (178, .bipush 10, 2, 0, 0, 10), (180, .aload_n 0, 1, 0, 0, 0), (181, .iconst 1, 1, 0, 0, 1), (182, .bipush 9, 2, 0, 0, 9), (184, .invokevirtual 151, 3, 176, 163, 0), (187, .invokevirtual 144, 3, 181, 163, 0), (190, .aload_n 0, 1, 0, 0, 0), (191, .bipush 11, 2, 0, 0, 11), (193, .aload_n 0, 1, 0, 0, 0), (194, .iconst 0, 1, 0, 0, 0), (195, .iconst 3, 1, 0, 0, 3), (196, .invokevirtual 151, 3, 176, 163, 0), (199, .invokevirtual 144, 3, 181, 163, 0), (202, .return_, 1, 0, 0, 0)]
def kX10_reads : List EN := [(0, .aload_n 0, 1, 0, 0, 0), (1, .iload_n 1, 1, 0, 0, 0), (2, .putfield 71, 3, 10, 14, 0), (5, .aload_n 0, 1, 0, 0, 0), (6, .iconst 0, 1, 0, 0, 0), (7, .putfield 74, 3, 10, 15, 0), (10, .aload_n 0, 1, 0, 0, 0), (11, .iconst 0, 1, 0, 0, 0), (12, .putfield 97, 3, 10, 19, 0), (15, .aload_n 0, 1, 0, 0, 0), (16, .iconst (-1), 1, 0, 0, (-1)), (17, .putfield 100, 3, 10, 20, 0), (20, .aload_n 0, 1, 0, 0, 0), (21, .invokevirtual 180, 3, 182, 161, 0), (24, .aload_n 0, 1, 0, 0, 0), (25, .invokevirtual 107, 3, 169, 161, 0), (28, .aload_n 0, 1, 0, 0, 0), (29, .invokevirtual 183, 3, 187, 161, 0), (32, .aload_n 0, 1, 0, 0, 0), (33, .getfield 97, 3, 10, 19, 0), (36, .ifCond .ne 22, 3, 0, 0, 0), (39, .aload_n 0, 1, 0, 0, 0), (40, .getfield 84, 3, 10, 17, 0), (43, .iconst 3, 1, 0, 0, 3), (44, .if_icmp .ne 14, 3, 0, 0, 0), (47, .aload_n 0, 1, 0, 0, 0), (48, .invokevirtual 107, 3, 169, 161, 0), (51, .aload_n 0, 1, 0, 0, 0), (52, .invokevirtual 186, 3, 186, 161, 0), (55, .goto (-23), 3, 0, 0, 0), (58, .aload_n 0, 1, 0, 0, 0), (59, .aload_n 0, 1, 0, 0, 0), (60, .getfield 84, 3, 10, 17, 0), (63, .ifCond .eq 7, 3, 0, 0, 0), (66, .iconst 1, 1, 0, 0, 1), (67, .goto 4, 3, 0, 0, 0), (70, .iconst 0, 1, 0, 0, 0), (71, .iconst 1, 1, 0, 0, 1), (72, .invokevirtual 123, 3, 171, 163, 0), (75, .aload_n 0, 1, 0, 0, 0), (76, .getfield 16, 3, 10, 5, 0), (79, .iconst 1, 1, 0, 0, 1), (80, .aload_n 0, 1, 0, 0, 0), (81, .iconst 2, 1, 0, 0, 2), (82, .invokevirtual 154, 3, 180, 162, 0), (85, .iastore, 1, 0, 0, 0), (86, .aload_n 0, 1, 0, 0, 0), (87, .invokevirtual 189, 3, 189, 161, 0), (90, .return_, 1, 0, 0, 0)]
def kX10_fillsRibbon : List EN := [(0, .iconst 0, 1, 0, 0, 0), (1, .istore_n 1, 1, 0, 0, 0), (2, .iload_n 1, 1, 0, 0, 0), (3, .bipush 60, 2, 0, 0, 60), (5, .if_icmp .ge 39, 3, 0, 0, 0), (8, .aload_n 0, 1, 0, 0, 0), (9, .getfield 16, 3, 10, 5, 0), (12, .sipush 130, 3, 0, 0, 130), (15, .iload_n 1, 1, 0, 0, 0), (16, .iadd, 1, 0, 0, 0), (17, .iload_n 1, 1, 0, 0, 0), (18, .aload_n 0, 1, 0, 0, 0), (19, .bipush 9, 2, 0, 0, 9), (21, .invokevirtual 154, 3, 180, 162, 0), (24, .if_icmp .ge 12, 3, 0, 0, 0), (27, .aload_n 0, 1, 0, 0, 0), (28, .bipush 10, 2, 0, 0, 10), (30, .invokevirtual 154, 3, 180, 162, 0), (33, .goto 4, 3, 0, 0, 0), (36, .iconst 0, 1, 0, 0, 0), (37, .iastore, 1, 0, 0, 0), (38, .iinc 1 1, 3, 0, 0, 1), (41, .goto (-39), 3, 0, 0, 0), (44, .aload_n 0, 1, 0, 0, 0), (45, .getfield 16, 3, 10, 5, 0), (48, .bipush 7, 2, 0, 0, 7), (50, .iconst 0, 1, 0, 0, 0), (51, .iastore, 1, 0, 0, 0), (52, .aload_n 0, 1, 0, 0, 0), (53, .getfield 16, 3, 10, 5, 0), (56, .bipush 8, 2, 0, 0, 8), (58, .iconst 1, 1, 0, 0, 1), (59, .iastore, 1, 0, 0, 0), (60, .return_, 1, 0, 0, 0)]
def kX10_load : List EN := [(0, .aload_n 0, 1, 0, 0, 0), (1, .iconst 0, 1, 0, 0, 0), (2, .putfield 54, 3, 10, 0, 0), (5, .aload_n 0, 1, 0, 0, 0), (6, .iload_n 1, 1, 0, 0, 0), (7, .iconst 0, 1, 0, 0, 0), (8, .aload_n 0, 1, 0, 0, 0), (9, .getfield 65, 3, 10, 11, 0), (12, .invokestatic 130, 3, 158, 3, 0), (15, .ifCond .ne 7, 3, 0, 0, 0), (18, .iconst 1, 1, 0, 0, 1), (19, .goto 4, 3, 0, 0, 0), (22, .iconst 0, 1, 0, 0, 0), (23, .iconst 1, 1, 0, 0, 1), (24, .invokevirtual 61, 3, 160, 163, 0), (27, .ifCond .eq 5, 3, 0, 0, 0), (30, .iconst 0, 1, 0, 0, 0), (31, .ireturn, 1, 0, 0, 0), (32, .aload_n 0, 1, 0, 0, 0), (33, .iconst 0, 1, 0, 0, 0), (34, .putfield 65, 3, 10, 11, 0), (37, .aload_n 0, 1, 0, 0, 0), (38, .invokevirtual 192, 3, 178, 161, 0), (41, .aload_n 0, 1, 0, 0, 0), (42, .iload_n 1, 1, 0, 0, 0), (43, .invokevirtual 195, 3, 188, 162, 0), (46, .aload_n 0, 1, 0, 0, 0), (47, .aload_n 0, 1, 0, 0, 0), (48, .getfield 97, 3, 10, 19, 0), (51, .putfield 68, 3, 10, 12, 0), (54, .aload_n 0, 1, 0, 0, 0), (55, .aload_n 0, 1, 0, 0, 0), (56, .getfield 97, 3, 10, 19, 0), (59, .ifCond .ne 7, 3, 0, 0, 0), (62, .iconst (-1), 1, 0, 0, (-1)), (63, .goto 7, 3, 0, 0, 0), (66, .aload_n 0, 1, 0, 0, 0), (67, .getfield 100, 3, 10, 20, 0), (70, .putfield 32, 3, 10, 13, 0), (73, .aload_n 0, 1, 0, 0, 0), (74, .aload_n 0, 1, 0, 0, 0), (75, .getfield 97, 3, 10, 19, 0), (78, .ifCond .eq 7, 3, 0, 0, 0), (81, .iconst 1, 1, 0, 0, 1), (82, .goto 4, 3, 0, 0, 0), (85, .iconst 0, 1, 0, 0, 0), (86, .iconst 2, 1, 0, 0, 2), (87, .invokevirtual 61, 3, 160, 163, 0), (90, .ifCond .eq 9, 3, 0, 0, 0), (93, .aload_n 0, 1, 0, 0, 0), (94, .invokevirtual 198, 3, 179, 161, 0), (97, .iconst 0, 1, 0, 0, 0), (98, .ireturn, 1, 0, 0, 0), (99, .aload_n 0, 1, 0, 0, 0), (100, .iconst 1, 1, 0, 0, 1), (101, .putfield 57, 3, 10, 1, 0), (104, .aload_n 0, 1, 0, 0, 0), (105, .iconst 0, 1, 0, 0, 0), (106, .putfield 201, 3, 10, 8, 0), (109, .aload_n 0, 1, 0, 0, 0), (110, .getfield 25, 3, 10, 9, 0), (113, .iconst 0, 1, 0, 0, 0), (114, .iconst 0, 1, 0, 0, 0), (115, .bastore, 1, 0, 0, 0), (116, .aload_n 0, 1, 0, 0, 0), (117, .getfield 25, 3, 10, 9, 0), (120, .iconst 1, 1, 0, 0, 1), (121, .iconst 0, 1, 0, 0, 0), (122, .bastore, 1, 0, 0, 0), (123, .aload_n 0, 1, 0, 0, 0), (124, .getfield 138, 3, 10, 2, 0), (127, .ireturn, 1, 0, 0, 0)]
def kX10_struckAt : List EN := [(0, .aload_n 0, 1, 0, 0, 0), (1, .getfield 16, 3, 10, 5, 0), (4, .bipush 38, 2, 0, 0, 38), (6, .iconst 2, 1, 0, 0, 2), (7, .iload_n 1, 1, 0, 0, 0), (8, .imul, 1, 0, 0, 0), (9, .iadd, 1, 0, 0, 0), (10, .iconst 0, 1, 0, 0, 0), (11, .iadd, 1, 0, 0, 0), (12, .iaload, 1, 0, 0, 0), (13, .ireturn, 1, 0, 0, 0)]
def kX10_rise : List EN := [(0, .aload_n 0, 1, 0, 0, 0), (1, .bipush 6, 2, 0, 0, 6), (3, .invokevirtual 154, 3, 180, 162, 0), (6, .aload_n 0, 1, 0, 0, 0), (7, .getfield 13, 3, 10, 4, 0), (10, .iload_n 1, 1, 0, 0, 0), (11, .iaload, 1, 0, 0, 0), (12, .bipush 90, 2, 0, 0, 90), (14, .isub, 1, 0, 0, 0), (15, .invokestatic 204, 3, 1002, 0, 0), (18, .bipush 10, 2, 0, 0, 10), (20, .idiv, 1, 0, 0, 0), (21, .iadd, 1, 0, 0, 0), (22, .ireturn, 1, 0, 0, 0)]
def kX10_backIn : List EN := [(0, .aload_n 0, 1, 0, 0, 0), (1, .iload_n 1, 1, 0, 0, 0), (2, .invokevirtual 209, 3, 191, 162, 0), (5, .iconst (-1), 1, 0, 0, (-1)), (6, .if_icmp .ne 7, 3, 0, 0, 0), (9, .iconst 0, 1, 0, 0, 0), (10, .goto 22, 3, 0, 0, 0), (13, .iconst 0, 1, 0, 0, 0), (14, .aload_n 0, 1, 0, 0, 0), (15, .iload_n 1, 1, 0, 0, 0), (16, .invokevirtual 209, 3, 191, 162, 0), (19, .iconst 2, 1, 0, 0, 2), (20, .aload_n 0, 1, 0, 0, 0), (21, .iload_n 1, 1, 0, 0, 0), (22, .invokevirtual 212, 3, 192, 162, 0), (25, .imul, 1, 0, 0, 0), (26, .iadd, 1, 0, 0, 0), (27, .iload_n 2, 1, 0, 0, 0), (28, .isub, 1, 0, 0, 0), (29, .invokestatic 215, 3, 1000, 0, 0), (32, .ireturn, 1, 0, 0, 0)]
def kX10_clearance : List EN := [(0, .aload_n 0, 1, 0, 0, 0), (1, .bipush 7, 2, 0, 0, 7), (3, .invokevirtual 154, 3, 180, 162, 0), (6, .iconst 0, 1, 0, 0, 0), (7, .aload_n 0, 1, 0, 0, 0), (8, .bipush 8, 2, 0, 0, 8), (10, .invokevirtual 154, 3, 180, 162, 0), (13, .aload_n 0, 1, 0, 0, 0), (14, .getfield 13, 3, 10, 4, 0), (17, .iload_n 1, 1, 0, 0, 0), (18, .iaload, 1, 0, 0, 0), (19, .aload_n 0, 1, 0, 0, 0), (20, .getfield 13, 3, 10, 4, 0), (23, .iload_n 2, 1, 0, 0, 0), (24, .iaload, 1, 0, 0, 0), (25, .isub, 1, 0, 0, 0), (26, .invokestatic 204, 3, 1002, 0, 0), (29, .isub, 1, 0, 0, 0), (30, .invokestatic 215, 3, 1000, 0, 0), (33, .iadd, 1, 0, 0, 0), (34, .ireturn, 1, 0, 0, 0)]
def kX10_wouldJam : List EN := [(0, .aload_n 0, 1, 0, 0, 0), (1, .getfield 16, 3, 10, 5, 0), (4, .iconst 4, 1, 0, 0, 4), (5, .iaload, 1, 0, 0, 0), (6, .istore_n 3, 1, 0, 0, 0), (7, .iload_n 3, 1, 0, 0, 0), (8, .iconst (-1), 1, 0, 0, (-1)), (9, .if_icmp .eq 17, 3, 0, 0, 0), (12, .iload_n 3, 1, 0, 0, 0), (13, .iload_n 1, 1, 0, 0, 0), (14, .if_icmp .eq 12, 3, 0, 0, 0), (17, .aload_n 0, 1, 0, 0, 0), (18, .iload_n 3, 1, 0, 0, 0), (19, .iload_n 2, 1, 0, 0, 0), (20, .invokevirtual 218, 3, 193, 163, 0), (23, .ifCond .ne 5, 3, 0, 0, 0), (26, .iconst 0, 1, 0, 0, 0), (27, .ireturn, 1, 1, 0, 0), (28, .aload_n 0, 1, 0, 0, 0), (29, .iload_n 3, 1, 0, 0, 0), (30, .invokevirtual 209, 3, 191, 162, 0), (33, .aload_n 0, 1, 0, 0, 0), (34, .iload_n 3, 1, 0, 0, 0), (35, .invokevirtual 212, 3, 192, 162, 0), (38, .iadd, 1, 0, 0, 0), (39, .iload_n 2, 1, 0, 0, 0), (40, .isub, 1, 0, 0, 0), (41, .aload_n 0, 1, 0, 0, 0), (42, .iload_n 1, 1, 0, 0, 0), (43, .invokevirtual 212, 3, 192, 162, 0), (46, .isub, 1, 0, 0, 0), (47, .invokestatic 204, 3, 1002, 0, 0), (50, .aload_n 0, 1, 0, 0, 0), (51, .iload_n 1, 1, 0, 0, 0), (52, .iload_n 3, 1, 0, 0, 0), (53, .invokevirtual 221, 3, 194, 163, 0), (56, .if_icmp .ge 7, 3, 0, 0, 0), (59, .iconst 1, 1, 0, 0, 1), (60, .goto 4, 3, 0, 0, 0), (63, .iconst 0, 1, 0, 0, 0), (64, .ireturn, 1, 1, 0, 0)]
def kX10_isLocked : List EN := [(0, .iload_n 1, 1, 0, 0, 0), (1, .aload_n 0, 1, 0, 0, 0), (2, .iconst 0, 1, 0, 0, 0), (3, .invokevirtual 154, 3, 180, 162, 0), (6, .if_icmp .eq 21, 3, 0, 0, 0), (9, .iload_n 1, 1, 0, 0, 0), (10, .aload_n 0, 1, 0, 0, 0), (11, .iconst 3, 1, 0, 0, 3), (12, .invokevirtual 154, 3, 180, 162, 0), (15, .if_icmp .le 16, 3, 0, 0, 0), (18, .aload_n 0, 1, 0, 0, 0), (19, .getfield 16, 3, 10, 5, 0), (22, .iconst 2, 1, 0, 0, 2), (23, .iaload, 1, 0, 0, 0), (24, .ifCond .ne 7, 3, 0, 0, 0), (27, .iconst 1, 1, 0, 0, 1), (28, .goto 4, 3, 0, 0, 0), (31, .iconst 0, 1, 0, 0, 0), (32, .ireturn, 1, 1, 0, 0)]
def kX10_reasonOf : List EN := [(0, .aload_n 0, 1, 0, 0, 0), (1, .getfield 16, 3, 10, 5, 0), (4, .iconst 5, 1, 0, 0, 5), (5, .iaload, 1, 0, 0, 0), (6, .iconst (-1), 1, 0, 0, (-1)), (7, .if_icmp .eq 5, 3, 0, 0, 0), (10, .iconst 1, 1, 0, 0, 1), (11, .ireturn, 1, 0, 0, 0), (12, .aload_n 0, 1, 0, 0, 0), (13, .aload_n 0, 1, 0, 0, 0), (14, .getfield 16, 3, 10, 5, 0), (17, .iconst 1, 1, 0, 0, 1), (18, .iaload, 1, 0, 0, 0), (19, .invokevirtual 224, 3, 196, 162, 0), (22, .ifCond .eq 5, 3, 0, 0, 0), (25, .iconst 2, 1, 0, 0, 2), (26, .ireturn, 1, 0, 0, 0), (27, .aload_n 0, 1, 0, 0, 0), (28, .iload_n 1, 1, 0, 0, 0), (29, .iload_n 2, 1, 0, 0, 0), (30, .invokevirtual 218, 3, 193, 163, 0), (33, .ifCond .le 5, 3, 0, 0, 0), (36, .iconst 4, 1, 0, 0, 4), (37, .ireturn, 1, 0, 0, 0), (38, .aload_n 0, 1, 0, 0, 0), (39, .iload_n 1, 1, 0, 0, 0), (40, .iload_n 2, 1, 0, 0, 0), (41, .invokevirtual 227, 3, 195, 163, 0), (44, .ifCond .eq 7, 3, 0, 0, 0), (47, .iconst 5, 1, 0, 0, 5), (48, .goto 4, 3, 0, 0, 0), (51, .iconst 0, 1, 0, 0, 0), (52, .ireturn, 1, 0, 0, 0)]
def kX10_counts : List EN := [(0, .aload_n 0, 1, 0, 0, 0), (1, .getfield 16, 3, 10, 5, 0), (4, .bipush 22, 2, 0, 0, 22), (6, .iload_n 1, 1, 0, 0, 0), (7, .iadd, 1, 0, 0, 0), (8, .dup2, 1, 0, 0, 0), (9, .iaload, 1, 0, 0, 0), (10, .iconst 1, 1, 0, 0, 1), (11, .iadd, 1, 0, 0, 0), (12, .iastore, 1, 0, 0, 0), (13, .return_, 1, 0, 0, 0)]
def kX10_advances : List EN := [(0, .aload_n 0, 1, 0, 0, 0), (1, .getfield 16, 3, 10, 5, 0), (4, .iconst 1, 1, 0, 0, 1), (5, .dup2, 1, 0, 0, 0), (6, .iaload, 1, 0, 0, 0), (7, .iconst 1, 1, 0, 0, 1), (8, .iadd, 1, 0, 0, 0), (9, .iastore, 1, 0, 0, 0), (10, .aload_n 0, 1, 0, 0, 0), (11, .getfield 16, 3, 10, 5, 0), (14, .iconst 1, 1, 0, 0, 1), (15, .iaload, 1, 0, 0, 0), (16, .aload_n 0, 1, 0, 0, 0), (17, .iconst 3, 1, 0, 0, 3), (18, .invokevirtual 154, 3, 180, 162, 0), (21, .aload_n 0, 1, 0, 0, 0), (22, .iconst 4, 1, 0, 0, 4), (23, .invokevirtual 154, 3, 180, 162, 0), (26, .isub, 1, 0, 0, 0), (27, .if_icmp .ne 9, 3, 0, 0, 0), (30, .aload_n 0, 1, 0, 0, 0), (31, .bipush 10, 2, 0, 0, 10), (33, .invokevirtual 231, 3, 198, 162, 0), (36, .return_, 1, 0, 0, 0)]
def kX10_runsOn : List EN := [(0, .aload_n 0, 1, 0, 0, 0), (1, .getfield 16, 3, 10, 5, 0), (4, .bipush 7, 2, 0, 0, 7), (6, .iaload, 1, 0, 0, 0), (7, .aload_n 0, 1, 0, 0, 0), (8, .getfield 16, 3, 10, 5, 0), (11, .bipush 8, 2, 0, 0, 8), (13, .iaload, 1, 0, 0, 0), (14, .iconst 1, 1, 0, 0, 1), (15, .if_icmp .ne 7, 3, 0, 0, 0), (18, .iconst 1, 1, 0, 0, 1), (19, .goto 4, 3, 0, 0, 0), (22, .iconst (-1), 1, 0, 0, (-1)), (23, .iadd, 1, 0, 0, 0), (24, .istore_n 1, 1, 0, 0, 0), (25, .iload_n 1, 1, 0, 0, 0), (26, .iconst 0, 1, 0, 0, 0), (27, .aload_n 0, 1, 0, 0, 0), (28, .bipush 9, 2, 0, 0, 9), (30, .invokevirtual 154, 3, 180, 162, 0), (33, .iconst 1, 1, 0, 0, 1), (34, .isub, 1, 0, 0, 0), (35, .invokestatic 130, 3, 158, 3, 0), (38, .ifCond .eq 14, 3, 0, 0, 0), (41, .aload_n 0, 1, 0, 0, 0), (42, .getfield 16, 3, 10, 5, 0), (45, .bipush 7, 2, 0, 0, 7), (47, .iload_n 1, 1, 0, 0, 0), (48, .iastore, 1, 0, 0, 0), (49, .goto 25, 3, 0, 0, 0), (52, .aload_n 0, 1, 0, 0, 0), (53, .getfield 16, 3, 10, 5, 0), (56, .bipush 8, 2, 0, 0, 8), (58, .iconst 1, 1, 0, 0, 1), (59, .aload_n 0, 1, 0, 0, 0), (60, .getfield 16, 3, 10, 5, 0), (63, .bipush 8, 2, 0, 0, 8), (65, .iaload, 1, 0, 0, 0), (66, .isub, 1, 0, 0, 0), (67, .iastore, 1, 0, 0, 0), (68, .aload_n 0, 1, 0, 0, 0), (69, .bipush 11, 2, 0, 0, 11), (71, .invokevirtual 231, 3, 198, 162, 0), (74, .return_, 1, 0, 0, 0)]
def kX10_prints : List EN := [(0, .bipush 40, 2, 0, 0, 40), (2, .aload_n 0, 1, 0, 0, 0), (3, .getfield 16, 3, 10, 5, 0), (6, .iconst 0, 1, 0, 0, 0), (7, .iaload, 1, 0, 0, 0), (8, .imul, 1, 0, 0, 0), (9, .aload_n 0, 1, 0, 0, 0), (10, .getfield 16, 3, 10, 5, 0), (13, .iconst 1, 1, 0, 0, 1), (14, .iaload, 1, 0, 0, 0), (15, .iadd, 1, 0, 0, 0), (16, .istore_n 2, 1, 0, 0, 0), (17, .aload_n 0, 1, 0, 0, 0), (18, .getfield 16, 3, 10, 5, 0), (21, .sipush 130, 3, 0, 0, 130), (24, .aload_n 0, 1, 0, 0, 0), (25, .getfield 16, 3, 10, 5, 0), (28, .bipush 7, 2, 0, 0, 7), (30, .iaload, 1, 0, 0, 0), (31, .iadd, 1, 0, 0, 0), (32, .iaload, 1, 0, 0, 0), (33, .istore_n 3, 1, 0, 0, 0), (34, .aload_n 0, 1, 0, 0, 0), (35, .getfield 16, 3, 10, 5, 0), (38, .sipush 190, 3, 0, 0, 190), (41, .iload_n 2, 1, 0, 0, 0), (42, .iadd, 1, 0, 0, 0), (43, .iaload, 1, 0, 0, 0), (44, .ifCond .eq 9, 3, 0, 0, 0), (47, .aload_n 0, 1, 0, 0, 0), (48, .bipush 12, 2, 0, 0, 12), (50, .invokevirtual 231, 3, 198, 162, 0), (53, .aload_n 0, 1, 0, 0, 0), (54, .getfield 16, 3, 10, 5, 0), (57, .sipush 190, 3, 0, 0, 190), (60, .iload_n 2, 1, 0, 0, 0), (61, .iadd, 1, 0, 0, 0), (62, .iload_n 1, 1, 0, 0, 0), (63, .iastore, 1, 0, 0, 0), (64, .aload_n 0, 1, 0, 0, 0), (65, .getfield 16, 3, 10, 5, 0), (68, .sipush 670, 3, 0, 0, 670), (71, .iload_n 2, 1, 0, 0, 0), (72, .iadd, 1, 0, 0, 0), (73, .bipush 9, 2, 0, 0, 9), (75, .aload_n 0, 1, 0, 0, 0), (76, .getfield 16, 3, 10, 5, 0), (79, .sipush 670, 3, 0, 0, 670), (82, .iload_n 2, 1, 0, 0, 0), (83, .iadd, 1, 0, 0, 0), (84, .iaload, 1, 0, 0, 0), (85, .iload_n 3, 1, 0, 0, 0), (86, .iadd, 1, 0, 0, 0), (87, .invokestatic 234, 3, 1001, 0, 0), (90, .iastore, 1, 0, 0, 0), (91, .aload_n 0, 1, 0, 0, 0), (92, .getfield 16, 3, 10, 5, 0), (95, .sipush 130, 3, 0, 0, 130), (98, .aload_n 0, 1, 0, 0, 0), (99, .getfield 16, 3, 10, 5, 0), (102, .bipush 7, 2, 0, 0, 7), (104, .iaload, 1, 0, 0, 0), (105, .iadd, 1, 0, 0, 0), (106, .iconst 0, 1, 0, 0, 0), (107, .iload_n 3, 1, 0, 0, 0), (108, .aload_n 0, 1, 0, 0, 0), (109, .bipush 11, 2, 0, 0, 11), (111, .invokevirtual 154, 3, 180, 162, 0), (114, .isub, 1, 0, 0, 0), (115, .invokestatic 215, 3, 1000, 0, 0), (118, .iastore, 1, 0, 0, 0), (119, .aload_n 0, 1, 0, 0, 0), (120, .iload_n 3, 1, 0, 0, 0), (121, .putfield 237, 3, 10, 25, 0), (124, .aload_n 0, 1, 0, 0, 0), (125, .iconst 3, 1, 0, 0, 3), (126, .invokevirtual 231, 3, 198, 162, 0), (129, .aload_n 0, 1, 0, 0, 0), (130, .invokevirtual 240, 3, 200, 161, 0), (133, .return_, 1, 0, 0, 0)]
def kX10_strikes : List EN := [(0, .aload_n 0, 1, 0, 0, 0), (1, .getfield 16, 3, 10, 5, 0), (4, .bipush 38, 2, 0, 0, 38), (6, .iconst 2, 1, 0, 0, 2), (7, .iload_n 1, 1, 0, 0, 0), (8, .imul, 1, 0, 0, 0), (9, .iadd, 1, 0, 0, 0), (10, .iconst 0, 1, 0, 0, 0), (11, .iadd, 1, 0, 0, 0), (12, .aload_n 0, 1, 0, 0, 0), (13, .getfield 16, 3, 10, 5, 0), (16, .iconst 3, 1, 0, 0, 3), (17, .iaload, 1, 0, 0, 0), (18, .iastore, 1, 0, 0, 0), (19, .aload_n 0, 1, 0, 0, 0), (20, .getfield 16, 3, 10, 5, 0), (23, .bipush 38, 2, 0, 0, 38), (25, .iconst 2, 1, 0, 0, 2), (26, .iload_n 1, 1, 0, 0, 0), (27, .imul, 1, 0, 0, 0), (28, .iadd, 1, 0, 0, 0), (29, .iconst 1, 1, 0, 0, 1), (30, .iadd, 1, 0, 0, 0), (31, .dup2, 1, 0, 0, 0), (32, .iaload, 1, 0, 0, 0), (33, .iconst 1, 1, 0, 0, 1), (34, .iadd, 1, 0, 0, 0), (35, .iastore, 1, 0, 0, 0), (36, .aload_n 0, 1, 0, 0, 0), (37, .getfield 16, 3, 10, 5, 0), (40, .iconst 4, 1, 0, 0, 4), (41, .iload_n 1, 1, 0, 0, 0), (42, .iastore, 1, 0, 0, 0), (43, .aload_n 0, 1, 0, 0, 0), (44, .iload_n 2, 1, 0, 0, 0), (45, .ifCond .eq 15, 3, 0, 0, 0), (48, .aload_n 0, 1, 0, 0, 0), (49, .getfield 7, 3, 10, 3, 0), (52, .iload_n 1, 1, 0, 0, 0), (53, .iaload, 1, 0, 0, 0), (54, .bipush 32, 2, 0, 0, 32), (56, .isub, 1, 0, 0, 0), (57, .goto 9, 3, 0, 0, 0), (60, .aload_n 0, 1, 0, 0, 0), (61, .getfield 7, 3, 10, 3, 0), (64, .iload_n 1, 1, 0, 0, 0), (65, .iaload, 1, 0, 0, 0), (66, .invokevirtual 243, 3, 201, 162, 0), (69, .aload_n 0, 1, 0, 0, 0), (70, .invokevirtual 246, 3, 199, 161, 0), (73, .return_, 1, 0, 0, 0)]
def kX10_ends : List EN := [(0, .iload_n 1, 1, 0, 0, 0), (1, .ifCond .eq 9, 3, 0, 0, 0), (4, .aload_n 0, 1, 0, 0, 0), (5, .bipush 9, 2, 0, 0, 9), (7, .invokevirtual 231, 3, 198, 162, 0), (10, .aload_n 0, 1, 0, 0, 0), (11, .getfield 16, 3, 10, 5, 0), (14, .bipush 36, 2, 0, 0, 36), (16, .iload_n 1, 1, 0, 0, 0), (17, .iastore, 1, 0, 0, 0), (18, .aload_n 0, 1, 0, 0, 0), (19, .getfield 16, 3, 10, 5, 0), (22, .bipush 37, 2, 0, 0, 37), (24, .iconst (-1), 1, 0, 0, (-1)), (25, .iastore, 1, 0, 0, 0), (26, .iload_n 1, 1, 0, 0, 0), (27, .ireturn, 1, 0, 0, 0)]
def kX10_begins : List EN := [(0, .aload_n 0, 1, 0, 0, 0), (1, .bipush 13, 2, 0, 0, 13), (3, .invokevirtual 231, 3, 198, 162, 0), (6, .aload_n 0, 1, 0, 0, 0), (7, .getfield 16, 3, 10, 5, 0), (10, .iconst 3, 1, 0, 0, 3), (11, .dup2, 1, 0, 0, 0), (12, .iaload, 1, 0, 0, 0), (13, .aload_n 0, 1, 0, 0, 0), (14, .iconst 5, 1, 0, 0, 5), (15, .invokevirtual 154, 3, 180, 162, 0), (18, .iadd, 1, 0, 0, 0), (19, .iastore, 1, 0, 0, 0), (20, .return_, 1, 0, 0, 0)]
def kX10_letterKey : List EN := [(0, .aload_n 0, 1, 0, 0, 0), (1, .invokevirtual 249, 3, 204, 161, 0), (4, .aload_n 0, 1, 0, 0, 0), (5, .iload_n 1, 1, 0, 0, 0), (6, .aload_n 0, 1, 0, 0, 0), (7, .getfield 16, 3, 10, 5, 0), (10, .iconst 3, 1, 0, 0, 3), (11, .iaload, 1, 0, 0, 0), (12, .invokevirtual 252, 3, 197, 163, 0), (15, .istore_n 3, 1, 0, 0, 0), (16, .iload_n 3, 1, 0, 0, 0), (17, .iconst 5, 1, 0, 0, 5), (18, .if_icmp .ne 32, 3, 0, 0, 0), (21, .aload_n 0, 1, 0, 0, 0), (22, .getfield 16, 3, 10, 5, 0), (25, .iconst 5, 1, 0, 0, 5), (26, .iload_n 1, 1, 0, 0, 0), (27, .iastore, 1, 0, 0, 0), (28, .aload_n 0, 1, 0, 0, 0), (29, .getfield 16, 3, 10, 5, 0), (32, .bipush 6, 2, 0, 0, 6), (34, .aload_n 0, 1, 0, 0, 0), (35, .getfield 16, 3, 10, 5, 0), (38, .iconst 4, 1, 0, 0, 4), (39, .iaload, 1, 0, 0, 0), (40, .iastore, 1, 0, 0, 0), (41, .aload_n 0, 1, 0, 0, 0), (42, .bipush 8, 2, 0, 0, 8), (44, .invokevirtual 231, 3, 198, 162, 0), (47, .goto 13, 3, 0, 0, 0), (50, .iload_n 3, 1, 0, 0, 0), (51, .ifCond .ne 9, 3, 0, 0, 0), (54, .aload_n 0, 1, 0, 0, 0), (55, .iload_n 1, 1, 0, 0, 0), (56, .iload_n 2, 1, 0, 0, 0), (57, .invokevirtual 255, 3, 202, 163, 0), (60, .aload_n 0, 1, 0, 0, 0), (61, .iload_n 3, 1, 0, 0, 0), (62, .invokevirtual 259, 3, 203, 162, 0), (65, .ireturn, 1, 0, 0, 0)]
def kX10_spaceKey : List EN := [(0, .aload_n 0, 1, 0, 0, 0), (1, .getfield 16, 3, 10, 5, 0), (4, .iconst 5, 1, 0, 0, 5), (5, .iaload, 1, 0, 0, 0), (6, .iconst (-1), 1, 0, 0, (-1)), (7, .if_icmp .eq 7, 3, 0, 0, 0), (10, .iconst 1, 1, 0, 0, 1), (11, .goto 21, 3, 0, 0, 0), (14, .aload_n 0, 1, 0, 0, 0), (15, .aload_n 0, 1, 0, 0, 0), (16, .getfield 16, 3, 10, 5, 0), (19, .iconst 1, 1, 0, 0, 1), (20, .iaload, 1, 0, 0, 0), (21, .invokevirtual 224, 3, 196, 162, 0), (24, .ifCond .eq 7, 3, 0, 0, 0), (27, .iconst 2, 1, 0, 0, 2), (28, .goto 4, 3, 0, 0, 0), (31, .iconst 0, 1, 0, 0, 0), (32, .istore_n 1, 1, 0, 0, 0), (33, .iload_n 1, 1, 0, 0, 0), (34, .ifCond .ne 12, 3, 0, 0, 0), (37, .aload_n 0, 1, 0, 0, 0), (38, .iconst 4, 1, 0, 0, 4), (39, .invokevirtual 231, 3, 198, 162, 0), (42, .aload_n 0, 1, 0, 0, 0), (43, .invokevirtual 246, 3, 199, 161, 0), (46, .iload_n 1, 1, 0, 0, 0), (47, .ireturn, 1, 0, 0, 0)]
def kX10_stopFrom : List EN := [(0, .iload_n 1, 1, 0, 0, 0), (1, .iconst 1, 1, 0, 0, 1), (2, .iadd, 1, 0, 0, 0), (3, .istore_n 2, 1, 0, 0, 0), (4, .iload_n 2, 1, 0, 0, 0), (5, .aload_n 0, 1, 0, 0, 0), (6, .iconst 0, 1, 0, 0, 0), (7, .invokevirtual 154, 3, 180, 162, 0), (10, .if_icmp .ge 24, 3, 0, 0, 0), (13, .aload_n 0, 1, 0, 0, 0), (14, .getfield 16, 3, 10, 5, 0), (17, .bipush 90, 2, 0, 0, 90), (19, .iload_n 2, 1, 0, 0, 0), (20, .iadd, 1, 0, 0, 0), (21, .iaload, 1, 0, 0, 0), (22, .iconst 1, 1, 0, 0, 1), (23, .if_icmp .ne 5, 3, 0, 0, 0), (26, .iload_n 2, 1, 0, 0, 0), (27, .ireturn, 1, 0, 0, 0), (28, .iinc 2 1, 3, 0, 0, 1), (31, .goto (-27), 3, 0, 0, 0), (34, .iload_n 1, 1, 0, 0, 0), (35, .aload_n 0, 1, 0, 0, 0), (36, .iconst 3, 1, 0, 0, 3), (37, .invokevirtual 154, 3, 180, 162, 0), (40, .invokestatic 215, 3, 1000, 0, 0), (43, .ireturn, 1, 0, 0, 0)]
def kX10_backFrom : List EN := [(0, .iload_n 1, 1, 0, 0, 0), (1, .ifCond .eq 21, 3, 0, 0, 0), (4, .iload_n 1, 1, 0, 0, 0), (5, .aload_n 0, 1, 0, 0, 0), (6, .iconst 2, 1, 0, 0, 2), (7, .invokevirtual 154, 3, 180, 162, 0), (10, .if_icmp .ne 16, 3, 0, 0, 0), (13, .aload_n 0, 1, 0, 0, 0), (14, .getfield 16, 3, 10, 5, 0), (17, .iconst 2, 1, 0, 0, 2), (18, .iaload, 1, 0, 0, 0), (19, .ifCond .ne 7, 3, 0, 0, 0), (22, .iconst 1, 1, 0, 0, 1), (23, .goto 4, 3, 0, 0, 0), (26, .iconst 0, 1, 0, 0, 0), (27, .istore_n 2, 1, 0, 0, 0), (28, .iload_n 2, 1, 0, 0, 0), (29, .ifCond .eq 7, 3, 0, 0, 0), (32, .iload_n 1, 1, 0, 0, 0), (33, .goto 6, 3, 0, 0, 0), (36, .iload_n 1, 1, 0, 0, 0), (37, .iconst 1, 1, 0, 0, 1), (38, .isub, 1, 0, 0, 0), (39, .ireturn, 1, 0, 0, 0)]
def kX10_returnKey : List EN := [(0, .aload_n 0, 1, 0, 0, 0), (1, .getfield 16, 3, 10, 5, 0), (4, .iconst 0, 1, 0, 0, 0), (5, .iaload, 1, 0, 0, 0), (6, .aload_n 0, 1, 0, 0, 0), (7, .bipush 12, 2, 0, 0, 12), (9, .invokevirtual 154, 3, 180, 162, 0), (12, .iadd, 1, 0, 0, 0), (13, .aload_n 0, 1, 0, 0, 0), (14, .iconst 1, 1, 0, 0, 1), (15, .invokevirtual 154, 3, 180, 162, 0), (18, .if_icmp .lt 6, 3, 0, 0, 0), (21, .bipush 6, 2, 0, 0, 6), (23, .ireturn, 1, 0, 0, 0), (24, .aload_n 0, 1, 0, 0, 0), (25, .bipush 7, 2, 0, 0, 7), (27, .invokevirtual 231, 3, 198, 162, 0), (30, .aload_n 0, 1, 0, 0, 0), (31, .getfield 16, 3, 10, 5, 0), (34, .iconst 0, 1, 0, 0, 0), (35, .dup2, 1, 0, 0, 0), (36, .iaload, 1, 0, 0, 0), (37, .aload_n 0, 1, 0, 0, 0), (38, .bipush 12, 2, 0, 0, 12), (40, .invokevirtual 154, 3, 180, 162, 0), (43, .iadd, 1, 0, 0, 0), (44, .iastore, 1, 0, 0, 0), (45, .aload_n 0, 1, 0, 0, 0), (46, .getfield 16, 3, 10, 5, 0), (49, .iconst 1, 1, 0, 0, 1), (50, .aload_n 0, 1, 0, 0, 0), (51, .iconst 2, 1, 0, 0, 2), (52, .invokevirtual 154, 3, 180, 162, 0), (55, .iastore, 1, 0, 0, 0), (56, .aload_n 0, 1, 0, 0, 0), (57, .getfield 16, 3, 10, 5, 0), (60, .iconst 2, 1, 0, 0, 2), (61, .iconst 0, 1, 0, 0, 0), (62, .iastore, 1, 0, 0, 0), (63, .iconst 0, 1, 0, 0, 0), (64, .ireturn, 1, 0, 0, 0)]
def kX10_frees : List EN := [(0, .iconst 5, 1, 0, 0, 5), (1, .istore_n 1, 1, 0, 0, 0), (2, .iload_n 1, 1, 0, 0, 0), (3, .bipush 7, 2, 0, 0, 7), (5, .if_icmp .ge 45, 3, 0, 0, 0), (8, .aload_n 0, 1, 0, 0, 0), (9, .getfield 16, 3, 10, 5, 0), (12, .iload_n 1, 1, 0, 0, 0), (13, .iaload, 1, 0, 0, 0), (14, .iconst (-1), 1, 0, 0, (-1)), (15, .if_icmp .eq 29, 3, 0, 0, 0), (18, .aload_n 0, 1, 0, 0, 0), (19, .getfield 16, 3, 10, 5, 0), (22, .bipush 38, 2, 0, 0, 38), (24, .iconst 2, 1, 0, 0, 2), (25, .aload_n 0, 1, 0, 0, 0), (26, .getfield 16, 3, 10, 5, 0), (29, .iload_n 1, 1, 0, 0, 0), (30, .iaload, 1, 0, 0, 0), (31, .imul, 1, 0, 0, 0), (32, .iadd, 1, 0, 0, 0), (33, .iconst 0, 1, 0, 0, 0), (34, .iadd, 1, 0, 0, 0), (35, .iconst (-1), 1, 0, 0, (-1)), (36, .iastore, 1, 0, 0, 0), (37, .aload_n 0, 1, 0, 0, 0), (38, .getfield 16, 3, 10, 5, 0), (41, .iload_n 1, 1, 0, 0, 0), (42, .iconst (-1), 1, 0, 0, (-1)), (43, .iastore, 1, 0, 0, 0), (44, .iinc 1 1, 3, 0, 0, 1), (47, .goto (-45), 3, 0, 0, 0), (50, .aload_n 0, 1, 0, 0, 0), (51, .getfield 16, 3, 10, 5, 0), (54, .iconst 3, 1, 0, 0, 3), (55, .dup2, 1, 0, 0, 0), (56, .iaload, 1, 0, 0, 0), (57, .bipush 100, 2, 0, 0, 100), (59, .iadd, 1, 0, 0, 0), (60, .iastore, 1, 0, 0, 0), (61, .return_, 1, 0, 0, 0)]
def kX10_goes : List EN := [(0, .iload_n 1, 1, 0, 0, 0), (1, .lookupswitch 55 #[(0, 35), (4, 40), (5, 49)], 35, 0, 0, 0), (36, .aload_n 0, 1, 0, 0, 0), (37, .invokevirtual 262, 3, 206, 161, 0), (40, .ireturn, 1, 0, 0, 0), (41, .aload_n 0, 1, 0, 0, 0), (42, .getfield 16, 3, 10, 5, 0), (45, .iconst 2, 1, 0, 0, 2), (46, .iconst 1, 1, 0, 0, 1), (47, .iastore, 1, 0, 0, 0), (48, .iconst 0, 1, 0, 0, 0), (49, .ireturn, 1, 0, 0, 0), (50, .aload_n 0, 1, 0, 0, 0), (51, .invokevirtual 265, 3, 210, 161, 0), (54, .iconst 0, 1, 0, 0, 0), (55, .ireturn, 1, 0, 0, 0), (56, .aload_n 0, 1, 0, 0, 0), (57, .getfield 16, 3, 10, 5, 0), (60, .iconst 5, 1, 0, 0, 5), (61, .iaload, 1, 0, 0, 0), (62, .iconst (-1), 1, 0, 0, (-1)), (63, .if_icmp .eq 5, 3, 0, 0, 0), (66, .iconst 1, 1, 0, 0, 1), (67, .ireturn, 1, 0, 0, 0), (68, .iload_n 1, 1, 0, 0, 0), (69, .iconst 3, 1, 0, 0, 3), (70, .if_icmp .ne 8, 3, 0, 0, 0), (73, .aload_n 0, 1, 0, 0, 0), (74, .invokevirtual 268, 3, 209, 161, 0), (77, .ireturn, 1, 0, 0, 0), (78, .aload_n 0, 1, 0, 0, 0), (79, .iload_n 1, 1, 0, 0, 0), (80, .iconst 1, 1, 0, 0, 1), (81, .if_icmp .ne 7, 3, 0, 0, 0), (84, .iconst 5, 1, 0, 0, 5), (85, .goto 5, 3, 0, 0, 0), (88, .bipush 6, 2, 0, 0, 6), (90, .invokevirtual 231, 3, 198, 162, 0), (93, .aload_n 0, 1, 0, 0, 0), (94, .getfield 16, 3, 10, 5, 0), (97, .iconst 1, 1, 0, 0, 1), (98, .iload_n 1, 1, 0, 0, 0), (99, .iconst 1, 1, 0, 0, 1), (100, .if_icmp .ne 16, 3, 0, 0, 0), (103, .aload_n 0, 1, 0, 0, 0), (104, .aload_n 0, 1, 0, 0, 0), (105, .getfield 16, 3, 10, 5, 0), (108, .iconst 1, 1, 0, 0, 1), (109, .iaload, 1, 0, 0, 0), (110, .invokevirtual 271, 3, 207, 162, 0), (113, .goto 13, 3, 0, 0, 0), (116, .aload_n 0, 1, 0, 0, 0), (117, .aload_n 0, 1, 0, 0, 0), (118, .getfield 16, 3, 10, 5, 0), (121, .iconst 1, 1, 0, 0, 1), (122, .iaload, 1, 0, 0, 0), (123, .invokevirtual 274, 3, 208, 162, 0), (126, .iastore, 1, 0, 0, 0), (127, .iconst 0, 1, 0, 0, 0), (128, .ireturn, 1, 0, 0, 0)]
def kX10_otherKey : List EN := [(0, .aload_n 0, 1, 0, 0, 0), (1, .invokevirtual 249, 3, 204, 161, 0), (4, .aload_n 0, 1, 0, 0, 0), (5, .aload_n 0, 1, 0, 0, 0), (6, .iload_n 1, 1, 0, 0, 0), (7, .invokevirtual 277, 3, 211, 162, 0), (10, .invokevirtual 259, 3, 203, 162, 0), (13, .ireturn, 1, 0, 0, 0)]
def kX10_isCapital : List EN := [(0, .iload_n 0, 1, 0, 0, 0), (1, .bipush 65, 2, 0, 0, 65), (3, .if_icmp .lt 13, 3, 0, 0, 0), (6, .iload_n 0, 1, 0, 0, 0), (7, .bipush 90, 2, 0, 0, 90), (9, .if_icmp .gt 7, 3, 0, 0, 0), (12, .iconst 1, 1, 0, 0, 1), (13, .goto 4, 3, 0, 0, 0), (16, .iconst 0, 1, 0, 0, 0), (17, .ireturn, 1, 1, 0, 0)]
def kX10_barFor : List EN := [(0, .iload_n 1, 1, 0, 0, 0), (1, .invokestatic 87, 3, 167, 1, 0), (4, .ifCond .eq 11, 3, 0, 0, 0), (7, .aload_n 0, 1, 0, 0, 0), (8, .iload_n 1, 1, 0, 0, 0), (9, .invokevirtual 148, 3, 183, 162, 0), (12, .goto 22, 3, 0, 0, 0), (15, .iload_n 1, 1, 0, 0, 0), (16, .invokestatic 280, 3, 213, 1, 0), (19, .ifCond .eq 14, 3, 0, 0, 0), (22, .aload_n 0, 1, 0, 0, 0), (23, .iload_n 1, 1, 0, 0, 0), (24, .bipush 32, 2, 0, 0, 32), (26, .iadd, 1, 0, 0, 0), (27, .invokevirtual 148, 3, 183, 162, 0), (30, .goto 4, 3, 0, 0, 0), (33, .iconst (-1), 1, 0, 0, (-1)), (34, .ireturn, 1, 0, 0, 0)]
def kX10_keyFor : List EN := [(0, .iload_n 0, 1, 0, 0, 0), (1, .lookupswitch 71 #[(32, 59), (33, 69), (47, 65), (60, 63), (62, 61), (94, 67)], 59, 0, 0, 0), (60, .iconst 0, 1, 0, 0, 0), (61, .ireturn, 1, 0, 0, 0), (62, .iconst 1, 1, 0, 0, 1), (63, .ireturn, 1, 0, 0, 0), (64, .iconst 2, 1, 0, 0, 2), (65, .ireturn, 1, 0, 0, 0), (66, .iconst 3, 1, 0, 0, 3), (67, .ireturn, 1, 0, 0, 0), (68, .iconst 4, 1, 0, 0, 4), (69, .ireturn, 1, 0, 0, 0), (70, .iconst 5, 1, 0, 0, 5), (71, .ireturn, 1, 0, 0, 0), (72, .iconst (-1), 1, 0, 0, (-1)), (73, .ireturn, 1, 0, 0, 0)]
def kX10_types : List EN := [(0, .iload_n 1, 1, 0, 0, 0), (1, .invokestatic 91, 3, 168, 1, 0), (4, .ifCond .eq 21, 3, 0, 0, 0), (7, .aload_n 0, 1, 0, 0, 0), (8, .getfield 16, 3, 10, 5, 0), (11, .iconst 3, 1, 0, 0, 3), (12, .dup2, 1, 0, 0, 0), (13, .iaload, 1, 0, 0, 0), (14, .bipush 10, 2, 0, 0, 10), (16, .iload_n 1, 1, 0, 0, 0), (17, .bipush 48, 2, 0, 0, 48), (19, .isub, 1, 0, 0, 0), (20, .imul, 1, 0, 0, 0), (21, .iadd, 1, 0, 0, 0), (22, .iastore, 1, 0, 0, 0), (23, .iconst 0, 1, 0, 0, 0), (24, .ireturn, 1, 0, 0, 0), (25, .iload_n 1, 1, 0, 0, 0), (26, .invokestatic 283, 3, 215, 1, 0), (29, .iconst (-1), 1, 0, 0, (-1)), (30, .if_icmp .eq 12, 3, 0, 0, 0), (33, .aload_n 0, 1, 0, 0, 0), (34, .iload_n 1, 1, 0, 0, 0), (35, .invokestatic 283, 3, 215, 1, 0), (38, .invokevirtual 286, 3, 212, 162, 0), (41, .ireturn, 1, 0, 0, 0), (42, .aload_n 0, 1, 0, 0, 0), (43, .iload_n 1, 1, 0, 0, 0), (44, .invokevirtual 289, 3, 214, 162, 0), (47, .istore_n 2, 1, 0, 0, 0), (48, .iload_n 2, 1, 0, 0, 0), (49, .iconst (-1), 1, 0, 0, (-1)), (50, .if_icmp .ne 7, 3, 0, 0, 0), (53, .iconst 3, 1, 0, 0, 3), (54, .goto 12, 3, 0, 0, 0), (57, .aload_n 0, 1, 0, 0, 0), (58, .iload_n 2, 1, 0, 0, 0), (59, .iload_n 1, 1, 0, 0, 0), (60, .invokestatic 280, 3, 213, 1, 0), (63, .invokevirtual 292, 3, 205, 163, 0), (66, .ireturn, 1, 0, 0, 0)]
def kX10_typesAll : List EN := [(0, .iconst 0, 1, 0, 0, 0), (1, .istore_n 2, 1, 0, 0, 0), (2, .iconst 0, 1, 0, 0, 0), (3, .istore_n 3, 1, 0, 0, 0), (4, .iload_n 2, 1, 0, 0, 0), (5, .iload_n 1, 1, 0, 0, 0), (6, .if_icmp .ge 36, 3, 0, 0, 0), (9, .iload_n 3, 1, 0, 0, 0), (10, .ifCond .ne 32, 3, 0, 0, 0), (13, .aload_n 0, 1, 0, 0, 0), (14, .aload_n 0, 1, 0, 0, 0), (15, .getfield 29, 3, 10, 10, 0), (18, .iload_n 2, 1, 0, 0, 0), (19, .iaload, 1, 0, 0, 0), (20, .invokevirtual 296, 3, 216, 162, 0), (23, .istore_n 3, 1, 0, 0, 0), (24, .iload_n 2, 1, 0, 0, 0), (25, .iload_n 3, 1, 0, 0, 0), (26, .ifCond .ne 7, 3, 0, 0, 0), (29, .iconst 1, 1, 0, 0, 1), (30, .goto 4, 3, 0, 0, 0), (33, .iconst 0, 1, 0, 0, 0), (34, .invokestatic 299, 3, 159, 1, 0), (37, .iadd, 1, 0, 0, 0), (38, .istore_n 2, 1, 0, 0, 0), (39, .goto (-35), 3, 0, 0, 0), (42, .aload_n 0, 1, 0, 0, 0), (43, .getfield 16, 3, 10, 5, 0), (46, .bipush 36, 2, 0, 0, 36), (48, .iload_n 3, 1, 0, 0, 0), (49, .iastore, 1, 0, 0, 0), (50, .aload_n 0, 1, 0, 0, 0), (51, .getfield 16, 3, 10, 5, 0), (54, .bipush 37, 2, 0, 0, 37), (56, .iload_n 3, 1, 0, 0, 0), (57, .ifCond .ne 7, 3, 0, 0, 0), (60, .iconst (-1), 1, 0, 0, (-1)), (61, .goto 4, 3, 0, 0, 0), (64, .iload_n 2, 1, 0, 0, 0), (65, .iastore, 1, 0, 0, 0), (66, .iload_n 2, 1, 0, 0, 0), (67, .ireturn, 1, 0, 0, 0)]
def kX10_stops : List EN := [(0, .iconst 0, 1, 0, 0, 0), (1, .istore_n 1, 1, 0, 0, 0), (2, .iconst 0, 1, 0, 0, 0), (3, .istore_n 2, 1, 0, 0, 0), (4, .iload_n 2, 1, 0, 0, 0), (5, .aload_n 0, 1, 0, 0, 0), (6, .iconst 0, 1, 0, 0, 0), (7, .invokevirtual 154, 3, 180, 162, 0), (10, .if_icmp .ge 21, 3, 0, 0, 0), (13, .iload_n 1, 1, 0, 0, 0), (14, .aload_n 0, 1, 0, 0, 0), (15, .getfield 16, 3, 10, 5, 0), (18, .bipush 90, 2, 0, 0, 90), (20, .iload_n 2, 1, 0, 0, 0), (21, .iadd, 1, 0, 0, 0), (22, .iaload, 1, 0, 0, 0), (23, .iadd, 1, 0, 0, 0), (24, .istore_n 1, 1, 0, 0, 0), (25, .iinc 2 1, 3, 0, 0, 1), (28, .goto (-24), 3, 0, 0, 0), (31, .iload_n 1, 1, 0, 0, 0), (32, .ireturn, 1, 0, 0, 0)]
def kX10_count : List EN := [(0, .aload_n 0, 1, 0, 0, 0), (1, .invokevirtual 303, 3, 161, 161, 0), (4, .ifCond .ne 26, 3, 0, 0, 0), (7, .aload_n 0, 1, 0, 0, 0), (8, .iload_n 1, 1, 0, 0, 0), (9, .iconst 0, 1, 0, 0, 0), (10, .bipush 13, 2, 0, 0, 13), (12, .invokestatic 130, 3, 158, 3, 0), (15, .ifCond .ne 7, 3, 0, 0, 0), (18, .iconst 1, 1, 0, 0, 1), (19, .goto 4, 3, 0, 0, 0), (22, .iconst 0, 1, 0, 0, 0), (23, .iconst 2, 1, 0, 0, 2), (24, .invokevirtual 61, 3, 160, 163, 0), (27, .ifCond .eq 5, 3, 0, 0, 0), (30, .iconst 0, 1, 0, 0, 0), (31, .ireturn, 1, 0, 0, 0), (32, .iload_n 1, 1, 0, 0, 0), (33, .ifCond .ne 10, 3, 0, 0, 0), (36, .aload_n 0, 1, 0, 0, 0), (37, .getfield 138, 3, 10, 2, 0), (40, .goto 38, 3, 0, 0, 0), (43, .iload_n 1, 1, 0, 0, 0), (44, .iconst 1, 1, 0, 0, 1), (45, .if_icmp .ne 10, 3, 0, 0, 0), (48, .aload_n 0, 1, 0, 0, 0), (49, .invokevirtual 307, 3, 218, 161, 0), (52, .goto 26, 3, 0, 0, 0), (55, .iload_n 1, 1, 0, 0, 0), (56, .iconst 2, 1, 0, 0, 2), (57, .if_icmp .ne 12, 3, 0, 0, 0), (60, .aload_n 0, 1, 0, 0, 0), (61, .getfield 16, 3, 10, 5, 0), (64, .iconst 3, 1, 0, 0, 3), (65, .iaload, 1, 0, 0, 0), (66, .goto 12, 3, 0, 0, 0), (69, .aload_n 0, 1, 0, 0, 0), (70, .getfield 16, 3, 10, 5, 0), (73, .bipush 22, 2, 0, 0, 22), (75, .iload_n 1, 1, 0, 0, 0), (76, .iadd, 1, 0, 0, 0), (77, .iaload, 1, 0, 0, 0), (78, .ireturn, 1, 0, 0, 0)]
def kX10_setting : List EN := [(0, .aload_n 0, 1, 0, 0, 0), (1, .invokevirtual 303, 3, 161, 161, 0), (4, .ifCond .ne 26, 3, 0, 0, 0), (7, .aload_n 0, 1, 0, 0, 0), (8, .iload_n 1, 1, 0, 0, 0), (9, .iconst 0, 1, 0, 0, 0), (10, .bipush 12, 2, 0, 0, 12), (12, .invokestatic 130, 3, 158, 3, 0), (15, .ifCond .ne 7, 3, 0, 0, 0), (18, .iconst 1, 1, 0, 0, 1), (19, .goto 4, 3, 0, 0, 0), (22, .iconst 0, 1, 0, 0, 0), (23, .iconst 2, 1, 0, 0, 2), (24, .invokevirtual 61, 3, 160, 163, 0), (27, .ifCond .eq 7, 3, 0, 0, 0), (30, .iconst 0, 1, 0, 0, 0), (31, .goto 8, 3, 0, 0, 0), (34, .aload_n 0, 1, 0, 0, 0), (35, .iload_n 1, 1, 0, 0, 0), (36, .invokevirtual 154, 3, 180, 162, 0), (39, .ireturn, 1, 0, 0, 0)]
def kX10_carriage : List EN := [(0, .aload_n 0, 1, 0, 0, 0), (1, .invokevirtual 303, 3, 161, 161, 0), (4, .ifCond .ne 25, 3, 0, 0, 0), (7, .aload_n 0, 1, 0, 0, 0), (8, .iload_n 1, 1, 0, 0, 0), (9, .iconst 0, 1, 0, 0, 0), (10, .iconst 3, 1, 0, 0, 3), (11, .invokestatic 130, 3, 158, 3, 0), (14, .ifCond .ne 7, 3, 0, 0, 0), (17, .iconst 1, 1, 0, 0, 1), (18, .goto 4, 3, 0, 0, 0), (21, .iconst 0, 1, 0, 0, 0), (22, .iconst 2, 1, 0, 0, 2), (23, .invokevirtual 61, 3, 160, 163, 0), (26, .ifCond .eq 5, 3, 0, 0, 0), (29, .iconst 0, 1, 0, 0, 0), (30, .ireturn, 1, 0, 0, 0), (31, .iload_n 1, 1, 0, 0, 0), (32, .ifCond .ne 12, 3, 0, 0, 0), (35, .aload_n 0, 1, 0, 0, 0), (36, .getfield 16, 3, 10, 5, 0), (39, .iconst 0, 1, 0, 0, 0), (40, .iaload, 1, 0, 0, 0), (41, .goto 44, 3, 0, 0, 0), (44, .iload_n 1, 1, 0, 0, 0), (45, .iconst 1, 1, 0, 0, 1), (46, .if_icmp .ne 12, 3, 0, 0, 0), (49, .aload_n 0, 1, 0, 0, 0), (50, .getfield 16, 3, 10, 5, 0), (53, .iconst 1, 1, 0, 0, 1), (54, .iaload, 1, 0, 0, 0), (55, .goto 30, 3, 0, 0, 0), (58, .iload_n 1, 1, 0, 0, 0), (59, .iconst 2, 1, 0, 0, 2), (60, .if_icmp .ne 19, 3, 0, 0, 0), (63, .aload_n 0, 1, 0, 0, 0), (64, .aload_n 0, 1, 0, 0, 0), (65, .getfield 16, 3, 10, 5, 0), (68, .iconst 1, 1, 0, 0, 1), (69, .iaload, 1, 0, 0, 0), (70, .invokevirtual 224, 3, 196, 162, 0), (73, .invokestatic 299, 3, 159, 1, 0), (76, .goto 9, 3, 0, 0, 0), (79, .aload_n 0, 1, 0, 0, 0), (80, .getfield 16, 3, 10, 5, 0), (83, .iconst 2, 1, 0, 0, 2), (84, .iaload, 1, 0, 0, 0), (85, .ireturn, 1, 0, 0, 0)]
def kX10_isBar : List EN := [(0, .iload_n 1, 1, 0, 0, 0), (1, .iconst 0, 1, 0, 0, 0), (2, .aload_n 0, 1, 0, 0, 0), (3, .getfield 138, 3, 10, 2, 0), (6, .iconst 1, 1, 0, 0, 1), (7, .isub, 1, 0, 0, 0), (8, .invokestatic 130, 3, 158, 3, 0), (11, .ireturn, 1, 1, 0, 0)]
def kX10_noBar : List EN := [(0, .aload_n 0, 1, 0, 0, 0), (1, .invokevirtual 303, 3, 161, 161, 0), (4, .ifCond .ne 24, 3, 0, 0, 0), (7, .aload_n 0, 1, 0, 0, 0), (8, .aload_n 0, 1, 0, 0, 0), (9, .iload_n 1, 1, 0, 0, 0), (10, .invokevirtual 310, 3, 222, 162, 0), (13, .ifCond .ne 7, 3, 0, 0, 0), (16, .iconst 1, 1, 0, 0, 1), (17, .goto 4, 3, 0, 0, 0), (20, .iconst 0, 1, 0, 0, 0), (21, .iconst 2, 1, 0, 0, 2), (22, .invokevirtual 61, 3, 160, 163, 0), (25, .ifCond .eq 7, 3, 0, 0, 0), (28, .iconst 1, 1, 0, 0, 1), (29, .goto 4, 3, 0, 0, 0), (32, .iconst 0, 1, 0, 0, 0), (33, .ireturn, 1, 1, 0, 0)]
def kX10_bar : List EN := [(0, .aload_n 0, 1, 0, 0, 0), (1, .iload_n 1, 1, 0, 0, 0), (2, .invokevirtual 313, 3, 223, 162, 0), (5, .ifCond .ne 25, 3, 0, 0, 0), (8, .aload_n 0, 1, 0, 0, 0), (9, .iload_n 2, 1, 0, 0, 0), (10, .iconst 0, 1, 0, 0, 0), (11, .iconst 5, 1, 0, 0, 5), (12, .invokestatic 130, 3, 158, 3, 0), (15, .ifCond .ne 7, 3, 0, 0, 0), (18, .iconst 1, 1, 0, 0, 1), (19, .goto 4, 3, 0, 0, 0), (22, .iconst 0, 1, 0, 0, 0), (23, .iconst 3, 1, 0, 0, 3), (24, .invokevirtual 61, 3, 160, 163, 0), (27, .ifCond .eq 5, 3, 0, 0, 0), (30, .iconst 0, 1, 0, 0, 0), (31, .ireturn, 1, 0, 0, 0), (32, .iload_n 2, 1, 0, 0, 0), (33, .tableswitch 81 0 4 #[35, 42, 49, 55, 69], 35, 0, 0, 0), (68, .aload_n 0, 1, 0, 0, 0), (69, .getfield 7, 3, 10, 3, 0), (72, .iload_n 1, 1, 0, 0, 0), (73, .iaload, 1, 0, 0, 0), (74, .ireturn, 1, 0, 0, 0), (75, .aload_n 0, 1, 0, 0, 0), (76, .getfield 13, 3, 10, 4, 0), (79, .iload_n 1, 1, 0, 0, 0), (80, .iaload, 1, 0, 0, 0), (81, .ireturn, 1, 0, 0, 0), (82, .aload_n 0, 1, 0, 0, 0), (83, .iload_n 1, 1, 0, 0, 0), (84, .invokevirtual 212, 3, 192, 162, 0), (87, .ireturn, 1, 0, 0, 0), (88, .aload_n 0, 1, 0, 0, 0), (89, .getfield 16, 3, 10, 5, 0), (92, .bipush 38, 2, 0, 0, 38), (94, .iconst 2, 1, 0, 0, 2), (95, .iload_n 1, 1, 0, 0, 0), (96, .imul, 1, 0, 0, 0), (97, .iadd, 1, 0, 0, 0), (98, .iconst 1, 1, 0, 0, 1), (99, .iadd, 1, 0, 0, 0), (100, .iaload, 1, 0, 0, 0), (101, .ireturn, 1, 0, 0, 0), (102, .aload_n 0, 1, 0, 0, 0), (103, .iload_n 1, 1, 0, 0, 0), (104, .aload_n 0, 1, 0, 0, 0), (105, .getfield 16, 3, 10, 5, 0), (108, .iconst 3, 1, 0, 0, 3), (109, .iaload, 1, 0, 0, 0), (110, .invokevirtual 218, 3, 193, 163, 0), (113, .ireturn, 1, 0, 0, 0), (114, .aload_n 0, 1, 0, 0, 0), (115, .getfield 16, 3, 10, 5, 0), (118, .iconst 5, 1, 0, 0, 5), (119, .iaload, 1, 0, 0, 0), (120, .iload_n 1, 1, 0, 0, 0), (121, .if_icmp .eq 14, 3, 0, 0, 0), (124, .aload_n 0, 1, 0, 0, 0), (125, .getfield 16, 3, 10, 5, 0), (128, .bipush 6, 2, 0, 0, 6), (130, .iaload, 1, 0, 0, 0), (131, .iload_n 1, 1, 0, 0, 0), (132, .if_icmp .ne 7, 3, 0, 0, 0), (135, .iconst 1, 1, 0, 0, 1), (136, .goto 4, 3, 0, 0, 0), (139, .iconst 0, 1, 0, 0, 0), (140, .invokestatic 299, 3, 159, 1, 0), (143, .ireturn, 1, 0, 0, 0)]
def kX10_barOf : List EN := [(0, .aload_n 0, 1, 0, 0, 0), (1, .invokevirtual 303, 3, 161, 161, 0), (4, .ifCond .eq 7, 3, 0, 0, 0), (7, .iconst 0, 1, 0, 0, 0), (8, .goto 8, 3, 0, 0, 0), (11, .aload_n 0, 1, 0, 0, 0), (12, .iload_n 1, 1, 0, 0, 0), (13, .invokevirtual 289, 3, 214, 162, 0), (16, .ireturn, 1, 0, 0, 0)]
def kX10_latest : List EN := [(0, .aload_n 0, 1, 0, 0, 0), (1, .invokevirtual 303, 3, 161, 161, 0), (4, .ifCond .eq 7, 3, 0, 0, 0), (7, .iconst 0, 1, 0, 0, 0), (8, .goto 9, 3, 0, 0, 0), (11, .aload_n 0, 1, 0, 0, 0), (12, .getfield 16, 3, 10, 5, 0), (15, .iconst 4, 1, 0, 0, 4), (16, .iaload, 1, 0, 0, 0), (17, .ireturn, 1, 0, 0, 0)]
def kX10_ribbon : List EN := [(0, .aload_n 0, 1, 0, 0, 0), (1, .invokevirtual 303, 3, 161, 161, 0), (4, .ifCond .ne 32, 3, 0, 0, 0), (7, .aload_n 0, 1, 0, 0, 0), (8, .iload_n 1, 1, 0, 0, 0), (9, .iconst 0, 1, 0, 0, 0), (10, .aload_n 0, 1, 0, 0, 0), (11, .bipush 9, 2, 0, 0, 9), (13, .invokevirtual 154, 3, 180, 162, 0), (16, .iconst 1, 1, 0, 0, 1), (17, .isub, 1, 0, 0, 0), (18, .invokestatic 130, 3, 158, 3, 0), (21, .ifCond .ne 7, 3, 0, 0, 0), (24, .iconst 1, 1, 0, 0, 1), (25, .goto 4, 3, 0, 0, 0), (28, .iconst 0, 1, 0, 0, 0), (29, .iconst 2, 1, 0, 0, 2), (30, .invokevirtual 61, 3, 160, 163, 0), (33, .ifCond .eq 7, 3, 0, 0, 0), (36, .iconst 0, 1, 0, 0, 0), (37, .goto 13, 3, 0, 0, 0), (40, .aload_n 0, 1, 0, 0, 0), (41, .getfield 16, 3, 10, 5, 0), (44, .sipush 130, 3, 0, 0, 130), (47, .iload_n 1, 1, 0, 0, 0), (48, .iadd, 1, 0, 0, 0), (49, .iaload, 1, 0, 0, 0), (50, .ireturn, 1, 0, 0, 0)]
def kX10_allInk : List EN := [(0, .iconst 0, 1, 0, 0, 0), (1, .istore_n 1, 1, 0, 0, 0), (2, .iconst 0, 1, 0, 0, 0), (3, .istore_n 2, 1, 0, 0, 0), (4, .iload_n 2, 1, 0, 0, 0), (5, .aload_n 0, 1, 0, 0, 0), (6, .bipush 9, 2, 0, 0, 9), (8, .invokevirtual 154, 3, 180, 162, 0), (11, .if_icmp .ge 22, 3, 0, 0, 0), (14, .iload_n 1, 1, 0, 0, 0), (15, .aload_n 0, 1, 0, 0, 0), (16, .getfield 16, 3, 10, 5, 0), (19, .sipush 130, 3, 0, 0, 130), (22, .iload_n 2, 1, 0, 0, 0), (23, .iadd, 1, 0, 0, 0), (24, .iaload, 1, 0, 0, 0), (25, .iadd, 1, 0, 0, 0), (26, .istore_n 1, 1, 0, 0, 0), (27, .iinc 2 1, 3, 0, 0, 1), (30, .goto (-26), 3, 0, 0, 0), (33, .iload_n 1, 1, 0, 0, 0), (34, .ireturn, 1, 0, 0, 0)]
def kX10_dryPlaces : List EN := [(0, .iconst 0, 1, 0, 0, 0), (1, .istore_n 1, 1, 0, 0, 0), (2, .iconst 0, 1, 0, 0, 0), (3, .istore_n 2, 1, 0, 0, 0), (4, .iload_n 2, 1, 0, 0, 0), (5, .aload_n 0, 1, 0, 0, 0), (6, .bipush 9, 2, 0, 0, 9), (8, .invokevirtual 154, 3, 180, 162, 0), (11, .if_icmp .ge 33, 3, 0, 0, 0), (14, .iload_n 1, 1, 0, 0, 0), (15, .aload_n 0, 1, 0, 0, 0), (16, .getfield 16, 3, 10, 5, 0), (19, .sipush 130, 3, 0, 0, 130), (22, .iload_n 2, 1, 0, 0, 0), (23, .iadd, 1, 0, 0, 0), (24, .iaload, 1, 0, 0, 0), (25, .ifCond .ne 7, 3, 0, 0, 0), (28, .iconst 1, 1, 0, 0, 1), (29, .goto 4, 3, 0, 0, 0), (32, .iconst 0, 1, 0, 0, 0), (33, .invokestatic 299, 3, 159, 1, 0), (36, .iadd, 1, 0, 0, 0), (37, .istore_n 1, 1, 0, 0, 0), (38, .iinc 2 1, 3, 0, 0, 1), (41, .goto (-37), 3, 0, 0, 0), (44, .iload_n 1, 1, 0, 0, 0), (45, .ireturn, 1, 0, 0, 0)]
def kX10_head : List EN := [(0, .aload_n 0, 1, 0, 0, 0), (1, .invokevirtual 303, 3, 161, 161, 0), (4, .ifCond .ne 25, 3, 0, 0, 0), (7, .aload_n 0, 1, 0, 0, 0), (8, .iload_n 1, 1, 0, 0, 0), (9, .iconst 0, 1, 0, 0, 0), (10, .iconst 3, 1, 0, 0, 3), (11, .invokestatic 130, 3, 158, 3, 0), (14, .ifCond .ne 7, 3, 0, 0, 0), (17, .iconst 1, 1, 0, 0, 1), (18, .goto 4, 3, 0, 0, 0), (21, .iconst 0, 1, 0, 0, 0), (22, .iconst 2, 1, 0, 0, 2), (23, .invokevirtual 61, 3, 160, 163, 0), (26, .ifCond .eq 5, 3, 0, 0, 0), (29, .iconst 0, 1, 0, 0, 0), (30, .ireturn, 1, 0, 0, 0), (31, .iload_n 1, 1, 0, 0, 0), (32, .ifCond .ne 13, 3, 0, 0, 0), (35, .aload_n 0, 1, 0, 0, 0), (36, .getfield 16, 3, 10, 5, 0), (39, .bipush 7, 2, 0, 0, 7), (41, .iaload, 1, 0, 0, 0), (42, .goto 34, 3, 0, 0, 0), (45, .iload_n 1, 1, 0, 0, 0), (46, .iconst 1, 1, 0, 0, 1), (47, .if_icmp .ne 13, 3, 0, 0, 0), (50, .aload_n 0, 1, 0, 0, 0), (51, .getfield 16, 3, 10, 5, 0), (54, .bipush 8, 2, 0, 0, 8), (56, .iaload, 1, 0, 0, 0), (57, .goto 19, 3, 0, 0, 0), (60, .iload_n 1, 1, 0, 0, 0), (61, .iconst 2, 1, 0, 0, 2), (62, .if_icmp .ne 10, 3, 0, 0, 0), (65, .aload_n 0, 1, 0, 0, 0), (66, .invokevirtual 316, 3, 228, 161, 0), (69, .goto 7, 3, 0, 0, 0), (72, .aload_n 0, 1, 0, 0, 0), (73, .invokevirtual 319, 3, 229, 161, 0), (76, .ireturn, 1, 0, 0, 0)]
def kX10_isLine : List EN := [(0, .iload_n 1, 1, 0, 0, 0), (1, .iconst 0, 1, 0, 0, 0), (2, .aload_n 0, 1, 0, 0, 0), (3, .iconst 1, 1, 0, 0, 1), (4, .invokevirtual 154, 3, 180, 162, 0), (7, .iconst 1, 1, 0, 0, 1), (8, .isub, 1, 0, 0, 0), (9, .invokestatic 130, 3, 158, 3, 0), (12, .ireturn, 1, 1, 0, 0)]
def kX10_isColumn : List EN := [(0, .iload_n 1, 1, 0, 0, 0), (1, .iconst 0, 1, 0, 0, 0), (2, .aload_n 0, 1, 0, 0, 0), (3, .iconst 0, 1, 0, 0, 0), (4, .invokevirtual 154, 3, 180, 162, 0), (7, .iconst 1, 1, 0, 0, 1), (8, .isub, 1, 0, 0, 0), (9, .invokestatic 130, 3, 158, 3, 0), (12, .ireturn, 1, 1, 0, 0)]
def kX10_noPlace : List EN := [(0, .aload_n 0, 1, 0, 0, 0), (1, .invokevirtual 303, 3, 161, 161, 0), (4, .ifCond .ne 32, 3, 0, 0, 0), (7, .aload_n 0, 1, 0, 0, 0), (8, .aload_n 0, 1, 0, 0, 0), (9, .iload_n 1, 1, 0, 0, 0), (10, .invokevirtual 322, 3, 231, 162, 0), (13, .ifCond .eq 11, 3, 0, 0, 0), (16, .aload_n 0, 1, 0, 0, 0), (17, .iload_n 2, 1, 0, 0, 0), (18, .invokevirtual 325, 3, 232, 162, 0), (21, .ifCond .ne 7, 3, 0, 0, 0), (24, .iconst 1, 1, 0, 0, 1), (25, .goto 4, 3, 0, 0, 0), (28, .iconst 0, 1, 0, 0, 0), (29, .iconst 2, 1, 0, 0, 2), (30, .invokevirtual 61, 3, 160, 163, 0), (33, .ifCond .eq 7, 3, 0, 0, 0), (36, .iconst 1, 1, 0, 0, 1), (37, .goto 4, 3, 0, 0, 0), (40, .iconst 0, 1, 0, 0, 0), (41, .ireturn, 1, 1, 0, 0)]
def kX10_noLine : List EN := [(0, .aload_n 0, 1, 0, 0, 0), (1, .invokevirtual 303, 3, 161, 161, 0), (4, .ifCond .ne 24, 3, 0, 0, 0), (7, .aload_n 0, 1, 0, 0, 0), (8, .aload_n 0, 1, 0, 0, 0), (9, .iload_n 1, 1, 0, 0, 0), (10, .invokevirtual 322, 3, 231, 162, 0), (13, .ifCond .ne 7, 3, 0, 0, 0), (16, .iconst 1, 1, 0, 0, 1), (17, .goto 4, 3, 0, 0, 0), (20, .iconst 0, 1, 0, 0, 0), (21, .iconst 2, 1, 0, 0, 2), (22, .invokevirtual 61, 3, 160, 163, 0), (25, .ifCond .eq 7, 3, 0, 0, 0), (28, .iconst 1, 1, 0, 0, 1), (29, .goto 4, 3, 0, 0, 0), (32, .iconst 0, 1, 0, 0, 0), (33, .ireturn, 1, 1, 0, 0)]
def kX10_signAt : List EN := [(0, .aload_n 0, 1, 0, 0, 0), (1, .getfield 16, 3, 10, 5, 0), (4, .sipush 190, 3, 0, 0, 190), (7, .bipush 40, 2, 0, 0, 40), (9, .iload_n 1, 1, 0, 0, 0), (10, .imul, 1, 0, 0, 0), (11, .iadd, 1, 0, 0, 0), (12, .iload_n 2, 1, 0, 0, 0), (13, .iadd, 1, 0, 0, 0), (14, .iaload, 1, 0, 0, 0), (15, .ireturn, 1, 0, 0, 0)]
def kX10_darkAt : List EN := [(0, .aload_n 0, 1, 0, 0, 0), (1, .getfield 16, 3, 10, 5, 0), (4, .sipush 670, 3, 0, 0, 670), (7, .bipush 40, 2, 0, 0, 40), (9, .iload_n 1, 1, 0, 0, 0), (10, .imul, 1, 0, 0, 0), (11, .iadd, 1, 0, 0, 0), (12, .iload_n 2, 1, 0, 0, 0), (13, .iadd, 1, 0, 0, 0), (14, .iaload, 1, 0, 0, 0), (15, .ireturn, 1, 0, 0, 0)]
def kX10_sign : List EN := [(0, .aload_n 0, 1, 0, 0, 0), (1, .iload_n 1, 1, 0, 0, 0), (2, .iload_n 2, 1, 0, 0, 0), (3, .invokevirtual 328, 3, 233, 163, 0), (6, .ifCond .eq 5, 3, 0, 0, 0), (9, .iconst 0, 1, 0, 0, 0), (10, .ireturn, 1, 0, 0, 0), (11, .aload_n 0, 1, 0, 0, 0), (12, .iload_n 1, 1, 0, 0, 0), (13, .iload_n 2, 1, 0, 0, 0), (14, .invokevirtual 331, 3, 235, 163, 0), (17, .ifCond .ne 8, 3, 0, 0, 0), (20, .bipush 32, 2, 0, 0, 32), (22, .goto 9, 3, 0, 0, 0), (25, .aload_n 0, 1, 0, 0, 0), (26, .iload_n 1, 1, 0, 0, 0), (27, .iload_n 2, 1, 0, 0, 0), (28, .invokevirtual 331, 3, 235, 163, 0), (31, .ireturn, 1, 0, 0, 0)]
def kX10_darkness : List EN := [(0, .aload_n 0, 1, 0, 0, 0), (1, .iload_n 1, 1, 0, 0, 0), (2, .iload_n 2, 1, 0, 0, 0), (3, .invokevirtual 328, 3, 233, 163, 0), (6, .ifCond .eq 7, 3, 0, 0, 0), (9, .iconst 0, 1, 0, 0, 0), (10, .goto 9, 3, 0, 0, 0), (13, .aload_n 0, 1, 0, 0, 0), (14, .iload_n 1, 1, 0, 0, 0), (15, .iload_n 2, 1, 0, 0, 0), (16, .invokevirtual 334, 3, 236, 163, 0), (19, .ireturn, 1, 0, 0, 0)]
def kX10_isStop : List EN := [(0, .aload_n 0, 1, 0, 0, 0), (1, .invokevirtual 303, 3, 161, 161, 0), (4, .ifCond .ne 41, 3, 0, 0, 0), (7, .aload_n 0, 1, 0, 0, 0), (8, .aload_n 0, 1, 0, 0, 0), (9, .iload_n 1, 1, 0, 0, 0), (10, .invokevirtual 325, 3, 232, 162, 0), (13, .ifCond .ne 7, 3, 0, 0, 0), (16, .iconst 1, 1, 0, 0, 1), (17, .goto 4, 3, 0, 0, 0), (20, .iconst 0, 1, 0, 0, 0), (21, .iconst 2, 1, 0, 0, 2), (22, .invokevirtual 61, 3, 160, 163, 0), (25, .ifCond .ne 20, 3, 0, 0, 0), (28, .aload_n 0, 1, 0, 0, 0), (29, .getfield 16, 3, 10, 5, 0), (32, .bipush 90, 2, 0, 0, 90), (34, .iload_n 1, 1, 0, 0, 0), (35, .iadd, 1, 0, 0, 0), (36, .iaload, 1, 0, 0, 0), (37, .iconst 1, 1, 0, 0, 1), (38, .if_icmp .ne 7, 3, 0, 0, 0), (41, .iconst 1, 1, 0, 0, 1), (42, .goto 4, 3, 0, 0, 0), (45, .iconst 0, 1, 0, 0, 0), (46, .ireturn, 1, 1, 0, 0)]
def kX10_reason : List EN := [(0, .aload_n 0, 1, 0, 0, 0), (1, .invokevirtual 303, 3, 161, 161, 0), (4, .ifCond .eq 7, 3, 0, 0, 0), (7, .iconst 0, 1, 0, 0, 0), (8, .goto 10, 3, 0, 0, 0), (11, .aload_n 0, 1, 0, 0, 0), (12, .getfield 16, 3, 10, 5, 0), (15, .bipush 36, 2, 0, 0, 36), (17, .iaload, 1, 0, 0, 0), (18, .ireturn, 1, 0, 0, 0)]
def kX10_reasonAt : List EN := [(0, .aload_n 0, 1, 0, 0, 0), (1, .invokevirtual 303, 3, 161, 161, 0), (4, .ifCond .eq 7, 3, 0, 0, 0), (7, .iconst 0, 1, 0, 0, 0), (8, .goto 10, 3, 0, 0, 0), (11, .aload_n 0, 1, 0, 0, 0), (12, .getfield 16, 3, 10, 5, 0), (15, .bipush 37, 2, 0, 0, 37), (17, .iaload, 1, 0, 0, 0), (18, .ireturn, 1, 0, 0, 0)]
def kX10_longOf : List EN := [(0, .aload_n 0, 1, 0, 0, 0), (1, .iconst 0, 1, 0, 0, 0), (2, .invokevirtual 154, 3, 180, 162, 0), (5, .istore_n 2, 1, 0, 0, 0), (6, .iload_n 2, 1, 0, 0, 0), (7, .ifCond .le 20, 3, 0, 0, 0), (10, .aload_n 0, 1, 0, 0, 0), (11, .iload_n 1, 1, 0, 0, 0), (12, .iload_n 2, 1, 0, 0, 0), (13, .iconst 1, 1, 0, 0, 1), (14, .isub, 1, 0, 0, 0), (15, .invokevirtual 331, 3, 235, 163, 0), (18, .ifCond .ne 9, 3, 0, 0, 0), (21, .iinc 2 (-1), 3, 0, 0, (-1)), (24, .goto (-18), 3, 0, 0, 0), (27, .iload_n 2, 1, 0, 0, 0), (28, .ireturn, 1, 0, 0, 0)]
def kX10_lineLength : List EN := [(0, .aload_n 0, 1, 0, 0, 0), (1, .iload_n 1, 1, 0, 0, 0), (2, .invokevirtual 337, 3, 234, 162, 0), (5, .ifCond .eq 7, 3, 0, 0, 0), (8, .iconst 0, 1, 0, 0, 0), (9, .goto 8, 3, 0, 0, 0), (12, .aload_n 0, 1, 0, 0, 0), (13, .iload_n 1, 1, 0, 0, 0), (14, .invokevirtual 340, 3, 242, 162, 0), (17, .ireturn, 1, 0, 0, 0)]
def kX10_words : List EN := [(0, .aload_n 0, 1, 0, 0, 0), (1, .iload_n 1, 1, 0, 0, 0), (2, .invokevirtual 337, 3, 234, 162, 0), (5, .ifCond .eq 5, 3, 0, 0, 0), (8, .iconst 0, 1, 0, 0, 0), (9, .ireturn, 1, 0, 0, 0), (10, .iconst 0, 1, 0, 0, 0), (11, .istore_n 2, 1, 0, 0, 0), (12, .iconst 0, 1, 0, 0, 0), (13, .istore_n 3, 1, 0, 0, 0), (14, .iload_n 3, 1, 0, 0, 0), (15, .aload_n 0, 1, 0, 0, 0), (16, .iconst 0, 1, 0, 0, 0), (17, .invokevirtual 154, 3, 180, 162, 0), (20, .if_icmp .ge 44, 3, 0, 0, 0), (23, .iload_n 2, 1, 0, 0, 0), (24, .aload_n 0, 1, 0, 0, 0), (25, .iload_n 1, 1, 0, 0, 0), (26, .iload_n 3, 1, 0, 0, 0), (27, .invokevirtual 331, 3, 235, 163, 0), (30, .ifCond .eq 22, 3, 0, 0, 0), (33, .iload_n 3, 1, 0, 0, 0), (34, .ifCond .eq 14, 3, 0, 0, 0), (37, .aload_n 0, 1, 0, 0, 0), (38, .iload_n 1, 1, 0, 0, 0), (39, .iload_n 3, 1, 0, 0, 0), (40, .iconst 1, 1, 0, 0, 1), (41, .isub, 1, 0, 0, 0), (42, .invokevirtual 331, 3, 235, 163, 0), (45, .ifCond .ne 7, 3, 0, 0, 0), (48, .iconst 1, 1, 0, 0, 1), (49, .goto 4, 3, 0, 0, 0), (52, .iconst 0, 1, 0, 0, 0), (53, .invokestatic 299, 3, 159, 1, 0), (56, .iadd, 1, 0, 0, 0), (57, .istore_n 2, 1, 0, 0, 0), (58, .iinc 3 1, 3, 0, 0, 1), (61, .goto (-47), 3, 0, 0, 0), (64, .iload_n 2, 1, 0, 0, 0), (65, .ireturn, 1, 0, 0, 0)]
def kX10_letters : List EN := [(0, .aload_n 0, 1, 0, 0, 0), (1, .invokevirtual 303, 3, 161, 161, 0), (4, .ifCond .ne 17, 3, 0, 0, 0), (7, .iload_n 1, 1, 0, 0, 0), (8, .invokestatic 87, 3, 167, 1, 0), (11, .ifCond .ne 12, 3, 0, 0, 0), (14, .iload_n 1, 1, 0, 0, 0), (15, .invokestatic 280, 3, 213, 1, 0), (18, .ifCond .ne 5, 3, 0, 0, 0), (21, .iconst 0, 1, 0, 0, 0), (22, .ireturn, 1, 0, 0, 0), (23, .iconst 0, 1, 0, 0, 0), (24, .istore_n 2, 1, 0, 0, 0), (25, .iconst 0, 1, 0, 0, 0), (26, .istore_n 3, 1, 0, 0, 0), (27, .iload_n 3, 1, 0, 0, 0), (28, .sipush 480, 3, 0, 0, 480), (31, .if_icmp .ge 34, 3, 0, 0, 0), (34, .iload_n 2, 1, 0, 0, 0), (35, .aload_n 0, 1, 0, 0, 0), (36, .getfield 16, 3, 10, 5, 0), (39, .sipush 190, 3, 0, 0, 190), (42, .iload_n 3, 1, 0, 0, 0), (43, .iadd, 1, 0, 0, 0), (44, .iaload, 1, 0, 0, 0), (45, .iload_n 1, 1, 0, 0, 0), (46, .if_icmp .ne 7, 3, 0, 0, 0), (49, .iconst 1, 1, 0, 0, 1), (50, .goto 4, 3, 0, 0, 0), (53, .iconst 0, 1, 0, 0, 0), (54, .invokestatic 299, 3, 159, 1, 0), (57, .iadd, 1, 0, 0, 0), (58, .istore_n 2, 1, 0, 0, 0), (59, .iinc 3 1, 3, 0, 0, 1), (62, .goto (-35), 3, 0, 0, 0), (65, .iload_n 2, 1, 0, 0, 0), (66, .ireturn, 1, 0, 0, 0)]
def kX10_filled : List EN := [(0, .iconst 0, 1, 0, 0, 0), (1, .istore_n 1, 1, 0, 0, 0), (2, .iconst 0, 1, 0, 0, 0), (3, .istore_n 2, 1, 0, 0, 0), (4, .iload_n 2, 1, 0, 0, 0), (5, .sipush 480, 3, 0, 0, 480), (8, .if_icmp .ge 33, 3, 0, 0, 0), (11, .iload_n 1, 1, 0, 0, 0), (12, .aload_n 0, 1, 0, 0, 0), (13, .getfield 16, 3, 10, 5, 0), (16, .sipush 190, 3, 0, 0, 190), (19, .iload_n 2, 1, 0, 0, 0), (20, .iadd, 1, 0, 0, 0), (21, .iaload, 1, 0, 0, 0), (22, .ifCond .eq 7, 3, 0, 0, 0), (25, .iconst 1, 1, 0, 0, 1), (26, .goto 4, 3, 0, 0, 0), (29, .iconst 0, 1, 0, 0, 0), (30, .invokestatic 299, 3, 159, 1, 0), (33, .iadd, 1, 0, 0, 0), (34, .istore_n 1, 1, 0, 0, 0), (35, .iinc 2 1, 3, 0, 0, 1), (38, .goto (-34), 3, 0, 0, 0), (41, .iload_n 1, 1, 0, 0, 0), (42, .ireturn, 1, 0, 0, 0)]
def kX10_palest : List EN := [(0, .aload_n 0, 1, 0, 0, 0), (1, .invokevirtual 303, 3, 161, 161, 0), (4, .ifCond .eq 5, 3, 0, 0, 0), (7, .iconst 0, 1, 0, 0, 0), (8, .ireturn, 1, 0, 0, 0), (9, .iconst (-1), 1, 0, 0, (-1)), (10, .istore_n 1, 1, 0, 0, 0), (11, .iconst 0, 1, 0, 0, 0), (12, .istore_n 2, 1, 0, 0, 0), (13, .iload_n 2, 1, 0, 0, 0), (14, .sipush 480, 3, 0, 0, 480), (17, .if_icmp .ge 52, 3, 0, 0, 0), (20, .aload_n 0, 1, 0, 0, 0), (21, .getfield 16, 3, 10, 5, 0), (24, .sipush 190, 3, 0, 0, 190), (27, .iload_n 2, 1, 0, 0, 0), (28, .iadd, 1, 0, 0, 0), (29, .iaload, 1, 0, 0, 0), (30, .ifCond .eq 33, 3, 0, 0, 0), (33, .iload_n 1, 1, 0, 0, 0), (34, .iconst (-1), 1, 0, 0, (-1)), (35, .if_icmp .eq 26, 3, 0, 0, 0), (38, .aload_n 0, 1, 0, 0, 0), (39, .getfield 16, 3, 10, 5, 0), (42, .sipush 670, 3, 0, 0, 670), (45, .iload_n 2, 1, 0, 0, 0), (46, .iadd, 1, 0, 0, 0), (47, .iaload, 1, 0, 0, 0), (48, .aload_n 0, 1, 0, 0, 0), (49, .getfield 16, 3, 10, 5, 0), (52, .sipush 670, 3, 0, 0, 670), (55, .iload_n 1, 1, 0, 0, 0), (56, .iadd, 1, 0, 0, 0), (57, .iaload, 1, 0, 0, 0), (58, .if_icmp .ge 5, 3, 0, 0, 0), (61, .iload_n 2, 1, 0, 0, 0), (62, .istore_n 1, 1, 0, 0, 0), (63, .iinc 2 1, 3, 0, 0, 1), (66, .goto (-53), 3, 0, 0, 0), (69, .iload_n 1, 1, 0, 0, 0), (70, .iconst (-1), 1, 0, 0, (-1)), (71, .if_icmp .ne 7, 3, 0, 0, 0), (74, .iconst (-1), 1, 0, 0, (-1)), (75, .goto 18, 3, 0, 0, 0), (78, .aload_n 0, 1, 0, 0, 0), (79, .iconst 0, 1, 0, 0, 0), (80, .invokevirtual 154, 3, 180, 162, 0), (83, .iload_n 1, 1, 0, 0, 0), (84, .bipush 40, 2, 0, 0, 40), (86, .idiv, 1, 0, 0, 0), (87, .imul, 1, 0, 0, 0), (88, .iload_n 1, 1, 0, 0, 0), (89, .bipush 40, 2, 0, 0, 40), (91, .irem, 1, 0, 0, 0), (92, .iadd, 1, 0, 0, 0), (93, .ireturn, 1, 0, 0, 0)]
def kX10_meanDarkness : List EN := [(0, .aload_n 0, 1, 0, 0, 0), (1, .invokevirtual 303, 3, 161, 161, 0), (4, .ifCond .ne 10, 3, 0, 0, 0), (7, .aload_n 0, 1, 0, 0, 0), (8, .invokevirtual 343, 3, 246, 161, 0), (11, .ifCond .ne 5, 3, 0, 0, 0), (14, .dconst 0, 1, 0, 0, 0), (15, .dreturn, 1, 0, 0, 0), (16, .iconst 0, 1, 0, 0, 0), (17, .istore_n 1, 1, 0, 0, 0), (18, .iconst 0, 1, 0, 0, 0), (19, .istore_n 2, 1, 0, 0, 0), (20, .iload_n 2, 1, 0, 0, 0), (21, .sipush 480, 3, 0, 0, 480), (24, .if_icmp .ge 22, 3, 0, 0, 0), (27, .iload_n 1, 1, 0, 0, 0), (28, .aload_n 0, 1, 0, 0, 0), (29, .getfield 16, 3, 10, 5, 0), (32, .sipush 670, 3, 0, 0, 670), (35, .iload_n 2, 1, 0, 0, 0), (36, .iadd, 1, 0, 0, 0), (37, .iaload, 1, 0, 0, 0), (38, .iadd, 1, 0, 0, 0), (39, .istore_n 1, 1, 0, 0, 0), (40, .iinc 2 1, 3, 0, 0, 1), (43, .goto (-23), 3, 0, 0, 0), (46, .iload_n 1, 1, 0, 0, 0), (47, .i2d, 1, 0, 0, 0), (48, .aload_n 0, 1, 0, 0, 0), (49, .invokevirtual 343, 3, 246, 161, 0), (52, .i2d, 1, 0, 0, 0), (53, .ddiv, 1, 0, 0, 0), (54, .dreturn, 1, 0, 0, 0)]
def kX10_inkShare : List EN := [(0, .aload_n 0, 1, 0, 0, 0), (1, .invokevirtual 303, 3, 161, 161, 0), (4, .ifCond .eq 7, 3, 0, 0, 0), (7, .fconst 0, 1, 0, 0, 0), (8, .goto 23, 3, 0, 0, 0), (11, .aload_n 0, 1, 0, 0, 0), (12, .invokevirtual 316, 3, 228, 161, 0), (15, .i2f, 1, 0, 0, 0), (16, .aload_n 0, 1, 0, 0, 0), (17, .bipush 9, 2, 0, 0, 9), (19, .invokevirtual 154, 3, 180, 162, 0), (22, .aload_n 0, 1, 0, 0, 0), (23, .bipush 10, 2, 0, 0, 10), (25, .invokevirtual 154, 3, 180, 162, 0), (28, .imul, 1, 0, 0, 0), (29, .i2f, 1, 0, 0, 0), (30, .fdiv, 1, 0, 0, 0), (31, .freturn, 1, 0, 0, 0)]
def kX10_slowest : List EN := [(0, .aload_n 0, 1, 0, 0, 0), (1, .invokevirtual 303, 3, 161, 161, 0), (4, .ifCond .eq 5, 3, 0, 0, 0), (7, .iconst 0, 1, 0, 0, 0), (8, .ireturn, 1, 0, 0, 0), (9, .iconst (-1), 1, 0, 0, (-1)), (10, .istore_n 1, 1, 0, 0, 0), (11, .iconst 0, 1, 0, 0, 0), (12, .istore_n 2, 1, 0, 0, 0), (13, .iload_n 2, 1, 0, 0, 0), (14, .aload_n 0, 1, 0, 0, 0), (15, .getfield 138, 3, 10, 2, 0), (18, .if_icmp .ge 33, 3, 0, 0, 0), (21, .iload_n 1, 1, 0, 0, 0), (22, .iconst (-1), 1, 0, 0, (-1)), (23, .if_icmp .eq 16, 3, 0, 0, 0), (26, .aload_n 0, 1, 0, 0, 0), (27, .iload_n 2, 1, 0, 0, 0), (28, .invokevirtual 212, 3, 192, 162, 0), (31, .aload_n 0, 1, 0, 0, 0), (32, .iload_n 1, 1, 0, 0, 0), (33, .invokevirtual 212, 3, 192, 162, 0), (36, .if_icmp .le 7, 3, 0, 0, 0), (39, .iload_n 2, 1, 0, 0, 0), (40, .goto 4, 3, 0, 0, 0), (43, .iload_n 1, 1, 0, 0, 0), (44, .istore_n 1, 1, 0, 0, 0), (45, .iinc 2 1, 3, 0, 0, 1), (48, .goto (-35), 3, 0, 0, 0), (51, .iload_n 1, 1, 0, 0, 0), (52, .ireturn, 1, 0, 0, 0)]
def kX10_nextStop : List EN := [(0, .aload_n 0, 1, 0, 0, 0), (1, .invokevirtual 303, 3, 161, 161, 0), (4, .ifCond .ne 29, 3, 0, 0, 0), (7, .aload_n 0, 1, 0, 0, 0), (8, .iload_n 1, 1, 0, 0, 0), (9, .iconst 0, 1, 0, 0, 0), (10, .aload_n 0, 1, 0, 0, 0), (11, .iconst 0, 1, 0, 0, 0), (12, .invokevirtual 154, 3, 180, 162, 0), (15, .invokestatic 130, 3, 158, 3, 0), (18, .ifCond .ne 7, 3, 0, 0, 0), (21, .iconst 1, 1, 0, 0, 1), (22, .goto 4, 3, 0, 0, 0), (25, .iconst 0, 1, 0, 0, 0), (26, .iconst 2, 1, 0, 0, 2), (27, .invokevirtual 61, 3, 160, 163, 0), (30, .ifCond .eq 7, 3, 0, 0, 0), (33, .iconst 0, 1, 0, 0, 0), (34, .goto 8, 3, 0, 0, 0), (37, .aload_n 0, 1, 0, 0, 0), (38, .iload_n 1, 1, 0, 0, 0), (39, .invokevirtual 271, 3, 207, 162, 0), (42, .ireturn, 1, 0, 0, 0)]
def kX10_bellIn : List EN := [(0, .aload_n 0, 1, 0, 0, 0), (1, .invokevirtual 303, 3, 161, 161, 0), (4, .ifCond .eq 5, 3, 0, 0, 0), (7, .iconst 0, 1, 0, 0, 0), (8, .ireturn, 1, 0, 0, 0), (9, .aload_n 0, 1, 0, 0, 0), (10, .iconst 3, 1, 0, 0, 3), (11, .invokevirtual 154, 3, 180, 162, 0), (14, .aload_n 0, 1, 0, 0, 0), (15, .iconst 4, 1, 0, 0, 4), (16, .invokevirtual 154, 3, 180, 162, 0), (19, .isub, 1, 0, 0, 0), (20, .istore_n 1, 1, 0, 0, 0), (21, .aload_n 0, 1, 0, 0, 0), (22, .getfield 16, 3, 10, 5, 0), (25, .iconst 1, 1, 0, 0, 1), (26, .iaload, 1, 0, 0, 0), (27, .istore_n 2, 1, 0, 0, 0), (28, .aload_n 0, 1, 0, 0, 0), (29, .iload_n 2, 1, 0, 0, 0), (30, .invokevirtual 224, 3, 196, 162, 0), (33, .ifCond .ne 27, 3, 0, 0, 0), (36, .iload_n 2, 1, 0, 0, 0), (37, .iconst 1, 1, 0, 0, 1), (38, .iadd, 1, 0, 0, 0), (39, .iload_n 1, 1, 0, 0, 0), (40, .if_icmp .ne 14, 3, 0, 0, 0), (43, .iload_n 2, 1, 0, 0, 0), (44, .iconst 1, 1, 0, 0, 1), (45, .iadd, 1, 0, 0, 0), (46, .aload_n 0, 1, 0, 0, 0), (47, .getfield 16, 3, 10, 5, 0), (50, .iconst 1, 1, 0, 0, 1), (51, .iaload, 1, 0, 0, 0), (52, .isub, 1, 0, 0, 0), (53, .ireturn, 1, 0, 0, 0), (54, .iinc 2 1, 3, 0, 0, 1), (57, .goto (-29), 3, 0, 0, 0), (60, .iconst (-1), 1, 0, 0, (-1)), (61, .ireturn, 1, 0, 0, 0)]
def kX10_wouldBe : List EN := [(0, .aload_n 0, 1, 0, 0, 0), (1, .iload_n 1, 1, 0, 0, 0), (2, .invokevirtual 313, 3, 223, 162, 0), (5, .ifCond .eq 7, 3, 0, 0, 0), (8, .iconst 0, 1, 0, 0, 0), (9, .goto 20, 3, 0, 0, 0), (12, .aload_n 0, 1, 0, 0, 0), (13, .iload_n 1, 1, 0, 0, 0), (14, .aload_n 0, 1, 0, 0, 0), (15, .getfield 16, 3, 10, 5, 0), (18, .iconst 3, 1, 0, 0, 3), (19, .iaload, 1, 0, 0, 0), (20, .aload_n 0, 1, 0, 0, 0), (21, .iconst 5, 1, 0, 0, 5), (22, .invokevirtual 154, 3, 180, 162, 0), (25, .iadd, 1, 0, 0, 0), (26, .invokevirtual 252, 3, 197, 163, 0), (29, .ireturn, 1, 0, 0, 0)]
def kX10_freeIn : List EN := [(0, .aload_n 0, 1, 0, 0, 0), (1, .iload_n 1, 1, 0, 0, 0), (2, .invokevirtual 313, 3, 223, 162, 0), (5, .ifCond .eq 5, 3, 0, 0, 0), (8, .iconst 0, 1, 0, 0, 0), (9, .ireturn, 1, 0, 0, 0), (10, .iconst 1, 1, 0, 0, 1), (11, .istore_n 2, 1, 0, 0, 0), (12, .iload_n 2, 1, 0, 0, 0), (13, .sipush 999, 3, 0, 0, 999), (16, .if_icmp .gt 43, 3, 0, 0, 0), (19, .aload_n 0, 1, 0, 0, 0), (20, .iload_n 1, 1, 0, 0, 0), (21, .aload_n 0, 1, 0, 0, 0), (22, .getfield 16, 3, 10, 5, 0), (25, .iconst 3, 1, 0, 0, 3), (26, .iaload, 1, 0, 0, 0), (27, .iload_n 2, 1, 0, 0, 0), (28, .iadd, 1, 0, 0, 0), (29, .invokevirtual 218, 3, 193, 163, 0), (32, .ifCond .ne 21, 3, 0, 0, 0), (35, .aload_n 0, 1, 0, 0, 0), (36, .iload_n 1, 1, 0, 0, 0), (37, .aload_n 0, 1, 0, 0, 0), (38, .getfield 16, 3, 10, 5, 0), (41, .iconst 3, 1, 0, 0, 3), (42, .iaload, 1, 0, 0, 0), (43, .iload_n 2, 1, 0, 0, 0), (44, .iadd, 1, 0, 0, 0), (45, .invokevirtual 227, 3, 195, 163, 0), (48, .ifCond .ne 5, 3, 0, 0, 0), (51, .iload_n 2, 1, 0, 0, 0), (52, .ireturn, 1, 0, 0, 0), (53, .iinc 2 1, 3, 0, 0, 1), (56, .goto (-44), 3, 0, 0, 0), (59, .iconst (-1), 1, 0, 0, (-1)), (60, .ireturn, 1, 0, 0, 0)]
def kX10_paceBetween : List EN := [(0, .iconst 1, 1, 0, 0, 1), (1, .istore_n 3, 1, 0, 0, 0), (2, .iload_n 3, 1, 0, 0, 0), (3, .iconst 2, 1, 0, 0, 2), (4, .aload_n 0, 1, 0, 0, 0), (5, .iload_n 1, 1, 0, 0, 0), (6, .invokevirtual 212, 3, 192, 162, 0), (9, .imul, 1, 0, 0, 0), (10, .if_icmp .ge 53, 3, 0, 0, 0), (13, .iload_n 3, 1, 0, 0, 0), (14, .aload_n 0, 1, 0, 0, 0), (15, .iload_n 2, 1, 0, 0, 0), (16, .invokevirtual 212, 3, 192, 162, 0), (19, .iadd, 1, 0, 0, 0), (20, .aload_n 0, 1, 0, 0, 0), (21, .iload_n 1, 1, 0, 0, 0), (22, .invokevirtual 212, 3, 192, 162, 0), (25, .isub, 1, 0, 0, 0), (26, .invokestatic 204, 3, 1002, 0, 0), (29, .aload_n 0, 1, 0, 0, 0), (30, .iload_n 1, 1, 0, 0, 0), (31, .iload_n 2, 1, 0, 0, 0), (32, .invokevirtual 221, 3, 194, 163, 0), (35, .if_icmp .ge 7, 3, 0, 0, 0), (38, .iconst 1, 1, 0, 0, 1), (39, .goto 4, 3, 0, 0, 0), (42, .iconst 0, 1, 0, 0, 0), (43, .istore 4, 2, 0, 0, 0), (45, .iload_n 1, 1, 0, 0, 0), (46, .iload_n 2, 1, 0, 0, 0), (47, .if_icmp .eq 10, 3, 0, 0, 0), (50, .iload 4, 2, 0, 0, 0), (52, .ifCond .ne 5, 3, 0, 0, 0), (55, .iload_n 3, 1, 0, 0, 0), (56, .ireturn, 1, 0, 0, 0), (57, .iinc 3 1, 3, 0, 0, 1), (60, .goto (-58), 3, 0, 0, 0), (63, .iconst 2, 1, 0, 0, 2), (64, .aload_n 0, 1, 0, 0, 0), (65, .iload_n 1, 1, 0, 0, 0), (66, .invokevirtual 212, 3, 192, 162, 0), (69, .imul, 1, 0, 0, 0), (70, .ireturn, 1, 0, 0, 0)]
def kX10_paceOf : List EN := [(0, .aload_n 0, 1, 0, 0, 0), (1, .iload_n 1, 1, 0, 0, 0), (2, .invokevirtual 313, 3, 223, 162, 0), (5, .ifCond .ne 24, 3, 0, 0, 0), (8, .aload_n 0, 1, 0, 0, 0), (9, .aload_n 0, 1, 0, 0, 0), (10, .iload_n 2, 1, 0, 0, 0), (11, .invokevirtual 310, 3, 222, 162, 0), (14, .ifCond .ne 7, 3, 0, 0, 0), (17, .iconst 1, 1, 0, 0, 1), (18, .goto 4, 3, 0, 0, 0), (21, .iconst 0, 1, 0, 0, 0), (22, .iconst 2, 1, 0, 0, 2), (23, .invokevirtual 61, 3, 160, 163, 0), (26, .ifCond .eq 7, 3, 0, 0, 0), (29, .iconst 0, 1, 0, 0, 0), (30, .goto 9, 3, 0, 0, 0), (33, .aload_n 0, 1, 0, 0, 0), (34, .iload_n 1, 1, 0, 0, 0), (35, .iload_n 2, 1, 0, 0, 0), (36, .invokevirtual 346, 3, 255, 163, 0), (39, .ireturn, 1, 0, 0, 0)]
def kX10_worstPair : List EN := [(0, .aload_n 0, 1, 0, 0, 0), (1, .invokevirtual 303, 3, 161, 161, 0), (4, .ifCond .eq 5, 3, 0, 0, 0), (7, .iconst 0, 1, 0, 0, 0), (8, .ireturn, 1, 0, 0, 0), (9, .iconst (-1), 1, 0, 0, (-1)), (10, .istore_n 1, 1, 0, 0, 0), (11, .iconst 0, 1, 0, 0, 0), (12, .istore_n 2, 1, 0, 0, 0), (13, .iconst 0, 1, 0, 0, 0), (14, .istore_n 3, 1, 0, 0, 0), (15, .iload_n 3, 1, 0, 0, 0), (16, .aload_n 0, 1, 0, 0, 0), (17, .getfield 138, 3, 10, 2, 0), (20, .if_icmp .ge 61, 3, 0, 0, 0), (23, .iconst 0, 1, 0, 0, 0), (24, .istore 4, 2, 0, 0, 0), (26, .iload 4, 2, 0, 0, 0), (28, .aload_n 0, 1, 0, 0, 0), (29, .getfield 138, 3, 10, 2, 0), (32, .if_icmp .ge 43, 3, 0, 0, 0), (35, .aload_n 0, 1, 0, 0, 0), (36, .iload_n 3, 1, 0, 0, 0), (37, .iload 4, 2, 0, 0, 0), (39, .invokevirtual 346, 3, 255, 163, 0), (42, .istore 5, 2, 0, 0, 0), (44, .iload 5, 2, 0, 0, 0), (46, .iload_n 2, 1, 0, 0, 0), (47, .if_icmp .le 13, 3, 0, 0, 0), (50, .bipush 100, 2, 0, 0, 100), (52, .iload_n 3, 1, 0, 0, 0), (53, .imul, 1, 0, 0, 0), (54, .iload 4, 2, 0, 0, 0), (56, .iadd, 1, 0, 0, 0), (57, .goto 4, 3, 0, 0, 0), (60, .iload_n 1, 1, 0, 0, 0), (61, .istore_n 1, 1, 0, 0, 0), (62, .iload_n 2, 1, 0, 0, 0), (63, .iload 5, 2, 0, 0, 0), (65, .invokestatic 215, 3, 1000, 0, 0), (68, .istore_n 2, 1, 0, 0, 0), (69, .iinc 4 1, 3, 0, 0, 1), (72, .goto (-46), 3, 0, 0, 0), (75, .iinc 3 1, 3, 0, 0, 1), (78, .goto (-63), 3, 0, 0, 0), (81, .iload_n 1, 1, 0, 0, 0), (82, .ireturn, 1, 0, 0, 0)]
def kX10_putsAside : List EN := [(0, .iconst 0, 1, 0, 0, 0), (1, .istore_n 1, 1, 0, 0, 0), (2, .iload_n 1, 1, 0, 0, 0), (3, .sipush 1150, 3, 0, 0, 1150), (6, .if_icmp .ge 21, 3, 0, 0, 0), (9, .aload_n 0, 1, 0, 0, 0), (10, .getfield 19, 3, 10, 6, 0), (13, .iload_n 1, 1, 0, 0, 0), (14, .aload_n 0, 1, 0, 0, 0), (15, .getfield 16, 3, 10, 5, 0), (18, .iload_n 1, 1, 0, 0, 0), (19, .iaload, 1, 0, 0, 0), (20, .iastore, 1, 0, 0, 0), (21, .iinc 1 1, 3, 0, 0, 1), (24, .goto (-22), 3, 0, 0, 0), (27, .return_, 1, 0, 0, 0)]
def kX10_fetchesBack : List EN := [(0, .iconst 0, 1, 0, 0, 0), (1, .istore_n 2, 1, 0, 0, 0), (2, .iload_n 2, 1, 0, 0, 0), (3, .sipush 1150, 3, 0, 0, 1150), (6, .if_icmp .ge 21, 3, 0, 0, 0), (9, .aload_n 0, 1, 0, 0, 0), (10, .getfield 16, 3, 10, 5, 0), (13, .iload_n 2, 1, 0, 0, 0), (14, .aload_n 0, 1, 0, 0, 0), (15, .getfield 19, 3, 10, 6, 0), (18, .iload_n 2, 1, 0, 0, 0), (19, .iaload, 1, 0, 0, 0), (20, .iastore, 1, 0, 0, 0), (21, .iinc 2 1, 3, 0, 0, 1), (24, .goto (-22), 3, 0, 0, 0), (27, .iload_n 1, 1, 0, 0, 0), (28, .ireturn, 1, 0, 0, 0)]
def kX10_noBytes : List EN := [(0, .aload_n 0, 1, 0, 0, 0), (1, .invokevirtual 303, 3, 161, 161, 0), (4, .ifCond .ne 28, 3, 0, 0, 0), (7, .aload_n 0, 1, 0, 0, 0), (8, .iload_n 1, 1, 0, 0, 0), (9, .iconst 0, 1, 0, 0, 0), (10, .aload_n 0, 1, 0, 0, 0), (11, .getfield 65, 3, 10, 11, 0), (14, .invokestatic 130, 3, 158, 3, 0), (17, .ifCond .ne 7, 3, 0, 0, 0), (20, .iconst 1, 1, 0, 0, 1), (21, .goto 4, 3, 0, 0, 0), (24, .iconst 0, 1, 0, 0, 0), (25, .iconst 2, 1, 0, 0, 2), (26, .invokevirtual 61, 3, 160, 163, 0), (29, .ifCond .eq 7, 3, 0, 0, 0), (32, .iconst 1, 1, 0, 0, 1), (33, .goto 4, 3, 0, 0, 0), (36, .iconst 0, 1, 0, 0, 0), (37, .ireturn, 1, 1, 0, 0)]
def kX10_wouldType : List EN := [(0, .aload_n 0, 1, 0, 0, 0), (1, .iload_n 1, 1, 0, 0, 0), (2, .invokevirtual 349, 3, 260, 162, 0), (5, .ifCond .ne 25, 3, 0, 0, 0), (8, .aload_n 0, 1, 0, 0, 0), (9, .iload_n 2, 1, 0, 0, 0), (10, .iconst 0, 1, 0, 0, 0), (11, .iconst 5, 1, 0, 0, 5), (12, .invokestatic 130, 3, 158, 3, 0), (15, .ifCond .ne 7, 3, 0, 0, 0), (18, .iconst 1, 1, 0, 0, 1), (19, .goto 4, 3, 0, 0, 0), (22, .iconst 0, 1, 0, 0, 0), (23, .iconst 3, 1, 0, 0, 3), (24, .invokevirtual 61, 3, 160, 163, 0), (27, .ifCond .eq 5, 3, 0, 0, 0), (30, .iconst 0, 1, 0, 0, 0), (31, .ireturn, 1, 0, 0, 0), (32, .aload_n 0, 1, 0, 0, 0), (33, .invokevirtual 352, 3, 258, 161, 0), (36, .aload_n 0, 1, 0, 0, 0), (37, .getfield 16, 3, 10, 5, 0), (40, .bipush 32, 2, 0, 0, 32), (42, .iaload, 1, 0, 0, 0), (43, .istore_n 3, 1, 0, 0, 0), (44, .aload_n 0, 1, 0, 0, 0), (45, .iconst 0, 1, 0, 0, 0), (46, .putfield 237, 3, 10, 25, 0), (49, .aload_n 0, 1, 0, 0, 0), (50, .iload_n 1, 1, 0, 0, 0), (51, .invokevirtual 355, 3, 217, 162, 0), (54, .istore 4, 2, 0, 0, 0), (56, .iload_n 2, 1, 0, 0, 0), (57, .tableswitch 90 0 4 #[35, 42, 54, 65, 76], 35, 0, 0, 0), (92, .aload_n 0, 1, 0, 0, 0), (93, .iload 4, 2, 0, 0, 0), (95, .invokevirtual 358, 3, 259, 162, 0), (98, .ireturn, 1, 0, 0, 0), (99, .aload_n 0, 1, 0, 0, 0), (100, .aload_n 0, 1, 0, 0, 0), (101, .getfield 16, 3, 10, 5, 0), (104, .bipush 36, 2, 0, 0, 36), (106, .iaload, 1, 0, 0, 0), (107, .invokevirtual 358, 3, 259, 162, 0), (110, .ireturn, 1, 0, 0, 0), (111, .aload_n 0, 1, 0, 0, 0), (112, .aload_n 0, 1, 0, 0, 0), (113, .getfield 16, 3, 10, 5, 0), (116, .iconst 1, 1, 0, 0, 1), (117, .iaload, 1, 0, 0, 0), (118, .invokevirtual 358, 3, 259, 162, 0), (121, .ireturn, 1, 0, 0, 0), (122, .aload_n 0, 1, 0, 0, 0), (123, .aload_n 0, 1, 0, 0, 0), (124, .getfield 16, 3, 10, 5, 0), (127, .iconst 0, 1, 0, 0, 0), (128, .iaload, 1, 0, 0, 0), (129, .invokevirtual 358, 3, 259, 162, 0), (132, .ireturn, 1, 0, 0, 0), (133, .aload_n 0, 1, 0, 0, 0), (134, .aload_n 0, 1, 0, 0, 0), (135, .getfield 16, 3, 10, 5, 0), (138, .bipush 32, 2, 0, 0, 32), (140, .iaload, 1, 0, 0, 0), (141, .iload_n 3, 1, 0, 0, 0), (142, .isub, 1, 0, 0, 0), (143, .invokevirtual 358, 3, 259, 162, 0), (146, .ireturn, 1, 0, 0, 0), (147, .aload_n 0, 1, 0, 0, 0), (148, .aload_n 0, 1, 0, 0, 0), (149, .getfield 237, 3, 10, 25, 0), (152, .invokevirtual 358, 3, 259, 162, 0), (155, .ireturn, 1, 0, 0, 0)]
def kX10_paceFor : List EN := [(0, .aload_n 0, 1, 0, 0, 0), (1, .iload_n 1, 1, 0, 0, 0), (2, .invokevirtual 349, 3, 260, 162, 0), (5, .ifCond .eq 5, 3, 0, 0, 0), (8, .iconst 0, 1, 0, 0, 0), (9, .ireturn, 1, 0, 0, 0), (10, .aload_n 0, 1, 0, 0, 0), (11, .invokevirtual 352, 3, 258, 161, 0), (14, .iconst 1, 1, 0, 0, 1), (15, .istore_n 2, 1, 0, 0, 0), (16, .iload_n 2, 1, 0, 0, 0), (17, .sipush 300, 3, 0, 0, 300), (20, .if_icmp .gt 48, 3, 0, 0, 0), (23, .aload_n 0, 1, 0, 0, 0), (24, .iconst 5, 1, 0, 0, 5), (25, .iload_n 2, 1, 0, 0, 0), (26, .invokevirtual 144, 3, 181, 163, 0), (29, .aload_n 0, 1, 0, 0, 0), (30, .iload_n 1, 1, 0, 0, 0), (31, .invokevirtual 355, 3, 217, 162, 0), (34, .istore_n 3, 1, 0, 0, 0), (35, .aload_n 0, 1, 0, 0, 0), (36, .aload_n 0, 1, 0, 0, 0), (37, .getfield 16, 3, 10, 5, 0), (40, .bipush 36, 2, 0, 0, 36), (42, .iaload, 1, 0, 0, 0), (43, .invokevirtual 358, 3, 259, 162, 0), (46, .istore 4, 2, 0, 0, 0), (48, .iload 4, 2, 0, 0, 0), (50, .iconst 4, 1, 0, 0, 4), (51, .if_icmp .eq 11, 3, 0, 0, 0), (54, .iload 4, 2, 0, 0, 0), (56, .iconst 5, 1, 0, 0, 5), (57, .if_icmp .eq 5, 3, 0, 0, 0), (60, .iload_n 2, 1, 0, 0, 0), (61, .ireturn, 1, 0, 0, 0), (62, .iinc 2 1, 3, 0, 0, 1), (65, .goto (-49), 3, 0, 0, 0), (68, .iconst (-1), 1, 0, 0, (-1)), (69, .ireturn, 1, 0, 0, 0)]
def kX10_reaches : List EN := [(0, .aload_n 0, 1, 0, 0, 0), (1, .getfield 45, 3, 10, 26, 0), (4, .iload_n 1, 1, 0, 0, 0), (5, .iaload, 1, 0, 0, 0), (6, .iconst (-1), 1, 0, 0, (-1)), (7, .if_icmp .ne 30, 3, 0, 0, 0), (10, .aload_n 0, 1, 0, 0, 0), (11, .getfield 45, 3, 10, 26, 0), (14, .iload_n 1, 1, 0, 0, 0), (15, .iload_n 2, 1, 0, 0, 0), (16, .iastore, 1, 0, 0, 0), (17, .aload_n 0, 1, 0, 0, 0), (18, .getfield 48, 3, 10, 27, 0), (21, .aload_n 0, 1, 0, 0, 0), (22, .getfield 361, 3, 10, 28, 0), (25, .iload_n 1, 1, 0, 0, 0), (26, .iastore, 1, 0, 0, 0), (27, .aload_n 0, 1, 0, 0, 0), (28, .dup, 1, 0, 0, 0), (29, .getfield 361, 3, 10, 28, 0), (32, .iconst 1, 1, 0, 0, 1), (33, .iadd, 1, 0, 0, 0), (34, .putfield 361, 3, 10, 28, 0), (37, .return_, 1, 0, 0, 0)]
def kX10_keysTo : List EN := [(0, .aload_n 0, 1, 0, 0, 0), (1, .invokevirtual 303, 3, 161, 161, 0), (4, .ifCond .ne 29, 3, 0, 0, 0), (7, .aload_n 0, 1, 0, 0, 0), (8, .iload_n 1, 1, 0, 0, 0), (9, .iconst 0, 1, 0, 0, 0), (10, .aload_n 0, 1, 0, 0, 0), (11, .iconst 0, 1, 0, 0, 0), (12, .invokevirtual 154, 3, 180, 162, 0), (15, .invokestatic 130, 3, 158, 3, 0), (18, .ifCond .ne 7, 3, 0, 0, 0), (21, .iconst 1, 1, 0, 0, 1), (22, .goto 4, 3, 0, 0, 0), (25, .iconst 0, 1, 0, 0, 0), (26, .iconst 2, 1, 0, 0, 2), (27, .invokevirtual 61, 3, 160, 163, 0), (30, .ifCond .eq 5, 3, 0, 0, 0), (33, .iconst 0, 1, 0, 0, 0), (34, .ireturn, 1, 0, 0, 0), (35, .iconst 0, 1, 0, 0, 0), (36, .istore_n 2, 1, 0, 0, 0), (37, .iload_n 2, 1, 0, 0, 0), (38, .bipush 40, 2, 0, 0, 40), (40, .if_icmp .gt 16, 3, 0, 0, 0), (43, .aload_n 0, 1, 0, 0, 0), (44, .getfield 45, 3, 10, 26, 0), (47, .iload_n 2, 1, 0, 0, 0), (48, .iconst (-1), 1, 0, 0, (-1)), (49, .iastore, 1, 0, 0, 0), (50, .iinc 2 1, 3, 0, 0, 1), (53, .goto (-16), 3, 0, 0, 0), (56, .aload_n 0, 1, 0, 0, 0), (57, .iconst 0, 1, 0, 0, 0), (58, .putfield 361, 3, 10, 28, 0), (61, .aload_n 0, 1, 0, 0, 0), (62, .aload_n 0, 1, 0, 0, 0), (63, .getfield 16, 3, 10, 5, 0), (66, .iconst 1, 1, 0, 0, 1), (67, .iaload, 1, 0, 0, 0), (68, .iconst 0, 1, 0, 0, 0), (69, .invokevirtual 364, 3, 263, 163, 0), (72, .iconst 0, 1, 0, 0, 0), (73, .istore_n 2, 1, 0, 0, 0), (74, .iload_n 2, 1, 0, 0, 0), (75, .aload_n 0, 1, 0, 0, 0), (76, .getfield 361, 3, 10, 28, 0), (79, .if_icmp .ge 73, 3, 0, 0, 0), (82, .aload_n 0, 1, 0, 0, 0), (83, .getfield 48, 3, 10, 27, 0), (86, .iload_n 2, 1, 0, 0, 0), (87, .iaload, 1, 0, 0, 0), (88, .istore_n 3, 1, 0, 0, 0), (89, .aload_n 0, 1, 0, 0, 0), (90, .aload_n 0, 1, 0, 0, 0), (91, .iload_n 3, 1, 0, 0, 0), (92, .invokevirtual 271, 3, 207, 162, 0), (95, .aload_n 0, 1, 0, 0, 0), (96, .getfield 45, 3, 10, 26, 0), (99, .iload_n 3, 1, 0, 0, 0), (100, .iaload, 1, 0, 0, 0), (101, .iconst 1, 1, 0, 0, 1), (102, .iadd, 1, 0, 0, 0), (103, .invokevirtual 364, 3, 263, 163, 0), (106, .aload_n 0, 1, 0, 0, 0), (107, .aload_n 0, 1, 0, 0, 0), (108, .iload_n 3, 1, 0, 0, 0), (109, .invokevirtual 274, 3, 208, 162, 0), (112, .aload_n 0, 1, 0, 0, 0), (113, .getfield 45, 3, 10, 26, 0), (116, .iload_n 3, 1, 0, 0, 0), (117, .iaload, 1, 0, 0, 0), (118, .iconst 1, 1, 0, 0, 1), (119, .iadd, 1, 0, 0, 0), (120, .invokevirtual 364, 3, 263, 163, 0), (123, .aload_n 0, 1, 0, 0, 0), (124, .iload_n 3, 1, 0, 0, 0), (125, .invokevirtual 224, 3, 196, 162, 0), (128, .ifCond .ne 18, 3, 0, 0, 0), (131, .aload_n 0, 1, 0, 0, 0), (132, .iload_n 3, 1, 0, 0, 0), (133, .iconst 1, 1, 0, 0, 1), (134, .iadd, 1, 0, 0, 0), (135, .aload_n 0, 1, 0, 0, 0), (136, .getfield 45, 3, 10, 26, 0), (139, .iload_n 3, 1, 0, 0, 0), (140, .iaload, 1, 0, 0, 0), (141, .iconst 1, 1, 0, 0, 1), (142, .iadd, 1, 0, 0, 0), (143, .invokevirtual 364, 3, 263, 163, 0), (146, .iinc 2 1, 3, 0, 0, 1), (149, .goto (-75), 3, 0, 0, 0), (152, .aload_n 0, 1, 0, 0, 0), (153, .getfield 45, 3, 10, 26, 0), (156, .iload_n 1, 1, 0, 0, 0), (157, .iaload, 1, 0, 0, 0), (158, .ireturn, 1, 0, 0, 0)]
def kX10_printsLeft : List EN := [(0, .aload_n 0, 1, 0, 0, 0), (1, .invokevirtual 303, 3, 161, 161, 0), (4, .ifCond .eq 5, 3, 0, 0, 0), (7, .iconst 0, 1, 0, 0, 0), (8, .ireturn, 1, 0, 0, 0), (9, .aload_n 0, 1, 0, 0, 0), (10, .invokevirtual 352, 3, 258, 161, 0), (13, .iconst 0, 1, 0, 0, 0), (14, .istore_n 1, 1, 0, 0, 0), (15, .iload_n 1, 1, 0, 0, 0), (16, .sipush 2000, 3, 0, 0, 2000), (19, .if_icmp .ge 68, 3, 0, 0, 0), (22, .aload_n 0, 1, 0, 0, 0), (23, .getfield 16, 3, 10, 5, 0), (26, .sipush 130, 3, 0, 0, 130), (29, .aload_n 0, 1, 0, 0, 0), (30, .getfield 16, 3, 10, 5, 0), (33, .bipush 7, 2, 0, 0, 7), (35, .iaload, 1, 0, 0, 0), (36, .iadd, 1, 0, 0, 0), (37, .iaload, 1, 0, 0, 0), (38, .istore_n 2, 1, 0, 0, 0), (39, .iload_n 2, 1, 0, 0, 0), (40, .ifCond .ne 9, 3, 0, 0, 0), (43, .aload_n 0, 1, 0, 0, 0), (44, .iload_n 1, 1, 0, 0, 0), (45, .invokevirtual 358, 3, 259, 162, 0), (48, .ireturn, 1, 0, 0, 0), (49, .aload_n 0, 1, 0, 0, 0), (50, .getfield 16, 3, 10, 5, 0), (53, .sipush 130, 3, 0, 0, 130), (56, .aload_n 0, 1, 0, 0, 0), (57, .getfield 16, 3, 10, 5, 0), (60, .bipush 7, 2, 0, 0, 7), (62, .iaload, 1, 0, 0, 0), (63, .iadd, 1, 0, 0, 0), (64, .iconst 0, 1, 0, 0, 0), (65, .iload_n 2, 1, 0, 0, 0), (66, .aload_n 0, 1, 0, 0, 0), (67, .bipush 11, 2, 0, 0, 11), (69, .invokevirtual 154, 3, 180, 162, 0), (72, .isub, 1, 0, 0, 0), (73, .invokestatic 215, 3, 1000, 0, 0), (76, .iastore, 1, 0, 0, 0), (77, .aload_n 0, 1, 0, 0, 0), (78, .invokevirtual 240, 3, 200, 161, 0), (81, .iinc 1 1, 3, 0, 0, 1), (84, .goto (-69), 3, 0, 0, 0), (87, .aload_n 0, 1, 0, 0, 0), (88, .iconst (-1), 1, 0, 0, (-1)), (89, .invokevirtual 358, 3, 259, 162, 0), (92, .ireturn, 1, 0, 0, 0)]
def kX10_says : List EN := [(0, .aload_n 0, 1, 0, 0, 0), (1, .getfield 51, 3, 10, 29, 0), (4, .aload_n 0, 1, 0, 0, 0), (5, .getfield 367, 3, 10, 30, 0), (8, .iload_n 1, 1, 0, 0, 0), (9, .iastore, 1, 0, 0, 0), (10, .aload_n 0, 1, 0, 0, 0), (11, .dup, 1, 0, 0, 0), (12, .getfield 367, 3, 10, 30, 0), (15, .iconst 1, 1, 0, 0, 1), (16, .iadd, 1, 0, 0, 0), (17, .putfield 367, 3, 10, 30, 0), (20, .return_, 1, 0, 0, 0)]
def kX10_writeLine : List EN := [(0, .aload_n 0, 1, 0, 0, 0), (1, .iload_n 1, 1, 0, 0, 0), (2, .invokevirtual 337, 3, 234, 162, 0), (5, .ifCond .eq 5, 3, 0, 0, 0), (8, .iconst 0, 1, 0, 0, 0), (9, .ireturn, 1, 0, 0, 0), (10, .aload_n 0, 1, 0, 0, 0), (11, .iconst 0, 1, 0, 0, 0), (12, .putfield 367, 3, 10, 30, 0), (15, .iconst 0, 1, 0, 0, 0), (16, .istore_n 2, 1, 0, 0, 0), (17, .iload_n 2, 1, 0, 0, 0), (18, .aload_n 0, 1, 0, 0, 0), (19, .iload_n 1, 1, 0, 0, 0), (20, .invokevirtual 340, 3, 242, 162, 0), (23, .if_icmp .ge 33, 3, 0, 0, 0), (26, .aload_n 0, 1, 0, 0, 0), (27, .aload_n 0, 1, 0, 0, 0), (28, .iload_n 1, 1, 0, 0, 0), (29, .iload_n 2, 1, 0, 0, 0), (30, .invokevirtual 331, 3, 235, 163, 0), (33, .ifCond .ne 8, 3, 0, 0, 0), (36, .bipush 32, 2, 0, 0, 32), (38, .goto 9, 3, 0, 0, 0), (41, .aload_n 0, 1, 0, 0, 0), (42, .iload_n 1, 1, 0, 0, 0), (43, .iload_n 2, 1, 0, 0, 0), (44, .invokevirtual 331, 3, 235, 163, 0), (47, .invokevirtual 370, 3, 266, 162, 0), (50, .iinc 2 1, 3, 0, 0, 1), (53, .goto (-36), 3, 0, 0, 0), (56, .aload_n 0, 1, 0, 0, 0), (57, .getfield 367, 3, 10, 30, 0), (60, .ireturn, 1, 0, 0, 0)]
def kX10_writeShades : List EN := [(0, .aload_n 0, 1, 0, 0, 0), (1, .iload_n 1, 1, 0, 0, 0), (2, .invokevirtual 337, 3, 234, 162, 0), (5, .ifCond .eq 5, 3, 0, 0, 0), (8, .iconst 0, 1, 0, 0, 0), (9, .ireturn, 1, 0, 0, 0), (10, .aload_n 0, 1, 0, 0, 0), (11, .iconst 0, 1, 0, 0, 0), (12, .putfield 367, 3, 10, 30, 0), (15, .iconst 0, 1, 0, 0, 0), (16, .istore_n 2, 1, 0, 0, 0), (17, .iload_n 2, 1, 0, 0, 0), (18, .aload_n 0, 1, 0, 0, 0), (19, .iload_n 1, 1, 0, 0, 0), (20, .invokevirtual 340, 3, 242, 162, 0), (23, .if_icmp .ge 36, 3, 0, 0, 0), (26, .aload_n 0, 1, 0, 0, 0), (27, .aload_n 0, 1, 0, 0, 0), (28, .iload_n 1, 1, 0, 0, 0), (29, .iload_n 2, 1, 0, 0, 0), (30, .invokevirtual 331, 3, 235, 163, 0), (33, .ifCond .ne 8, 3, 0, 0, 0), (36, .bipush 32, 2, 0, 0, 32), (38, .goto 12, 3, 0, 0, 0), (41, .bipush 48, 2, 0, 0, 48), (43, .aload_n 0, 1, 0, 0, 0), (44, .iload_n 1, 1, 0, 0, 0), (45, .iload_n 2, 1, 0, 0, 0), (46, .invokevirtual 334, 3, 236, 163, 0), (49, .iadd, 1, 0, 0, 0), (50, .invokevirtual 370, 3, 266, 162, 0), (53, .iinc 2 1, 3, 0, 0, 1), (56, .goto (-39), 3, 0, 0, 0), (59, .aload_n 0, 1, 0, 0, 0), (60, .getfield 367, 3, 10, 30, 0), (63, .ireturn, 1, 0, 0, 0)]
def kX10_rulerSign : List EN := [(0, .iload_n 1, 1, 0, 0, 0), (1, .aload_n 0, 1, 0, 0, 0), (2, .getfield 16, 3, 10, 5, 0), (5, .iconst 1, 1, 0, 0, 1), (6, .iaload, 1, 0, 0, 0), (7, .if_icmp .ne 6, 3, 0, 0, 0), (10, .bipush 86, 2, 0, 0, 86), (12, .ireturn, 1, 0, 0, 0), (13, .iload_n 1, 1, 0, 0, 0), (14, .aload_n 0, 1, 0, 0, 0), (15, .iconst 2, 1, 0, 0, 2), (16, .invokevirtual 154, 3, 180, 162, 0), (19, .if_icmp .ne 6, 3, 0, 0, 0), (22, .bipush 76, 2, 0, 0, 76), (24, .ireturn, 1, 0, 0, 0), (25, .iload_n 1, 1, 0, 0, 0), (26, .aload_n 0, 1, 0, 0, 0), (27, .iconst 3, 1, 0, 0, 3), (28, .invokevirtual 154, 3, 180, 162, 0), (31, .if_icmp .ne 6, 3, 0, 0, 0), (34, .bipush 82, 2, 0, 0, 82), (36, .ireturn, 1, 0, 0, 0), (37, .aload_n 0, 1, 0, 0, 0), (38, .getfield 16, 3, 10, 5, 0), (41, .bipush 90, 2, 0, 0, 90), (43, .iload_n 1, 1, 0, 0, 0), (44, .iadd, 1, 0, 0, 0), (45, .iaload, 1, 0, 0, 0), (46, .iconst 1, 1, 0, 0, 1), (47, .if_icmp .ne 8, 3, 0, 0, 0), (50, .bipush 84, 2, 0, 0, 84), (52, .goto 5, 3, 0, 0, 0), (55, .bipush 46, 2, 0, 0, 46), (57, .ireturn, 1, 0, 0, 0)]
def kX10_writeRuler : List EN := [(0, .aload_n 0, 1, 0, 0, 0), (1, .invokevirtual 303, 3, 161, 161, 0), (4, .ifCond .eq 5, 3, 0, 0, 0), (7, .iconst 0, 1, 0, 0, 0), (8, .ireturn, 1, 0, 0, 0), (9, .aload_n 0, 1, 0, 0, 0), (10, .iconst 0, 1, 0, 0, 0), (11, .putfield 367, 3, 10, 30, 0), (14, .iconst 0, 1, 0, 0, 0), (15, .istore_n 1, 1, 0, 0, 0), (16, .iload_n 1, 1, 0, 0, 0), (17, .aload_n 0, 1, 0, 0, 0), (18, .iconst 0, 1, 0, 0, 0), (19, .invokevirtual 154, 3, 180, 162, 0), (22, .if_icmp .ge 18, 3, 0, 0, 0), (25, .aload_n 0, 1, 0, 0, 0), (26, .aload_n 0, 1, 0, 0, 0), (27, .iload_n 1, 1, 0, 0, 0), (28, .invokevirtual 373, 3, 269, 162, 0), (31, .invokevirtual 370, 3, 266, 162, 0), (34, .iinc 1 1, 3, 0, 0, 1), (37, .goto (-21), 3, 0, 0, 0), (40, .aload_n 0, 1, 0, 0, 0), (41, .getfield 367, 3, 10, 30, 0), (44, .ireturn, 1, 0, 0, 0)]
def kX10_textByte : List EN := [(0, .aload_n 0, 1, 0, 0, 0), (1, .iconst 0, 1, 0, 0, 0), (2, .putfield 54, 3, 10, 0, 0), (5, .aload_n 0, 1, 0, 0, 0), (6, .iload_n 1, 1, 0, 0, 0), (7, .iconst 0, 1, 0, 0, 0), (8, .aload_n 0, 1, 0, 0, 0), (9, .getfield 367, 3, 10, 30, 0), (12, .iconst 1, 1, 0, 0, 1), (13, .isub, 1, 0, 0, 0), (14, .invokestatic 130, 3, 158, 3, 0), (17, .ifCond .ne 7, 3, 0, 0, 0), (20, .iconst 1, 1, 0, 0, 1), (21, .goto 4, 3, 0, 0, 0), (24, .iconst 0, 1, 0, 0, 0), (25, .iconst 1, 1, 0, 0, 1), (26, .invokevirtual 61, 3, 160, 163, 0), (29, .ifCond .eq 7, 3, 0, 0, 0), (32, .iconst 0, 1, 0, 0, 0), (33, .goto 9, 3, 0, 0, 0), (36, .aload_n 0, 1, 0, 0, 0), (37, .getfield 51, 3, 10, 29, 0), (40, .iload_n 1, 1, 0, 0, 0), (41, .iaload, 1, 0, 0, 0), (42, .ireturn, 1, 0, 0, 0)]
def kX10_keeps : List EN := [(0, .iconst 0, 1, 0, 0, 0), (1, .istore_n 2, 1, 0, 0, 0), (2, .iload_n 2, 1, 0, 0, 0), (3, .sipush 1150, 3, 0, 0, 1150), (6, .if_icmp .ge 27, 3, 0, 0, 0), (9, .aload_n 0, 1, 0, 0, 0), (10, .getfield 22, 3, 10, 7, 0), (13, .sipush 1150, 3, 0, 0, 1150), (16, .iload_n 1, 1, 0, 0, 0), (17, .imul, 1, 0, 0, 0), (18, .iload_n 2, 1, 0, 0, 0), (19, .iadd, 1, 0, 0, 0), (20, .aload_n 0, 1, 0, 0, 0), (21, .getfield 16, 3, 10, 5, 0), (24, .iload_n 2, 1, 0, 0, 0), (25, .iaload, 1, 0, 0, 0), (26, .iastore, 1, 0, 0, 0), (27, .iinc 2 1, 3, 0, 0, 1), (30, .goto (-28), 3, 0, 0, 0), (33, .return_, 1, 0, 0, 0)]
def kX10_fetches : List EN := [(0, .iconst 0, 1, 0, 0, 0), (1, .istore_n 2, 1, 0, 0, 0), (2, .iload_n 2, 1, 0, 0, 0), (3, .sipush 1150, 3, 0, 0, 1150), (6, .if_icmp .ge 27, 3, 0, 0, 0), (9, .aload_n 0, 1, 0, 0, 0), (10, .getfield 16, 3, 10, 5, 0), (13, .iload_n 2, 1, 0, 0, 0), (14, .aload_n 0, 1, 0, 0, 0), (15, .getfield 22, 3, 10, 7, 0), (18, .sipush 1150, 3, 0, 0, 1150), (21, .iload_n 1, 1, 0, 0, 0), (22, .imul, 1, 0, 0, 0), (23, .iload_n 2, 1, 0, 0, 0), (24, .iadd, 1, 0, 0, 0), (25, .iaload, 1, 0, 0, 0), (26, .iastore, 1, 0, 0, 0), (27, .iinc 2 1, 3, 0, 0, 1), (30, .goto (-28), 3, 0, 0, 0), (33, .return_, 1, 0, 0, 0)]
def kX10_keepsAll : List EN := [(0, .aload_n 0, 1, 0, 0, 0), (1, .getfield 201, 3, 10, 8, 0), (4, .bipush 8, 2, 0, 0, 8), (6, .if_icmp .ne 44, 3, 0, 0, 0), (9, .iconst 0, 1, 0, 0, 0), (10, .istore_n 1, 1, 0, 0, 0), (11, .iload_n 1, 1, 0, 0, 0), (12, .sipush 8050, 3, 0, 0, 8050), (15, .if_icmp .ge 25, 3, 0, 0, 0), (18, .aload_n 0, 1, 0, 0, 0), (19, .getfield 22, 3, 10, 7, 0), (22, .iload_n 1, 1, 0, 0, 0), (23, .aload_n 0, 1, 0, 0, 0), (24, .getfield 22, 3, 10, 7, 0), (27, .iload_n 1, 1, 0, 0, 0), (28, .sipush 1150, 3, 0, 0, 1150), (31, .iadd, 1, 0, 0, 0), (32, .iaload, 1, 0, 0, 0), (33, .iastore, 1, 0, 0, 0), (34, .iinc 1 1, 3, 0, 0, 1), (37, .goto (-26), 3, 0, 0, 0), (40, .aload_n 0, 1, 0, 0, 0), (41, .dup, 1, 0, 0, 0), (42, .getfield 201, 3, 10, 8, 0), (45, .iconst 1, 1, 0, 0, 1), (46, .isub, 1, 0, 0, 0), (47, .putfield 201, 3, 10, 8, 0), (50, .aload_n 0, 1, 0, 0, 0), (51, .iconst 0, 1, 0, 0, 0), (52, .aload_n 0, 1, 0, 0, 0), (53, .getfield 201, 3, 10, 8, 0), (56, .iadd, 1, 0, 0, 0), (57, .invokevirtual 376, 3, 272, 162, 0), (60, .aload_n 0, 1, 0, 0, 0), (61, .dup, 1, 0, 0, 0), (62, .getfield 201, 3, 10, 8, 0), (65, .iconst 1, 1, 0, 0, 1), (66, .iadd, 1, 0, 0, 0), (67, .putfield 201, 3, 10, 8, 0), (70, .return_, 1, 0, 0, 0)]
def kX10_strike : List EN := [(0, .aload_n 0, 1, 0, 0, 0), (1, .iload_n 1, 1, 0, 0, 0), (2, .invokevirtual 313, 3, 223, 162, 0), (5, .ifCond .eq 5, 3, 0, 0, 0), (8, .iconst 0, 1, 0, 0, 0), (9, .ireturn, 1, 0, 0, 0), (10, .aload_n 0, 1, 0, 0, 0), (11, .invokevirtual 379, 3, 274, 161, 0), (14, .aload_n 0, 1, 0, 0, 0), (15, .iload_n 1, 1, 0, 0, 0), (16, .iload_n 2, 1, 0, 0, 0), (17, .invokevirtual 292, 3, 205, 163, 0), (20, .ireturn, 1, 0, 0, 0)]
def kX10_press : List EN := [(0, .aload_n 0, 1, 0, 0, 0), (1, .invokevirtual 303, 3, 161, 161, 0), (4, .ifCond .ne 25, 3, 0, 0, 0), (7, .aload_n 0, 1, 0, 0, 0), (8, .iload_n 1, 1, 0, 0, 0), (9, .iconst 0, 1, 0, 0, 0), (10, .iconst 5, 1, 0, 0, 5), (11, .invokestatic 130, 3, 158, 3, 0), (14, .ifCond .ne 7, 3, 0, 0, 0), (17, .iconst 1, 1, 0, 0, 1), (18, .goto 4, 3, 0, 0, 0), (21, .iconst 0, 1, 0, 0, 0), (22, .iconst 2, 1, 0, 0, 2), (23, .invokevirtual 61, 3, 160, 163, 0), (26, .ifCond .eq 5, 3, 0, 0, 0), (29, .iconst 0, 1, 0, 0, 0), (30, .ireturn, 1, 0, 0, 0), (31, .aload_n 0, 1, 0, 0, 0), (32, .invokevirtual 379, 3, 274, 161, 0), (35, .aload_n 0, 1, 0, 0, 0), (36, .iload_n 1, 1, 0, 0, 0), (37, .invokevirtual 286, 3, 212, 162, 0), (40, .ireturn, 1, 0, 0, 0)]
def kX10_type : List EN := [(0, .aload_n 0, 1, 0, 0, 0), (1, .iload_n 1, 1, 0, 0, 0), (2, .invokevirtual 349, 3, 260, 162, 0), (5, .ifCond .eq 5, 3, 0, 0, 0), (8, .iconst 0, 1, 0, 0, 0), (9, .ireturn, 1, 0, 0, 0), (10, .aload_n 0, 1, 0, 0, 0), (11, .invokevirtual 379, 3, 274, 161, 0), (14, .aload_n 0, 1, 0, 0, 0), (15, .iconst 0, 1, 0, 0, 0), (16, .putfield 65, 3, 10, 11, 0), (19, .aload_n 0, 1, 0, 0, 0), (20, .iload_n 1, 1, 0, 0, 0), (21, .invokevirtual 355, 3, 217, 162, 0), (24, .ireturn, 1, 0, 0, 0)]
def kX10_setStop : List EN := [(0, .aload_n 0, 1, 0, 0, 0), (1, .invokevirtual 303, 3, 161, 161, 0), (4, .ifCond .ne 24, 3, 0, 0, 0), (7, .aload_n 0, 1, 0, 0, 0), (8, .aload_n 0, 1, 0, 0, 0), (9, .iload_n 1, 1, 0, 0, 0), (10, .invokevirtual 325, 3, 232, 162, 0), (13, .ifCond .ne 7, 3, 0, 0, 0), (16, .iconst 1, 1, 0, 0, 1), (17, .goto 4, 3, 0, 0, 0), (20, .iconst 0, 1, 0, 0, 0), (21, .iconst 2, 1, 0, 0, 2), (22, .invokevirtual 61, 3, 160, 163, 0), (25, .ifCond .eq 5, 3, 0, 0, 0), (28, .iconst 0, 1, 0, 0, 0), (29, .ireturn, 1, 1, 0, 0), (30, .aload_n 0, 1, 0, 0, 0), (31, .invokevirtual 379, 3, 274, 161, 0), (34, .aload_n 0, 1, 0, 0, 0), (35, .getfield 16, 3, 10, 5, 0), (38, .bipush 90, 2, 0, 0, 90), (40, .iload_n 1, 1, 0, 0, 0), (41, .iadd, 1, 0, 0, 0), (42, .iaload, 1, 0, 0, 0), (43, .iconst 1, 1, 0, 0, 1), (44, .if_icmp .ne 7, 3, 0, 0, 0), (47, .iconst 1, 1, 0, 0, 1), (48, .goto 4, 3, 0, 0, 0), (51, .iconst 0, 1, 0, 0, 0), (52, .istore_n 3, 1, 0, 0, 0), (53, .aload_n 0, 1, 0, 0, 0), (54, .getfield 16, 3, 10, 5, 0), (57, .bipush 90, 2, 0, 0, 90), (59, .iload_n 1, 1, 0, 0, 0), (60, .iadd, 1, 0, 0, 0), (61, .iload_n 2, 1, 0, 0, 0), (62, .invokestatic 299, 3, 159, 1, 0), (65, .iastore, 1, 0, 0, 0), (66, .iload_n 3, 1, 0, 0, 0), (67, .ireturn, 1, 1, 0, 0)]
def kX10_replaces : List EN := [(0, .aload_n 0, 1, 0, 0, 0), (1, .invokevirtual 379, 3, 274, 161, 0), (4, .aload_n 0, 1, 0, 0, 0), (5, .iload_n 1, 1, 0, 0, 0), (6, .invokevirtual 154, 3, 180, 162, 0), (9, .istore_n 3, 1, 0, 0, 0), (10, .aload_n 0, 1, 0, 0, 0), (11, .iload_n 1, 1, 0, 0, 0), (12, .iload_n 2, 1, 0, 0, 0), (13, .invokevirtual 144, 3, 181, 163, 0), (16, .iload_n 3, 1, 0, 0, 0), (17, .ireturn, 1, 0, 0, 0)]
def kX10_setMargin : List EN := [(0, .aload_n 0, 1, 0, 0, 0), (1, .invokevirtual 303, 3, 161, 161, 0), (4, .ifCond .eq 5, 3, 0, 0, 0), (7, .iconst 0, 1, 0, 0, 0), (8, .ireturn, 1, 0, 0, 0), (9, .iload_n 1, 1, 0, 0, 0), (10, .ifCond .eq 21, 3, 0, 0, 0), (13, .aload_n 0, 1, 0, 0, 0), (14, .iconst 2, 1, 0, 0, 2), (15, .invokevirtual 154, 3, 180, 162, 0), (18, .iconst 1, 1, 0, 0, 1), (19, .aload_n 0, 1, 0, 0, 0), (20, .iconst 4, 1, 0, 0, 4), (21, .invokevirtual 154, 3, 180, 162, 0), (24, .invokestatic 215, 3, 1000, 0, 0), (27, .iadd, 1, 0, 0, 0), (28, .goto 4, 3, 0, 0, 0), (31, .iconst 0, 1, 0, 0, 0), (32, .istore_n 3, 1, 0, 0, 0), (33, .iload_n 1, 1, 0, 0, 0), (34, .ifCond .eq 13, 3, 0, 0, 0), (37, .aload_n 0, 1, 0, 0, 0), (38, .iconst 0, 1, 0, 0, 0), (39, .invokevirtual 154, 3, 180, 162, 0), (42, .iconst 1, 1, 0, 0, 1), (43, .isub, 1, 0, 0, 0), (44, .goto 18, 3, 0, 0, 0), (47, .aload_n 0, 1, 0, 0, 0), (48, .iconst 3, 1, 0, 0, 3), (49, .invokevirtual 154, 3, 180, 162, 0), (52, .iconst 1, 1, 0, 0, 1), (53, .aload_n 0, 1, 0, 0, 0), (54, .iconst 4, 1, 0, 0, 4), (55, .invokevirtual 154, 3, 180, 162, 0), (58, .invokestatic 215, 3, 1000, 0, 0), (61, .isub, 1, 0, 0, 0), (62, .istore 4, 2, 0, 0, 0), (64, .aload_n 0, 1, 0, 0, 0), (65, .iload_n 2, 1, 0, 0, 0), (66, .iload_n 3, 1, 0, 0, 0), (67, .iload 4, 2, 0, 0, 0), (69, .invokestatic 130, 3, 158, 3, 0), (72, .ifCond .ne 7, 3, 0, 0, 0), (75, .iconst 1, 1, 0, 0, 1), (76, .goto 4, 3, 0, 0, 0), (79, .iconst 0, 1, 0, 0, 0), (80, .iconst 2, 1, 0, 0, 2), (81, .invokevirtual 61, 3, 160, 163, 0), (84, .ifCond .eq 7, 3, 0, 0, 0), (87, .iconst 0, 1, 0, 0, 0), (88, .goto 17, 3, 0, 0, 0), (91, .aload_n 0, 1, 0, 0, 0), (92, .iload_n 1, 1, 0, 0, 0), (93, .ifCond .eq 7, 3, 0, 0, 0), (96, .iconst 3, 1, 0, 0, 3), (97, .goto 4, 3, 0, 0, 0), (100, .iconst 2, 1, 0, 0, 2), (101, .iload_n 2, 1, 0, 0, 0), (102, .invokevirtual 382, 3, 279, 163, 0), (105, .ireturn, 1, 0, 0, 0)]
def kX10_maySet : List EN := [(0, .iload_n 1, 1, 0, 0, 0), (1, .tableswitch 107 4 12 #[51, 68, 77, 85, 85, 107, 107, 93, 100], 51, 0, 0, 0), (52, .iload_n 2, 1, 0, 0, 0), (53, .iconst 0, 1, 0, 0, 0), (54, .aload_n 0, 1, 0, 0, 0), (55, .iconst 3, 1, 0, 0, 3), (56, .invokevirtual 154, 3, 180, 162, 0), (59, .aload_n 0, 1, 0, 0, 0), (60, .iconst 2, 1, 0, 0, 2), (61, .invokevirtual 154, 3, 180, 162, 0), (64, .isub, 1, 0, 0, 0), (65, .invokestatic 130, 3, 158, 3, 0), (68, .ireturn, 1, 1, 0, 0), (69, .iload_n 2, 1, 0, 0, 0), (70, .iconst 1, 1, 0, 0, 1), (71, .sipush 999, 3, 0, 0, 999), (74, .invokestatic 130, 3, 158, 3, 0), (77, .ireturn, 1, 1, 0, 0), (78, .iload_n 2, 1, 0, 0, 0), (79, .iconst 1, 1, 0, 0, 1), (80, .bipush 99, 2, 0, 0, 99), (82, .invokestatic 130, 3, 158, 3, 0), (85, .ireturn, 1, 1, 0, 0), (86, .iload_n 2, 1, 0, 0, 0), (87, .iconst 0, 1, 0, 0, 0), (88, .bipush 99, 2, 0, 0, 99), (90, .invokestatic 130, 3, 158, 3, 0), (93, .ireturn, 1, 1, 0, 0), (94, .iload_n 2, 1, 0, 0, 0), (95, .iconst 0, 1, 0, 0, 0), (96, .iconst 3, 1, 0, 0, 3), (97, .invokestatic 130, 3, 158, 3, 0), (100, .ireturn, 1, 1, 0, 0), (101, .iload_n 2, 1, 0, 0, 0), (102, .iconst 1, 1, 0, 0, 1), (103, .iconst 3, 1, 0, 0, 3), (104, .invokestatic 130, 3, 158, 3, 0), (107, .ireturn, 1, 1, 0, 0), (108, .iconst 0, 1, 0, 0, 0), (109, .ireturn, 1, 1, 0, 0)]
def kX10_set : List EN := [(0, .aload_n 0, 1, 0, 0, 0), (1, .invokevirtual 303, 3, 161, 161, 0), (4, .ifCond .ne 25, 3, 0, 0, 0), (7, .aload_n 0, 1, 0, 0, 0), (8, .aload_n 0, 1, 0, 0, 0), (9, .iload_n 1, 1, 0, 0, 0), (10, .iload_n 2, 1, 0, 0, 0), (11, .invokevirtual 385, 3, 281, 163, 0), (14, .ifCond .ne 7, 3, 0, 0, 0), (17, .iconst 1, 1, 0, 0, 1), (18, .goto 4, 3, 0, 0, 0), (21, .iconst 0, 1, 0, 0, 0), (22, .iconst 2, 1, 0, 0, 2), (23, .invokevirtual 61, 3, 160, 163, 0), (26, .ifCond .eq 7, 3, 0, 0, 0), (29, .iconst 0, 1, 0, 0, 0), (30, .goto 9, 3, 0, 0, 0), (33, .aload_n 0, 1, 0, 0, 0), (34, .iload_n 1, 1, 0, 0, 0), (35, .iload_n 2, 1, 0, 0, 0), (36, .invokevirtual 382, 3, 279, 163, 0), (39, .ireturn, 1, 0, 0, 0)]
def kX10_rest : List EN := [(0, .aload_n 0, 1, 0, 0, 0), (1, .invokevirtual 303, 3, 161, 161, 0), (4, .ifCond .ne 27, 3, 0, 0, 0), (7, .aload_n 0, 1, 0, 0, 0), (8, .iload_n 1, 1, 0, 0, 0), (9, .iconst 1, 1, 0, 0, 1), (10, .sipush 9999, 3, 0, 0, 9999), (13, .invokestatic 130, 3, 158, 3, 0), (16, .ifCond .ne 7, 3, 0, 0, 0), (19, .iconst 1, 1, 0, 0, 1), (20, .goto 4, 3, 0, 0, 0), (23, .iconst 0, 1, 0, 0, 0), (24, .iconst 2, 1, 0, 0, 2), (25, .invokevirtual 61, 3, 160, 163, 0), (28, .ifCond .eq 5, 3, 0, 0, 0), (31, .iconst 0, 1, 0, 0, 0), (32, .ireturn, 1, 0, 0, 0), (33, .aload_n 0, 1, 0, 0, 0), (34, .invokevirtual 379, 3, 274, 161, 0), (37, .aload_n 0, 1, 0, 0, 0), (38, .getfield 16, 3, 10, 5, 0), (41, .iconst 3, 1, 0, 0, 3), (42, .dup2, 1, 0, 0, 0), (43, .iaload, 1, 0, 0, 0), (44, .iload_n 1, 1, 0, 0, 0), (45, .iadd, 1, 0, 0, 0), (46, .iastore, 1, 0, 0, 0), (47, .iconst 0, 1, 0, 0, 0), (48, .istore_n 2, 1, 0, 0, 0), (49, .iconst 0, 1, 0, 0, 0), (50, .istore_n 3, 1, 0, 0, 0), (51, .iload_n 3, 1, 0, 0, 0), (52, .aload_n 0, 1, 0, 0, 0), (53, .getfield 138, 3, 10, 2, 0), (56, .if_icmp .ge 34, 3, 0, 0, 0), (59, .iload_n 2, 1, 0, 0, 0), (60, .aload_n 0, 1, 0, 0, 0), (61, .iload_n 3, 1, 0, 0, 0), (62, .aload_n 0, 1, 0, 0, 0), (63, .getfield 16, 3, 10, 5, 0), (66, .iconst 3, 1, 0, 0, 3), (67, .iaload, 1, 0, 0, 0), (68, .invokevirtual 218, 3, 193, 163, 0), (71, .ifCond .le 7, 3, 0, 0, 0), (74, .iconst 1, 1, 0, 0, 1), (75, .goto 4, 3, 0, 0, 0), (78, .iconst 0, 1, 0, 0, 0), (79, .invokestatic 299, 3, 159, 1, 0), (82, .iadd, 1, 0, 0, 0), (83, .istore_n 2, 1, 0, 0, 0), (84, .iinc 3 1, 3, 0, 0, 1), (87, .goto (-36), 3, 0, 0, 0), (90, .iload_n 2, 1, 0, 0, 0), (91, .ireturn, 1, 0, 0, 0)]
def kX10_newRibbon : List EN := [(0, .aload_n 0, 1, 0, 0, 0), (1, .invokevirtual 303, 3, 161, 161, 0), (4, .ifCond .eq 5, 3, 0, 0, 0), (7, .iconst 0, 1, 0, 0, 0), (8, .ireturn, 1, 0, 0, 0), (9, .aload_n 0, 1, 0, 0, 0), (10, .invokevirtual 379, 3, 274, 161, 0), (13, .aload_n 0, 1, 0, 0, 0), (14, .invokevirtual 316, 3, 228, 161, 0), (17, .istore_n 1, 1, 0, 0, 0), (18, .aload_n 0, 1, 0, 0, 0), (19, .invokevirtual 189, 3, 189, 161, 0), (22, .iload_n 1, 1, 0, 0, 0), (23, .ireturn, 1, 0, 0, 0)]
def kX10_newPage : List EN := [(0, .aload_n 0, 1, 0, 0, 0), (1, .invokevirtual 303, 3, 161, 161, 0), (4, .ifCond .eq 5, 3, 0, 0, 0), (7, .iconst 0, 1, 0, 0, 0), (8, .ireturn, 1, 0, 0, 0), (9, .aload_n 0, 1, 0, 0, 0), (10, .invokevirtual 379, 3, 274, 161, 0), (13, .aload_n 0, 1, 0, 0, 0), (14, .invokevirtual 343, 3, 246, 161, 0), (17, .istore_n 1, 1, 0, 0, 0), (18, .iconst 0, 1, 0, 0, 0), (19, .istore_n 2, 1, 0, 0, 0), (20, .iload_n 2, 1, 0, 0, 0), (21, .sipush 480, 3, 0, 0, 480), (24, .if_icmp .ge 31, 3, 0, 0, 0), (27, .aload_n 0, 1, 0, 0, 0), (28, .getfield 16, 3, 10, 5, 0), (31, .sipush 190, 3, 0, 0, 190), (34, .iload_n 2, 1, 0, 0, 0), (35, .iadd, 1, 0, 0, 0), (36, .iconst 0, 1, 0, 0, 0), (37, .iastore, 1, 0, 0, 0), (38, .aload_n 0, 1, 0, 0, 0), (39, .getfield 16, 3, 10, 5, 0), (42, .sipush 670, 3, 0, 0, 670), (45, .iload_n 2, 1, 0, 0, 0), (46, .iadd, 1, 0, 0, 0), (47, .iconst 0, 1, 0, 0, 0), (48, .iastore, 1, 0, 0, 0), (49, .iinc 2 1, 3, 0, 0, 1), (52, .goto (-32), 3, 0, 0, 0), (55, .aload_n 0, 1, 0, 0, 0), (56, .getfield 16, 3, 10, 5, 0), (59, .iconst 0, 1, 0, 0, 0), (60, .iconst 0, 1, 0, 0, 0), (61, .iastore, 1, 0, 0, 0), (62, .aload_n 0, 1, 0, 0, 0), (63, .getfield 16, 3, 10, 5, 0), (66, .iconst 1, 1, 0, 0, 1), (67, .aload_n 0, 1, 0, 0, 0), (68, .iconst 2, 1, 0, 0, 2), (69, .invokevirtual 154, 3, 180, 162, 0), (72, .iastore, 1, 0, 0, 0), (73, .aload_n 0, 1, 0, 0, 0), (74, .getfield 16, 3, 10, 5, 0), (77, .iconst 2, 1, 0, 0, 2), (78, .iconst 0, 1, 0, 0, 0), (79, .iastore, 1, 0, 0, 0), (80, .iload_n 1, 1, 0, 0, 0), (81, .ireturn, 1, 0, 0, 0)]
def kX10_undo : List EN := [(0, .aload_n 0, 1, 0, 0, 0), (1, .iconst 0, 1, 0, 0, 0), (2, .putfield 54, 3, 10, 0, 0), (5, .aload_n 0, 1, 0, 0, 0), (6, .aload_n 0, 1, 0, 0, 0), (7, .getfield 201, 3, 10, 8, 0), (10, .ifCond .ne 7, 3, 0, 0, 0), (13, .iconst 1, 1, 0, 0, 1), (14, .goto 4, 3, 0, 0, 0), (17, .iconst 0, 1, 0, 0, 0), (18, .iconst 1, 1, 0, 0, 1), (19, .invokevirtual 61, 3, 160, 163, 0), (22, .ifCond .eq 5, 3, 0, 0, 0), (25, .iconst 0, 1, 0, 0, 0), (26, .ireturn, 1, 0, 0, 0), (27, .aload_n 0, 1, 0, 0, 0), (28, .dup, 1, 0, 0, 0), (29, .getfield 201, 3, 10, 8, 0), (32, .iconst 1, 1, 0, 0, 1), (33, .isub, 1, 0, 0, 0), (34, .putfield 201, 3, 10, 8, 0), (37, .aload_n 0, 1, 0, 0, 0), (38, .iconst 0, 1, 0, 0, 0), (39, .aload_n 0, 1, 0, 0, 0), (40, .getfield 201, 3, 10, 8, 0), (43, .iadd, 1, 0, 0, 0), (44, .invokevirtual 388, 3, 273, 162, 0), (47, .aload_n 0, 1, 0, 0, 0), (48, .getfield 201, 3, 10, 8, 0), (51, .ireturn, 1, 0, 0, 0)]
def kX10_undoable : List EN := [(0, .aload_n 0, 1, 0, 0, 0), (1, .iconst 0, 1, 0, 0, 0), (2, .putfield 54, 3, 10, 0, 0), (5, .aload_n 0, 1, 0, 0, 0), (6, .getfield 201, 3, 10, 8, 0), (9, .ireturn, 1, 0, 0, 0)]
def kX10_save : List EN := [(0, .aload_n 0, 1, 0, 0, 0), (1, .invokevirtual 303, 3, 161, 161, 0), (4, .ifCond .ne 25, 3, 0, 0, 0), (7, .aload_n 0, 1, 0, 0, 0), (8, .iload_n 1, 1, 0, 0, 0), (9, .iconst 0, 1, 0, 0, 0), (10, .iconst 1, 1, 0, 0, 1), (11, .invokestatic 130, 3, 158, 3, 0), (14, .ifCond .ne 7, 3, 0, 0, 0), (17, .iconst 1, 1, 0, 0, 1), (18, .goto 4, 3, 0, 0, 0), (21, .iconst 0, 1, 0, 0, 0), (22, .iconst 2, 1, 0, 0, 2), (23, .invokevirtual 61, 3, 160, 163, 0), (26, .ifCond .eq 5, 3, 0, 0, 0), (29, .iconst 0, 1, 0, 0, 0), (30, .ireturn, 1, 0, 0, 0), (31, .aload_n 0, 1, 0, 0, 0), (32, .bipush 8, 2, 0, 0, 8), (34, .iload_n 1, 1, 0, 0, 0), (35, .iadd, 1, 0, 0, 0), (36, .invokevirtual 376, 3, 272, 162, 0), (39, .aload_n 0, 1, 0, 0, 0), (40, .getfield 25, 3, 10, 9, 0), (43, .iload_n 1, 1, 0, 0, 0), (44, .iconst 1, 1, 0, 0, 1), (45, .bastore, 1, 0, 0, 0), (46, .aload_n 0, 1, 0, 0, 0), (47, .getfield 16, 3, 10, 5, 0), (50, .iconst 3, 1, 0, 0, 3), (51, .iaload, 1, 0, 0, 0), (52, .ireturn, 1, 0, 0, 0)]
def kX10_restore : List EN := [(0, .aload_n 0, 1, 0, 0, 0), (1, .iconst 0, 1, 0, 0, 0), (2, .putfield 54, 3, 10, 0, 0), (5, .aload_n 0, 1, 0, 0, 0), (6, .iload_n 1, 1, 0, 0, 0), (7, .iconst 0, 1, 0, 0, 0), (8, .iconst 1, 1, 0, 0, 1), (9, .invokestatic 130, 3, 158, 3, 0), (12, .ifCond .ne 7, 3, 0, 0, 0), (15, .iconst 1, 1, 0, 0, 1), (16, .goto 4, 3, 0, 0, 0), (19, .iconst 0, 1, 0, 0, 0), (20, .iconst 1, 1, 0, 0, 1), (21, .invokevirtual 61, 3, 160, 163, 0), (24, .ifCond .ne 25, 3, 0, 0, 0), (27, .aload_n 0, 1, 0, 0, 0), (28, .aload_n 0, 1, 0, 0, 0), (29, .getfield 25, 3, 10, 9, 0), (32, .iload_n 1, 1, 0, 0, 0), (33, .baload, 1, 0, 0, 0), (34, .ifCond .ne 7, 3, 0, 0, 0), (37, .iconst 1, 1, 0, 0, 1), (38, .goto 4, 3, 0, 0, 0), (41, .iconst 0, 1, 0, 0, 0), (42, .iconst 2, 1, 0, 0, 2), (43, .invokevirtual 61, 3, 160, 163, 0), (46, .ifCond .eq 5, 3, 0, 0, 0), (49, .iconst 0, 1, 0, 0, 0), (50, .ireturn, 1, 0, 0, 0), (51, .aload_n 0, 1, 0, 0, 0), (52, .bipush 8, 2, 0, 0, 8), (54, .iload_n 1, 1, 0, 0, 0), (55, .iadd, 1, 0, 0, 0), (56, .invokevirtual 388, 3, 273, 162, 0), (59, .aload_n 0, 1, 0, 0, 0), (60, .iconst 0, 1, 0, 0, 0), (61, .putfield 201, 3, 10, 8, 0), (64, .aload_n 0, 1, 0, 0, 0), (65, .getfield 16, 3, 10, 5, 0), (68, .iconst 3, 1, 0, 0, 3), (69, .iaload, 1, 0, 0, 0), (70, .ireturn, 1, 0, 0, 0)]
/-- every method: its table, how many places for locals, its name, its bytes, what it answers, its class -/
def mt0 (i : Nat) : List EN × Nat × MethodName × ByteArray × Option FieldType := match i with
  | 0 => (kX0_copyFrom, 2, yX0_copyFrom, cX0_copyFrom, none)
  | 1 => (kX0_clear, 1, yX0_clear, cX0_clear, none)
  | 2 => (kX0_add, 3, yX0_add, cX0_add, none)
  | 3 => (kX0_withLetter, 4, yX0_withLetter, cX0_withLetter, (some .int))
  | 4 => (kX0_riseOf, 2, yX0_riseOf, cX0_riseOf, (some .int))
  | 5 => (kX0_backAt, 3, yX0_backAt, cX0_backAt, (some .int))
  | 6 => (kX0_notBackAt, 4, yX0_notBackAt, cX0_notBackAt, (some .int))
  | 7 => (kX0_areJammed, 1, yX0_areJammed, cX0_areJammed, (some .boolean))
  | 8 => (kX0_isJammed, 2, yX0_isJammed, cX0_isJammed, (some .boolean))
  | 9 => (kX0_strikeFault, 4, yX0_strikeFault, cX0_strikeFault, (some .int))
  | 10 => (kX0_roomOf, 4, yX0_roomOf, cX0_roomOf, (some .int))
  | 11 => (kX0_noteStrike, 3, yX0_noteStrike, cX0_noteStrike, none)
  | 12 => (kX0_jamWithLatest, 2, yX0_jamWithLatest, cX0_jamWithLatest, none)
  | 13 => (kX0_free, 1, yX0_free, cX0_free, none)
  | 14 => (kX0_leastPace, 8, yX0_leastPace, cX0_leastPace, (some .int))
  | 15 => (kX0_slowestPair, 7, yX0_slowestPair, cX0_slowestPair, (some .int))
  | 16 => (kX0_withGreatestRise, 3, yX0_withGreatestRise, cX0_withGreatestRise, (some .int))
  | 17 => (kX1_copyFrom, 2, yX1_copyFrom, cX1_copyFrom, none)
  | 18 => (kX1_goHome, 1, yX1_goHome, cX1_goHome, none)
  | 19 => (kX1_goToLine, 2, yX1_goToLine, cX1_goToLine, none)
  | _ => ([], 0, ⟨"", "", ""⟩, ⟨#[]⟩, none)
def mt1 (i : Nat) : List EN × Nat × MethodName × ByteArray × Option FieldType := match i with
  | 0 => (kX1_stopsAt, 2, yX1_stopsAt, cX1_stopsAt, (some .boolean))
  | 1 => (kX1_stopsSet, 3, yX1_stopsSet, cX1_stopsSet, (some .int))
  | 2 => (kX1_locksAt, 2, yX1_locksAt, cX1_locksAt, (some .boolean))
  | 3 => (kX1_bellColumn, 1, yX1_bellColumn, cX1_bellColumn, (some .int))
  | 4 => (kX1_spacesToBell, 1, yX1_spacesToBell, cX1_spacesToBell, (some .int))
  | 5 => (kX1_tabFrom, 3, yX1_tabFrom, cX1_tabFrom, (some .int))
  | 6 => (kX1_backFrom, 3, yX1_backFrom, cX1_backFrom, (some .int))
  | 7 => (kX1_fewestKeysTo, 6, yX1_fewestKeysTo, cX1_fewestKeysTo, (some .int))
  | 8 => (kX1_reachFrom, 4, yX1_reachFrom, cX1_reachFrom, none)
  | 9 => (kX1_reachOnce, 3, yX1_reachOnce, cX1_reachOnce, none)
  | 10 => (kX2_clear, 1, yX2_clear, cX2_clear, none)
  | 11 => (kX2_keep, 3, yX2_keep, cX2_keep, none)
  | 12 => (kX2_takeLatest, 3, yX2_takeLatest, cX2_takeLatest, none)
  | 13 => (kX2_placeOf, 3, yX2_placeOf, cX2_placeOf, (some (.object "TypebarMachine$Machine")))
  | 14 => (kX3_copyFrom, 2, yX3_copyFrom, cX3_copyFrom, none)
  | 15 => (kX3_copyMotionFrom, 2, yX3_copyMotionFrom, cX3_copyMotionFrom, none)
  | 16 => (kX3_clear, 1, yX3_clear, cX3_clear, none)
  | 17 => (kX3_begin, 1, yX3_begin, cX3_begin, none)
  | 18 => (kX3_addTo, 3, yX3_addTo, cX3_addTo, none)
  | 19 => (kX3_startKey, 1, yX3_startKey, cX3_startKey, none)
  | _ => ([], 0, ⟨"", "", ""⟩, ⟨#[]⟩, none)
def mt2 (i : Nat) : List EN × Nat × MethodName × ByteArray × Option FieldType := match i with
  | 0 => (kX3_endKey, 2, yX3_endKey, cX3_endKey, (some .int))
  | 1 => (kX3_noteKey, 2, yX3_noteKey, cX3_noteKey, (some .int))
  | 2 => (kX3_standingFault, 2, yX3_standingFault, cX3_standingFault, (some .int))
  | 3 => (kX3_letterKey, 4, yX3_letterKey, cX3_letterKey, (some .int))
  | 4 => (kX3_printLetter, 5, yX3_printLetter, cX3_printLetter, none)
  | 5 => (kX3_moveOn, 1, yX3_moveOn, cX3_moveOn, none)
  | 6 => (kX3_plainKey, 3, yX3_plainKey, cX3_plainKey, (some .int))
  | 7 => (kX3_plainFault, 3, yX3_plainFault, cX3_plainFault, (some .int))
  | 8 => (kX3_nextLine, 1, yX3_nextLine, cX3_nextLine, (some .int))
  | 9 => (kX3_doPlainKey, 2, yX3_doPlainKey, cX3_doPlainKey, none)
  | 10 => (kX3_typeText, 8, yX3_typeText, cX3_typeText, (some .int))
  | 11 => (kX4_copyFrom, 2, yX4_copyFrom, cX4_copyFrom, none)
  | 12 => (kX4_clear, 1, yX4_clear, cX4_clear, none)
  | 13 => (kX4_placeOf, 3, yX4_placeOf, cX4_placeOf, (some .int))
  | 14 => (kX4_isEmpty, 2, yX4_isEmpty, cX4_isEmpty, (some .boolean))
  | 15 => (kX4_print, 4, yX4_print, cX4_print, none)
  | 16 => (kX4_places, 1, yX4_places, cX4_places, (some .int))
  | 17 => (kX4_endOf, 3, yX4_endOf, cX4_endOf, (some .int))
  | 18 => (kX4_wordsIn, 6, yX4_wordsIn, cX4_wordsIn, (some .int))
  | 19 => (kX4_placesWith, 4, yX4_placesWith, cX4_placesWith, (some .int))
  | _ => ([], 0, ⟨"", "", ""⟩, ⟨#[]⟩, none)
def mt3 (i : Nat) : List EN × Nat × MethodName × ByteArray × Option FieldType := match i with
  | 0 => (kX4_filledPlaces, 1, yX4_filledPlaces, cX4_filledPlaces, (some .int))
  | 1 => (kX4_allDarkness, 3, yX4_allDarkness, cX4_allDarkness, (some .int))
  | 2 => (kX4_palestPlace, 3, yX4_palestPlace, cX4_palestPlace, (some .int))
  | 3 => (kX5_parse, 3, yX5_parse, cX5_parse, none)
  | 4 => (kX5_takeBar, 4, yX5_takeBar, cX5_takeBar, none)
  | 5 => (kX5_takeTab, 2, yX5_takeTab, cX5_takeTab, none)
  | 6 => (kX5_takeSettings, 6, yX5_takeSettings, cX5_takeSettings, none)
  | 7 => (kX5_takeNumber, 4, yX5_takeNumber, cX5_takeNumber, (some .int))
  | 8 => (kX5_requireNumber, 3, yX5_requireNumber, cX5_requireNumber, none)
  | 9 => (kX5_takeWord, 2, yX5_takeWord, cX5_takeWord, none)
  | 10 => (kX5_takeSemicolon, 1, yX5_takeSemicolon, cX5_takeSemicolon, none)
  | 11 => (kX5_isWord, 3, yX5_isWord, cX5_isWord, (some .boolean))
  | 12 => (kX5_fail, 2, yX5_fail, cX5_fail, none)
  | 13 => (kX5_readToken, 2, yX5_readToken, cX5_readToken, none)
  | 14 => (kX5_readWord, 1, yX5_readWord, cX5_readWord, none)
  | 15 => (kX5_readNumber, 1, yX5_readNumber, cX5_readNumber, none)
  | 16 => (kX6_copyFrom, 2, yX6_copyFrom, cX6_copyFrom, none)
  | 17 => (kX6_renew, 1, yX6_renew, cX6_renew, none)
  | 18 => (kX6_feed, 3, yX6_feed, cX6_feed, (some .int))
  | 19 => (kX6_allInk, 3, yX6_allInk, cX6_allInk, (some .int))
  | _ => ([], 0, ⟨"", "", ""⟩, ⟨#[]⟩, none)
def mt4 (i : Nat) : List EN × Nat × MethodName × ByteArray × Option FieldType := match i with
  | 0 => (kX6_dryPlaces, 3, yX6_dryPlaces, cX6_dryPlaces, (some .int))
  | 1 => (kX7_at, 2, yX7_at, cX7_at, (some .int))
  | 2 => (kX7_put, 3, yX7_put, cX7_put, none)
  | 3 => (kX7_fill, 3, yX7_fill, cX7_fill, none)
  | 4 => (kX7_copyFrom, 2, yX7_copyFrom, cX7_copyFrom, none)
  | 5 => (kX9_append, 6, yX9_append, cX9_append, (some .int))
  | 6 => (kX9_appendFour, 3, yX9_appendFour, cX9_appendFour, none)
  | 7 => (kX9_load, 2, yX9_load, cX9_load, (some .int))
  | 8 => (kX9_parseError, 1, yX9_parseError, cX9_parseError, (some .int))
  | 9 => (kX9_errorPosition, 1, yX9_errorPosition, cX9_errorPosition, (some .int))
  | 10 => (kX9_buffered, 1, yX9_buffered, cX9_buffered, (some .int))
  | 11 => (kX9_count, 2, yX9_count, cX9_count, (some .int))
  | 12 => (kX9_setting, 2, yX9_setting, cX9_setting, (some .int))
  | 13 => (kX9_carriage, 3, yX9_carriage, cX9_carriage, (some .int))
  | 14 => (kX9_bar, 4, yX9_bar, cX9_bar, (some .int))
  | 15 => (kX9_barOf, 2, yX9_barOf, cX9_barOf, (some .int))
  | 16 => (kX9_latest, 1, yX9_latest, cX9_latest, (some .int))
  | 17 => (kX9_ribbon, 2, yX9_ribbon, cX9_ribbon, (some .int))
  | 18 => (kX9_head, 3, yX9_head, cX9_head, (some .int))
  | 19 => (kX9_sign, 3, yX9_sign, cX9_sign, (some .int))
  | _ => ([], 0, ⟨"", "", ""⟩, ⟨#[]⟩, none)
def mt5 (i : Nat) : List EN × Nat × MethodName × ByteArray × Option FieldType := match i with
  | 0 => (kX9_darkness, 3, yX9_darkness, cX9_darkness, (some .int))
  | 1 => (kX9_isStop, 2, yX9_isStop, cX9_isStop, (some .boolean))
  | 2 => (kX9_reason, 1, yX9_reason, cX9_reason, (some .int))
  | 3 => (kX9_reasonAt, 1, yX9_reasonAt, cX9_reasonAt, (some .int))
  | 4 => (kX9_lineLength, 2, yX9_lineLength, cX9_lineLength, (some .int))
  | 5 => (kX9_words, 2, yX9_words, cX9_words, (some .int))
  | 6 => (kX9_letters, 2, yX9_letters, cX9_letters, (some .int))
  | 7 => (kX9_palest, 1, yX9_palest, cX9_palest, (some .int))
  | 8 => (kX9_meanDarkness, 2, yX9_meanDarkness, cX9_meanDarkness, (some .double))
  | 9 => (kX9_inkShare, 2, yX9_inkShare, cX9_inkShare, (some .float))
  | 10 => (kX9_slowest, 1, yX9_slowest, cX9_slowest, (some .int))
  | 11 => (kX9_nextStop, 2, yX9_nextStop, cX9_nextStop, (some .int))
  | 12 => (kX9_bellIn, 1, yX9_bellIn, cX9_bellIn, (some .int))
  | 13 => (kX9_wouldBe, 4, yX9_wouldBe, cX9_wouldBe, (some .int))
  | 14 => (kX9_freeIn, 3, yX9_freeIn, cX9_freeIn, (some .int))
  | 15 => (kX9_paceOf, 3, yX9_paceOf, cX9_paceOf, (some .int))
  | 16 => (kX9_worstPair, 1, yX9_worstPair, cX9_worstPair, (some .int))
  | 17 => (kX9_wouldType, 4, yX9_wouldType, cX9_wouldType, (some .int))
  | 18 => (kX9_paceFor, 3, yX9_paceFor, cX9_paceFor, (some .int))
  | 19 => (kX9_keysTo, 2, yX9_keysTo, cX9_keysTo, (some .int))
  | _ => ([], 0, ⟨"", "", ""⟩, ⟨#[]⟩, none)
def mt6 (i : Nat) : List EN × Nat × MethodName × ByteArray × Option FieldType := match i with
  | 0 => (kX9_printsLeft, 3, yX9_printsLeft, cX9_printsLeft, (some .int))
  | 1 => (kX9_writeLine, 3, yX9_writeLine, cX9_writeLine, (some .int))
  | 2 => (kX9_writeShades, 4, yX9_writeShades, cX9_writeShades, (some .int))
  | 3 => (kX9_writeRuler, 2, yX9_writeRuler, cX9_writeRuler, (some .int))
  | 4 => (kX9_rulerMark, 2, yX9_rulerMark, cX9_rulerMark, (some .int))
  | 5 => (kX9_textByte, 2, yX9_textByte, cX9_textByte, (some .int))
  | 6 => (kX9_strike, 3, yX9_strike, cX9_strike, (some .int))
  | 7 => (kX9_press, 2, yX9_press, cX9_press, (some .int))
  | 8 => (kX9_type, 2, yX9_type, cX9_type, (some .int))
  | 9 => (kX9_setStop, 4, yX9_setStop, cX9_setStop, (some .boolean))
  | 10 => (kX9_setMargin, 6, yX9_setMargin, cX9_setMargin, (some .int))
  | 11 => (kX9_set, 3, yX9_set, cX9_set, (some .int))
  | 12 => (kX9_replaceSetting, 4, yX9_replaceSetting, cX9_replaceSetting, (some .int))
  | 13 => (kX9_rest, 2, yX9_rest, cX9_rest, (some .int))
  | 14 => (kX9_newRibbon, 2, yX9_newRibbon, cX9_newRibbon, (some .int))
  | 15 => (kX9_newPage, 2, yX9_newPage, cX9_newPage, (some .int))
  | 16 => (kX9_undo, 1, yX9_undo, cX9_undo, (some .int))
  | 17 => (kX9_undoable, 1, yX9_undoable, cX9_undoable, (some .int))
  | 18 => (kX9_save, 3, yX9_save, cX9_save, (some .int))
  | 19 => (kX9_restore, 3, yX9_restore, cX9_restore, (some .int))
  | _ => ([], 0, ⟨"", "", ""⟩, ⟨#[]⟩, none)
def mt7 (i : Nat) : List EN × Nat × MethodName × ByteArray × Option FieldType := match i with
  | 0 => (kX9_slotOf, 2, yX9_slotOf, cX9_slotOf, (some (.object "TypebarMachine$Slot")))
  | 1 => (kX9_requireLoaded, 1, yX9_requireLoaded, cX9_requireLoaded, none)
  | 2 => (kX9_requireBytes, 2, yX9_requireBytes, cX9_requireBytes, none)
  | 3 => (kX9_requireBar, 2, yX9_requireBar, cX9_requireBar, none)
  | 4 => (kX9_requireLine, 2, yX9_requireLine, cX9_requireLine, none)
  | 5 => (kX9_requireColumn, 2, yX9_requireColumn, cX9_requireColumn, none)
  | 6 => (kX9_requireCarriageColumn, 2, yX9_requireCarriageColumn, cX9_requireCarriageColumn, none)
  | 7 => (kX9_requireSlot, 1, yX9_requireSlot, cX9_requireSlot, none)
  | 8 => (kX9_requireIndex, 1, yX9_requireIndex, cX9_requireIndex, none)
  | 9 => (kX9_requireArgument, 1, yX9_requireArgument, cX9_requireArgument, none)
  | 10 => (kX9_isSettable, 1, yX9_isSettable, cX9_isSettable, (some .boolean))
  | 11 => (kX9_lowest, 2, yX9_lowest, cX9_lowest, (some .int))
  | 12 => (kX9_highest, 2, yX9_highest, cX9_highest, (some .int))
  | 13 => (kX9_isSmall, 1, yX9_isSmall, cX9_isSmall, (some .boolean))
  | 14 => (kX9_isCapital, 1, yX9_isCapital, cX9_isCapital, (some .boolean))
  | 15 => (kX9_isDigit, 1, yX9_isDigit, cX9_isDigit, (some .boolean))
  | 16 => (kX9_keyOf, 1, yX9_keyOf, cX9_keyOf, (some .int))
  | 17 => (kX10_thrown, 1, yX10_thrown, cX10_thrown, (some .int))
  | 18 => (kX10_in, 3, yX10_in, cX10_in, (some .boolean))
  | 19 => (kX10_flag, 1, yX10_flag, cX10_flag, (some .int))
  | _ => ([], 0, ⟨"", "", ""⟩, ⟨#[]⟩, none)
def mt8 (i : Nat) : List EN × Nat × MethodName × ByteArray × Option FieldType := match i with
  | 0 => (kX10_refuse, 3, yX10_refuse, cX10_refuse, (some .boolean))
  | 1 => (kX10_notLoaded, 1, yX10_notLoaded, cX10_notLoaded, (some .boolean))
  | 2 => (kX10_append, 8, yX10_append, cX10_append, (some .int))
  | 3 => (kX10_buffered, 1, yX10_buffered, cX10_buffered, (some .int))
  | 4 => (kX10_parseError, 1, yX10_parseError, cX10_parseError, (some .int))
  | 5 => (kX10_errorPosition, 1, yX10_errorPosition, cX10_errorPosition, (some .int))
  | 6 => (kX10_seen, 2, yX10_seen, cX10_seen, (some .int))
  | 7 => (kX10_isSmall, 1, yX10_isSmall, cX10_isSmall, (some .boolean))
  | 8 => (kX10_isDigit, 1, yX10_isDigit, cX10_isDigit, (some .boolean))
  | 9 => (kX10_token, 2, yX10_token, cX10_token, none)
  | 10 => (kX10_fails, 2, yX10_fails, cX10_fails, none)
  | 11 => (kX10_failsIf, 3, yX10_failsIf, cX10_failsIf, none)
  | 12 => (kX10_goesOn, 1, yX10_goesOn, cX10_goesOn, none)
  | 13 => (kX10_isWord, 3, yX10_isWord, cX10_isWord, (some .boolean))
  | 14 => (kX10_word, 2, yX10_word, cX10_word, none)
  | 15 => (kX10_looks, 3, yX10_looks, cX10_looks, (some .int))
  | 16 => (kX10_takes, 4, yX10_takes, cX10_takes, (some .int))
  | 17 => (kX10_semicolon, 1, yX10_semicolon, cX10_semicolon, none)
  | 18 => (kX10_holds, 2, yX10_holds, cX10_holds, none)
  | 19 => (kX10_laysBack, 2, yX10_laysBack, cX10_laysBack, none)
  | _ => ([], 0, ⟨"", "", ""⟩, ⟨#[]⟩, none)
def mt9 (i : Nat) : List EN × Nat × MethodName × ByteArray × Option FieldType := match i with
  | 0 => (kX10_its, 2, yX10_its, cX10_its, (some .int))
  | 1 => (kX10_puts, 3, yX10_puts, cX10_puts, none)
  | 2 => (kX10_clears, 2, yX10_clears, cX10_clears, none)
  | 3 => (kX10_withLetter, 3, yX10_withLetter, cX10_withLetter, (some .int))
  | 4 => (kX10_barLine, 3, yX10_barLine, cX10_barLine, none)
  | 5 => (kX10_tabLine, 2, yX10_tabLine, cX10_tabLine, none)
  | 6 => (kX10_line, 1, yX10_line, cX10_line, none)
  | 7 => (kX10_readsHead, 1, yX10_readsHead, cX10_readsHead, none)
  | 8 => (kX10_reads, 2, yX10_reads, cX10_reads, none)
  | 9 => (kX10_fillsRibbon, 2, yX10_fillsRibbon, cX10_fillsRibbon, none)
  | 10 => (kX10_load, 2, yX10_load, cX10_load, (some .int))
  | 11 => (kX10_struckAt, 2, yX10_struckAt, cX10_struckAt, (some .int))
  | 12 => (kX10_rise, 2, yX10_rise, cX10_rise, (some .int))
  | 13 => (kX10_backIn, 3, yX10_backIn, cX10_backIn, (some .int))
  | 14 => (kX10_clearance, 3, yX10_clearance, cX10_clearance, (some .int))
  | 15 => (kX10_wouldJam, 4, yX10_wouldJam, cX10_wouldJam, (some .boolean))
  | 16 => (kX10_isLocked, 2, yX10_isLocked, cX10_isLocked, (some .boolean))
  | 17 => (kX10_reasonOf, 3, yX10_reasonOf, cX10_reasonOf, (some .int))
  | 18 => (kX10_counts, 2, yX10_counts, cX10_counts, none)
  | 19 => (kX10_advances, 1, yX10_advances, cX10_advances, none)
  | _ => ([], 0, ⟨"", "", ""⟩, ⟨#[]⟩, none)
def mt10 (i : Nat) : List EN × Nat × MethodName × ByteArray × Option FieldType := match i with
  | 0 => (kX10_runsOn, 2, yX10_runsOn, cX10_runsOn, none)
  | 1 => (kX10_prints, 4, yX10_prints, cX10_prints, none)
  | 2 => (kX10_strikes, 3, yX10_strikes, cX10_strikes, none)
  | 3 => (kX10_ends, 2, yX10_ends, cX10_ends, (some .int))
  | 4 => (kX10_begins, 1, yX10_begins, cX10_begins, none)
  | 5 => (kX10_letterKey, 4, yX10_letterKey, cX10_letterKey, (some .int))
  | 6 => (kX10_spaceKey, 2, yX10_spaceKey, cX10_spaceKey, (some .int))
  | 7 => (kX10_stopFrom, 3, yX10_stopFrom, cX10_stopFrom, (some .int))
  | 8 => (kX10_backFrom, 3, yX10_backFrom, cX10_backFrom, (some .int))
  | 9 => (kX10_returnKey, 1, yX10_returnKey, cX10_returnKey, (some .int))
  | 10 => (kX10_frees, 2, yX10_frees, cX10_frees, none)
  | 11 => (kX10_goes, 2, yX10_goes, cX10_goes, (some .int))
  | 12 => (kX10_otherKey, 2, yX10_otherKey, cX10_otherKey, (some .int))
  | 13 => (kX10_isCapital, 1, yX10_isCapital, cX10_isCapital, (some .boolean))
  | 14 => (kX10_barFor, 2, yX10_barFor, cX10_barFor, (some .int))
  | 15 => (kX10_keyFor, 1, yX10_keyFor, cX10_keyFor, (some .int))
  | 16 => (kX10_types, 3, yX10_types, cX10_types, (some .int))
  | 17 => (kX10_typesAll, 4, yX10_typesAll, cX10_typesAll, (some .int))
  | 18 => (kX10_stops, 3, yX10_stops, cX10_stops, (some .int))
  | 19 => (kX10_count, 2, yX10_count, cX10_count, (some .int))
  | _ => ([], 0, ⟨"", "", ""⟩, ⟨#[]⟩, none)
def mt11 (i : Nat) : List EN × Nat × MethodName × ByteArray × Option FieldType := match i with
  | 0 => (kX10_setting, 2, yX10_setting, cX10_setting, (some .int))
  | 1 => (kX10_carriage, 2, yX10_carriage, cX10_carriage, (some .int))
  | 2 => (kX10_isBar, 2, yX10_isBar, cX10_isBar, (some .boolean))
  | 3 => (kX10_noBar, 2, yX10_noBar, cX10_noBar, (some .boolean))
  | 4 => (kX10_bar, 3, yX10_bar, cX10_bar, (some .int))
  | 5 => (kX10_barOf, 2, yX10_barOf, cX10_barOf, (some .int))
  | 6 => (kX10_latest, 1, yX10_latest, cX10_latest, (some .int))
  | 7 => (kX10_ribbon, 2, yX10_ribbon, cX10_ribbon, (some .int))
  | 8 => (kX10_allInk, 3, yX10_allInk, cX10_allInk, (some .int))
  | 9 => (kX10_dryPlaces, 3, yX10_dryPlaces, cX10_dryPlaces, (some .int))
  | 10 => (kX10_head, 2, yX10_head, cX10_head, (some .int))
  | 11 => (kX10_isLine, 2, yX10_isLine, cX10_isLine, (some .boolean))
  | 12 => (kX10_isColumn, 2, yX10_isColumn, cX10_isColumn, (some .boolean))
  | 13 => (kX10_noPlace, 3, yX10_noPlace, cX10_noPlace, (some .boolean))
  | 14 => (kX10_noLine, 2, yX10_noLine, cX10_noLine, (some .boolean))
  | 15 => (kX10_signAt, 3, yX10_signAt, cX10_signAt, (some .int))
  | 16 => (kX10_darkAt, 3, yX10_darkAt, cX10_darkAt, (some .int))
  | 17 => (kX10_sign, 3, yX10_sign, cX10_sign, (some .int))
  | 18 => (kX10_darkness, 3, yX10_darkness, cX10_darkness, (some .int))
  | 19 => (kX10_isStop, 2, yX10_isStop, cX10_isStop, (some .boolean))
  | _ => ([], 0, ⟨"", "", ""⟩, ⟨#[]⟩, none)
def mt12 (i : Nat) : List EN × Nat × MethodName × ByteArray × Option FieldType := match i with
  | 0 => (kX10_reason, 1, yX10_reason, cX10_reason, (some .int))
  | 1 => (kX10_reasonAt, 1, yX10_reasonAt, cX10_reasonAt, (some .int))
  | 2 => (kX10_longOf, 3, yX10_longOf, cX10_longOf, (some .int))
  | 3 => (kX10_lineLength, 2, yX10_lineLength, cX10_lineLength, (some .int))
  | 4 => (kX10_words, 4, yX10_words, cX10_words, (some .int))
  | 5 => (kX10_letters, 4, yX10_letters, cX10_letters, (some .int))
  | 6 => (kX10_filled, 3, yX10_filled, cX10_filled, (some .int))
  | 7 => (kX10_palest, 3, yX10_palest, cX10_palest, (some .int))
  | 8 => (kX10_meanDarkness, 3, yX10_meanDarkness, cX10_meanDarkness, (some .double))
  | 9 => (kX10_inkShare, 1, yX10_inkShare, cX10_inkShare, (some .float))
  | 10 => (kX10_slowest, 3, yX10_slowest, cX10_slowest, (some .int))
  | 11 => (kX10_nextStop, 2, yX10_nextStop, cX10_nextStop, (some .int))
  | 12 => (kX10_bellIn, 3, yX10_bellIn, cX10_bellIn, (some .int))
  | 13 => (kX10_wouldBe, 3, yX10_wouldBe, cX10_wouldBe, (some .int))
  | 14 => (kX10_freeIn, 3, yX10_freeIn, cX10_freeIn, (some .int))
  | 15 => (kX10_paceBetween, 5, yX10_paceBetween, cX10_paceBetween, (some .int))
  | 16 => (kX10_paceOf, 3, yX10_paceOf, cX10_paceOf, (some .int))
  | 17 => (kX10_worstPair, 6, yX10_worstPair, cX10_worstPair, (some .int))
  | 18 => (kX10_putsAside, 2, yX10_putsAside, cX10_putsAside, none)
  | 19 => (kX10_fetchesBack, 3, yX10_fetchesBack, cX10_fetchesBack, (some .int))
  | _ => ([], 0, ⟨"", "", ""⟩, ⟨#[]⟩, none)
def mt13 (i : Nat) : List EN × Nat × MethodName × ByteArray × Option FieldType := match i with
  | 0 => (kX10_noBytes, 2, yX10_noBytes, cX10_noBytes, (some .boolean))
  | 1 => (kX10_wouldType, 5, yX10_wouldType, cX10_wouldType, (some .int))
  | 2 => (kX10_paceFor, 5, yX10_paceFor, cX10_paceFor, (some .int))
  | 3 => (kX10_reaches, 3, yX10_reaches, cX10_reaches, none)
  | 4 => (kX10_keysTo, 4, yX10_keysTo, cX10_keysTo, (some .int))
  | 5 => (kX10_printsLeft, 3, yX10_printsLeft, cX10_printsLeft, (some .int))
  | 6 => (kX10_says, 2, yX10_says, cX10_says, none)
  | 7 => (kX10_writeLine, 3, yX10_writeLine, cX10_writeLine, (some .int))
  | 8 => (kX10_writeShades, 3, yX10_writeShades, cX10_writeShades, (some .int))
  | 9 => (kX10_rulerSign, 2, yX10_rulerSign, cX10_rulerSign, (some .int))
  | 10 => (kX10_writeRuler, 2, yX10_writeRuler, cX10_writeRuler, (some .int))
  | 11 => (kX10_textByte, 2, yX10_textByte, cX10_textByte, (some .int))
  | 12 => (kX10_keeps, 3, yX10_keeps, cX10_keeps, none)
  | 13 => (kX10_fetches, 3, yX10_fetches, cX10_fetches, none)
  | 14 => (kX10_keepsAll, 2, yX10_keepsAll, cX10_keepsAll, none)
  | 15 => (kX10_strike, 3, yX10_strike, cX10_strike, (some .int))
  | 16 => (kX10_press, 2, yX10_press, cX10_press, (some .int))
  | 17 => (kX10_type, 2, yX10_type, cX10_type, (some .int))
  | 18 => (kX10_setStop, 4, yX10_setStop, cX10_setStop, (some .boolean))
  | 19 => (kX10_replaces, 4, yX10_replaces, cX10_replaces, (some .int))
  | _ => ([], 0, ⟨"", "", ""⟩, ⟨#[]⟩, none)
def mt14 (i : Nat) : List EN × Nat × MethodName × ByteArray × Option FieldType := match i with
  | 0 => (kX10_setMargin, 5, yX10_setMargin, cX10_setMargin, (some .int))
  | 1 => (kX10_maySet, 3, yX10_maySet, cX10_maySet, (some .boolean))
  | 2 => (kX10_set, 3, yX10_set, cX10_set, (some .int))
  | 3 => (kX10_rest, 4, yX10_rest, cX10_rest, (some .int))
  | 4 => (kX10_newRibbon, 2, yX10_newRibbon, cX10_newRibbon, (some .int))
  | 5 => (kX10_newPage, 3, yX10_newPage, cX10_newPage, (some .int))
  | 6 => (kX10_undo, 1, yX10_undo, cX10_undo, (some .int))
  | 7 => (kX10_undoable, 1, yX10_undoable, cX10_undoable, (some .int))
  | 8 => (kX10_save, 2, yX10_save, cX10_save, (some .int))
  | 9 => (kX10_restore, 2, yX10_restore, cX10_restore, (some .int))
  | _ => ([], 0, ⟨"", "", ""⟩, ⟨#[]⟩, none)
def mtab (μ : Nat) : List EN × Nat × MethodName × ByteArray × Option FieldType := match μ / 20 with
  | 0 => mt0 (μ % 20)
  | 1 => mt1 (μ % 20)
  | 2 => mt2 (μ % 20)
  | 3 => mt3 (μ % 20)
  | 4 => mt4 (μ % 20)
  | 5 => mt5 (μ % 20)
  | 6 => mt6 (μ % 20)
  | 7 => mt7 (μ % 20)
  | 8 => mt8 (μ % 20)
  | 9 => mt9 (μ % 20)
  | 10 => mt10 (μ % 20)
  | 11 => mt11 (μ % 20)
  | 12 => mt12 (μ % 20)
  | 13 => mt13 (μ % 20)
  | 14 => mt14 (μ % 20)
  | _ => ([], 0, ⟨"", "", ""⟩, ⟨#[]⟩, none)
def codeOf (μ : Nat) : List EN := (mtab μ).1
def maxOf (μ : Nat) : Nat := (mtab μ).2.1
theorem coX0_copyFrom : codeOf 0 = kX0_copyFrom := rfl
theorem moX0_copyFrom : maxOf 0 = 2 := rfl
theorem coX0_clear : codeOf 1 = kX0_clear := rfl
theorem moX0_clear : maxOf 1 = 1 := rfl
theorem coX0_add : codeOf 2 = kX0_add := rfl
theorem moX0_add : maxOf 2 = 3 := rfl
theorem coX0_withLetter : codeOf 3 = kX0_withLetter := rfl
theorem moX0_withLetter : maxOf 3 = 4 := rfl
theorem coX0_riseOf : codeOf 4 = kX0_riseOf := rfl
theorem moX0_riseOf : maxOf 4 = 2 := rfl
theorem coX0_backAt : codeOf 5 = kX0_backAt := rfl
theorem moX0_backAt : maxOf 5 = 3 := rfl
theorem coX0_notBackAt : codeOf 6 = kX0_notBackAt := rfl
theorem moX0_notBackAt : maxOf 6 = 4 := rfl
theorem coX0_areJammed : codeOf 7 = kX0_areJammed := rfl
theorem moX0_areJammed : maxOf 7 = 1 := rfl
theorem coX0_isJammed : codeOf 8 = kX0_isJammed := rfl
theorem moX0_isJammed : maxOf 8 = 2 := rfl
theorem coX0_strikeFault : codeOf 9 = kX0_strikeFault := rfl
theorem moX0_strikeFault : maxOf 9 = 4 := rfl
theorem coX0_roomOf : codeOf 10 = kX0_roomOf := rfl
theorem moX0_roomOf : maxOf 10 = 4 := rfl
theorem coX0_noteStrike : codeOf 11 = kX0_noteStrike := rfl
theorem moX0_noteStrike : maxOf 11 = 3 := rfl
theorem coX0_jamWithLatest : codeOf 12 = kX0_jamWithLatest := rfl
theorem moX0_jamWithLatest : maxOf 12 = 2 := rfl
theorem coX0_free : codeOf 13 = kX0_free := rfl
theorem moX0_free : maxOf 13 = 1 := rfl
theorem coX0_leastPace : codeOf 14 = kX0_leastPace := rfl
theorem moX0_leastPace : maxOf 14 = 8 := rfl
theorem coX0_slowestPair : codeOf 15 = kX0_slowestPair := rfl
theorem moX0_slowestPair : maxOf 15 = 7 := rfl
theorem coX0_withGreatestRise : codeOf 16 = kX0_withGreatestRise := rfl
theorem moX0_withGreatestRise : maxOf 16 = 3 := rfl
theorem coX1_copyFrom : codeOf 17 = kX1_copyFrom := rfl
theorem moX1_copyFrom : maxOf 17 = 2 := rfl
theorem coX1_goHome : codeOf 18 = kX1_goHome := rfl
theorem moX1_goHome : maxOf 18 = 1 := rfl
theorem coX1_goToLine : codeOf 19 = kX1_goToLine := rfl
theorem moX1_goToLine : maxOf 19 = 2 := rfl
theorem coX1_stopsAt : codeOf 20 = kX1_stopsAt := rfl
theorem moX1_stopsAt : maxOf 20 = 2 := rfl
theorem coX1_stopsSet : codeOf 21 = kX1_stopsSet := rfl
theorem moX1_stopsSet : maxOf 21 = 3 := rfl
theorem coX1_locksAt : codeOf 22 = kX1_locksAt := rfl
theorem moX1_locksAt : maxOf 22 = 2 := rfl
theorem coX1_bellColumn : codeOf 23 = kX1_bellColumn := rfl
theorem moX1_bellColumn : maxOf 23 = 1 := rfl
theorem coX1_spacesToBell : codeOf 24 = kX1_spacesToBell := rfl
theorem moX1_spacesToBell : maxOf 24 = 1 := rfl
theorem coX1_tabFrom : codeOf 25 = kX1_tabFrom := rfl
theorem moX1_tabFrom : maxOf 25 = 3 := rfl
theorem coX1_backFrom : codeOf 26 = kX1_backFrom := rfl
theorem moX1_backFrom : maxOf 26 = 3 := rfl
theorem coX1_fewestKeysTo : codeOf 27 = kX1_fewestKeysTo := rfl
theorem moX1_fewestKeysTo : maxOf 27 = 6 := rfl
theorem coX1_reachFrom : codeOf 28 = kX1_reachFrom := rfl
theorem moX1_reachFrom : maxOf 28 = 4 := rfl
theorem coX1_reachOnce : codeOf 29 = kX1_reachOnce := rfl
theorem moX1_reachOnce : maxOf 29 = 3 := rfl
theorem coX2_clear : codeOf 30 = kX2_clear := rfl
theorem moX2_clear : maxOf 30 = 1 := rfl
theorem coX2_keep : codeOf 31 = kX2_keep := rfl
theorem moX2_keep : maxOf 31 = 3 := rfl
theorem coX2_takeLatest : codeOf 32 = kX2_takeLatest := rfl
theorem moX2_takeLatest : maxOf 32 = 3 := rfl
theorem coX2_placeOf : codeOf 33 = kX2_placeOf := rfl
theorem moX2_placeOf : maxOf 33 = 3 := rfl
theorem coX3_copyFrom : codeOf 34 = kX3_copyFrom := rfl
theorem moX3_copyFrom : maxOf 34 = 2 := rfl
theorem coX3_copyMotionFrom : codeOf 35 = kX3_copyMotionFrom := rfl
theorem moX3_copyMotionFrom : maxOf 35 = 2 := rfl
theorem coX3_clear : codeOf 36 = kX3_clear := rfl
theorem moX3_clear : maxOf 36 = 1 := rfl
theorem coX3_begin : codeOf 37 = kX3_begin := rfl
theorem moX3_begin : maxOf 37 = 1 := rfl
theorem coX3_addTo : codeOf 38 = kX3_addTo := rfl
theorem moX3_addTo : maxOf 38 = 3 := rfl
theorem coX3_startKey : codeOf 39 = kX3_startKey := rfl
theorem moX3_startKey : maxOf 39 = 1 := rfl
theorem coX3_endKey : codeOf 40 = kX3_endKey := rfl
theorem moX3_endKey : maxOf 40 = 2 := rfl
theorem coX3_noteKey : codeOf 41 = kX3_noteKey := rfl
theorem moX3_noteKey : maxOf 41 = 2 := rfl
theorem coX3_standingFault : codeOf 42 = kX3_standingFault := rfl
theorem moX3_standingFault : maxOf 42 = 2 := rfl
theorem coX3_letterKey : codeOf 43 = kX3_letterKey := rfl
theorem moX3_letterKey : maxOf 43 = 4 := rfl
theorem coX3_printLetter : codeOf 44 = kX3_printLetter := rfl
theorem moX3_printLetter : maxOf 44 = 5 := rfl
theorem coX3_moveOn : codeOf 45 = kX3_moveOn := rfl
theorem moX3_moveOn : maxOf 45 = 1 := rfl
theorem coX3_plainKey : codeOf 46 = kX3_plainKey := rfl
theorem moX3_plainKey : maxOf 46 = 3 := rfl
theorem coX3_plainFault : codeOf 47 = kX3_plainFault := rfl
theorem moX3_plainFault : maxOf 47 = 3 := rfl
theorem coX3_nextLine : codeOf 48 = kX3_nextLine := rfl
theorem moX3_nextLine : maxOf 48 = 1 := rfl
theorem coX3_doPlainKey : codeOf 49 = kX3_doPlainKey := rfl
theorem moX3_doPlainKey : maxOf 49 = 2 := rfl
theorem coX3_typeText : codeOf 50 = kX3_typeText := rfl
theorem moX3_typeText : maxOf 50 = 8 := rfl
theorem coX4_copyFrom : codeOf 51 = kX4_copyFrom := rfl
theorem moX4_copyFrom : maxOf 51 = 2 := rfl
theorem coX4_clear : codeOf 52 = kX4_clear := rfl
theorem moX4_clear : maxOf 52 = 1 := rfl
theorem coX4_placeOf : codeOf 53 = kX4_placeOf := rfl
theorem moX4_placeOf : maxOf 53 = 3 := rfl
theorem coX4_isEmpty : codeOf 54 = kX4_isEmpty := rfl
theorem moX4_isEmpty : maxOf 54 = 2 := rfl
theorem coX4_print : codeOf 55 = kX4_print := rfl
theorem moX4_print : maxOf 55 = 4 := rfl
theorem coX4_places : codeOf 56 = kX4_places := rfl
theorem moX4_places : maxOf 56 = 1 := rfl
theorem coX4_endOf : codeOf 57 = kX4_endOf := rfl
theorem moX4_endOf : maxOf 57 = 3 := rfl
theorem coX4_wordsIn : codeOf 58 = kX4_wordsIn := rfl
theorem moX4_wordsIn : maxOf 58 = 6 := rfl
theorem coX4_placesWith : codeOf 59 = kX4_placesWith := rfl
theorem moX4_placesWith : maxOf 59 = 4 := rfl
theorem coX4_filledPlaces : codeOf 60 = kX4_filledPlaces := rfl
theorem moX4_filledPlaces : maxOf 60 = 1 := rfl
theorem coX4_allDarkness : codeOf 61 = kX4_allDarkness := rfl
theorem moX4_allDarkness : maxOf 61 = 3 := rfl
theorem coX4_palestPlace : codeOf 62 = kX4_palestPlace := rfl
theorem moX4_palestPlace : maxOf 62 = 3 := rfl
theorem coX5_parse : codeOf 63 = kX5_parse := rfl
theorem moX5_parse : maxOf 63 = 3 := rfl
theorem coX5_takeBar : codeOf 64 = kX5_takeBar := rfl
theorem moX5_takeBar : maxOf 64 = 4 := rfl
theorem coX5_takeTab : codeOf 65 = kX5_takeTab := rfl
theorem moX5_takeTab : maxOf 65 = 2 := rfl
theorem coX5_takeSettings : codeOf 66 = kX5_takeSettings := rfl
theorem moX5_takeSettings : maxOf 66 = 6 := rfl
theorem coX5_takeNumber : codeOf 67 = kX5_takeNumber := rfl
theorem moX5_takeNumber : maxOf 67 = 4 := rfl
theorem coX5_requireNumber : codeOf 68 = kX5_requireNumber := rfl
theorem moX5_requireNumber : maxOf 68 = 3 := rfl
theorem coX5_takeWord : codeOf 69 = kX5_takeWord := rfl
theorem moX5_takeWord : maxOf 69 = 2 := rfl
theorem coX5_takeSemicolon : codeOf 70 = kX5_takeSemicolon := rfl
theorem moX5_takeSemicolon : maxOf 70 = 1 := rfl
theorem coX5_isWord : codeOf 71 = kX5_isWord := rfl
theorem moX5_isWord : maxOf 71 = 3 := rfl
theorem coX5_fail : codeOf 72 = kX5_fail := rfl
theorem moX5_fail : maxOf 72 = 2 := rfl
theorem coX5_readToken : codeOf 73 = kX5_readToken := rfl
theorem moX5_readToken : maxOf 73 = 2 := rfl
theorem coX5_readWord : codeOf 74 = kX5_readWord := rfl
theorem moX5_readWord : maxOf 74 = 1 := rfl
theorem coX5_readNumber : codeOf 75 = kX5_readNumber := rfl
theorem moX5_readNumber : maxOf 75 = 1 := rfl
theorem coX6_copyFrom : codeOf 76 = kX6_copyFrom := rfl
theorem moX6_copyFrom : maxOf 76 = 2 := rfl
theorem coX6_renew : codeOf 77 = kX6_renew := rfl
theorem moX6_renew : maxOf 77 = 1 := rfl
theorem coX6_feed : codeOf 78 = kX6_feed := rfl
theorem moX6_feed : maxOf 78 = 3 := rfl
theorem coX6_allInk : codeOf 79 = kX6_allInk := rfl
theorem moX6_allInk : maxOf 79 = 3 := rfl
theorem coX6_dryPlaces : codeOf 80 = kX6_dryPlaces := rfl
theorem moX6_dryPlaces : maxOf 80 = 3 := rfl
theorem coX7_at : codeOf 81 = kX7_at := rfl
theorem moX7_at : maxOf 81 = 2 := rfl
theorem coX7_put : codeOf 82 = kX7_put := rfl
theorem moX7_put : maxOf 82 = 3 := rfl
theorem coX7_fill : codeOf 83 = kX7_fill := rfl
theorem moX7_fill : maxOf 83 = 3 := rfl
theorem coX7_copyFrom : codeOf 84 = kX7_copyFrom := rfl
theorem moX7_copyFrom : maxOf 84 = 2 := rfl
theorem coX9_append : codeOf 85 = kX9_append := rfl
theorem moX9_append : maxOf 85 = 6 := rfl
theorem coX9_appendFour : codeOf 86 = kX9_appendFour := rfl
theorem moX9_appendFour : maxOf 86 = 3 := rfl
theorem coX9_load : codeOf 87 = kX9_load := rfl
theorem moX9_load : maxOf 87 = 2 := rfl
theorem coX9_parseError : codeOf 88 = kX9_parseError := rfl
theorem moX9_parseError : maxOf 88 = 1 := rfl
theorem coX9_errorPosition : codeOf 89 = kX9_errorPosition := rfl
theorem moX9_errorPosition : maxOf 89 = 1 := rfl
theorem coX9_buffered : codeOf 90 = kX9_buffered := rfl
theorem moX9_buffered : maxOf 90 = 1 := rfl
theorem coX9_count : codeOf 91 = kX9_count := rfl
theorem moX9_count : maxOf 91 = 2 := rfl
theorem coX9_setting : codeOf 92 = kX9_setting := rfl
theorem moX9_setting : maxOf 92 = 2 := rfl
theorem coX9_carriage : codeOf 93 = kX9_carriage := rfl
theorem moX9_carriage : maxOf 93 = 3 := rfl
theorem coX9_bar : codeOf 94 = kX9_bar := rfl
theorem moX9_bar : maxOf 94 = 4 := rfl
theorem coX9_barOf : codeOf 95 = kX9_barOf := rfl
theorem moX9_barOf : maxOf 95 = 2 := rfl
theorem coX9_latest : codeOf 96 = kX9_latest := rfl
theorem moX9_latest : maxOf 96 = 1 := rfl
theorem coX9_ribbon : codeOf 97 = kX9_ribbon := rfl
theorem moX9_ribbon : maxOf 97 = 2 := rfl
theorem coX9_head : codeOf 98 = kX9_head := rfl
theorem moX9_head : maxOf 98 = 3 := rfl
theorem coX9_sign : codeOf 99 = kX9_sign := rfl
theorem moX9_sign : maxOf 99 = 3 := rfl
theorem coX9_darkness : codeOf 100 = kX9_darkness := rfl
theorem moX9_darkness : maxOf 100 = 3 := rfl
theorem coX9_isStop : codeOf 101 = kX9_isStop := rfl
theorem moX9_isStop : maxOf 101 = 2 := rfl
theorem coX9_reason : codeOf 102 = kX9_reason := rfl
theorem moX9_reason : maxOf 102 = 1 := rfl
theorem coX9_reasonAt : codeOf 103 = kX9_reasonAt := rfl
theorem moX9_reasonAt : maxOf 103 = 1 := rfl
theorem coX9_lineLength : codeOf 104 = kX9_lineLength := rfl
theorem moX9_lineLength : maxOf 104 = 2 := rfl
theorem coX9_words : codeOf 105 = kX9_words := rfl
theorem moX9_words : maxOf 105 = 2 := rfl
theorem coX9_letters : codeOf 106 = kX9_letters := rfl
theorem moX9_letters : maxOf 106 = 2 := rfl
theorem coX9_palest : codeOf 107 = kX9_palest := rfl
theorem moX9_palest : maxOf 107 = 1 := rfl
theorem coX9_meanDarkness : codeOf 108 = kX9_meanDarkness := rfl
theorem moX9_meanDarkness : maxOf 108 = 2 := rfl
theorem coX9_inkShare : codeOf 109 = kX9_inkShare := rfl
theorem moX9_inkShare : maxOf 109 = 2 := rfl
theorem coX9_slowest : codeOf 110 = kX9_slowest := rfl
theorem moX9_slowest : maxOf 110 = 1 := rfl
theorem coX9_nextStop : codeOf 111 = kX9_nextStop := rfl
theorem moX9_nextStop : maxOf 111 = 2 := rfl
theorem coX9_bellIn : codeOf 112 = kX9_bellIn := rfl
theorem moX9_bellIn : maxOf 112 = 1 := rfl
theorem coX9_wouldBe : codeOf 113 = kX9_wouldBe := rfl
theorem moX9_wouldBe : maxOf 113 = 4 := rfl
theorem coX9_freeIn : codeOf 114 = kX9_freeIn := rfl
theorem moX9_freeIn : maxOf 114 = 3 := rfl
theorem coX9_paceOf : codeOf 115 = kX9_paceOf := rfl
theorem moX9_paceOf : maxOf 115 = 3 := rfl
theorem coX9_worstPair : codeOf 116 = kX9_worstPair := rfl
theorem moX9_worstPair : maxOf 116 = 1 := rfl
theorem coX9_wouldType : codeOf 117 = kX9_wouldType := rfl
theorem moX9_wouldType : maxOf 117 = 4 := rfl
theorem coX9_paceFor : codeOf 118 = kX9_paceFor := rfl
theorem moX9_paceFor : maxOf 118 = 3 := rfl
theorem coX9_keysTo : codeOf 119 = kX9_keysTo := rfl
theorem moX9_keysTo : maxOf 119 = 2 := rfl
theorem coX9_printsLeft : codeOf 120 = kX9_printsLeft := rfl
theorem moX9_printsLeft : maxOf 120 = 3 := rfl
theorem coX9_writeLine : codeOf 121 = kX9_writeLine := rfl
theorem moX9_writeLine : maxOf 121 = 3 := rfl
theorem coX9_writeShades : codeOf 122 = kX9_writeShades := rfl
theorem moX9_writeShades : maxOf 122 = 4 := rfl
theorem coX9_writeRuler : codeOf 123 = kX9_writeRuler := rfl
theorem moX9_writeRuler : maxOf 123 = 2 := rfl
theorem coX9_rulerMark : codeOf 124 = kX9_rulerMark := rfl
theorem moX9_rulerMark : maxOf 124 = 2 := rfl
theorem coX9_textByte : codeOf 125 = kX9_textByte := rfl
theorem moX9_textByte : maxOf 125 = 2 := rfl
theorem coX9_strike : codeOf 126 = kX9_strike := rfl
theorem moX9_strike : maxOf 126 = 3 := rfl
theorem coX9_press : codeOf 127 = kX9_press := rfl
theorem moX9_press : maxOf 127 = 2 := rfl
theorem coX9_type : codeOf 128 = kX9_type := rfl
theorem moX9_type : maxOf 128 = 2 := rfl
theorem coX9_setStop : codeOf 129 = kX9_setStop := rfl
theorem moX9_setStop : maxOf 129 = 4 := rfl
theorem coX9_setMargin : codeOf 130 = kX9_setMargin := rfl
theorem moX9_setMargin : maxOf 130 = 6 := rfl
theorem coX9_set : codeOf 131 = kX9_set := rfl
theorem moX9_set : maxOf 131 = 3 := rfl
theorem coX9_replaceSetting : codeOf 132 = kX9_replaceSetting := rfl
theorem moX9_replaceSetting : maxOf 132 = 4 := rfl
theorem coX9_rest : codeOf 133 = kX9_rest := rfl
theorem moX9_rest : maxOf 133 = 2 := rfl
theorem coX9_newRibbon : codeOf 134 = kX9_newRibbon := rfl
theorem moX9_newRibbon : maxOf 134 = 2 := rfl
theorem coX9_newPage : codeOf 135 = kX9_newPage := rfl
theorem moX9_newPage : maxOf 135 = 2 := rfl
theorem coX9_undo : codeOf 136 = kX9_undo := rfl
theorem moX9_undo : maxOf 136 = 1 := rfl
theorem coX9_undoable : codeOf 137 = kX9_undoable := rfl
theorem moX9_undoable : maxOf 137 = 1 := rfl
theorem coX9_save : codeOf 138 = kX9_save := rfl
theorem moX9_save : maxOf 138 = 3 := rfl
theorem coX9_restore : codeOf 139 = kX9_restore := rfl
theorem moX9_restore : maxOf 139 = 3 := rfl
theorem coX9_slotOf : codeOf 140 = kX9_slotOf := rfl
theorem moX9_slotOf : maxOf 140 = 2 := rfl
theorem coX9_requireLoaded : codeOf 141 = kX9_requireLoaded := rfl
theorem moX9_requireLoaded : maxOf 141 = 1 := rfl
theorem coX9_requireBytes : codeOf 142 = kX9_requireBytes := rfl
theorem moX9_requireBytes : maxOf 142 = 2 := rfl
theorem coX9_requireBar : codeOf 143 = kX9_requireBar := rfl
theorem moX9_requireBar : maxOf 143 = 2 := rfl
theorem coX9_requireLine : codeOf 144 = kX9_requireLine := rfl
theorem moX9_requireLine : maxOf 144 = 2 := rfl
theorem coX9_requireColumn : codeOf 145 = kX9_requireColumn := rfl
theorem moX9_requireColumn : maxOf 145 = 2 := rfl
theorem coX9_requireCarriageColumn : codeOf 146 = kX9_requireCarriageColumn := rfl
theorem moX9_requireCarriageColumn : maxOf 146 = 2 := rfl
theorem coX9_requireSlot : codeOf 147 = kX9_requireSlot := rfl
theorem moX9_requireSlot : maxOf 147 = 1 := rfl
theorem coX9_requireIndex : codeOf 148 = kX9_requireIndex := rfl
theorem moX9_requireIndex : maxOf 148 = 1 := rfl
theorem coX9_requireArgument : codeOf 149 = kX9_requireArgument := rfl
theorem moX9_requireArgument : maxOf 149 = 1 := rfl
theorem coX9_isSettable : codeOf 150 = kX9_isSettable := rfl
theorem moX9_isSettable : maxOf 150 = 1 := rfl
theorem coX9_lowest : codeOf 151 = kX9_lowest := rfl
theorem moX9_lowest : maxOf 151 = 2 := rfl
theorem coX9_highest : codeOf 152 = kX9_highest := rfl
theorem moX9_highest : maxOf 152 = 2 := rfl
theorem coX9_isSmall : codeOf 153 = kX9_isSmall := rfl
theorem moX9_isSmall : maxOf 153 = 1 := rfl
theorem coX9_isCapital : codeOf 154 = kX9_isCapital := rfl
theorem moX9_isCapital : maxOf 154 = 1 := rfl
theorem coX9_isDigit : codeOf 155 = kX9_isDigit := rfl
theorem moX9_isDigit : maxOf 155 = 1 := rfl
theorem coX9_keyOf : codeOf 156 = kX9_keyOf := rfl
theorem moX9_keyOf : maxOf 156 = 1 := rfl
theorem coX10_thrown : codeOf 157 = kX10_thrown := rfl
theorem moX10_thrown : maxOf 157 = 1 := rfl
theorem coX10_in : codeOf 158 = kX10_in := rfl
theorem moX10_in : maxOf 158 = 3 := rfl
theorem coX10_flag : codeOf 159 = kX10_flag := rfl
theorem moX10_flag : maxOf 159 = 1 := rfl
theorem coX10_refuse : codeOf 160 = kX10_refuse := rfl
theorem moX10_refuse : maxOf 160 = 3 := rfl
theorem coX10_notLoaded : codeOf 161 = kX10_notLoaded := rfl
theorem moX10_notLoaded : maxOf 161 = 1 := rfl
theorem coX10_append : codeOf 162 = kX10_append := rfl
theorem moX10_append : maxOf 162 = 8 := rfl
theorem coX10_buffered : codeOf 163 = kX10_buffered := rfl
theorem moX10_buffered : maxOf 163 = 1 := rfl
theorem coX10_parseError : codeOf 164 = kX10_parseError := rfl
theorem moX10_parseError : maxOf 164 = 1 := rfl
theorem coX10_errorPosition : codeOf 165 = kX10_errorPosition := rfl
theorem moX10_errorPosition : maxOf 165 = 1 := rfl
theorem coX10_seen : codeOf 166 = kX10_seen := rfl
theorem moX10_seen : maxOf 166 = 2 := rfl
theorem coX10_isSmall : codeOf 167 = kX10_isSmall := rfl
theorem moX10_isSmall : maxOf 167 = 1 := rfl
theorem coX10_isDigit : codeOf 168 = kX10_isDigit := rfl
theorem moX10_isDigit : maxOf 168 = 1 := rfl
theorem coX10_token : codeOf 169 = kX10_token := rfl
theorem moX10_token : maxOf 169 = 2 := rfl
theorem coX10_fails : codeOf 170 = kX10_fails := rfl
theorem moX10_fails : maxOf 170 = 2 := rfl
theorem coX10_failsIf : codeOf 171 = kX10_failsIf := rfl
theorem moX10_failsIf : maxOf 171 = 3 := rfl
theorem coX10_goesOn : codeOf 172 = kX10_goesOn := rfl
theorem moX10_goesOn : maxOf 172 = 1 := rfl
theorem coX10_isWord : codeOf 173 = kX10_isWord := rfl
theorem moX10_isWord : maxOf 173 = 3 := rfl
theorem coX10_word : codeOf 174 = kX10_word := rfl
theorem moX10_word : maxOf 174 = 2 := rfl
theorem coX10_looks : codeOf 175 = kX10_looks := rfl
theorem moX10_looks : maxOf 175 = 3 := rfl
theorem coX10_takes : codeOf 176 = kX10_takes := rfl
theorem moX10_takes : maxOf 176 = 4 := rfl
theorem coX10_semicolon : codeOf 177 = kX10_semicolon := rfl
theorem moX10_semicolon : maxOf 177 = 1 := rfl
theorem coX10_holds : codeOf 178 = kX10_holds := rfl
theorem moX10_holds : maxOf 178 = 2 := rfl
theorem coX10_laysBack : codeOf 179 = kX10_laysBack := rfl
theorem moX10_laysBack : maxOf 179 = 2 := rfl
theorem coX10_its : codeOf 180 = kX10_its := rfl
theorem moX10_its : maxOf 180 = 2 := rfl
theorem coX10_puts : codeOf 181 = kX10_puts := rfl
theorem moX10_puts : maxOf 181 = 3 := rfl
theorem coX10_clears : codeOf 182 = kX10_clears := rfl
theorem moX10_clears : maxOf 182 = 2 := rfl
theorem coX10_withLetter : codeOf 183 = kX10_withLetter := rfl
theorem moX10_withLetter : maxOf 183 = 3 := rfl
theorem coX10_barLine : codeOf 184 = kX10_barLine := rfl
theorem moX10_barLine : maxOf 184 = 3 := rfl
theorem coX10_tabLine : codeOf 185 = kX10_tabLine := rfl
theorem moX10_tabLine : maxOf 185 = 2 := rfl
theorem coX10_line : codeOf 186 = kX10_line := rfl
theorem moX10_line : maxOf 186 = 1 := rfl
theorem coX10_readsHead : codeOf 187 = kX10_readsHead := rfl
theorem moX10_readsHead : maxOf 187 = 1 := rfl
theorem coX10_reads : codeOf 188 = kX10_reads := rfl
theorem moX10_reads : maxOf 188 = 2 := rfl
theorem coX10_fillsRibbon : codeOf 189 = kX10_fillsRibbon := rfl
theorem moX10_fillsRibbon : maxOf 189 = 2 := rfl
theorem coX10_load : codeOf 190 = kX10_load := rfl
theorem moX10_load : maxOf 190 = 2 := rfl
theorem coX10_struckAt : codeOf 191 = kX10_struckAt := rfl
theorem moX10_struckAt : maxOf 191 = 2 := rfl
theorem coX10_rise : codeOf 192 = kX10_rise := rfl
theorem moX10_rise : maxOf 192 = 2 := rfl
theorem coX10_backIn : codeOf 193 = kX10_backIn := rfl
theorem moX10_backIn : maxOf 193 = 3 := rfl
theorem coX10_clearance : codeOf 194 = kX10_clearance := rfl
theorem moX10_clearance : maxOf 194 = 3 := rfl
theorem coX10_wouldJam : codeOf 195 = kX10_wouldJam := rfl
theorem moX10_wouldJam : maxOf 195 = 4 := rfl
theorem coX10_isLocked : codeOf 196 = kX10_isLocked := rfl
theorem moX10_isLocked : maxOf 196 = 2 := rfl
theorem coX10_reasonOf : codeOf 197 = kX10_reasonOf := rfl
theorem moX10_reasonOf : maxOf 197 = 3 := rfl
theorem coX10_counts : codeOf 198 = kX10_counts := rfl
theorem moX10_counts : maxOf 198 = 2 := rfl
theorem coX10_advances : codeOf 199 = kX10_advances := rfl
theorem moX10_advances : maxOf 199 = 1 := rfl
theorem coX10_runsOn : codeOf 200 = kX10_runsOn := rfl
theorem moX10_runsOn : maxOf 200 = 2 := rfl
theorem coX10_prints : codeOf 201 = kX10_prints := rfl
theorem moX10_prints : maxOf 201 = 4 := rfl
theorem coX10_strikes : codeOf 202 = kX10_strikes := rfl
theorem moX10_strikes : maxOf 202 = 3 := rfl
theorem coX10_ends : codeOf 203 = kX10_ends := rfl
theorem moX10_ends : maxOf 203 = 2 := rfl
theorem coX10_begins : codeOf 204 = kX10_begins := rfl
theorem moX10_begins : maxOf 204 = 1 := rfl
theorem coX10_letterKey : codeOf 205 = kX10_letterKey := rfl
theorem moX10_letterKey : maxOf 205 = 4 := rfl
theorem coX10_spaceKey : codeOf 206 = kX10_spaceKey := rfl
theorem moX10_spaceKey : maxOf 206 = 2 := rfl
theorem coX10_stopFrom : codeOf 207 = kX10_stopFrom := rfl
theorem moX10_stopFrom : maxOf 207 = 3 := rfl
theorem coX10_backFrom : codeOf 208 = kX10_backFrom := rfl
theorem moX10_backFrom : maxOf 208 = 3 := rfl
theorem coX10_returnKey : codeOf 209 = kX10_returnKey := rfl
theorem moX10_returnKey : maxOf 209 = 1 := rfl
theorem coX10_frees : codeOf 210 = kX10_frees := rfl
theorem moX10_frees : maxOf 210 = 2 := rfl
theorem coX10_goes : codeOf 211 = kX10_goes := rfl
theorem moX10_goes : maxOf 211 = 2 := rfl
theorem coX10_otherKey : codeOf 212 = kX10_otherKey := rfl
theorem moX10_otherKey : maxOf 212 = 2 := rfl
theorem coX10_isCapital : codeOf 213 = kX10_isCapital := rfl
theorem moX10_isCapital : maxOf 213 = 1 := rfl
theorem coX10_barFor : codeOf 214 = kX10_barFor := rfl
theorem moX10_barFor : maxOf 214 = 2 := rfl
theorem coX10_keyFor : codeOf 215 = kX10_keyFor := rfl
theorem moX10_keyFor : maxOf 215 = 1 := rfl
theorem coX10_types : codeOf 216 = kX10_types := rfl
theorem moX10_types : maxOf 216 = 3 := rfl
theorem coX10_typesAll : codeOf 217 = kX10_typesAll := rfl
theorem moX10_typesAll : maxOf 217 = 4 := rfl
theorem coX10_stops : codeOf 218 = kX10_stops := rfl
theorem moX10_stops : maxOf 218 = 3 := rfl
theorem coX10_count : codeOf 219 = kX10_count := rfl
theorem moX10_count : maxOf 219 = 2 := rfl
theorem coX10_setting : codeOf 220 = kX10_setting := rfl
theorem moX10_setting : maxOf 220 = 2 := rfl
theorem coX10_carriage : codeOf 221 = kX10_carriage := rfl
theorem moX10_carriage : maxOf 221 = 2 := rfl
theorem coX10_isBar : codeOf 222 = kX10_isBar := rfl
theorem moX10_isBar : maxOf 222 = 2 := rfl
theorem coX10_noBar : codeOf 223 = kX10_noBar := rfl
theorem moX10_noBar : maxOf 223 = 2 := rfl
theorem coX10_bar : codeOf 224 = kX10_bar := rfl
theorem moX10_bar : maxOf 224 = 3 := rfl
theorem coX10_barOf : codeOf 225 = kX10_barOf := rfl
theorem moX10_barOf : maxOf 225 = 2 := rfl
theorem coX10_latest : codeOf 226 = kX10_latest := rfl
theorem moX10_latest : maxOf 226 = 1 := rfl
theorem coX10_ribbon : codeOf 227 = kX10_ribbon := rfl
theorem moX10_ribbon : maxOf 227 = 2 := rfl
theorem coX10_allInk : codeOf 228 = kX10_allInk := rfl
theorem moX10_allInk : maxOf 228 = 3 := rfl
theorem coX10_dryPlaces : codeOf 229 = kX10_dryPlaces := rfl
theorem moX10_dryPlaces : maxOf 229 = 3 := rfl
theorem coX10_head : codeOf 230 = kX10_head := rfl
theorem moX10_head : maxOf 230 = 2 := rfl
theorem coX10_isLine : codeOf 231 = kX10_isLine := rfl
theorem moX10_isLine : maxOf 231 = 2 := rfl
theorem coX10_isColumn : codeOf 232 = kX10_isColumn := rfl
theorem moX10_isColumn : maxOf 232 = 2 := rfl
theorem coX10_noPlace : codeOf 233 = kX10_noPlace := rfl
theorem moX10_noPlace : maxOf 233 = 3 := rfl
theorem coX10_noLine : codeOf 234 = kX10_noLine := rfl
theorem moX10_noLine : maxOf 234 = 2 := rfl
theorem coX10_signAt : codeOf 235 = kX10_signAt := rfl
theorem moX10_signAt : maxOf 235 = 3 := rfl
theorem coX10_darkAt : codeOf 236 = kX10_darkAt := rfl
theorem moX10_darkAt : maxOf 236 = 3 := rfl
theorem coX10_sign : codeOf 237 = kX10_sign := rfl
theorem moX10_sign : maxOf 237 = 3 := rfl
theorem coX10_darkness : codeOf 238 = kX10_darkness := rfl
theorem moX10_darkness : maxOf 238 = 3 := rfl
theorem coX10_isStop : codeOf 239 = kX10_isStop := rfl
theorem moX10_isStop : maxOf 239 = 2 := rfl
theorem coX10_reason : codeOf 240 = kX10_reason := rfl
theorem moX10_reason : maxOf 240 = 1 := rfl
theorem coX10_reasonAt : codeOf 241 = kX10_reasonAt := rfl
theorem moX10_reasonAt : maxOf 241 = 1 := rfl
theorem coX10_longOf : codeOf 242 = kX10_longOf := rfl
theorem moX10_longOf : maxOf 242 = 3 := rfl
theorem coX10_lineLength : codeOf 243 = kX10_lineLength := rfl
theorem moX10_lineLength : maxOf 243 = 2 := rfl
theorem coX10_words : codeOf 244 = kX10_words := rfl
theorem moX10_words : maxOf 244 = 4 := rfl
theorem coX10_letters : codeOf 245 = kX10_letters := rfl
theorem moX10_letters : maxOf 245 = 4 := rfl
theorem coX10_filled : codeOf 246 = kX10_filled := rfl
theorem moX10_filled : maxOf 246 = 3 := rfl
theorem coX10_palest : codeOf 247 = kX10_palest := rfl
theorem moX10_palest : maxOf 247 = 3 := rfl
theorem coX10_meanDarkness : codeOf 248 = kX10_meanDarkness := rfl
theorem moX10_meanDarkness : maxOf 248 = 3 := rfl
theorem coX10_inkShare : codeOf 249 = kX10_inkShare := rfl
theorem moX10_inkShare : maxOf 249 = 1 := rfl
theorem coX10_slowest : codeOf 250 = kX10_slowest := rfl
theorem moX10_slowest : maxOf 250 = 3 := rfl
theorem coX10_nextStop : codeOf 251 = kX10_nextStop := rfl
theorem moX10_nextStop : maxOf 251 = 2 := rfl
theorem coX10_bellIn : codeOf 252 = kX10_bellIn := rfl
theorem moX10_bellIn : maxOf 252 = 3 := rfl
theorem coX10_wouldBe : codeOf 253 = kX10_wouldBe := rfl
theorem moX10_wouldBe : maxOf 253 = 3 := rfl
theorem coX10_freeIn : codeOf 254 = kX10_freeIn := rfl
theorem moX10_freeIn : maxOf 254 = 3 := rfl
theorem coX10_paceBetween : codeOf 255 = kX10_paceBetween := rfl
theorem moX10_paceBetween : maxOf 255 = 5 := rfl
theorem coX10_paceOf : codeOf 256 = kX10_paceOf := rfl
theorem moX10_paceOf : maxOf 256 = 3 := rfl
theorem coX10_worstPair : codeOf 257 = kX10_worstPair := rfl
theorem moX10_worstPair : maxOf 257 = 6 := rfl
theorem coX10_putsAside : codeOf 258 = kX10_putsAside := rfl
theorem moX10_putsAside : maxOf 258 = 2 := rfl
theorem coX10_fetchesBack : codeOf 259 = kX10_fetchesBack := rfl
theorem moX10_fetchesBack : maxOf 259 = 3 := rfl
theorem coX10_noBytes : codeOf 260 = kX10_noBytes := rfl
theorem moX10_noBytes : maxOf 260 = 2 := rfl
theorem coX10_wouldType : codeOf 261 = kX10_wouldType := rfl
theorem moX10_wouldType : maxOf 261 = 5 := rfl
theorem coX10_paceFor : codeOf 262 = kX10_paceFor := rfl
theorem moX10_paceFor : maxOf 262 = 5 := rfl
theorem coX10_reaches : codeOf 263 = kX10_reaches := rfl
theorem moX10_reaches : maxOf 263 = 3 := rfl
theorem coX10_keysTo : codeOf 264 = kX10_keysTo := rfl
theorem moX10_keysTo : maxOf 264 = 4 := rfl
theorem coX10_printsLeft : codeOf 265 = kX10_printsLeft := rfl
theorem moX10_printsLeft : maxOf 265 = 3 := rfl
theorem coX10_says : codeOf 266 = kX10_says := rfl
theorem moX10_says : maxOf 266 = 2 := rfl
theorem coX10_writeLine : codeOf 267 = kX10_writeLine := rfl
theorem moX10_writeLine : maxOf 267 = 3 := rfl
theorem coX10_writeShades : codeOf 268 = kX10_writeShades := rfl
theorem moX10_writeShades : maxOf 268 = 3 := rfl
theorem coX10_rulerSign : codeOf 269 = kX10_rulerSign := rfl
theorem moX10_rulerSign : maxOf 269 = 2 := rfl
theorem coX10_writeRuler : codeOf 270 = kX10_writeRuler := rfl
theorem moX10_writeRuler : maxOf 270 = 2 := rfl
theorem coX10_textByte : codeOf 271 = kX10_textByte := rfl
theorem moX10_textByte : maxOf 271 = 2 := rfl
theorem coX10_keeps : codeOf 272 = kX10_keeps := rfl
theorem moX10_keeps : maxOf 272 = 3 := rfl
theorem coX10_fetches : codeOf 273 = kX10_fetches := rfl
theorem moX10_fetches : maxOf 273 = 3 := rfl
theorem coX10_keepsAll : codeOf 274 = kX10_keepsAll := rfl
theorem moX10_keepsAll : maxOf 274 = 2 := rfl
theorem coX10_strike : codeOf 275 = kX10_strike := rfl
theorem moX10_strike : maxOf 275 = 3 := rfl
theorem coX10_press : codeOf 276 = kX10_press := rfl
theorem moX10_press : maxOf 276 = 2 := rfl
theorem coX10_type : codeOf 277 = kX10_type := rfl
theorem moX10_type : maxOf 277 = 2 := rfl
theorem coX10_setStop : codeOf 278 = kX10_setStop := rfl
theorem moX10_setStop : maxOf 278 = 4 := rfl
theorem coX10_replaces : codeOf 279 = kX10_replaces := rfl
theorem moX10_replaces : maxOf 279 = 4 := rfl
theorem coX10_setMargin : codeOf 280 = kX10_setMargin := rfl
theorem moX10_setMargin : maxOf 280 = 5 := rfl
theorem coX10_maySet : codeOf 281 = kX10_maySet := rfl
theorem moX10_maySet : maxOf 281 = 3 := rfl
theorem coX10_set : codeOf 282 = kX10_set := rfl
theorem moX10_set : maxOf 282 = 3 := rfl
theorem coX10_rest : codeOf 283 = kX10_rest := rfl
theorem moX10_rest : maxOf 283 = 4 := rfl
theorem coX10_newRibbon : codeOf 284 = kX10_newRibbon := rfl
theorem moX10_newRibbon : maxOf 284 = 2 := rfl
theorem coX10_newPage : codeOf 285 = kX10_newPage := rfl
theorem moX10_newPage : maxOf 285 = 3 := rfl
theorem coX10_undo : codeOf 286 = kX10_undo := rfl
theorem moX10_undo : maxOf 286 = 1 := rfl
theorem coX10_undoable : codeOf 287 = kX10_undoable := rfl
theorem moX10_undoable : maxOf 287 = 1 := rfl
theorem coX10_save : codeOf 288 = kX10_save := rfl
theorem moX10_save : maxOf 288 = 2 := rfl
theorem coX10_restore : codeOf 289 = kX10_restore := rfl
theorem moX10_restore : maxOf 289 = 2 := rfl
end
section
def clsN (c : Nat) : String := match c with | 0 => RX0 | 1 => RX1 | 2 => RX2 | 3 => RX3 | 4 => RX4 | 5 => RX5 | 6 => RX6 | 7 => RX7 | 8 => RX8 | 9 => RX9 | 10 => RX10 | _ => ""
def TT (c : Nat) : u_T := match c with | 0 => TX0 | 1 => TX1 | 2 => TX2 | 3 => TX3 | 4 => TX4 | 5 => TX5 | 6 => TX6 | 7 => TX7 | 8 => TX8 | 9 => TX9 | _ => TX10
def tyT (c : Nat) : Nat → FieldType := match c with | 0 => tyX0 | 1 => tyX1 | 2 => tyX2 | 3 => tyX3 | 4 => tyX4 | 5 => tyX5 | 6 => tyX6 | 7 => tyX7 | 8 => tyX8 | 9 => tyX9 | _ => tyX10
def lnkF_0 : List (Nat × Nat × Nat × Nat × Nat × Nat) := [(1, 145, 0, 14, 0, 1), (1, 148, 0, 20, 0, 2), (1, 150, 0, 23, 0, 3), (1, 151, 0, 26, 0, 4), (1, 144, 0, 29, 0, 0), (1, 153, 0, 36, 0, 5), (1, 155, 0, 40, 0, 6), (1, 157, 0, 43, 0, 7), (1, 158, 0, 46, 0, 8), (1, 112, 1, 14, 1, 1), (1, 111, 1, 20, 1, 0), (1, 116, 1, 27, 1, 2), (1, 119, 1, 31, 1, 3), (1, 122, 1, 34, 1, 4), (2, 27, 2, 11, 2, 0), (2, 29, 2, 18, 2, 2), (2, 28, 2, 22, 2, 1), (1, 178, 3, 14, 3, 0), (1, 181, 3, 25, 3, 1), (1, 183, 3, 32, 3, 2), (1, 185, 3, 39, 3, 3), (1, 188, 3, 46, 3, 4), (1, 191, 3, 50, 3, 5), (1, 195, 3, 66, 3, 7), (1, 197, 3, 70, 3, 8), (1, 193, 3, 79, 3, 6), (1, 199, 3, 151, 3, 9), (1, 92, 4, 14, 4, 1), (1, 94, 4, 20, 4, 2), (1, 91, 4, 23, 4, 0), (1, 237, 5, 9, 5, 8), (1, 228, 5, 15, 5, 0), (1, 229, 5, 19, 5, 1), (1, 230, 5, 23, 5, 2), (1, 231, 5, 26, 5, 3), (1, 235, 5, 29, 5, 7), (1, 232, 5, 57, 5, 4), (1, 233, 5, 81, 5, 5), (1, 234, 5, 112, 5, 6), (1, 63, 6, 14, 6, 1)]
def lnkF_1 : List (Nat × Nat × Nat × Nat × Nat × Nat) := [(1, 62, 6, 20, 6, 0), (1, 65, 6, 27, 6, 2), (1, 67, 6, 31, 6, 3), (1, 69, 6, 35, 6, 4), (1, 41, 7, 13, 7, 0), (2, 54, 9, 14, 9, 0), (2, 57, 9, 21, 9, 3), (2, 58, 9, 25, 9, 4), (2, 59, 9, 33, 9, 5), (2, 60, 9, 40, 9, 6), (2, 61, 9, 47, 9, 7), (2, 62, 9, 51, 9, 8), (2, 63, 9, 54, 9, 9), (2, 65, 9, 57, 9, 11), (2, 55, 9, 60, 9, 1), (2, 56, 9, 88, 9, 2), (2, 64, 9, 311, 9, 10), (6, 127, 10, 7, 10, 3), (6, 128, 10, 13, 10, 4), (6, 129, 10, 16, 10, 5), (6, 130, 10, 19, 10, 6), (6, 131, 10, 22, 10, 7), (6, 133, 10, 25, 10, 9), (6, 134, 10, 29, 10, 10), (6, 137, 10, 32, 10, 13), (6, 145, 10, 36, 10, 21), (6, 146, 10, 39, 10, 22), (6, 147, 10, 42, 10, 23), (6, 150, 10, 45, 10, 26), (6, 151, 10, 48, 10, 27), (6, 153, 10, 51, 10, 29), (6, 124, 10, 54, 10, 0), (6, 125, 10, 57, 10, 1), (6, 135, 10, 65, 10, 11), (6, 136, 10, 68, 10, 12), (6, 138, 10, 71, 10, 14), (6, 139, 10, 74, 10, 15), (6, 140, 10, 81, 10, 16), (6, 141, 10, 84, 10, 17), (6, 142, 10, 94, 10, 18)]
def lnkF_2 : List (Nat × Nat × Nat × Nat × Nat × Nat) := [(6, 143, 10, 97, 10, 19), (6, 144, 10, 100, 10, 20), (6, 126, 10, 138, 10, 2), (6, 148, 10, 141, 10, 24), (6, 132, 10, 201, 10, 8), (6, 149, 10, 237, 10, 25), (6, 152, 10, 361, 10, 28), (6, 154, 10, 367, 10, 30)]
def lnkFi : List (Nat × Nat × Nat × Nat × Nat × Nat) := lnkF_0 ++ (lnkF_1 ++ (lnkF_2))
def lnkF : List (Nat × Nat × Nat × Nat) := lnkFi.map (fun x => x.2.2)
def lnkFN_0 : List (Nat × Nat × Nat × Nat × Nat × Nat) := [(1, 113, 3, 82, 1, 1), (1, 70, 3, 98, 6, 4), (1, 120, 3, 116, 1, 3), (1, 118, 3, 154, 1, 2), (1, 147, 3, 163, 0, 1), (1, 124, 3, 194, 1, 4), (1, 189, 5, 90, 3, 4), (1, 179, 5, 106, 3, 0), (1, 186, 5, 115, 3, 3), (1, 114, 5, 125, 1, 1), (1, 236, 9, 77, 5, 7), (2, 48, 9, 95, 8, 1), (1, 190, 9, 98, 3, 4), (1, 154, 9, 102, 0, 5), (1, 238, 9, 107, 5, 8), (1, 187, 9, 113, 3, 3), (1, 194, 9, 123, 3, 6), (1, 182, 9, 126, 3, 1), (1, 71, 9, 130, 6, 4), (1, 192, 9, 135, 3, 5), (1, 180, 9, 142, 3, 0), (1, 117, 9, 145, 1, 2), (1, 121, 9, 148, 1, 3), (1, 123, 9, 155, 1, 4), (1, 146, 9, 161, 0, 1), (1, 149, 9, 164, 0, 2), (1, 152, 9, 170, 0, 4), (1, 156, 9, 188, 0, 6), (1, 64, 9, 194, 6, 1), (1, 66, 9, 197, 6, 2), (1, 68, 9, 200, 6, 3), (1, 184, 9, 215, 3, 2), (1, 93, 9, 219, 4, 1), (1, 95, 9, 227, 4, 2), (1, 196, 9, 233, 3, 7), (1, 198, 9, 236, 3, 8), (1, 200, 9, 288, 3, 9), (1, 115, 9, 333, 1, 1), (2, 30, 9, 358, 2, 2), (2, 47, 9, 378, 8, 0)]
def lnkFNi : List (Nat × Nat × Nat × Nat × Nat × Nat) := lnkFN_0
def lnkFN : List (Nat × Nat × Nat × Nat) := lnkFNi.map (fun x => x.2.2)
def lnkM_0 : List (Nat × Nat × Nat × Nat × Nat) := [(3, 187, 0, 32, 84), (2, 219, 0, 49, 83), (3, 106, 0, 52, 82), (3, 101, 0, 60, 81), (4, 35, 0, 69, 4), (5, 27, 0, 72, 5), (5, 28, 0, 75, 10), (5, 62, 0, 82, 14), (3, 182, 1, 23, 84), (3, 137, 1, 38, 19), (3, 116, 1, 41, 81), (3, 234, 1, 45, 20), (5, 3, 1, 49, 23), (5, 175, 1, 59, 83), (5, 176, 1, 62, 82), (5, 177, 1, 66, 28), (5, 181, 1, 70, 22), (5, 182, 1, 73, 29), (5, 185, 1, 76, 25), (5, 186, 1, 79, 26), (6, 1, 2, 25, 33), (6, 5, 2, 29, 34), (3, 164, 3, 53, 35), (3, 188, 3, 57, 76), (3, 193, 3, 61, 51), (3, 168, 3, 64, 84), (3, 178, 3, 73, 17), (3, 183, 3, 76, 0), (2, 211, 3, 85, 83), (2, 215, 3, 88, 1), (3, 121, 3, 91, 82), (3, 122, 3, 95, 77), (3, 128, 3, 101, 52), (3, 133, 3, 102, 18), (5, 74, 3, 105, 81), (5, 88, 3, 109, 38), (5, 18, 3, 112, 7), (5, 22, 3, 119, 22), (5, 84, 3, 123, 39), (5, 92, 3, 126, 42)]
def lnkM_1 : List (Nat × Nat × Nat × Nat × Nat) := [(5, 93, 3, 130, 9), (5, 94, 3, 134, 44), (5, 121, 3, 138, 12), (5, 125, 3, 141, 40), (5, 98, 3, 144, 11), (5, 102, 3, 147, 78), (5, 108, 3, 157, 53), (5, 109, 3, 160, 54), (5, 110, 3, 166, 55), (5, 116, 3, 170, 45), (5, 120, 3, 173, 23), (5, 133, 3, 176, 47), (5, 141, 3, 179, 49), (5, 137, 3, 182, 48), (5, 145, 3, 185, 25), (5, 146, 3, 188, 26), (5, 150, 3, 191, 19), (5, 151, 3, 198, 13), (5, 75, 3, 201, 3), (5, 80, 3, 210, 43), (5, 129, 3, 214, 46), (3, 197, 4, 26, 84), (3, 132, 4, 30, 83), (4, 97, 4, 33, 81), (5, 114, 4, 37, 82), (4, 138, 4, 47, 53), (4, 139, 4, 50, 54), (4, 167, 4, 54, 56), (4, 193, 4, 58, 59), (2, 207, 5, 32, 36), (2, 220, 5, 37, 73), (3, 3, 5, 42, 69), (3, 63, 5, 46, 66), (3, 83, 5, 50, 70), (3, 7, 5, 62, 71), (3, 90, 5, 66, 64), (3, 108, 5, 71, 65), (3, 59, 5, 74, 72), (3, 117, 5, 78, 37), (2, 224, 5, 84, 81)]
def lnkM_2 : List (Nat × Nat × Nat × Nat × Nat) := [(3, 94, 5, 94, 3), (3, 74, 5, 99, 67), (3, 102, 5, 103, 2), (3, 78, 5, 109, 68), (3, 112, 5, 119, 20), (3, 82, 5, 128, 82), (2, 231, 5, 151, 74), (2, 238, 5, 157, 75), (3, 192, 6, 23, 84), (3, 126, 6, 38, 81), (3, 127, 6, 42, 83), (5, 107, 6, 51, 82), (2, 95, 9, 64, 86), (2, 99, 9, 67, 82), (2, 128, 9, 71, 142), (2, 203, 9, 74, 63), (3, 141, 9, 80, 149), (3, 160, 9, 84, 34), (3, 198, 9, 92, 30), (3, 210, 9, 110, 141), (3, 230, 9, 117, 21), (3, 70, 9, 138, 81), (4, 9, 9, 151, 22), (4, 20, 9, 158, 143), (4, 24, 9, 167, 4), (4, 31, 9, 173, 5), (4, 37, 9, 182, 8), (4, 48, 9, 185, 3), (2, 132, 9, 191, 148), (4, 70, 9, 203, 79), (4, 74, 9, 206, 80), (4, 85, 9, 209, 144), (4, 89, 9, 212, 145), (4, 93, 9, 224, 53), (4, 112, 9, 230, 20), (4, 134, 9, 239, 57), (4, 150, 9, 242, 58), (4, 161, 9, 245, 153), (4, 162, 9, 248, 154), (4, 163, 9, 251, 59)]
def lnkM_3 : List (Nat × Nat × Nat × Nat × Nat) := [(4, 178, 9, 254, 62), (4, 189, 9, 257, 60), (4, 194, 9, 260, 61), (4, 212, 9, 263, 16), (4, 223, 9, 266, 146), (4, 227, 9, 269, 25), (4, 239, 9, 272, 24), (5, 14, 9, 275, 42), (5, 23, 9, 279, 9), (5, 47, 9, 282, 14), (5, 58, 9, 285, 15), (5, 70, 9, 291, 50), (5, 163, 9, 295, 35), (5, 171, 9, 298, 27), (5, 194, 9, 302, 84), (5, 195, 9, 305, 76), (5, 196, 9, 308, 78), (5, 211, 9, 314, 54), (5, 219, 9, 317, 124), (5, 237, 9, 320, 31), (6, 6, 9, 323, 43), (6, 7, 9, 327, 41), (6, 18, 9, 330, 46), (6, 40, 9, 336, 132), (6, 51, 9, 339, 150), (6, 54, 9, 342, 151), (6, 55, 9, 345, 152), (6, 63, 9, 348, 6), (6, 74, 9, 351, 77), (6, 82, 9, 354, 52), (6, 83, 9, 355, 18), (6, 92, 9, 368, 32), (6, 103, 9, 371, 147), (6, 106, 9, 374, 140), (7, 6, 10, 61, 160), (7, 30, 10, 77, 166), (7, 34, 10, 87, 167), (7, 37, 10, 91, 168), (7, 59, 10, 103, 170), (7, 26, 10, 107, 169)]
def lnkM_4 : List (Nat × Nat × Nat × Nat × Nat) := [(7, 49, 10, 119, 173), (7, 55, 10, 123, 171), (7, 63, 10, 127, 172), (7, 3, 10, 130, 158), (7, 71, 10, 134, 175), (7, 22, 10, 144, 181), (7, 94, 10, 148, 183), (7, 67, 10, 151, 176), (7, 75, 10, 154, 180), (7, 90, 10, 159, 184), (7, 99, 10, 164, 185), (7, 45, 10, 169, 174), (7, 79, 10, 173, 177), (7, 18, 10, 180, 182), (7, 40, 10, 183, 187), (7, 85, 10, 186, 186), (7, 103, 10, 189, 189), (7, 10, 10, 192, 178), (7, 14, 10, 195, 188), (7, 107, 10, 198, 179), (7, 159, 10, 209, 191), (7, 150, 10, 212, 192), (7, 155, 10, 218, 193), (8, 59, 10, 221, 194), (7, 131, 10, 224, 196), (8, 55, 10, 227, 195), (8, 110, 10, 231, 198), (8, 155, 10, 240, 200), (8, 150, 10, 243, 201), (8, 122, 10, 246, 199), (8, 106, 10, 249, 204), (8, 51, 10, 252, 197), (8, 146, 10, 255, 202), (8, 138, 10, 259, 203), (8, 118, 10, 262, 206), (8, 126, 10, 265, 210), (8, 130, 10, 268, 209), (8, 39, 10, 271, 207), (8, 134, 10, 274, 208), (8, 114, 10, 277, 211)]
def lnkM_5 : List (Nat × Nat × Nat × Nat × Nat) := [(7, 172, 10, 280, 213), (8, 99, 10, 283, 215), (8, 102, 10, 286, 212), (7, 168, 10, 289, 214), (8, 142, 10, 292, 205), (8, 95, 10, 296, 216), (7, 135, 10, 299, 159), (7, 115, 10, 303, 161), (7, 119, 10, 307, 218), (7, 146, 10, 310, 222), (7, 142, 10, 313, 223), (7, 187, 10, 316, 228), (7, 191, 10, 319, 229), (7, 203, 10, 322, 231), (7, 207, 10, 325, 232), (7, 199, 10, 328, 233), (7, 211, 10, 331, 235), (7, 219, 10, 334, 236), (7, 239, 10, 337, 234), (8, 3, 10, 340, 242), (8, 23, 10, 343, 246), (8, 71, 10, 346, 255), (8, 83, 10, 349, 260), (8, 87, 10, 352, 258), (8, 91, 10, 355, 217), (8, 159, 10, 358, 259), (8, 171, 10, 364, 263), (8, 183, 10, 370, 266), (8, 195, 10, 373, 269), (8, 211, 10, 376, 272), (8, 207, 10, 379, 274), (8, 231, 10, 382, 279), (8, 239, 10, 385, 281), (9, 19, 10, 388, 273)]
def lnkMi : List (Nat × Nat × Nat × Nat × Nat) := lnkM_0 ++ (lnkM_1 ++ (lnkM_2 ++ (lnkM_3 ++ (lnkM_4 ++ (lnkM_5)))))
def lnkM : List (Nat × Nat × Nat) := lnkMi.map (fun x => x.2.2)
def lnkMN_0 : List (Nat × Nat × Nat × Nat × Nat) := [(3, 98, 0, 56, 154), (5, 76, 3, 204, 156), (5, 79, 3, 207, 154), (5, 155, 3, 217, 155), (3, 67, 5, 131, 151), (3, 71, 5, 135, 152), (2, 228, 5, 148, 153), (2, 235, 5, 154, 155)]
def lnkMNi : List (Nat × Nat × Nat × Nat × Nat) := lnkMN_0
def lnkMN : List (Nat × Nat × Nat) := lnkMNi.map (fun x => x.2.2)
def lnkB_0 : List (Nat × Nat × Nat × Nat × Nat) := [(4, 28, 0, 64, 1002), (5, 32, 0, 79, 1000), (4, 231, 1, 53, 1000), (5, 115, 4, 41, 1001), (3, 11, 5, 138, 1004), (3, 21, 5, 144, 1005), (5, 106, 6, 45, 1000), (3, 172, 7, 19, 1001), (3, 175, 7, 22, 1003), (4, 36, 9, 176, 1000), (7, 53, 10, 110, 1004), (7, 54, 10, 115, 1005), (7, 154, 10, 204, 1002), (7, 163, 10, 215, 1000), (8, 154, 10, 234, 1001)]
def lnkBi : List (Nat × Nat × Nat × Nat × Nat) := lnkB_0
def lnkB : List (Nat × Nat × Nat) := lnkBi.map (fun x => x.2.2)
def lnkL_0 : List (Nat × Nat × Nat × Nat × Nat) := [(3, 2, 5, 40, 0), (3, 87, 5, 53, 1), (3, 88, 5, 55, 2), (3, 89, 5, 60, 3), (3, 107, 5, 69, 4), (7, 89, 10, 157, 3), (7, 98, 10, 162, 4), (7, 44, 10, 167, 0), (7, 83, 10, 176, 1), (7, 84, 10, 178, 2)]
def lnkLi : List (Nat × Nat × Nat × Nat × Nat) := lnkL_0
def lnkL : List (Nat × Nat × Nat) := lnkLi.map (fun x => x.2.2)
def tabC (j : Nat) : List Jvm.Cond := match j with | 1 => tables_1_1 | 2 => tables_1_2 | 3 => tables_1_3 | 4 => tables_1_4 | 5 => tables_1_5 | 6 => tables_1_6 | 7 => tables_1_7 | 8 => tables_1_8 | 9 => tables_1_9 | _ => []
def wF (x : Nat × Nat × Nat × Nat) : Jvm.Cond := .fieldLink (clsN x.1) x.2.1 (clsN x.2.2.1) (TT x.2.2.1 x.2.2.2).2.1 (TT x.2.2.1 x.2.2.2).2.2.1
def wFN (x : Nat × Nat × Nat × Nat) : Jvm.Cond := .fieldLinkNest (clsN x.1) x.2.1 (clsN x.2.2.1) (TT x.2.2.1 x.2.2.2).2.1 (TT x.2.2.1 x.2.2.2).2.2.1 "TypebarMachine"
def nameOf (μ : Nat) : MethodName := (mtab μ).2.2.1
def bytesOf (μ : Nat) : ByteArray := (mtab μ).2.2.2.1
def retOf (μ : Nat) : Option FieldType := (mtab μ).2.2.2.2
def wM (x : Nat × Nat × Nat) : Jvm.Cond := .methodLink (clsN x.1) x.2.1 (nameOf x.2.2)
def wMN (x : Nat × Nat × Nat) : Jvm.Cond := .methodLinkNest (clsN x.1) x.2.1 (nameOf x.2.2) "TypebarMachine"
def biN (a : Nat) : MethodName := if a = 1000 then Lib.Math.max.name else if a = 1001 then Lib.Math.min.name else if a = 1002 then Lib.Math.abs.name else if a = 1003 then arraycopyName else if a = 1004 then yJ0_length_8abf5 else yJ0_charAt_5068e
def wB (x : Nat × Nat × Nat) : Jvm.Cond := .methodLink (clsN x.1) x.2.1 (biN x.2.2)
def txS (w : Nat) : String := match w with | 0 => "machine" | 1 => "speed" | 2 => "ribbon" | 3 => "bar" | _ => "tab"
def wL (x : Nat × Nat × Nat) : Jvm.Cond := .stringRef (clsN x.1) x.2.1 (txS x.2.2)
theorem tabC_in {j : Nat} {w : Jvm.Cond} (h : w ∈ tabC j) : w ∈ tables_1 := by
  match j, h with
  | 1, h => exact (by simp only [tables_1, List.mem_append]; simp only [tabC] at h; simp only [h, true_or, or_true])
  | 2, h => exact (by simp only [tables_1, List.mem_append]; simp only [tabC] at h; simp only [h, true_or, or_true])
  | 3, h => exact (by simp only [tables_1, List.mem_append]; simp only [tabC] at h; simp only [h, true_or, or_true])
  | 4, h => exact (by simp only [tables_1, List.mem_append]; simp only [tabC] at h; simp only [h, true_or, or_true])
  | 5, h => exact (by simp only [tables_1, List.mem_append]; simp only [tabC] at h; simp only [h, true_or, or_true])
  | 6, h => exact (by simp only [tables_1, List.mem_append]; simp only [tabC] at h; simp only [h, true_or, or_true])
  | 7, h => exact (by simp only [tables_1, List.mem_append]; simp only [tabC] at h; simp only [h, true_or, or_true])
  | 8, h => exact (by simp only [tables_1, List.mem_append]; simp only [tabC] at h; simp only [h, true_or, or_true])
  | 9, h => exact (by simp only [tables_1, List.mem_append]; simp only [tabC] at h; simp only [h, true_or, or_true])
  | 0, h => exact absurd h List.not_mem_nil
  | _ + 10, h => exact absurd h List.not_mem_nil

theorem lnkF_0_ok : ∀ x ∈ lnkF_0, (tabC x.1)[x.2.1]? = some (wF x.2.2) := by decide +kernel
theorem lnkF_1_ok : ∀ x ∈ lnkF_1, (tabC x.1)[x.2.1]? = some (wF x.2.2) := by decide +kernel
theorem lnkF_2_ok : ∀ x ∈ lnkF_2, (tabC x.1)[x.2.1]? = some (wF x.2.2) := by decide +kernel
theorem lnkF_ok : ∀ x ∈ lnkF, wF x ∈ tables_1 := by
  intro x hx
  obtain ⟨y, hy, rfl⟩ := List.mem_map.mp hx
  have h : (tabC y.1)[y.2.1]? = some (wF y.2.2) := by
    simp only [lnkFi, List.mem_append] at hy
    rcases hy with hy | hy | hy
    · exact lnkF_0_ok _ hy
    · exact lnkF_1_ok _ hy
    · exact lnkF_2_ok _ hy
  exact tabC_in (List.mem_of_getElem? h)
theorem lnkFN_0_ok : ∀ x ∈ lnkFN_0, (tabC x.1)[x.2.1]? = some (wFN x.2.2) := by decide +kernel
theorem lnkFN_ok : ∀ x ∈ lnkFN, wFN x ∈ tables_1 := by
  intro x hx
  obtain ⟨y, hy, rfl⟩ := List.mem_map.mp hx
  have h : (tabC y.1)[y.2.1]? = some (wFN y.2.2) := by
    simp only [lnkFNi, List.mem_append] at hy
    exact lnkFN_0_ok _ hy
  exact tabC_in (List.mem_of_getElem? h)
theorem lnkM_0_ok : ∀ x ∈ lnkM_0, (tabC x.1)[x.2.1]? = some (wM x.2.2) := by decide +kernel
theorem lnkM_1_ok : ∀ x ∈ lnkM_1, (tabC x.1)[x.2.1]? = some (wM x.2.2) := by decide +kernel
theorem lnkM_2_ok : ∀ x ∈ lnkM_2, (tabC x.1)[x.2.1]? = some (wM x.2.2) := by decide +kernel
theorem lnkM_3_ok : ∀ x ∈ lnkM_3, (tabC x.1)[x.2.1]? = some (wM x.2.2) := by decide +kernel
theorem lnkM_4_ok : ∀ x ∈ lnkM_4, (tabC x.1)[x.2.1]? = some (wM x.2.2) := by decide +kernel
theorem lnkM_5_ok : ∀ x ∈ lnkM_5, (tabC x.1)[x.2.1]? = some (wM x.2.2) := by decide +kernel
theorem lnkM_ok : ∀ x ∈ lnkM, wM x ∈ tables_1 := by
  intro x hx
  obtain ⟨y, hy, rfl⟩ := List.mem_map.mp hx
  have h : (tabC y.1)[y.2.1]? = some (wM y.2.2) := by
    simp only [lnkMi, List.mem_append] at hy
    rcases hy with hy | hy | hy | hy | hy | hy
    · exact lnkM_0_ok _ hy
    · exact lnkM_1_ok _ hy
    · exact lnkM_2_ok _ hy
    · exact lnkM_3_ok _ hy
    · exact lnkM_4_ok _ hy
    · exact lnkM_5_ok _ hy
  exact tabC_in (List.mem_of_getElem? h)
theorem lnkMN_0_ok : ∀ x ∈ lnkMN_0, (tabC x.1)[x.2.1]? = some (wMN x.2.2) := by decide +kernel
theorem lnkMN_ok : ∀ x ∈ lnkMN, wMN x ∈ tables_1 := by
  intro x hx
  obtain ⟨y, hy, rfl⟩ := List.mem_map.mp hx
  have h : (tabC y.1)[y.2.1]? = some (wMN y.2.2) := by
    simp only [lnkMNi, List.mem_append] at hy
    exact lnkMN_0_ok _ hy
  exact tabC_in (List.mem_of_getElem? h)
theorem lnkB_0_ok : ∀ x ∈ lnkB_0, (tabC x.1)[x.2.1]? = some (wB x.2.2) := by decide +kernel
theorem lnkB_ok : ∀ x ∈ lnkB, wB x ∈ tables_1 := by
  intro x hx
  obtain ⟨y, hy, rfl⟩ := List.mem_map.mp hx
  have h : (tabC y.1)[y.2.1]? = some (wB y.2.2) := by
    simp only [lnkBi, List.mem_append] at hy
    exact lnkB_0_ok _ hy
  exact tabC_in (List.mem_of_getElem? h)
theorem lnkL_0_ok : ∀ x ∈ lnkL_0, (tabC x.1)[x.2.1]? = some (wL x.2.2) := by decide +kernel
theorem lnkL_ok : ∀ x ∈ lnkL, wL x ∈ tables_1 := by
  intro x hx
  obtain ⟨y, hy, rfl⟩ := List.mem_map.mp hx
  have h : (tabC y.1)[y.2.1]? = some (wL y.2.2) := by
    simp only [lnkLi, List.mem_append] at hy
    exact lnkL_0_ok _ hy
  exact tabC_in (List.mem_of_getElem? h)
end
section
/-! ===== the tables are the bytes: each entry is what the bytes decode to, and its links stand in the claim's tables ===== -/
def lenI (i : Instr) : Nat := match i with
  | .bipush _ => 2 | .sipush _ => 3 | .iload _ => 2 | .aload _ => 2 | .istore _ => 2 | .astore _ => 2 | .iinc _ _ => 3 | .goto _ => 3 | .if_icmp _ _ => 3 | .ifCond _ _ => 3 | .ifnull _ => 3
  | .getfield _ => 3 | .putfield _ => 3 | .ldc _ => 2 | .new _ => 3 | .invokevirtual _ => 3 | .invokestatic _ => 3 | _ => 1
def isSw (i : Instr) : Bool := match i with
  | .tableswitch _ _ _ _ => true | .lookupswitch _ _ => true | _ => false
def okOff (pc : Nat) (off : Int) : Bool := decide (0 ≤ (pc : Int) + off)
def okL (own : Nat) (nL : Nat) (ret : Option FieldType) (pc : Nat) (i : Instr) (a b : Nat) (z : Int32) : Bool := match i with
  | .iconst n => decide (Int32.ofInt n = z)
  | .bipush n => decide ((Int8.ofInt n).toInt32 = z)
  | .sipush n => decide ((Int16.ofInt n).toInt32 = z)
  | .istore k => decide (k < nL)
  | .istore_n k => decide (k.val < nL)
  | .astore k => decide (k < nL)
  | .astore_n k => decide (k.val < nL)
  | .iinc k n => decide (k < nL) && decide (Int32.ofInt n = z)
  | .goto off => okOff pc off
  | .if_icmp _ off => okOff pc off
  | .ifCond _ off => okOff pc off
  | .ifnull off => okOff pc off
  | .getfield idx => (decide ((own, idx, a, b) ∈ lnkF) || decide ((own, idx, a, b) ∈ lnkFN)) && decide (a ≤ 10) && decide (b < nF a)
  | .putfield idx => (decide ((own, idx, a, b) ∈ lnkF) || decide ((own, idx, a, b) ∈ lnkFN)) && decide (a ≤ 10) && decide (b < nF a) && !(TT a b).2.2.2 && decide (fK a b ≤ 1)
  | .tableswitch d lo hi offs => decide (hi - lo + 1 = (offs.size : Int)) && okOff pc d && offs.toList.all (okOff pc) && decide (-2147483648 ≤ lo) && decide (hi ≤ 2147483647)
  | .lookupswitch d ps => (ps.toList.zip (ps.toList.drop 1)).all (fun (x, next) => x.1 < next.1) && okOff pc d && ps.toList.all (fun x => okOff pc x.2 && decide (-2147483648 ≤ x.1) && decide (x.1 ≤ 2147483647))
  | .ldc idx => decide ((own, idx, a) ∈ lnkL)
  | .invokevirtual idx => if a = 1004 ∨ a = 1005 then decide ((own, idx, a) ∈ lnkB) else (decide ((own, idx, a) ∈ lnkM) && decide (a < 290))
  | .invokestatic idx => if 1000 ≤ a then decide (a ≤ 1003) && decide ((own, idx, a) ∈ lnkB) else ((decide ((own, idx, a) ∈ lnkM) || decide ((own, idx, a) ∈ lnkMN)) && decide (a < 290))
  | .ireturn => decide (ret = if a = 1 then some .boolean else some .int)
  | .dreturn => decide (ret = some .double)
  | .freturn => decide (ret = some .float)
  | .return_ => decide (ret = none)
  | .areturn => (match ret with | some (.object _) => true | _ => false)
  | _ => true
def okE (own : Nat) (cc : ByteArray) (nL : Nat) (ret : Option FieldType) (e : EN) : Bool := decide (decode cc e.1 = .ok (e.2.1, e.2.2.1)) && (isSw e.2.1 || decide (e.2.2.1 = lenI e.2.1)) && okL own nL ret e.1 e.2.1 e.2.2.2.1 e.2.2.2.2.1 e.2.2.2.2.2
/-- a method's class (by its name's class), is it static, how many arguments with the object itself -/
def mu0 (i : Nat) : Nat × Bool × Nat := match i with | 0 => (0, false, 1) | 1 => (0, false, 0) | 2 => (0, false, 2) | 3 => (0, false, 1) | 4 => (0, false, 1) | 5 => (0, false, 1) | 6 => (0, false, 1) | 7 => (0, false, 0) | 8 => (0, false, 1) | 9 => (0, false, 2) | 10 => (0, false, 2) | 11 => (0, false, 2) | 12 => (0, false, 1) | 13 => (0, false, 0) | 14 => (0, false, 2) | 15 => (0, false, 0) | 16 => (0, false, 0) | 17 => (1, false, 1) | 18 => (1, false, 0) | 19 => (1, false, 1) | _ => (0, false, 0)
def mu1 (i : Nat) : Nat × Bool × Nat := match i with | 0 => (1, false, 1) | 1 => (1, false, 0) | 2 => (1, false, 1) | 3 => (1, false, 0) | 4 => (1, false, 0) | 5 => (1, false, 1) | 6 => (1, false, 1) | 7 => (1, false, 2) | 8 => (1, false, 3) | 9 => (1, true, 3) | 10 => (2, false, 0) | 11 => (2, false, 1) | 12 => (2, false, 1) | 13 => (2, false, 1) | 14 => (3, false, 1) | 15 => (3, false, 1) | 16 => (3, false, 0) | 17 => (3, false, 0) | 18 => (3, false, 2) | 19 => (3, false, 0) | _ => (0, false, 0)
def mu2 (i : Nat) : Nat × Bool × Nat := match i with | 0 => (3, false, 1) | 1 => (3, false, 1) | 2 => (3, false, 1) | 3 => (3, false, 2) | 4 => (3, false, 2) | 5 => (3, false, 0) | 6 => (3, false, 1) | 7 => (3, false, 1) | 8 => (3, false, 0) | 9 => (3, false, 1) | 10 => (3, false, 2) | 11 => (4, false, 1) | 12 => (4, false, 0) | 13 => (4, false, 2) | 14 => (4, false, 1) | 15 => (4, false, 3) | 16 => (4, false, 0) | 17 => (4, false, 1) | 18 => (4, false, 1) | 19 => (4, false, 1) | _ => (0, false, 0)
def mu3 (i : Nat) : Nat × Bool × Nat := match i with | 0 => (4, false, 0) | 1 => (4, false, 0) | 2 => (4, false, 0) | 3 => (5, false, 1) | 4 => (5, false, 0) | 5 => (5, false, 0) | 6 => (5, false, 2) | 7 => (5, false, 2) | 8 => (5, false, 2) | 9 => (5, false, 1) | 10 => (5, false, 0) | 11 => (5, false, 1) | 12 => (5, false, 1) | 13 => (5, false, 0) | 14 => (5, false, 0) | 15 => (5, false, 0) | 16 => (6, false, 1) | 17 => (6, false, 0) | 18 => (6, false, 0) | 19 => (6, false, 0) | _ => (0, false, 0)
def mu4 (i : Nat) : Nat × Bool × Nat := match i with | 0 => (6, false, 0) | 1 => (7, false, 1) | 2 => (7, false, 2) | 3 => (7, false, 1) | 4 => (7, false, 1) | 5 => (9, false, 5) | 6 => (9, false, 1) | 7 => (9, false, 1) | 8 => (9, false, 0) | 9 => (9, false, 0) | 10 => (9, false, 0) | 11 => (9, false, 1) | 12 => (9, false, 1) | 13 => (9, false, 1) | 14 => (9, false, 2) | 15 => (9, false, 1) | 16 => (9, false, 0) | 17 => (9, false, 1) | 18 => (9, false, 1) | 19 => (9, false, 2) | _ => (0, false, 0)
def mu5 (i : Nat) : Nat × Bool × Nat := match i with | 0 => (9, false, 2) | 1 => (9, false, 1) | 2 => (9, false, 0) | 3 => (9, false, 0) | 4 => (9, false, 1) | 5 => (9, false, 1) | 6 => (9, false, 1) | 7 => (9, false, 0) | 8 => (9, false, 0) | 9 => (9, false, 0) | 10 => (9, false, 0) | 11 => (9, false, 1) | 12 => (9, false, 0) | 13 => (9, false, 2) | 14 => (9, false, 1) | 15 => (9, false, 2) | 16 => (9, false, 0) | 17 => (9, false, 2) | 18 => (9, false, 1) | 19 => (9, false, 1) | _ => (0, false, 0)
def mu6 (i : Nat) : Nat × Bool × Nat := match i with | 0 => (9, false, 0) | 1 => (9, false, 1) | 2 => (9, false, 1) | 3 => (9, false, 0) | 4 => (9, false, 1) | 5 => (9, false, 1) | 6 => (9, false, 2) | 7 => (9, false, 1) | 8 => (9, false, 1) | 9 => (9, false, 2) | 10 => (9, false, 2) | 11 => (9, false, 2) | 12 => (9, false, 2) | 13 => (9, false, 1) | 14 => (9, false, 0) | 15 => (9, false, 0) | 16 => (9, false, 0) | 17 => (9, false, 0) | 18 => (9, false, 1) | 19 => (9, false, 1) | _ => (0, false, 0)
def mu7 (i : Nat) : Nat × Bool × Nat := match i with | 0 => (9, false, 1) | 1 => (9, false, 0) | 2 => (9, false, 1) | 3 => (9, false, 1) | 4 => (9, false, 1) | 5 => (9, false, 1) | 6 => (9, false, 1) | 7 => (9, true, 1) | 8 => (9, true, 1) | 9 => (9, true, 1) | 10 => (9, true, 1) | 11 => (9, true, 2) | 12 => (9, true, 2) | 13 => (9, true, 1) | 14 => (9, true, 1) | 15 => (9, true, 1) | 16 => (9, true, 1) | 17 => (10, false, 0) | 18 => (10, true, 3) | 19 => (10, true, 1) | _ => (0, false, 0)
def mu8 (i : Nat) : Nat × Bool × Nat := match i with | 0 => (10, false, 2) | 1 => (10, false, 0) | 2 => (10, false, 5) | 3 => (10, false, 0) | 4 => (10, false, 0) | 5 => (10, false, 0) | 6 => (10, false, 1) | 7 => (10, true, 1) | 8 => (10, true, 1) | 9 => (10, false, 0) | 10 => (10, false, 1) | 11 => (10, false, 2) | 12 => (10, false, 0) | 13 => (10, false, 1) | 14 => (10, false, 1) | 15 => (10, false, 2) | 16 => (10, false, 2) | 17 => (10, false, 0) | 18 => (10, false, 0) | 19 => (10, false, 0) | _ => (0, false, 0)
def mu9 (i : Nat) : Nat × Bool × Nat := match i with | 0 => (10, false, 1) | 1 => (10, false, 2) | 2 => (10, false, 0) | 3 => (10, false, 1) | 4 => (10, false, 0) | 5 => (10, false, 0) | 6 => (10, false, 0) | 7 => (10, false, 0) | 8 => (10, false, 1) | 9 => (10, false, 0) | 10 => (10, false, 1) | 11 => (10, false, 1) | 12 => (10, false, 1) | 13 => (10, false, 2) | 14 => (10, false, 2) | 15 => (10, false, 2) | 16 => (10, false, 1) | 17 => (10, false, 2) | 18 => (10, false, 1) | 19 => (10, false, 0) | _ => (0, false, 0)
def mu10 (i : Nat) : Nat × Bool × Nat := match i with | 0 => (10, false, 0) | 1 => (10, false, 1) | 2 => (10, false, 2) | 3 => (10, false, 1) | 4 => (10, false, 0) | 5 => (10, false, 2) | 6 => (10, false, 0) | 7 => (10, false, 1) | 8 => (10, false, 1) | 9 => (10, false, 0) | 10 => (10, false, 0) | 11 => (10, false, 1) | 12 => (10, false, 1) | 13 => (10, true, 1) | 14 => (10, false, 1) | 15 => (10, true, 1) | 16 => (10, false, 1) | 17 => (10, false, 1) | 18 => (10, false, 0) | 19 => (10, false, 1) | _ => (0, false, 0)
def mu11 (i : Nat) : Nat × Bool × Nat := match i with | 0 => (10, false, 1) | 1 => (10, false, 1) | 2 => (10, false, 1) | 3 => (10, false, 1) | 4 => (10, false, 2) | 5 => (10, false, 1) | 6 => (10, false, 0) | 7 => (10, false, 1) | 8 => (10, false, 0) | 9 => (10, false, 0) | 10 => (10, false, 1) | 11 => (10, false, 1) | 12 => (10, false, 1) | 13 => (10, false, 2) | 14 => (10, false, 1) | 15 => (10, false, 2) | 16 => (10, false, 2) | 17 => (10, false, 2) | 18 => (10, false, 2) | 19 => (10, false, 1) | _ => (0, false, 0)
def mu12 (i : Nat) : Nat × Bool × Nat := match i with | 0 => (10, false, 0) | 1 => (10, false, 0) | 2 => (10, false, 1) | 3 => (10, false, 1) | 4 => (10, false, 1) | 5 => (10, false, 1) | 6 => (10, false, 0) | 7 => (10, false, 0) | 8 => (10, false, 0) | 9 => (10, false, 0) | 10 => (10, false, 0) | 11 => (10, false, 1) | 12 => (10, false, 0) | 13 => (10, false, 2) | 14 => (10, false, 1) | 15 => (10, false, 2) | 16 => (10, false, 2) | 17 => (10, false, 0) | 18 => (10, false, 0) | 19 => (10, false, 1) | _ => (0, false, 0)
def mu13 (i : Nat) : Nat × Bool × Nat := match i with | 0 => (10, false, 1) | 1 => (10, false, 2) | 2 => (10, false, 1) | 3 => (10, false, 2) | 4 => (10, false, 1) | 5 => (10, false, 0) | 6 => (10, false, 1) | 7 => (10, false, 1) | 8 => (10, false, 1) | 9 => (10, false, 1) | 10 => (10, false, 0) | 11 => (10, false, 1) | 12 => (10, false, 1) | 13 => (10, false, 1) | 14 => (10, false, 0) | 15 => (10, false, 2) | 16 => (10, false, 1) | 17 => (10, false, 1) | 18 => (10, false, 2) | 19 => (10, false, 2) | _ => (0, false, 0)
def mu14 (i : Nat) : Nat × Bool × Nat := match i with | 0 => (10, false, 2) | 1 => (10, false, 2) | 2 => (10, false, 2) | 3 => (10, false, 1) | 4 => (10, false, 0) | 5 => (10, false, 0) | 6 => (10, false, 0) | 7 => (10, false, 0) | 8 => (10, false, 1) | 9 => (10, false, 1) | _ => (0, false, 0)
def mus (μ : Nat) : Nat × Bool × Nat := match μ / 20 with | 0 => mu0 (μ % 20) | 1 => mu1 (μ % 20) | 2 => mu2 (μ % 20) | 3 => mu3 (μ % 20) | 4 => mu4 (μ % 20) | 5 => mu5 (μ % 20) | 6 => mu6 (μ % 20) | 7 => mu7 (μ % 20) | 8 => mu8 (μ % 20) | 9 => mu9 (μ % 20) | 10 => mu10 (μ % 20) | 11 => mu11 (μ % 20) | 12 => mu12 (μ % 20) | 13 => mu13 (μ % 20) | 14 => mu14 (μ % 20) | _ => (0, false, 0)
def clOf (μ : Nat) : Nat := (mus μ).1
def okW (μ : Nat) : Bool := decide ((nameOf μ).cls = clsN (clOf μ)) && plainName (nameOf μ).cls && decide ((nameOf μ).cls ≠ "java/lang/invoke/MethodHandle") && decide ((nameOf μ).cls ≠ "java/lang/invoke/VarHandle") && decide ((parseMethodDescriptor (nameOf μ).desc).map (fun d => d.parameters.length) = some (mus μ).2.2) && decide (maxOf μ ≤ 17) && decide ((mus μ).2.2 + (if (mus μ).2.1 = true then 0 else 1) ≤ maxOf μ)
def okM (μ : Nat) : Bool := (codeOf μ).all (okE (clOf μ) (bytesOf μ) (maxOf μ) (retOf μ)) && okW μ
theorem okM_0 : okM 0 = true := by decide +kernel
theorem okM_1 : okM 1 = true := by decide +kernel
theorem okM_2 : okM 2 = true := by decide +kernel
theorem okM_3 : okM 3 = true := by decide +kernel
theorem okM_4 : okM 4 = true := by decide +kernel
theorem okM_5 : okM 5 = true := by decide +kernel
theorem okM_6 : okM 6 = true := by decide +kernel
theorem okM_7 : okM 7 = true := by decide +kernel
theorem okM_8 : okM 8 = true := by decide +kernel
theorem okM_9 : okM 9 = true := by decide +kernel
theorem okM_10 : okM 10 = true := by decide +kernel
theorem okM_11 : okM 11 = true := by decide +kernel
theorem okM_12 : okM 12 = true := by decide +kernel
theorem okM_13 : okM 13 = true := by decide +kernel
theorem okM_14 : okM 14 = true := by decide +kernel
theorem okM_15 : okM 15 = true := by decide +kernel
theorem okM_16 : okM 16 = true := by decide +kernel
theorem okM_17 : okM 17 = true := by decide +kernel
theorem okM_18 : okM 18 = true := by decide +kernel
theorem okM_19 : okM 19 = true := by decide +kernel
theorem okM_20 : okM 20 = true := by decide +kernel
theorem okM_21 : okM 21 = true := by decide +kernel
theorem okM_22 : okM 22 = true := by decide +kernel
theorem okM_23 : okM 23 = true := by decide +kernel
theorem okM_24 : okM 24 = true := by decide +kernel
theorem okM_25 : okM 25 = true := by decide +kernel
theorem okM_26 : okM 26 = true := by decide +kernel
theorem okM_27 : okM 27 = true := by decide +kernel
theorem okM_28 : okM 28 = true := by decide +kernel
theorem okM_29 : okM 29 = true := by decide +kernel
theorem okM_30 : okM 30 = true := by decide +kernel
theorem okM_31 : okM 31 = true := by decide +kernel
theorem okM_32 : okM 32 = true := by decide +kernel
theorem okM_33 : okM 33 = true := by decide +kernel
theorem okM_34 : okM 34 = true := by decide +kernel
theorem okM_35 : okM 35 = true := by decide +kernel
theorem okM_36 : okM 36 = true := by decide +kernel
theorem okM_37 : okM 37 = true := by decide +kernel
theorem okM_38 : okM 38 = true := by decide +kernel
theorem okM_39 : okM 39 = true := by decide +kernel
theorem okM_40 : okM 40 = true := by decide +kernel
theorem okM_41 : okM 41 = true := by decide +kernel
theorem okM_42 : okM 42 = true := by decide +kernel
theorem okM_43 : okM 43 = true := by decide +kernel
theorem okM_44 : okM 44 = true := by decide +kernel
theorem okM_45 : okM 45 = true := by decide +kernel
theorem okM_46 : okM 46 = true := by decide +kernel
theorem okM_47 : okM 47 = true := by decide +kernel
theorem okM_48 : okM 48 = true := by decide +kernel
theorem okM_49 : okM 49 = true := by decide +kernel
theorem okM_50 : okM 50 = true := by decide +kernel
theorem okM_51 : okM 51 = true := by decide +kernel
theorem okM_52 : okM 52 = true := by decide +kernel
theorem okM_53 : okM 53 = true := by decide +kernel
theorem okM_54 : okM 54 = true := by decide +kernel
theorem okM_55 : okM 55 = true := by decide +kernel
theorem okM_56 : okM 56 = true := by decide +kernel
theorem okM_57 : okM 57 = true := by decide +kernel
theorem okM_58 : okM 58 = true := by decide +kernel
theorem okM_59 : okM 59 = true := by decide +kernel
theorem okM_60 : okM 60 = true := by decide +kernel
theorem okM_61 : okM 61 = true := by decide +kernel
theorem okM_62 : okM 62 = true := by decide +kernel
theorem okM_63 : okM 63 = true := by decide +kernel
theorem okM_64 : okM 64 = true := by decide +kernel
theorem okM_65 : okM 65 = true := by decide +kernel
theorem okM_66 : okM 66 = true := by decide +kernel
theorem okM_67 : okM 67 = true := by decide +kernel
theorem okM_68 : okM 68 = true := by decide +kernel
theorem okM_69 : okM 69 = true := by decide +kernel
theorem okM_70 : okM 70 = true := by decide +kernel
theorem okM_71 : okM 71 = true := by decide +kernel
theorem okM_72 : okM 72 = true := by decide +kernel
theorem okM_73 : okM 73 = true := by decide +kernel
theorem okM_74 : okM 74 = true := by decide +kernel
theorem okM_75 : okM 75 = true := by decide +kernel
theorem okM_76 : okM 76 = true := by decide +kernel
theorem okM_77 : okM 77 = true := by decide +kernel
theorem okM_78 : okM 78 = true := by decide +kernel
theorem okM_79 : okM 79 = true := by decide +kernel
theorem okM_80 : okM 80 = true := by decide +kernel
theorem okM_81 : okM 81 = true := by decide +kernel
theorem okM_82 : okM 82 = true := by decide +kernel
theorem okM_83 : okM 83 = true := by decide +kernel
theorem okM_84 : okM 84 = true := by decide +kernel
theorem okM_85 : okM 85 = true := by decide +kernel
theorem okM_86 : okM 86 = true := by decide +kernel
theorem okM_87 : okM 87 = true := by decide +kernel
theorem okM_88 : okM 88 = true := by decide +kernel
theorem okM_89 : okM 89 = true := by decide +kernel
theorem okM_90 : okM 90 = true := by decide +kernel
theorem okM_91 : okM 91 = true := by decide +kernel
theorem okM_92 : okM 92 = true := by decide +kernel
theorem okM_93 : okM 93 = true := by decide +kernel
theorem okM_94 : okM 94 = true := by decide +kernel
theorem okM_95 : okM 95 = true := by decide +kernel
theorem okM_96 : okM 96 = true := by decide +kernel
theorem okM_97 : okM 97 = true := by decide +kernel
theorem okM_98 : okM 98 = true := by decide +kernel
theorem okM_99 : okM 99 = true := by decide +kernel
theorem okM_100 : okM 100 = true := by decide +kernel
theorem okM_101 : okM 101 = true := by decide +kernel
theorem okM_102 : okM 102 = true := by decide +kernel
theorem okM_103 : okM 103 = true := by decide +kernel
theorem okM_104 : okM 104 = true := by decide +kernel
theorem okM_105 : okM 105 = true := by decide +kernel
theorem okM_106 : okM 106 = true := by decide +kernel
theorem okM_107 : okM 107 = true := by decide +kernel
theorem okM_108 : okM 108 = true := by decide +kernel
theorem okM_109 : okM 109 = true := by decide +kernel
theorem okM_110 : okM 110 = true := by decide +kernel
theorem okM_111 : okM 111 = true := by decide +kernel
theorem okM_112 : okM 112 = true := by decide +kernel
theorem okM_113 : okM 113 = true := by decide +kernel
theorem okM_114 : okM 114 = true := by decide +kernel
theorem okM_115 : okM 115 = true := by decide +kernel
theorem okM_116 : okM 116 = true := by decide +kernel
theorem okM_117 : okM 117 = true := by decide +kernel
theorem okM_118 : okM 118 = true := by decide +kernel
theorem okM_119 : okM 119 = true := by decide +kernel
theorem okM_120 : okM 120 = true := by decide +kernel
theorem okM_121 : okM 121 = true := by decide +kernel
theorem okM_122 : okM 122 = true := by decide +kernel
theorem okM_123 : okM 123 = true := by decide +kernel
theorem okM_124 : okM 124 = true := by decide +kernel
theorem okM_125 : okM 125 = true := by decide +kernel
theorem okM_126 : okM 126 = true := by decide +kernel
theorem okM_127 : okM 127 = true := by decide +kernel
theorem okM_128 : okM 128 = true := by decide +kernel
theorem okM_129 : okM 129 = true := by decide +kernel
theorem okM_130 : okM 130 = true := by decide +kernel
theorem okM_131 : okM 131 = true := by decide +kernel
theorem okM_132 : okM 132 = true := by decide +kernel
theorem okM_133 : okM 133 = true := by decide +kernel
theorem okM_134 : okM 134 = true := by decide +kernel
theorem okM_135 : okM 135 = true := by decide +kernel
theorem okM_136 : okM 136 = true := by decide +kernel
theorem okM_137 : okM 137 = true := by decide +kernel
theorem okM_138 : okM 138 = true := by decide +kernel
theorem okM_139 : okM 139 = true := by decide +kernel
theorem okM_140 : okM 140 = true := by decide +kernel
theorem okM_141 : okM 141 = true := by decide +kernel
theorem okM_142 : okM 142 = true := by decide +kernel
theorem okM_143 : okM 143 = true := by decide +kernel
theorem okM_144 : okM 144 = true := by decide +kernel
theorem okM_145 : okM 145 = true := by decide +kernel
theorem okM_146 : okM 146 = true := by decide +kernel
theorem okM_147 : okM 147 = true := by decide +kernel
theorem okM_148 : okM 148 = true := by decide +kernel
theorem okM_149 : okM 149 = true := by decide +kernel
theorem okM_150 : okM 150 = true := by decide +kernel
theorem okM_151 : okM 151 = true := by decide +kernel
theorem okM_152 : okM 152 = true := by decide +kernel
theorem okM_153 : okM 153 = true := by decide +kernel
theorem okM_154 : okM 154 = true := by decide +kernel
theorem okM_155 : okM 155 = true := by decide +kernel
theorem okM_156 : okM 156 = true := by decide +kernel
theorem okM_157 : okM 157 = true := by decide +kernel
theorem okM_158 : okM 158 = true := by decide +kernel
theorem okM_159 : okM 159 = true := by decide +kernel
theorem okM_160 : okM 160 = true := by decide +kernel
theorem okM_161 : okM 161 = true := by decide +kernel
theorem okM_162 : okM 162 = true := by decide +kernel
theorem okM_163 : okM 163 = true := by decide +kernel
theorem okM_164 : okM 164 = true := by decide +kernel
theorem okM_165 : okM 165 = true := by decide +kernel
theorem okM_166 : okM 166 = true := by decide +kernel
theorem okM_167 : okM 167 = true := by decide +kernel
theorem okM_168 : okM 168 = true := by decide +kernel
theorem okM_169 : okM 169 = true := by decide +kernel
theorem okM_170 : okM 170 = true := by decide +kernel
theorem okM_171 : okM 171 = true := by decide +kernel
theorem okM_172 : okM 172 = true := by decide +kernel
theorem okM_173 : okM 173 = true := by decide +kernel
theorem okM_174 : okM 174 = true := by decide +kernel
theorem okM_175 : okM 175 = true := by decide +kernel
theorem okM_176 : okM 176 = true := by decide +kernel
theorem okM_177 : okM 177 = true := by decide +kernel
theorem okM_178 : okM 178 = true := by decide +kernel
theorem okM_179 : okM 179 = true := by decide +kernel
theorem okM_180 : okM 180 = true := by decide +kernel
theorem okM_181 : okM 181 = true := by decide +kernel
theorem okM_182 : okM 182 = true := by decide +kernel
theorem okM_183 : okM 183 = true := by decide +kernel
theorem okM_184 : okM 184 = true := by decide +kernel
theorem okM_185 : okM 185 = true := by decide +kernel
theorem okM_186 : okM 186 = true := by decide +kernel
theorem okM_187 : okM 187 = true := by decide +kernel
theorem okM_188 : okM 188 = true := by decide +kernel
theorem okM_189 : okM 189 = true := by decide +kernel
theorem okM_190 : okM 190 = true := by decide +kernel
theorem okM_191 : okM 191 = true := by decide +kernel
theorem okM_192 : okM 192 = true := by decide +kernel
theorem okM_193 : okM 193 = true := by decide +kernel
theorem okM_194 : okM 194 = true := by decide +kernel
theorem okM_195 : okM 195 = true := by decide +kernel
theorem okM_196 : okM 196 = true := by decide +kernel
theorem okM_197 : okM 197 = true := by decide +kernel
theorem okM_198 : okM 198 = true := by decide +kernel
theorem okM_199 : okM 199 = true := by decide +kernel
theorem okM_200 : okM 200 = true := by decide +kernel
theorem okM_201 : okM 201 = true := by decide +kernel
theorem okM_202 : okM 202 = true := by decide +kernel
theorem okM_203 : okM 203 = true := by decide +kernel
theorem okM_204 : okM 204 = true := by decide +kernel
theorem okM_205 : okM 205 = true := by decide +kernel
theorem okM_206 : okM 206 = true := by decide +kernel
theorem okM_207 : okM 207 = true := by decide +kernel
theorem okM_208 : okM 208 = true := by decide +kernel
theorem okM_209 : okM 209 = true := by decide +kernel
theorem okM_210 : okM 210 = true := by decide +kernel
theorem okM_211 : okM 211 = true := by decide +kernel
theorem okM_212 : okM 212 = true := by decide +kernel
theorem okM_213 : okM 213 = true := by decide +kernel
theorem okM_214 : okM 214 = true := by decide +kernel
theorem okM_215 : okM 215 = true := by decide +kernel
theorem okM_216 : okM 216 = true := by decide +kernel
theorem okM_217 : okM 217 = true := by decide +kernel
theorem okM_218 : okM 218 = true := by decide +kernel
theorem okM_219 : okM 219 = true := by decide +kernel
theorem okM_220 : okM 220 = true := by decide +kernel
theorem okM_221 : okM 221 = true := by decide +kernel
theorem okM_222 : okM 222 = true := by decide +kernel
theorem okM_223 : okM 223 = true := by decide +kernel
theorem okM_224 : okM 224 = true := by decide +kernel
theorem okM_225 : okM 225 = true := by decide +kernel
theorem okM_226 : okM 226 = true := by decide +kernel
theorem okM_227 : okM 227 = true := by decide +kernel
theorem okM_228 : okM 228 = true := by decide +kernel
theorem okM_229 : okM 229 = true := by decide +kernel
theorem okM_230 : okM 230 = true := by decide +kernel
theorem okM_231 : okM 231 = true := by decide +kernel
theorem okM_232 : okM 232 = true := by decide +kernel
theorem okM_233 : okM 233 = true := by decide +kernel
theorem okM_234 : okM 234 = true := by decide +kernel
theorem okM_235 : okM 235 = true := by decide +kernel
theorem okM_236 : okM 236 = true := by decide +kernel
theorem okM_237 : okM 237 = true := by decide +kernel
theorem okM_238 : okM 238 = true := by decide +kernel
theorem okM_239 : okM 239 = true := by decide +kernel
theorem okM_240 : okM 240 = true := by decide +kernel
theorem okM_241 : okM 241 = true := by decide +kernel
theorem okM_242 : okM 242 = true := by decide +kernel
theorem okM_243 : okM 243 = true := by decide +kernel
theorem okM_244 : okM 244 = true := by decide +kernel
theorem okM_245 : okM 245 = true := by decide +kernel
theorem okM_246 : okM 246 = true := by decide +kernel
theorem okM_247 : okM 247 = true := by decide +kernel
theorem okM_248 : okM 248 = true := by decide +kernel
theorem okM_249 : okM 249 = true := by decide +kernel
theorem okM_250 : okM 250 = true := by decide +kernel
theorem okM_251 : okM 251 = true := by decide +kernel
theorem okM_252 : okM 252 = true := by decide +kernel
theorem okM_253 : okM 253 = true := by decide +kernel
theorem okM_254 : okM 254 = true := by decide +kernel
theorem okM_255 : okM 255 = true := by decide +kernel
theorem okM_256 : okM 256 = true := by decide +kernel
theorem okM_257 : okM 257 = true := by decide +kernel
theorem okM_258 : okM 258 = true := by decide +kernel
theorem okM_259 : okM 259 = true := by decide +kernel
theorem okM_260 : okM 260 = true := by decide +kernel
theorem okM_261 : okM 261 = true := by decide +kernel
theorem okM_262 : okM 262 = true := by decide +kernel
theorem okM_263 : okM 263 = true := by decide +kernel
theorem okM_264 : okM 264 = true := by decide +kernel
theorem okM_265 : okM 265 = true := by decide +kernel
theorem okM_266 : okM 266 = true := by decide +kernel
theorem okM_267 : okM 267 = true := by decide +kernel
theorem okM_268 : okM 268 = true := by decide +kernel
theorem okM_269 : okM 269 = true := by decide +kernel
theorem okM_270 : okM 270 = true := by decide +kernel
theorem okM_271 : okM 271 = true := by decide +kernel
theorem okM_272 : okM 272 = true := by decide +kernel
theorem okM_273 : okM 273 = true := by decide +kernel
theorem okM_274 : okM 274 = true := by decide +kernel
theorem okM_275 : okM 275 = true := by decide +kernel
theorem okM_276 : okM 276 = true := by decide +kernel
theorem okM_277 : okM 277 = true := by decide +kernel
theorem okM_278 : okM 278 = true := by decide +kernel
theorem okM_279 : okM 279 = true := by decide +kernel
theorem okM_280 : okM 280 = true := by decide +kernel
theorem okM_281 : okM 281 = true := by decide +kernel
theorem okM_282 : okM 282 = true := by decide +kernel
theorem okM_283 : okM 283 = true := by decide +kernel
theorem okM_284 : okM 284 = true := by decide +kernel
theorem okM_285 : okM 285 = true := by decide +kernel
theorem okM_286 : okM 286 = true := by decide +kernel
theorem okM_287 : okM 287 = true := by decide +kernel
theorem okM_288 : okM 288 = true := by decide +kernel
theorem okM_289 : okM 289 = true := by decide +kernel
theorem okMs_0 : ∀ i, i < 20 → okM (0 + i) = true := fun i h => match i, h with
  | 0, _ => okM_0
  | 1, _ => okM_1
  | 2, _ => okM_2
  | 3, _ => okM_3
  | 4, _ => okM_4
  | 5, _ => okM_5
  | 6, _ => okM_6
  | 7, _ => okM_7
  | 8, _ => okM_8
  | 9, _ => okM_9
  | 10, _ => okM_10
  | 11, _ => okM_11
  | 12, _ => okM_12
  | 13, _ => okM_13
  | 14, _ => okM_14
  | 15, _ => okM_15
  | 16, _ => okM_16
  | 17, _ => okM_17
  | 18, _ => okM_18
  | 19, _ => okM_19
  | k + 20, h => absurd h (by omega)
theorem okMs_1 : ∀ i, i < 20 → okM (20 + i) = true := fun i h => match i, h with
  | 0, _ => okM_20
  | 1, _ => okM_21
  | 2, _ => okM_22
  | 3, _ => okM_23
  | 4, _ => okM_24
  | 5, _ => okM_25
  | 6, _ => okM_26
  | 7, _ => okM_27
  | 8, _ => okM_28
  | 9, _ => okM_29
  | 10, _ => okM_30
  | 11, _ => okM_31
  | 12, _ => okM_32
  | 13, _ => okM_33
  | 14, _ => okM_34
  | 15, _ => okM_35
  | 16, _ => okM_36
  | 17, _ => okM_37
  | 18, _ => okM_38
  | 19, _ => okM_39
  | k + 20, h => absurd h (by omega)
theorem okMs_2 : ∀ i, i < 20 → okM (40 + i) = true := fun i h => match i, h with
  | 0, _ => okM_40
  | 1, _ => okM_41
  | 2, _ => okM_42
  | 3, _ => okM_43
  | 4, _ => okM_44
  | 5, _ => okM_45
  | 6, _ => okM_46
  | 7, _ => okM_47
  | 8, _ => okM_48
  | 9, _ => okM_49
  | 10, _ => okM_50
  | 11, _ => okM_51
  | 12, _ => okM_52
  | 13, _ => okM_53
  | 14, _ => okM_54
  | 15, _ => okM_55
  | 16, _ => okM_56
  | 17, _ => okM_57
  | 18, _ => okM_58
  | 19, _ => okM_59
  | k + 20, h => absurd h (by omega)
theorem okMs_3 : ∀ i, i < 20 → okM (60 + i) = true := fun i h => match i, h with
  | 0, _ => okM_60
  | 1, _ => okM_61
  | 2, _ => okM_62
  | 3, _ => okM_63
  | 4, _ => okM_64
  | 5, _ => okM_65
  | 6, _ => okM_66
  | 7, _ => okM_67
  | 8, _ => okM_68
  | 9, _ => okM_69
  | 10, _ => okM_70
  | 11, _ => okM_71
  | 12, _ => okM_72
  | 13, _ => okM_73
  | 14, _ => okM_74
  | 15, _ => okM_75
  | 16, _ => okM_76
  | 17, _ => okM_77
  | 18, _ => okM_78
  | 19, _ => okM_79
  | k + 20, h => absurd h (by omega)
theorem okMs_4 : ∀ i, i < 20 → okM (80 + i) = true := fun i h => match i, h with
  | 0, _ => okM_80
  | 1, _ => okM_81
  | 2, _ => okM_82
  | 3, _ => okM_83
  | 4, _ => okM_84
  | 5, _ => okM_85
  | 6, _ => okM_86
  | 7, _ => okM_87
  | 8, _ => okM_88
  | 9, _ => okM_89
  | 10, _ => okM_90
  | 11, _ => okM_91
  | 12, _ => okM_92
  | 13, _ => okM_93
  | 14, _ => okM_94
  | 15, _ => okM_95
  | 16, _ => okM_96
  | 17, _ => okM_97
  | 18, _ => okM_98
  | 19, _ => okM_99
  | k + 20, h => absurd h (by omega)
theorem okMs_5 : ∀ i, i < 20 → okM (100 + i) = true := fun i h => match i, h with
  | 0, _ => okM_100
  | 1, _ => okM_101
  | 2, _ => okM_102
  | 3, _ => okM_103
  | 4, _ => okM_104
  | 5, _ => okM_105
  | 6, _ => okM_106
  | 7, _ => okM_107
  | 8, _ => okM_108
  | 9, _ => okM_109
  | 10, _ => okM_110
  | 11, _ => okM_111
  | 12, _ => okM_112
  | 13, _ => okM_113
  | 14, _ => okM_114
  | 15, _ => okM_115
  | 16, _ => okM_116
  | 17, _ => okM_117
  | 18, _ => okM_118
  | 19, _ => okM_119
  | k + 20, h => absurd h (by omega)
theorem okMs_6 : ∀ i, i < 20 → okM (120 + i) = true := fun i h => match i, h with
  | 0, _ => okM_120
  | 1, _ => okM_121
  | 2, _ => okM_122
  | 3, _ => okM_123
  | 4, _ => okM_124
  | 5, _ => okM_125
  | 6, _ => okM_126
  | 7, _ => okM_127
  | 8, _ => okM_128
  | 9, _ => okM_129
  | 10, _ => okM_130
  | 11, _ => okM_131
  | 12, _ => okM_132
  | 13, _ => okM_133
  | 14, _ => okM_134
  | 15, _ => okM_135
  | 16, _ => okM_136
  | 17, _ => okM_137
  | 18, _ => okM_138
  | 19, _ => okM_139
  | k + 20, h => absurd h (by omega)
theorem okMs_7 : ∀ i, i < 20 → okM (140 + i) = true := fun i h => match i, h with
  | 0, _ => okM_140
  | 1, _ => okM_141
  | 2, _ => okM_142
  | 3, _ => okM_143
  | 4, _ => okM_144
  | 5, _ => okM_145
  | 6, _ => okM_146
  | 7, _ => okM_147
  | 8, _ => okM_148
  | 9, _ => okM_149
  | 10, _ => okM_150
  | 11, _ => okM_151
  | 12, _ => okM_152
  | 13, _ => okM_153
  | 14, _ => okM_154
  | 15, _ => okM_155
  | 16, _ => okM_156
  | 17, _ => okM_157
  | 18, _ => okM_158
  | 19, _ => okM_159
  | k + 20, h => absurd h (by omega)
theorem okMs_8 : ∀ i, i < 20 → okM (160 + i) = true := fun i h => match i, h with
  | 0, _ => okM_160
  | 1, _ => okM_161
  | 2, _ => okM_162
  | 3, _ => okM_163
  | 4, _ => okM_164
  | 5, _ => okM_165
  | 6, _ => okM_166
  | 7, _ => okM_167
  | 8, _ => okM_168
  | 9, _ => okM_169
  | 10, _ => okM_170
  | 11, _ => okM_171
  | 12, _ => okM_172
  | 13, _ => okM_173
  | 14, _ => okM_174
  | 15, _ => okM_175
  | 16, _ => okM_176
  | 17, _ => okM_177
  | 18, _ => okM_178
  | 19, _ => okM_179
  | k + 20, h => absurd h (by omega)
theorem okMs_9 : ∀ i, i < 20 → okM (180 + i) = true := fun i h => match i, h with
  | 0, _ => okM_180
  | 1, _ => okM_181
  | 2, _ => okM_182
  | 3, _ => okM_183
  | 4, _ => okM_184
  | 5, _ => okM_185
  | 6, _ => okM_186
  | 7, _ => okM_187
  | 8, _ => okM_188
  | 9, _ => okM_189
  | 10, _ => okM_190
  | 11, _ => okM_191
  | 12, _ => okM_192
  | 13, _ => okM_193
  | 14, _ => okM_194
  | 15, _ => okM_195
  | 16, _ => okM_196
  | 17, _ => okM_197
  | 18, _ => okM_198
  | 19, _ => okM_199
  | k + 20, h => absurd h (by omega)
theorem okMs_10 : ∀ i, i < 20 → okM (200 + i) = true := fun i h => match i, h with
  | 0, _ => okM_200
  | 1, _ => okM_201
  | 2, _ => okM_202
  | 3, _ => okM_203
  | 4, _ => okM_204
  | 5, _ => okM_205
  | 6, _ => okM_206
  | 7, _ => okM_207
  | 8, _ => okM_208
  | 9, _ => okM_209
  | 10, _ => okM_210
  | 11, _ => okM_211
  | 12, _ => okM_212
  | 13, _ => okM_213
  | 14, _ => okM_214
  | 15, _ => okM_215
  | 16, _ => okM_216
  | 17, _ => okM_217
  | 18, _ => okM_218
  | 19, _ => okM_219
  | k + 20, h => absurd h (by omega)
theorem okMs_11 : ∀ i, i < 20 → okM (220 + i) = true := fun i h => match i, h with
  | 0, _ => okM_220
  | 1, _ => okM_221
  | 2, _ => okM_222
  | 3, _ => okM_223
  | 4, _ => okM_224
  | 5, _ => okM_225
  | 6, _ => okM_226
  | 7, _ => okM_227
  | 8, _ => okM_228
  | 9, _ => okM_229
  | 10, _ => okM_230
  | 11, _ => okM_231
  | 12, _ => okM_232
  | 13, _ => okM_233
  | 14, _ => okM_234
  | 15, _ => okM_235
  | 16, _ => okM_236
  | 17, _ => okM_237
  | 18, _ => okM_238
  | 19, _ => okM_239
  | k + 20, h => absurd h (by omega)
theorem okMs_12 : ∀ i, i < 20 → okM (240 + i) = true := fun i h => match i, h with
  | 0, _ => okM_240
  | 1, _ => okM_241
  | 2, _ => okM_242
  | 3, _ => okM_243
  | 4, _ => okM_244
  | 5, _ => okM_245
  | 6, _ => okM_246
  | 7, _ => okM_247
  | 8, _ => okM_248
  | 9, _ => okM_249
  | 10, _ => okM_250
  | 11, _ => okM_251
  | 12, _ => okM_252
  | 13, _ => okM_253
  | 14, _ => okM_254
  | 15, _ => okM_255
  | 16, _ => okM_256
  | 17, _ => okM_257
  | 18, _ => okM_258
  | 19, _ => okM_259
  | k + 20, h => absurd h (by omega)
theorem okMs_13 : ∀ i, i < 20 → okM (260 + i) = true := fun i h => match i, h with
  | 0, _ => okM_260
  | 1, _ => okM_261
  | 2, _ => okM_262
  | 3, _ => okM_263
  | 4, _ => okM_264
  | 5, _ => okM_265
  | 6, _ => okM_266
  | 7, _ => okM_267
  | 8, _ => okM_268
  | 9, _ => okM_269
  | 10, _ => okM_270
  | 11, _ => okM_271
  | 12, _ => okM_272
  | 13, _ => okM_273
  | 14, _ => okM_274
  | 15, _ => okM_275
  | 16, _ => okM_276
  | 17, _ => okM_277
  | 18, _ => okM_278
  | 19, _ => okM_279
  | k + 20, h => absurd h (by omega)
theorem okMs_14 : ∀ i, i < 10 → okM (280 + i) = true := fun i h => match i, h with
  | 0, _ => okM_280
  | 1, _ => okM_281
  | 2, _ => okM_282
  | 3, _ => okM_283
  | 4, _ => okM_284
  | 5, _ => okM_285
  | 6, _ => okM_286
  | 7, _ => okM_287
  | 8, _ => okM_288
  | 9, _ => okM_289
  | k + 10, h => absurd h (by omega)
theorem okM_all : ∀ μ, μ < 290 → okM μ = true := by
  intro μ h
  have hd : μ = 20 * (μ / 20) + μ % 20 := (Nat.div_add_mod μ 20).symm
  have hm : μ % 20 < 20 := Nat.mod_lt _ (by decide)
  have hq : μ / 20 < 15 := by omega
  generalize μ / 20 = q at hd hq
  generalize μ % 20 = t at hd hm
  subst hd
  match q, hq with
  | 0, _ => exact okMs_0 t (by omega)
  | 1, _ => exact okMs_1 t (by omega)
  | 2, _ => exact okMs_2 t (by omega)
  | 3, _ => exact okMs_3 t (by omega)
  | 4, _ => exact okMs_4 t (by omega)
  | 5, _ => exact okMs_5 t (by omega)
  | 6, _ => exact okMs_6 t (by omega)
  | 7, _ => exact okMs_7 t (by omega)
  | 8, _ => exact okMs_8 t (by omega)
  | 9, _ => exact okMs_9 t (by omega)
  | 10, _ => exact okMs_10 t (by omega)
  | 11, _ => exact okMs_11 t (by omega)
  | 12, _ => exact okMs_12 t (by omega)
  | 13, _ => exact okMs_13 t (by omega)
  | 14, _ => exact okMs_14 t (by omega)
  | k + 15, h => exact absurd h (by omega)
end
section
def wi0 (i : Nat) : (Nat × Nat) × (Nat × Nat) × (Nat × Nat) × (Nat × Nat) := match i with | 0 => ((3, 186), (3, 184), (3, 185), (1, 8)) | 1 => ((2, 218), (2, 216), (2, 217), (1, 8)) | 2 => ((3, 105), (3, 103), (3, 104), (1, 8)) | 3 => ((3, 97), (3, 95), (3, 96), (1, 8)) | 4 => ((4, 27), (4, 25), (4, 26), (1, 8)) | 5 => ((4, 34), (4, 32), (4, 33), (1, 8)) | 6 => ((6, 66), (6, 64), (6, 65), (1, 8)) | 7 => ((5, 21), (5, 19), (5, 20), (1, 8)) | 8 => ((4, 40), (4, 38), (4, 39), (1, 8)) | 9 => ((5, 26), (5, 24), (5, 25), (1, 8)) | 10 => ((5, 31), (5, 30), (0, 21), (1, 8)) | 11 => ((5, 101), (5, 99), (5, 100), (1, 8)) | 12 => ((5, 124), (5, 122), (5, 123), (1, 8)) | 13 => ((5, 154), (5, 152), (5, 153), (1, 8)) | 14 => ((5, 50), (5, 48), (5, 49), (1, 8)) | 15 => ((5, 61), (5, 59), (5, 60), (1, 8)) | 16 => ((4, 215), (4, 213), (4, 214), (1, 8)) | 17 => ((3, 181), (3, 179), (3, 180), (1, 7)) | 18 => ((3, 136), (3, 134), (3, 135), (1, 7)) | 19 => ((3, 140), (3, 138), (3, 139), (1, 7)) | _ => ((0, 0), (0, 0), (0, 0), (0, 0))
def wi1 (i : Nat) : (Nat × Nat) × (Nat × Nat) × (Nat × Nat) × (Nat × Nat) := match i with | 0 => ((3, 115), (3, 113), (3, 114), (1, 7)) | 1 => ((3, 233), (3, 231), (3, 232), (1, 7)) | 2 => ((4, 12), (4, 10), (4, 11), (1, 7)) | 3 => ((5, 6), (5, 4), (5, 5), (1, 7)) | 4 => ((5, 2), (5, 0), (5, 1), (1, 7)) | 5 => ((4, 230), (4, 228), (4, 229), (1, 7)) | 6 => ((5, 149), (5, 147), (5, 148), (1, 7)) | 7 => ((5, 174), (5, 172), (5, 173), (1, 7)) | 8 => ((5, 180), (5, 179), (0, 30), (1, 7)) | 9 => ((5, 184), (5, 183), (0, 0), (1, 7)) | 10 => ((3, 201), (3, 199), (3, 200), (1, 10)) | 11 => ((6, 0), (5, 238), (5, 239), (1, 10)) | 12 => ((6, 95), (6, 93), (6, 94), (1, 10)) | 13 => ((6, 4), (6, 3), (0, 32), (1, 10)) | 14 => ((3, 163), (3, 161), (3, 162), (1, 4)) | 15 => ((3, 167), (3, 165), (3, 166), (1, 4)) | 16 => ((2, 210), (2, 208), (2, 209), (1, 4)) | 17 => ((3, 120), (3, 118), (3, 119), (1, 4)) | 18 => ((5, 91), (5, 90), (0, 23), (1, 4)) | 19 => ((5, 87), (5, 86), (0, 22), (1, 4)) | _ => ((0, 0), (0, 0), (0, 0), (0, 0))
def wi2 (i : Nat) : (Nat × Nat) × (Nat × Nat) × (Nat × Nat) × (Nat × Nat) := match i with | 0 => ((5, 128), (5, 127), (0, 26), (1, 4)) | 1 => ((6, 10), (6, 8), (6, 9), (1, 4)) | 2 => ((5, 17), (5, 15), (5, 16), (1, 4)) | 3 => ((5, 83), (5, 81), (5, 82), (1, 4)) | 4 => ((5, 97), (5, 96), (0, 24), (1, 4)) | 5 => ((5, 119), (5, 118), (0, 25), (1, 4)) | 6 => ((5, 132), (5, 130), (5, 131), (1, 4)) | 7 => ((5, 136), (5, 135), (0, 27), (1, 4)) | 8 => ((5, 140), (5, 139), (0, 28), (1, 4)) | 9 => ((5, 144), (5, 143), (0, 29), (1, 4)) | 10 => ((5, 73), (5, 71), (5, 72), (1, 4)) | 11 => ((3, 196), (3, 194), (3, 195), (1, 6)) | 12 => ((3, 131), (3, 129), (3, 130), (1, 6)) | 13 => ((4, 96), (4, 94), (4, 95), (1, 6)) | 14 => ((4, 142), (4, 140), (4, 141), (1, 6)) | 15 => ((5, 113), (5, 111), (5, 112), (1, 6)) | 16 => ((4, 170), (4, 169), (0, 19), (1, 6)) | 17 => ((4, 137), (4, 135), (4, 136), (1, 6)) | 18 => ((4, 153), (4, 151), (4, 152), (1, 6)) | 19 => ((4, 166), (4, 164), (4, 165), (1, 6)) | _ => ((0, 0), (0, 0), (0, 0), (0, 0))
def wi3 (i : Nat) : (Nat × Nat) × (Nat × Nat) × (Nat × Nat) × (Nat × Nat) := match i with | 0 => ((4, 192), (4, 190), (4, 191), (1, 6)) | 1 => ((4, 197), (4, 195), (4, 196), (1, 6)) | 2 => ((4, 181), (4, 179), (4, 180), (1, 6)) | 3 => ((2, 206), (2, 204), (2, 205), (1, 9)) | 4 => ((3, 93), (3, 92), (0, 13), (1, 9)) | 5 => ((3, 111), (3, 110), (0, 14), (1, 9)) | 6 => ((3, 66), (3, 65), (0, 9), (1, 9)) | 7 => ((3, 77), (3, 76), (0, 10), (1, 9)) | 8 => ((3, 81), (3, 80), (0, 11), (1, 9)) | 9 => ((3, 6), (3, 5), (0, 6), (1, 9)) | 10 => ((3, 86), (3, 85), (0, 12), (1, 9)) | 11 => ((3, 10), (3, 9), (0, 7), (1, 9)) | 12 => ((3, 62), (3, 61), (0, 8), (1, 9)) | 13 => ((2, 223), (2, 222), (0, 3), (1, 9)) | 14 => ((2, 234), (2, 233), (0, 4), (1, 9)) | 15 => ((3, 1), (3, 0), (0, 5), (1, 9)) | 16 => ((3, 191), (3, 189), (3, 190), (1, 5)) | 17 => ((3, 125), (3, 123), (3, 124), (1, 5)) | 18 => ((5, 105), (5, 103), (5, 104), (1, 5)) | 19 => ((4, 73), (4, 71), (4, 72), (1, 5)) | _ => ((0, 0), (0, 0), (0, 0), (0, 0))
def wi4 (i : Nat) : (Nat × Nat) × (Nat × Nat) × (Nat × Nat) × (Nat × Nat) := match i with | 0 => ((4, 77), (4, 75), (4, 76), (1, 5)) | 1 => ((2, 227), (2, 225), (2, 226), (1, 2)) | 2 => ((2, 102), (2, 100), (2, 101), (1, 2)) | 3 => ((2, 214), (2, 212), (2, 213), (1, 2)) | 4 => ((3, 171), (3, 169), (3, 170), (1, 2)) | 5 => ((2, 94), (2, 92), (2, 93), (1, 1)) | 6 => ((2, 98), (2, 97), (0, 0), (1, 1)) | 7 => ((2, 127), (2, 125), (2, 126), (1, 1)) | 8 => ((2, 106), (2, 104), (2, 105), (1, 1)) | 9 => ((2, 110), (2, 108), (2, 109), (1, 1)) | 10 => ((2, 114), (2, 112), (2, 113), (1, 1)) | 11 => ((3, 209), (3, 207), (3, 208), (1, 1)) | 12 => ((4, 1), (3, 239), (4, 0), (1, 1)) | 13 => ((4, 8), (4, 6), (4, 7), (1, 1)) | 14 => ((4, 19), (4, 17), (4, 18), (1, 1)) | 15 => ((4, 47), (4, 45), (4, 46), (1, 1)) | 16 => ((4, 55), (4, 53), (4, 54), (1, 1)) | 17 => ((4, 62), (4, 60), (4, 61), (1, 1)) | 18 => ((4, 69), (4, 67), (4, 68), (1, 1)) | 19 => ((4, 84), (4, 82), (4, 83), (1, 1)) | _ => ((0, 0), (0, 0), (0, 0), (0, 0))
def wi5 (i : Nat) : (Nat × Nat) × (Nat × Nat) × (Nat × Nat) × (Nat × Nat) := match i with | 0 => ((4, 104), (4, 102), (4, 103), (1, 1)) | 1 => ((4, 111), (4, 109), (4, 110), (1, 1)) | 2 => ((4, 119), (4, 117), (4, 118), (1, 1)) | 3 => ((4, 126), (4, 124), (4, 125), (1, 1)) | 4 => ((4, 133), (4, 131), (4, 132), (1, 1)) | 5 => ((4, 149), (4, 147), (4, 148), (1, 1)) | 6 => ((4, 160), (4, 158), (4, 159), (1, 1)) | 7 => ((4, 177), (4, 175), (4, 176), (1, 1)) | 8 => ((4, 188), (4, 186), (4, 187), (1, 1)) | 9 => ((4, 204), (4, 202), (4, 203), (1, 1)) | 10 => ((4, 211), (4, 209), (4, 210), (1, 1)) | 11 => ((4, 222), (4, 220), (4, 221), (1, 1)) | 12 => ((4, 238), (4, 236), (4, 237), (1, 1)) | 13 => ((5, 13), (5, 11), (5, 12), (1, 1)) | 14 => ((5, 39), (5, 37), (5, 38), (1, 1)) | 15 => ((5, 46), (5, 44), (5, 45), (1, 1)) | 16 => ((5, 57), (5, 55), (5, 56), (1, 1)) | 17 => ((5, 69), (5, 67), (5, 68), (1, 1)) | 18 => ((5, 162), (5, 160), (5, 161), (1, 1)) | 19 => ((5, 170), (5, 168), (5, 169), (1, 1)) | _ => ((0, 0), (0, 0), (0, 0), (0, 0))
def wi6 (i : Nat) : (Nat × Nat) × (Nat × Nat) × (Nat × Nat) × (Nat × Nat) := match i with | 0 => ((5, 193), (5, 191), (5, 192), (1, 1)) | 1 => ((5, 203), (5, 201), (5, 202), (1, 1)) | 2 => ((5, 210), (5, 208), (5, 209), (1, 1)) | 3 => ((5, 218), (5, 216), (5, 217), (1, 1)) | 4 => ((5, 222), (5, 221), (0, 31), (1, 1)) | 5 => ((5, 229), (5, 227), (5, 228), (1, 1)) | 6 => ((5, 236), (5, 234), (5, 235), (1, 1)) | 7 => ((6, 17), (6, 15), (6, 16), (1, 1)) | 8 => ((6, 25), (6, 23), (6, 24), (1, 1)) | 9 => ((6, 32), (6, 30), (6, 31), (1, 1)) | 10 => ((6, 39), (6, 37), (6, 38), (1, 1)) | 11 => ((6, 50), (6, 48), (6, 49), (1, 1)) | 12 => ((6, 43), (6, 42), (0, 33), (1, 1)) | 13 => ((6, 62), (6, 60), (6, 61), (1, 1)) | 14 => ((6, 73), (6, 71), (6, 72), (1, 1)) | 15 => ((6, 81), (6, 79), (6, 80), (1, 1)) | 16 => ((6, 90), (6, 88), (6, 89), (1, 1)) | 17 => ((2, 118), (2, 116), (2, 117), (1, 1)) | 18 => ((6, 102), (6, 100), (6, 101), (1, 1)) | 19 => ((6, 116), (6, 114), (6, 115), (1, 1)) | _ => ((0, 0), (0, 0), (0, 0), (0, 0))
def wi7 (i : Nat) : (Nat × Nat) × (Nat × Nat) × (Nat × Nat) × (Nat × Nat) := match i with | 0 => ((6, 109), (6, 108), (0, 34), (1, 1)) | 1 => ((3, 213), (3, 212), (0, 15), (1, 1)) | 2 => ((2, 131), (2, 130), (0, 1), (1, 1)) | 3 => ((4, 23), (4, 22), (0, 16), (1, 1)) | 4 => ((4, 88), (4, 87), (0, 17), (1, 1)) | 5 => ((4, 92), (4, 91), (0, 18), (1, 1)) | 6 => ((4, 226), (4, 225), (0, 20), (1, 1)) | 7 => ((6, 105), (6, 104), (0, 0), (1, 1)) | 8 => ((2, 134), (2, 133), (0, 0), (1, 1)) | 9 => ((3, 143), (3, 142), (0, 0), (1, 1)) | 10 => ((6, 53), (6, 52), (0, 0), (1, 1)) | 11 => ((3, 69), (3, 68), (0, 0), (1, 1)) | 12 => ((3, 73), (3, 72), (0, 0), (1, 1)) | 13 => ((2, 230), (2, 229), (0, 0), (1, 1)) | 14 => ((3, 100), (3, 99), (0, 0), (1, 1)) | 15 => ((2, 237), (2, 236), (0, 0), (1, 1)) | 16 => ((5, 78), (5, 77), (0, 0), (1, 1)) | 17 => ((6, 222), (6, 220), (6, 221), (1, 12)) | 18 => ((7, 5), (7, 4), (0, 0), (1, 12)) | 19 => ((7, 137), (7, 136), (0, 0), (1, 12)) | _ => ((0, 0), (0, 0), (0, 0), (0, 0))
def wi8 (i : Nat) : (Nat × Nat) × (Nat × Nat) × (Nat × Nat) × (Nat × Nat) := match i with | 0 => ((7, 9), (7, 8), (0, 35), (1, 12)) | 1 => ((7, 118), (7, 117), (0, 58), (1, 12)) | 2 => ((6, 226), (6, 224), (6, 225), (1, 12)) | 3 => ((6, 230), (6, 228), (6, 229), (1, 12)) | 4 => ((6, 234), (6, 232), (6, 233), (1, 12)) | 5 => ((6, 238), (6, 236), (6, 237), (1, 12)) | 6 => ((7, 33), (7, 32), (0, 41), (1, 12)) | 7 => ((7, 36), (7, 35), (0, 0), (1, 12)) | 8 => ((7, 39), (7, 38), (0, 0), (1, 12)) | 9 => ((7, 29), (7, 28), (0, 40), (1, 12)) | 10 => ((7, 62), (7, 61), (0, 46), (1, 12)) | 11 => ((7, 58), (7, 57), (0, 45), (1, 12)) | 12 => ((7, 66), (7, 65), (0, 47), (1, 12)) | 13 => ((7, 52), (7, 51), (0, 44), (1, 12)) | 14 => ((7, 48), (7, 47), (0, 43), (1, 12)) | 15 => ((7, 74), (7, 73), (0, 49), (1, 12)) | 16 => ((7, 70), (7, 69), (0, 48), (1, 12)) | 17 => ((7, 82), (7, 81), (0, 51), (1, 12)) | 18 => ((7, 13), (7, 12), (0, 36), (1, 12)) | 19 => ((7, 110), (7, 109), (0, 57), (1, 12)) | _ => ((0, 0), (0, 0), (0, 0), (0, 0))
def wi9 (i : Nat) : (Nat × Nat) × (Nat × Nat) × (Nat × Nat) × (Nat × Nat) := match i with | 0 => ((7, 78), (7, 77), (0, 50), (1, 12)) | 1 => ((7, 25), (7, 24), (0, 39), (1, 12)) | 2 => ((7, 21), (7, 20), (0, 38), (1, 12)) | 3 => ((7, 97), (7, 96), (0, 54), (1, 12)) | 4 => ((7, 93), (7, 92), (0, 53), (1, 12)) | 5 => ((7, 102), (7, 101), (0, 55), (1, 12)) | 6 => ((7, 88), (7, 87), (0, 52), (1, 12)) | 7 => ((7, 43), (7, 42), (0, 42), (1, 12)) | 8 => ((7, 17), (7, 16), (0, 37), (1, 12)) | 9 => ((7, 106), (7, 105), (0, 56), (1, 12)) | 10 => ((7, 2), (7, 0), (7, 1), (1, 12)) | 11 => ((7, 162), (7, 161), (0, 65), (1, 12)) | 12 => ((7, 153), (7, 152), (0, 63), (1, 12)) | 13 => ((7, 158), (7, 157), (0, 64), (1, 12)) | 14 => ((8, 62), (8, 61), (0, 80), (1, 12)) | 15 => ((8, 58), (8, 57), (0, 79), (1, 12)) | 16 => ((7, 134), (7, 133), (0, 60), (1, 12)) | 17 => ((8, 54), (8, 53), (0, 78), (1, 12)) | 18 => ((8, 113), (8, 112), (0, 88), (1, 12)) | 19 => ((8, 125), (8, 124), (0, 91), (1, 12)) | _ => ((0, 0), (0, 0), (0, 0), (0, 0))
def wi10 (i : Nat) : (Nat × Nat) × (Nat × Nat) × (Nat × Nat) × (Nat × Nat) := match i with | 0 => ((8, 158), (8, 157), (0, 99), (1, 12)) | 1 => ((8, 153), (8, 152), (0, 98), (1, 12)) | 2 => ((8, 149), (8, 148), (0, 97), (1, 12)) | 3 => ((8, 141), (8, 140), (0, 95), (1, 12)) | 4 => ((8, 109), (8, 108), (0, 87), (1, 12)) | 5 => ((8, 145), (8, 144), (0, 96), (1, 12)) | 6 => ((8, 121), (8, 120), (0, 90), (1, 12)) | 7 => ((8, 42), (8, 41), (0, 77), (1, 12)) | 8 => ((8, 137), (8, 136), (0, 94), (1, 12)) | 9 => ((8, 133), (8, 132), (0, 93), (1, 12)) | 10 => ((8, 129), (8, 128), (0, 92), (1, 12)) | 11 => ((8, 117), (8, 116), (0, 89), (1, 12)) | 12 => ((8, 105), (8, 104), (0, 86), (1, 12)) | 13 => ((7, 174), (7, 173), (0, 0), (1, 12)) | 14 => ((7, 171), (7, 170), (0, 66), (1, 12)) | 15 => ((8, 101), (8, 100), (0, 0), (1, 12)) | 16 => ((8, 98), (8, 97), (0, 85), (1, 12)) | 17 => ((8, 94), (8, 93), (0, 84), (1, 12)) | 18 => ((7, 122), (7, 121), (0, 59), (1, 12)) | 19 => ((7, 114), (7, 112), (7, 113), (1, 12)) | _ => ((0, 0), (0, 0), (0, 0), (0, 0))
def wi11 (i : Nat) : (Nat × Nat) × (Nat × Nat) × (Nat × Nat) × (Nat × Nat) := match i with | 0 => ((7, 126), (7, 124), (7, 125), (1, 12)) | 1 => ((7, 130), (7, 128), (7, 129), (1, 12)) | 2 => ((7, 149), (7, 148), (0, 62), (1, 12)) | 3 => ((7, 145), (7, 144), (0, 61), (1, 12)) | 4 => ((7, 141), (7, 139), (7, 140), (1, 12)) | 5 => ((7, 167), (7, 165), (7, 166), (1, 12)) | 6 => ((7, 178), (7, 176), (7, 177), (1, 12)) | 7 => ((7, 182), (7, 180), (7, 181), (1, 12)) | 8 => ((7, 190), (7, 189), (0, 67), (1, 12)) | 9 => ((7, 194), (7, 193), (0, 68), (1, 12)) | 10 => ((7, 186), (7, 184), (7, 185), (1, 12)) | 11 => ((7, 206), (7, 205), (0, 70), (1, 12)) | 12 => ((7, 210), (7, 209), (0, 71), (1, 12)) | 13 => ((7, 202), (7, 201), (0, 69), (1, 12)) | 14 => ((8, 2), (8, 1), (0, 74), (1, 12)) | 15 => ((7, 214), (7, 213), (0, 72), (1, 12)) | 16 => ((7, 222), (7, 221), (0, 73), (1, 12)) | 17 => ((7, 198), (7, 196), (7, 197), (1, 12)) | 18 => ((7, 218), (7, 216), (7, 217), (1, 12)) | 19 => ((7, 226), (7, 224), (7, 225), (1, 12)) | _ => ((0, 0), (0, 0), (0, 0), (0, 0))
def wi12 (i : Nat) : (Nat × Nat) × (Nat × Nat) × (Nat × Nat) × (Nat × Nat) := match i with | 0 => ((7, 230), (7, 228), (7, 229), (1, 12)) | 1 => ((7, 234), (7, 232), (7, 233), (1, 12)) | 2 => ((8, 6), (8, 5), (0, 75), (1, 12)) | 3 => ((7, 238), (7, 236), (7, 237), (1, 12)) | 4 => ((8, 10), (8, 8), (8, 9), (1, 12)) | 5 => ((8, 14), (8, 12), (8, 13), (1, 12)) | 6 => ((8, 26), (8, 25), (0, 76), (1, 12)) | 7 => ((8, 18), (8, 16), (8, 17), (1, 12)) | 8 => ((8, 22), (8, 20), (8, 21), (1, 12)) | 9 => ((8, 30), (8, 28), (8, 29), (1, 12)) | 10 => ((8, 34), (8, 32), (8, 33), (1, 12)) | 11 => ((8, 38), (8, 36), (8, 37), (1, 12)) | 12 => ((8, 46), (8, 44), (8, 45), (1, 12)) | 13 => ((8, 50), (8, 48), (8, 49), (1, 12)) | 14 => ((8, 66), (8, 64), (8, 65), (1, 12)) | 15 => ((8, 74), (8, 73), (0, 81), (1, 12)) | 16 => ((8, 70), (8, 68), (8, 69), (1, 12)) | 17 => ((8, 78), (8, 76), (8, 77), (1, 12)) | 18 => ((8, 90), (8, 89), (0, 83), (1, 12)) | 19 => ((8, 162), (8, 161), (0, 100), (1, 12)) | _ => ((0, 0), (0, 0), (0, 0), (0, 0))
def wi13 (i : Nat) : (Nat × Nat) × (Nat × Nat) × (Nat × Nat) × (Nat × Nat) := match i with | 0 => ((8, 86), (8, 85), (0, 82), (1, 12)) | 1 => ((8, 82), (8, 80), (8, 81), (1, 12)) | 2 => ((8, 166), (8, 164), (8, 165), (1, 12)) | 3 => ((8, 174), (8, 173), (0, 101), (1, 12)) | 4 => ((8, 170), (8, 168), (8, 169), (1, 12)) | 5 => ((8, 178), (8, 176), (8, 177), (1, 12)) | 6 => ((8, 186), (8, 185), (0, 102), (1, 12)) | 7 => ((8, 182), (8, 180), (8, 181), (1, 12)) | 8 => ((8, 190), (8, 188), (8, 189), (1, 12)) | 9 => ((8, 198), (8, 197), (0, 103), (1, 12)) | 10 => ((8, 194), (8, 192), (8, 193), (1, 12)) | 11 => ((8, 202), (8, 200), (8, 201), (1, 12)) | 12 => ((8, 214), (8, 213), (0, 105), (1, 12)) | 13 => ((9, 22), (9, 21), (0, 108), (1, 12)) | 14 => ((8, 210), (8, 209), (0, 104), (1, 12)) | 15 => ((8, 206), (8, 204), (8, 205), (1, 12)) | 16 => ((8, 218), (8, 216), (8, 217), (1, 12)) | 17 => ((8, 222), (8, 220), (8, 221), (1, 12)) | 18 => ((8, 226), (8, 224), (8, 225), (1, 12)) | 19 => ((8, 234), (8, 233), (0, 106), (1, 12)) | _ => ((0, 0), (0, 0), (0, 0), (0, 0))
def wi14 (i : Nat) : (Nat × Nat) × (Nat × Nat) × (Nat × Nat) × (Nat × Nat) := match i with | 0 => ((8, 230), (8, 228), (8, 229), (1, 12)) | 1 => ((9, 2), (9, 1), (0, 107), (1, 12)) | 2 => ((8, 238), (8, 236), (8, 237), (1, 12)) | 3 => ((9, 6), (9, 4), (9, 5), (1, 12)) | 4 => ((9, 10), (9, 8), (9, 9), (1, 12)) | 5 => ((9, 14), (9, 12), (9, 13), (1, 12)) | 6 => ((9, 18), (9, 16), (9, 17), (1, 12)) | 7 => ((9, 26), (9, 24), (9, 25), (1, 12)) | 8 => ((9, 30), (9, 28), (9, 29), (1, 12)) | 9 => ((9, 34), (9, 32), (9, 33), (1, 12)) | _ => ((0, 0), (0, 0), (0, 0), (0, 0))
def wis (μ : Nat) : (Nat × Nat) × (Nat × Nat) × (Nat × Nat) × (Nat × Nat) := match μ / 20 with | 0 => wi0 (μ % 20) | 1 => wi1 (μ % 20) | 2 => wi2 (μ % 20) | 3 => wi3 (μ % 20) | 4 => wi4 (μ % 20) | 5 => wi5 (μ % 20) | 6 => wi6 (μ % 20) | 7 => wi7 (μ % 20) | 8 => wi8 (μ % 20) | 9 => wi9 (μ % 20) | 10 => wi10 (μ % 20) | 11 => wi11 (μ % 20) | 12 => wi12 (μ % 20) | 13 => wi13 (μ % 20) | 14 => wi14 (μ % 20) | _ => ((0, 0), (0, 0), (0, 0), (0, 0))
def tabS (j : Nat) : List Jvm.Cond := if j = 0 then k2_sels lw_privs else tabC j
def okD2 (μ : Nat) : Bool := decide ((tabC (wis μ).1.1)[(wis μ).1.2]? = some (.code (nameOf μ) (bytesOf μ) (maxOf μ) (retOf μ))) && decide ((tabC (wis μ).2.2.2.1)[(wis μ).2.2.2.2]? = some (.initialized (clsN (clOf μ))))
  && (if (mus μ).2.1 = true then decide ((tabC (wis μ).2.1.1)[(wis μ).2.1.2]? = some (.static (nameOf μ))) else (decide ((tabC (wis μ).2.1.1)[(wis μ).2.1.2]? = some (.instanceMethod (nameOf μ))) && decide ((tabS (wis μ).2.2.1.1)[(wis μ).2.2.1.2]? = some (.selects (clsN (clOf μ)) (nameOf μ) (nameOf μ)))))
def okB (e : EN) : Bool := match e.2.1 with
  | .invokevirtual _ => decide (1000 ≤ e.2.2.2.1) || (decide (e.2.2.2.2.1 = (mus e.2.2.2.1).2.2 + 1 + 16 * clOf e.2.2.2.1) && !(mus e.2.2.2.1).2.1 && decide ((mus e.2.2.2.1).2.2 < 15))
  | .invokestatic _ => decide (1000 ≤ e.2.2.2.1) || (decide (e.2.2.2.2.1 = (mus e.2.2.2.1).2.2) && (mus e.2.2.2.1).2.1)
  | _ => true
def okN (μ : Nat) : Bool := okD2 μ && (codeOf μ).all okB
theorem okN_0 : okN 0 = true := by decide +kernel
theorem okN_1 : okN 1 = true := by decide +kernel
theorem okN_2 : okN 2 = true := by decide +kernel
theorem okN_3 : okN 3 = true := by decide +kernel
theorem okN_4 : okN 4 = true := by decide +kernel
theorem okN_5 : okN 5 = true := by decide +kernel
theorem okN_6 : okN 6 = true := by decide +kernel
theorem okN_7 : okN 7 = true := by decide +kernel
theorem okN_8 : okN 8 = true := by decide +kernel
theorem okN_9 : okN 9 = true := by decide +kernel
theorem okN_10 : okN 10 = true := by decide +kernel
theorem okN_11 : okN 11 = true := by decide +kernel
theorem okN_12 : okN 12 = true := by decide +kernel
theorem okN_13 : okN 13 = true := by decide +kernel
theorem okN_14 : okN 14 = true := by decide +kernel
theorem okN_15 : okN 15 = true := by decide +kernel
theorem okN_16 : okN 16 = true := by decide +kernel
theorem okN_17 : okN 17 = true := by decide +kernel
theorem okN_18 : okN 18 = true := by decide +kernel
theorem okN_19 : okN 19 = true := by decide +kernel
theorem okN_20 : okN 20 = true := by decide +kernel
theorem okN_21 : okN 21 = true := by decide +kernel
theorem okN_22 : okN 22 = true := by decide +kernel
theorem okN_23 : okN 23 = true := by decide +kernel
theorem okN_24 : okN 24 = true := by decide +kernel
theorem okN_25 : okN 25 = true := by decide +kernel
theorem okN_26 : okN 26 = true := by decide +kernel
theorem okN_27 : okN 27 = true := by decide +kernel
theorem okN_28 : okN 28 = true := by decide +kernel
theorem okN_29 : okN 29 = true := by decide +kernel
theorem okN_30 : okN 30 = true := by decide +kernel
theorem okN_31 : okN 31 = true := by decide +kernel
theorem okN_32 : okN 32 = true := by decide +kernel
theorem okN_33 : okN 33 = true := by decide +kernel
theorem okN_34 : okN 34 = true := by decide +kernel
theorem okN_35 : okN 35 = true := by decide +kernel
theorem okN_36 : okN 36 = true := by decide +kernel
theorem okN_37 : okN 37 = true := by decide +kernel
theorem okN_38 : okN 38 = true := by decide +kernel
theorem okN_39 : okN 39 = true := by decide +kernel
theorem okN_40 : okN 40 = true := by decide +kernel
theorem okN_41 : okN 41 = true := by decide +kernel
theorem okN_42 : okN 42 = true := by decide +kernel
theorem okN_43 : okN 43 = true := by decide +kernel
theorem okN_44 : okN 44 = true := by decide +kernel
theorem okN_45 : okN 45 = true := by decide +kernel
theorem okN_46 : okN 46 = true := by decide +kernel
theorem okN_47 : okN 47 = true := by decide +kernel
theorem okN_48 : okN 48 = true := by decide +kernel
theorem okN_49 : okN 49 = true := by decide +kernel
theorem okN_50 : okN 50 = true := by decide +kernel
theorem okN_51 : okN 51 = true := by decide +kernel
theorem okN_52 : okN 52 = true := by decide +kernel
theorem okN_53 : okN 53 = true := by decide +kernel
theorem okN_54 : okN 54 = true := by decide +kernel
theorem okN_55 : okN 55 = true := by decide +kernel
theorem okN_56 : okN 56 = true := by decide +kernel
theorem okN_57 : okN 57 = true := by decide +kernel
theorem okN_58 : okN 58 = true := by decide +kernel
theorem okN_59 : okN 59 = true := by decide +kernel
theorem okN_60 : okN 60 = true := by decide +kernel
theorem okN_61 : okN 61 = true := by decide +kernel
theorem okN_62 : okN 62 = true := by decide +kernel
theorem okN_63 : okN 63 = true := by decide +kernel
theorem okN_64 : okN 64 = true := by decide +kernel
theorem okN_65 : okN 65 = true := by decide +kernel
theorem okN_66 : okN 66 = true := by decide +kernel
theorem okN_67 : okN 67 = true := by decide +kernel
theorem okN_68 : okN 68 = true := by decide +kernel
theorem okN_69 : okN 69 = true := by decide +kernel
theorem okN_70 : okN 70 = true := by decide +kernel
theorem okN_71 : okN 71 = true := by decide +kernel
theorem okN_72 : okN 72 = true := by decide +kernel
theorem okN_73 : okN 73 = true := by decide +kernel
theorem okN_74 : okN 74 = true := by decide +kernel
theorem okN_75 : okN 75 = true := by decide +kernel
theorem okN_76 : okN 76 = true := by decide +kernel
theorem okN_77 : okN 77 = true := by decide +kernel
theorem okN_78 : okN 78 = true := by decide +kernel
theorem okN_79 : okN 79 = true := by decide +kernel
theorem okN_80 : okN 80 = true := by decide +kernel
theorem okN_81 : okN 81 = true := by decide +kernel
theorem okN_82 : okN 82 = true := by decide +kernel
theorem okN_83 : okN 83 = true := by decide +kernel
theorem okN_84 : okN 84 = true := by decide +kernel
theorem okN_85 : okN 85 = true := by decide +kernel
theorem okN_86 : okN 86 = true := by decide +kernel
theorem okN_87 : okN 87 = true := by decide +kernel
theorem okN_88 : okN 88 = true := by decide +kernel
theorem okN_89 : okN 89 = true := by decide +kernel
theorem okN_90 : okN 90 = true := by decide +kernel
theorem okN_91 : okN 91 = true := by decide +kernel
theorem okN_92 : okN 92 = true := by decide +kernel
theorem okN_93 : okN 93 = true := by decide +kernel
theorem okN_94 : okN 94 = true := by decide +kernel
theorem okN_95 : okN 95 = true := by decide +kernel
theorem okN_96 : okN 96 = true := by decide +kernel
theorem okN_97 : okN 97 = true := by decide +kernel
theorem okN_98 : okN 98 = true := by decide +kernel
theorem okN_99 : okN 99 = true := by decide +kernel
theorem okN_100 : okN 100 = true := by decide +kernel
theorem okN_101 : okN 101 = true := by decide +kernel
theorem okN_102 : okN 102 = true := by decide +kernel
theorem okN_103 : okN 103 = true := by decide +kernel
theorem okN_104 : okN 104 = true := by decide +kernel
theorem okN_105 : okN 105 = true := by decide +kernel
theorem okN_106 : okN 106 = true := by decide +kernel
theorem okN_107 : okN 107 = true := by decide +kernel
theorem okN_108 : okN 108 = true := by decide +kernel
theorem okN_109 : okN 109 = true := by decide +kernel
theorem okN_110 : okN 110 = true := by decide +kernel
theorem okN_111 : okN 111 = true := by decide +kernel
theorem okN_112 : okN 112 = true := by decide +kernel
theorem okN_113 : okN 113 = true := by decide +kernel
theorem okN_114 : okN 114 = true := by decide +kernel
theorem okN_115 : okN 115 = true := by decide +kernel
theorem okN_116 : okN 116 = true := by decide +kernel
theorem okN_117 : okN 117 = true := by decide +kernel
theorem okN_118 : okN 118 = true := by decide +kernel
theorem okN_119 : okN 119 = true := by decide +kernel
theorem okN_120 : okN 120 = true := by decide +kernel
theorem okN_121 : okN 121 = true := by decide +kernel
theorem okN_122 : okN 122 = true := by decide +kernel
theorem okN_123 : okN 123 = true := by decide +kernel
theorem okN_124 : okN 124 = true := by decide +kernel
theorem okN_125 : okN 125 = true := by decide +kernel
theorem okN_126 : okN 126 = true := by decide +kernel
theorem okN_127 : okN 127 = true := by decide +kernel
theorem okN_128 : okN 128 = true := by decide +kernel
theorem okN_129 : okN 129 = true := by decide +kernel
theorem okN_130 : okN 130 = true := by decide +kernel
theorem okN_131 : okN 131 = true := by decide +kernel
theorem okN_132 : okN 132 = true := by decide +kernel
theorem okN_133 : okN 133 = true := by decide +kernel
theorem okN_134 : okN 134 = true := by decide +kernel
theorem okN_135 : okN 135 = true := by decide +kernel
theorem okN_136 : okN 136 = true := by decide +kernel
theorem okN_137 : okN 137 = true := by decide +kernel
theorem okN_138 : okN 138 = true := by decide +kernel
theorem okN_139 : okN 139 = true := by decide +kernel
theorem okN_140 : okN 140 = true := by decide +kernel
theorem okN_141 : okN 141 = true := by decide +kernel
theorem okN_142 : okN 142 = true := by decide +kernel
theorem okN_143 : okN 143 = true := by decide +kernel
theorem okN_144 : okN 144 = true := by decide +kernel
theorem okN_145 : okN 145 = true := by decide +kernel
theorem okN_146 : okN 146 = true := by decide +kernel
theorem okN_147 : okN 147 = true := by decide +kernel
theorem okN_148 : okN 148 = true := by decide +kernel
theorem okN_149 : okN 149 = true := by decide +kernel
theorem okN_150 : okN 150 = true := by decide +kernel
theorem okN_151 : okN 151 = true := by decide +kernel
theorem okN_152 : okN 152 = true := by decide +kernel
theorem okN_153 : okN 153 = true := by decide +kernel
theorem okN_154 : okN 154 = true := by decide +kernel
theorem okN_155 : okN 155 = true := by decide +kernel
theorem okN_156 : okN 156 = true := by decide +kernel
theorem okN_157 : okN 157 = true := by decide +kernel
theorem okN_158 : okN 158 = true := by decide +kernel
theorem okN_159 : okN 159 = true := by decide +kernel
theorem okN_160 : okN 160 = true := by decide +kernel
theorem okN_161 : okN 161 = true := by decide +kernel
theorem okN_162 : okN 162 = true := by decide +kernel
theorem okN_163 : okN 163 = true := by decide +kernel
theorem okN_164 : okN 164 = true := by decide +kernel
theorem okN_165 : okN 165 = true := by decide +kernel
theorem okN_166 : okN 166 = true := by decide +kernel
theorem okN_167 : okN 167 = true := by decide +kernel
theorem okN_168 : okN 168 = true := by decide +kernel
theorem okN_169 : okN 169 = true := by decide +kernel
theorem okN_170 : okN 170 = true := by decide +kernel
theorem okN_171 : okN 171 = true := by decide +kernel
theorem okN_172 : okN 172 = true := by decide +kernel
theorem okN_173 : okN 173 = true := by decide +kernel
theorem okN_174 : okN 174 = true := by decide +kernel
theorem okN_175 : okN 175 = true := by decide +kernel
theorem okN_176 : okN 176 = true := by decide +kernel
theorem okN_177 : okN 177 = true := by decide +kernel
theorem okN_178 : okN 178 = true := by decide +kernel
theorem okN_179 : okN 179 = true := by decide +kernel
theorem okN_180 : okN 180 = true := by decide +kernel
theorem okN_181 : okN 181 = true := by decide +kernel
theorem okN_182 : okN 182 = true := by decide +kernel
theorem okN_183 : okN 183 = true := by decide +kernel
theorem okN_184 : okN 184 = true := by decide +kernel
theorem okN_185 : okN 185 = true := by decide +kernel
theorem okN_186 : okN 186 = true := by decide +kernel
theorem okN_187 : okN 187 = true := by decide +kernel
theorem okN_188 : okN 188 = true := by decide +kernel
theorem okN_189 : okN 189 = true := by decide +kernel
theorem okN_190 : okN 190 = true := by decide +kernel
theorem okN_191 : okN 191 = true := by decide +kernel
theorem okN_192 : okN 192 = true := by decide +kernel
theorem okN_193 : okN 193 = true := by decide +kernel
theorem okN_194 : okN 194 = true := by decide +kernel
theorem okN_195 : okN 195 = true := by decide +kernel
theorem okN_196 : okN 196 = true := by decide +kernel
theorem okN_197 : okN 197 = true := by decide +kernel
theorem okN_198 : okN 198 = true := by decide +kernel
theorem okN_199 : okN 199 = true := by decide +kernel
theorem okN_200 : okN 200 = true := by decide +kernel
theorem okN_201 : okN 201 = true := by decide +kernel
theorem okN_202 : okN 202 = true := by decide +kernel
theorem okN_203 : okN 203 = true := by decide +kernel
theorem okN_204 : okN 204 = true := by decide +kernel
theorem okN_205 : okN 205 = true := by decide +kernel
theorem okN_206 : okN 206 = true := by decide +kernel
theorem okN_207 : okN 207 = true := by decide +kernel
theorem okN_208 : okN 208 = true := by decide +kernel
theorem okN_209 : okN 209 = true := by decide +kernel
theorem okN_210 : okN 210 = true := by decide +kernel
theorem okN_211 : okN 211 = true := by decide +kernel
theorem okN_212 : okN 212 = true := by decide +kernel
theorem okN_213 : okN 213 = true := by decide +kernel
theorem okN_214 : okN 214 = true := by decide +kernel
theorem okN_215 : okN 215 = true := by decide +kernel
theorem okN_216 : okN 216 = true := by decide +kernel
theorem okN_217 : okN 217 = true := by decide +kernel
theorem okN_218 : okN 218 = true := by decide +kernel
theorem okN_219 : okN 219 = true := by decide +kernel
theorem okN_220 : okN 220 = true := by decide +kernel
theorem okN_221 : okN 221 = true := by decide +kernel
theorem okN_222 : okN 222 = true := by decide +kernel
theorem okN_223 : okN 223 = true := by decide +kernel
theorem okN_224 : okN 224 = true := by decide +kernel
theorem okN_225 : okN 225 = true := by decide +kernel
theorem okN_226 : okN 226 = true := by decide +kernel
theorem okN_227 : okN 227 = true := by decide +kernel
theorem okN_228 : okN 228 = true := by decide +kernel
theorem okN_229 : okN 229 = true := by decide +kernel
theorem okN_230 : okN 230 = true := by decide +kernel
theorem okN_231 : okN 231 = true := by decide +kernel
theorem okN_232 : okN 232 = true := by decide +kernel
theorem okN_233 : okN 233 = true := by decide +kernel
theorem okN_234 : okN 234 = true := by decide +kernel
theorem okN_235 : okN 235 = true := by decide +kernel
theorem okN_236 : okN 236 = true := by decide +kernel
theorem okN_237 : okN 237 = true := by decide +kernel
theorem okN_238 : okN 238 = true := by decide +kernel
theorem okN_239 : okN 239 = true := by decide +kernel
theorem okN_240 : okN 240 = true := by decide +kernel
theorem okN_241 : okN 241 = true := by decide +kernel
theorem okN_242 : okN 242 = true := by decide +kernel
theorem okN_243 : okN 243 = true := by decide +kernel
theorem okN_244 : okN 244 = true := by decide +kernel
theorem okN_245 : okN 245 = true := by decide +kernel
theorem okN_246 : okN 246 = true := by decide +kernel
theorem okN_247 : okN 247 = true := by decide +kernel
theorem okN_248 : okN 248 = true := by decide +kernel
theorem okN_249 : okN 249 = true := by decide +kernel
theorem okN_250 : okN 250 = true := by decide +kernel
theorem okN_251 : okN 251 = true := by decide +kernel
theorem okN_252 : okN 252 = true := by decide +kernel
theorem okN_253 : okN 253 = true := by decide +kernel
theorem okN_254 : okN 254 = true := by decide +kernel
theorem okN_255 : okN 255 = true := by decide +kernel
theorem okN_256 : okN 256 = true := by decide +kernel
theorem okN_257 : okN 257 = true := by decide +kernel
theorem okN_258 : okN 258 = true := by decide +kernel
theorem okN_259 : okN 259 = true := by decide +kernel
theorem okN_260 : okN 260 = true := by decide +kernel
theorem okN_261 : okN 261 = true := by decide +kernel
theorem okN_262 : okN 262 = true := by decide +kernel
theorem okN_263 : okN 263 = true := by decide +kernel
theorem okN_264 : okN 264 = true := by decide +kernel
theorem okN_265 : okN 265 = true := by decide +kernel
theorem okN_266 : okN 266 = true := by decide +kernel
theorem okN_267 : okN 267 = true := by decide +kernel
theorem okN_268 : okN 268 = true := by decide +kernel
theorem okN_269 : okN 269 = true := by decide +kernel
theorem okN_270 : okN 270 = true := by decide +kernel
theorem okN_271 : okN 271 = true := by decide +kernel
theorem okN_272 : okN 272 = true := by decide +kernel
theorem okN_273 : okN 273 = true := by decide +kernel
theorem okN_274 : okN 274 = true := by decide +kernel
theorem okN_275 : okN 275 = true := by decide +kernel
theorem okN_276 : okN 276 = true := by decide +kernel
theorem okN_277 : okN 277 = true := by decide +kernel
theorem okN_278 : okN 278 = true := by decide +kernel
theorem okN_279 : okN 279 = true := by decide +kernel
theorem okN_280 : okN 280 = true := by decide +kernel
theorem okN_281 : okN 281 = true := by decide +kernel
theorem okN_282 : okN 282 = true := by decide +kernel
theorem okN_283 : okN 283 = true := by decide +kernel
theorem okN_284 : okN 284 = true := by decide +kernel
theorem okN_285 : okN 285 = true := by decide +kernel
theorem okN_286 : okN 286 = true := by decide +kernel
theorem okN_287 : okN 287 = true := by decide +kernel
theorem okN_288 : okN 288 = true := by decide +kernel
theorem okN_289 : okN 289 = true := by decide +kernel
theorem okNs_0 : ∀ i, i < 20 → okN (0 + i) = true := fun i h => match i, h with
  | 0, _ => okN_0
  | 1, _ => okN_1
  | 2, _ => okN_2
  | 3, _ => okN_3
  | 4, _ => okN_4
  | 5, _ => okN_5
  | 6, _ => okN_6
  | 7, _ => okN_7
  | 8, _ => okN_8
  | 9, _ => okN_9
  | 10, _ => okN_10
  | 11, _ => okN_11
  | 12, _ => okN_12
  | 13, _ => okN_13
  | 14, _ => okN_14
  | 15, _ => okN_15
  | 16, _ => okN_16
  | 17, _ => okN_17
  | 18, _ => okN_18
  | 19, _ => okN_19
  | k + 20, h => absurd h (by omega)
theorem okNs_1 : ∀ i, i < 20 → okN (20 + i) = true := fun i h => match i, h with
  | 0, _ => okN_20
  | 1, _ => okN_21
  | 2, _ => okN_22
  | 3, _ => okN_23
  | 4, _ => okN_24
  | 5, _ => okN_25
  | 6, _ => okN_26
  | 7, _ => okN_27
  | 8, _ => okN_28
  | 9, _ => okN_29
  | 10, _ => okN_30
  | 11, _ => okN_31
  | 12, _ => okN_32
  | 13, _ => okN_33
  | 14, _ => okN_34
  | 15, _ => okN_35
  | 16, _ => okN_36
  | 17, _ => okN_37
  | 18, _ => okN_38
  | 19, _ => okN_39
  | k + 20, h => absurd h (by omega)
theorem okNs_2 : ∀ i, i < 20 → okN (40 + i) = true := fun i h => match i, h with
  | 0, _ => okN_40
  | 1, _ => okN_41
  | 2, _ => okN_42
  | 3, _ => okN_43
  | 4, _ => okN_44
  | 5, _ => okN_45
  | 6, _ => okN_46
  | 7, _ => okN_47
  | 8, _ => okN_48
  | 9, _ => okN_49
  | 10, _ => okN_50
  | 11, _ => okN_51
  | 12, _ => okN_52
  | 13, _ => okN_53
  | 14, _ => okN_54
  | 15, _ => okN_55
  | 16, _ => okN_56
  | 17, _ => okN_57
  | 18, _ => okN_58
  | 19, _ => okN_59
  | k + 20, h => absurd h (by omega)
theorem okNs_3 : ∀ i, i < 20 → okN (60 + i) = true := fun i h => match i, h with
  | 0, _ => okN_60
  | 1, _ => okN_61
  | 2, _ => okN_62
  | 3, _ => okN_63
  | 4, _ => okN_64
  | 5, _ => okN_65
  | 6, _ => okN_66
  | 7, _ => okN_67
  | 8, _ => okN_68
  | 9, _ => okN_69
  | 10, _ => okN_70
  | 11, _ => okN_71
  | 12, _ => okN_72
  | 13, _ => okN_73
  | 14, _ => okN_74
  | 15, _ => okN_75
  | 16, _ => okN_76
  | 17, _ => okN_77
  | 18, _ => okN_78
  | 19, _ => okN_79
  | k + 20, h => absurd h (by omega)
theorem okNs_4 : ∀ i, i < 20 → okN (80 + i) = true := fun i h => match i, h with
  | 0, _ => okN_80
  | 1, _ => okN_81
  | 2, _ => okN_82
  | 3, _ => okN_83
  | 4, _ => okN_84
  | 5, _ => okN_85
  | 6, _ => okN_86
  | 7, _ => okN_87
  | 8, _ => okN_88
  | 9, _ => okN_89
  | 10, _ => okN_90
  | 11, _ => okN_91
  | 12, _ => okN_92
  | 13, _ => okN_93
  | 14, _ => okN_94
  | 15, _ => okN_95
  | 16, _ => okN_96
  | 17, _ => okN_97
  | 18, _ => okN_98
  | 19, _ => okN_99
  | k + 20, h => absurd h (by omega)
theorem okNs_5 : ∀ i, i < 20 → okN (100 + i) = true := fun i h => match i, h with
  | 0, _ => okN_100
  | 1, _ => okN_101
  | 2, _ => okN_102
  | 3, _ => okN_103
  | 4, _ => okN_104
  | 5, _ => okN_105
  | 6, _ => okN_106
  | 7, _ => okN_107
  | 8, _ => okN_108
  | 9, _ => okN_109
  | 10, _ => okN_110
  | 11, _ => okN_111
  | 12, _ => okN_112
  | 13, _ => okN_113
  | 14, _ => okN_114
  | 15, _ => okN_115
  | 16, _ => okN_116
  | 17, _ => okN_117
  | 18, _ => okN_118
  | 19, _ => okN_119
  | k + 20, h => absurd h (by omega)
theorem okNs_6 : ∀ i, i < 20 → okN (120 + i) = true := fun i h => match i, h with
  | 0, _ => okN_120
  | 1, _ => okN_121
  | 2, _ => okN_122
  | 3, _ => okN_123
  | 4, _ => okN_124
  | 5, _ => okN_125
  | 6, _ => okN_126
  | 7, _ => okN_127
  | 8, _ => okN_128
  | 9, _ => okN_129
  | 10, _ => okN_130
  | 11, _ => okN_131
  | 12, _ => okN_132
  | 13, _ => okN_133
  | 14, _ => okN_134
  | 15, _ => okN_135
  | 16, _ => okN_136
  | 17, _ => okN_137
  | 18, _ => okN_138
  | 19, _ => okN_139
  | k + 20, h => absurd h (by omega)
theorem okNs_7 : ∀ i, i < 20 → okN (140 + i) = true := fun i h => match i, h with
  | 0, _ => okN_140
  | 1, _ => okN_141
  | 2, _ => okN_142
  | 3, _ => okN_143
  | 4, _ => okN_144
  | 5, _ => okN_145
  | 6, _ => okN_146
  | 7, _ => okN_147
  | 8, _ => okN_148
  | 9, _ => okN_149
  | 10, _ => okN_150
  | 11, _ => okN_151
  | 12, _ => okN_152
  | 13, _ => okN_153
  | 14, _ => okN_154
  | 15, _ => okN_155
  | 16, _ => okN_156
  | 17, _ => okN_157
  | 18, _ => okN_158
  | 19, _ => okN_159
  | k + 20, h => absurd h (by omega)
theorem okNs_8 : ∀ i, i < 20 → okN (160 + i) = true := fun i h => match i, h with
  | 0, _ => okN_160
  | 1, _ => okN_161
  | 2, _ => okN_162
  | 3, _ => okN_163
  | 4, _ => okN_164
  | 5, _ => okN_165
  | 6, _ => okN_166
  | 7, _ => okN_167
  | 8, _ => okN_168
  | 9, _ => okN_169
  | 10, _ => okN_170
  | 11, _ => okN_171
  | 12, _ => okN_172
  | 13, _ => okN_173
  | 14, _ => okN_174
  | 15, _ => okN_175
  | 16, _ => okN_176
  | 17, _ => okN_177
  | 18, _ => okN_178
  | 19, _ => okN_179
  | k + 20, h => absurd h (by omega)
theorem okNs_9 : ∀ i, i < 20 → okN (180 + i) = true := fun i h => match i, h with
  | 0, _ => okN_180
  | 1, _ => okN_181
  | 2, _ => okN_182
  | 3, _ => okN_183
  | 4, _ => okN_184
  | 5, _ => okN_185
  | 6, _ => okN_186
  | 7, _ => okN_187
  | 8, _ => okN_188
  | 9, _ => okN_189
  | 10, _ => okN_190
  | 11, _ => okN_191
  | 12, _ => okN_192
  | 13, _ => okN_193
  | 14, _ => okN_194
  | 15, _ => okN_195
  | 16, _ => okN_196
  | 17, _ => okN_197
  | 18, _ => okN_198
  | 19, _ => okN_199
  | k + 20, h => absurd h (by omega)
theorem okNs_10 : ∀ i, i < 20 → okN (200 + i) = true := fun i h => match i, h with
  | 0, _ => okN_200
  | 1, _ => okN_201
  | 2, _ => okN_202
  | 3, _ => okN_203
  | 4, _ => okN_204
  | 5, _ => okN_205
  | 6, _ => okN_206
  | 7, _ => okN_207
  | 8, _ => okN_208
  | 9, _ => okN_209
  | 10, _ => okN_210
  | 11, _ => okN_211
  | 12, _ => okN_212
  | 13, _ => okN_213
  | 14, _ => okN_214
  | 15, _ => okN_215
  | 16, _ => okN_216
  | 17, _ => okN_217
  | 18, _ => okN_218
  | 19, _ => okN_219
  | k + 20, h => absurd h (by omega)
theorem okNs_11 : ∀ i, i < 20 → okN (220 + i) = true := fun i h => match i, h with
  | 0, _ => okN_220
  | 1, _ => okN_221
  | 2, _ => okN_222
  | 3, _ => okN_223
  | 4, _ => okN_224
  | 5, _ => okN_225
  | 6, _ => okN_226
  | 7, _ => okN_227
  | 8, _ => okN_228
  | 9, _ => okN_229
  | 10, _ => okN_230
  | 11, _ => okN_231
  | 12, _ => okN_232
  | 13, _ => okN_233
  | 14, _ => okN_234
  | 15, _ => okN_235
  | 16, _ => okN_236
  | 17, _ => okN_237
  | 18, _ => okN_238
  | 19, _ => okN_239
  | k + 20, h => absurd h (by omega)
theorem okNs_12 : ∀ i, i < 20 → okN (240 + i) = true := fun i h => match i, h with
  | 0, _ => okN_240
  | 1, _ => okN_241
  | 2, _ => okN_242
  | 3, _ => okN_243
  | 4, _ => okN_244
  | 5, _ => okN_245
  | 6, _ => okN_246
  | 7, _ => okN_247
  | 8, _ => okN_248
  | 9, _ => okN_249
  | 10, _ => okN_250
  | 11, _ => okN_251
  | 12, _ => okN_252
  | 13, _ => okN_253
  | 14, _ => okN_254
  | 15, _ => okN_255
  | 16, _ => okN_256
  | 17, _ => okN_257
  | 18, _ => okN_258
  | 19, _ => okN_259
  | k + 20, h => absurd h (by omega)
theorem okNs_13 : ∀ i, i < 20 → okN (260 + i) = true := fun i h => match i, h with
  | 0, _ => okN_260
  | 1, _ => okN_261
  | 2, _ => okN_262
  | 3, _ => okN_263
  | 4, _ => okN_264
  | 5, _ => okN_265
  | 6, _ => okN_266
  | 7, _ => okN_267
  | 8, _ => okN_268
  | 9, _ => okN_269
  | 10, _ => okN_270
  | 11, _ => okN_271
  | 12, _ => okN_272
  | 13, _ => okN_273
  | 14, _ => okN_274
  | 15, _ => okN_275
  | 16, _ => okN_276
  | 17, _ => okN_277
  | 18, _ => okN_278
  | 19, _ => okN_279
  | k + 20, h => absurd h (by omega)
theorem okNs_14 : ∀ i, i < 10 → okN (280 + i) = true := fun i h => match i, h with
  | 0, _ => okN_280
  | 1, _ => okN_281
  | 2, _ => okN_282
  | 3, _ => okN_283
  | 4, _ => okN_284
  | 5, _ => okN_285
  | 6, _ => okN_286
  | 7, _ => okN_287
  | 8, _ => okN_288
  | 9, _ => okN_289
  | k + 10, h => absurd h (by omega)
theorem okN_all : ∀ μ, μ < 290 → okN μ = true := by
  intro μ h
  have hd : μ = 20 * (μ / 20) + μ % 20 := (Nat.div_add_mod μ 20).symm
  have hm : μ % 20 < 20 := Nat.mod_lt _ (by decide)
  have hq : μ / 20 < 15 := by omega
  generalize μ / 20 = q at hd hq
  generalize μ % 20 = t at hd hm
  subst hd
  match q, hq with
  | 0, _ => exact okNs_0 t (by omega)
  | 1, _ => exact okNs_1 t (by omega)
  | 2, _ => exact okNs_2 t (by omega)
  | 3, _ => exact okNs_3 t (by omega)
  | 4, _ => exact okNs_4 t (by omega)
  | 5, _ => exact okNs_5 t (by omega)
  | 6, _ => exact okNs_6 t (by omega)
  | 7, _ => exact okNs_7 t (by omega)
  | 8, _ => exact okNs_8 t (by omega)
  | 9, _ => exact okNs_9 t (by omega)
  | 10, _ => exact okNs_10 t (by omega)
  | 11, _ => exact okNs_11 t (by omega)
  | 12, _ => exact okNs_12 t (by omega)
  | 13, _ => exact okNs_13 t (by omega)
  | 14, _ => exact okNs_14 t (by omega)
  | k + 15, h => exact absurd h (by omega)
end
section
/-! ===== the small machine's runs ===== -/
def entryL (args : List VL) (n : Nat) : List (Option VL) := args.map some ++ List.replicate (n - args.length) none
/-- a value that a method may be given -/
def isIR (v : VL) : Bool := match v with
  | .inr (.inr _) => false | _ => true
def run : Nat → Nat → List EN → Nat → List (Option VL) → List VL → HP → Option RES
  | 0, _, _, _, _, _, _ => none
  | n + 1, d, C, pc, ls, st, hp =>
    match lkp pc C with
    | none => none
    | some (_, i, len, a, b, z) =>
      match exec1 i len a b z d pc ls st hp with
      | none => none
      | some (.inl ((pc', ls', st'), hp')) => run n d C pc' ls' st' hp'
      | some (.inr (.inl (μ, args, rest))) =>
        (match d with
        | 0 => none
        | d' + 1 => if args.all isIR = true then (match run n d' (codeOf μ) 0 (entryL args (maxOf μ)) [] hp with
          | some (.inl v, hp') => run n (d' + 1) C (pc + 3) ls (v.toList ++ rest) hp'
          | some (.inr E, hp') => some (.inr E, hp')
          | none => none) else none)
      | some (.inr (.inr (.inl v))) => some (.inl v, hp)
      | some (.inr (.inr (.inr E))) => some (.inr E, hp)
theorem run_mono : ∀ (n d : Nat) (C : List EN) (pc : Nat) (ls : List (Option VL)) (st : List VL) (hp : HP) (r : RES), run n d C pc ls st hp = some r → run (n + 1) d C pc ls st hp = some r := by
  intro n
  induction n with
  | zero => intro d C pc ls st hp r h; cases h
  | succ n ih =>
    intro d C pc ls st hp r h
    rw [run] at h ⊢
    cases hl : lkp pc C with
    | none => rw [hl] at h; cases h
    | some e =>
      obtain ⟨p, i, len, a, b, z⟩ := e
      rw [hl] at h
      dsimp only at h ⊢
      cases he : exec1 i len a b z d pc ls st hp with
      | none => rw [he] at h; cases h
      | some act =>
        rw [he] at h
        rcases act with ⟨⟨pc', ls', st'⟩, hp'⟩ | ⟨μ, args, rest⟩ | v | E
        · exact ih _ _ _ _ _ _ _ h
        · dsimp only at h ⊢
          cases d with
          | zero => cases h
          | succ d' =>
            dsimp only at h ⊢
            by_cases hIR : args.all isIR = true
            case neg =>
              rw [if_neg hIR] at h
              cases h
            rw [if_pos hIR] at h ⊢
            cases hc : run n d' (codeOf μ) 0 (entryL args (maxOf μ)) [] hp with
            | none => rw [hc] at h; cases h
            | some q =>
              rw [hc] at h
              rw [ih _ _ _ _ _ _ _ hc]
              obtain ⟨v | E, hp'⟩ := q
              · exact ih _ _ _ _ _ _ _ h
              · exact h
        · exact h
        · exact h
theorem run_up {n d : Nat} {C : List EN} {pc : Nat} {ls : List (Option VL)} {st : List VL} {hp : HP} {r : RES} (h : run n d C pc ls st hp = some r) (k : Nat) : run (n + k) d C pc ls st hp = some r := by
  induction k with
  | zero => exact h
  | succ k ih => exact run_mono _ _ _ _ _ _ _ _ ih
def Ex (d : Nat) (C : List EN) (pc : Nat) (ls : List (Option VL)) (st : List VL) (hp : HP) (r : RES) : Prop := ∃ n, run n d C pc ls st hp = some r
def Calls (d μ : Nat) (args : List VL) (hp : HP) (r : RES) : Prop := Ex d (codeOf μ) 0 (entryL args (maxOf μ)) [] hp r
section EX
variable {d : Nat} {C : List EN} {pc : Nat} {ls : List (Option VL)} {st : List VL} {hp : HP} {r : RES}
theorem Ex.go (k : Nat) {pc' : Nat} {ls' : List (Option VL)} {st' : List VL} {hp' : HP} (h : ∀ n, run (n + k) d C pc ls st hp = run n d C pc' ls' st' hp') (x : Ex d C pc' ls' st' hp' r) : Ex d C pc ls st hp r := by
  obtain ⟨n, hn⟩ := x
  exact ⟨n + k, (h n).trans hn⟩
theorem Ex.one {p : Nat} {i : Instr} {len a b : Nat} {z : Int32} {pc' : Nat} {ls' : List (Option VL)} {st' : List VL} {hp' : HP} (hl : lkp pc C = some (p, i, len, a, b, z)) (he : exec1 i len a b z d pc ls st hp = some (.inl ((pc', ls', st'), hp'))) (x : Ex d C pc' ls' st' hp' r) : Ex d C pc ls st hp r := by
  obtain ⟨n, hn⟩ := x
  refine ⟨n + 1, ?_⟩
  rw [run, hl]
  dsimp only
  rw [he]
  exact hn
theorem Ex.ret {p : Nat} {i : Instr} {len a b : Nat} {z : Int32} {v : Option VL} (hl : lkp pc C = some (p, i, len, a, b, z)) (he : exec1 i len a b z d pc ls st hp = aRet v) (hr : r = (.inl v, hp)) : Ex d C pc ls st hp r := by
  refine ⟨1, ?_⟩
  rw [run, hl]
  dsimp only
  rw [he, hr]
  rfl
theorem Ex.thr {p : Nat} {i : Instr} {len a b : Nat} {z : Int32} {E : Nat} (hl : lkp pc C = some (p, i, len, a, b, z)) (he : exec1 i len a b z d pc ls st hp = aThr E) (hr : r = (.inr E, hp)) : Ex d C pc ls st hp r := by
  refine ⟨1, ?_⟩
  rw [run, hl]
  dsimp only
  rw [he, hr]
  rfl
theorem Ex.call {p : Nat} {i : Instr} {len a b μ : Nat} {z : Int32} {args rest : List VL} {v : Option VL} {hp1 : HP} (hl : lkp pc C = some (p, i, len, a, b, z)) (he : exec1 i len a b z (d + 1) pc ls st hp = aCall μ args rest) (hIR : args.all isIR = true)
    (hc : Calls d μ args hp (.inl v, hp1)) (k : Ex (d + 1) C (pc + 3) ls (v.toList ++ rest) hp1 r) : Ex (d + 1) C pc ls st hp r := by
  obtain ⟨n1, h1⟩ := hc
  obtain ⟨n2, h2⟩ := k
  refine ⟨(n1 + n2) + 1, ?_⟩
  rw [run, hl]
  dsimp only
  rw [he]
  show (if args.all isIR = true then (match run (n1 + n2) d (codeOf μ) 0 (entryL args (maxOf μ)) [] hp with
          | some (.inl v, hp') => run (n1 + n2) (d + 1) C (pc + 3) ls (v.toList ++ rest) hp'
          | some (.inr E, hp') => some (.inr E, hp')
          | none => none) else none) = some r
  rw [if_pos hIR, run_up h1 n2]
  dsimp only
  rw [Nat.add_comm]
  exact run_up h2 n1
theorem Ex.callT {p : Nat} {i : Instr} {len a b μ : Nat} {z : Int32} {args rest : List VL} {E : Nat} {hp1 : HP} (hl : lkp pc C = some (p, i, len, a, b, z)) (he : exec1 i len a b z (d + 1) pc ls st hp = aCall μ args rest) (hIR : args.all isIR = true)
    (hc : Calls d μ args hp (.inr E, hp1)) (hr : r = (.inr E, hp1)) : Ex (d + 1) C pc ls st hp r := by
  obtain ⟨n1, h1⟩ := hc
  refine ⟨n1 + 1, ?_⟩
  rw [run, hl]
  dsimp only
  rw [he]
  show (if args.all isIR = true then (match run n1 d (codeOf μ) 0 (entryL args (maxOf μ)) [] hp with
          | some (.inl v, hp') => run n1 (d + 1) C (pc + 3) ls (v.toList ++ rest) hp'
          | some (.inr E, hp') => some (.inr E, hp')
          | none => none) else none) = some r
  rw [if_pos hIR, h1, hr]
theorem Ex.icmp {p : Nat} {c : Jvm.ClassFile.Cond} {off : Int} {len a b : Nat} {z x y : Int32} (hl : lkp pc C = some (p, .if_icmp c off, len, a, b, z)) (k : brI c x y (Ex d C (tg pc off) ls st hp r) (Ex d C (pc + len) ls st hp r)) : Ex d C pc ls (vI y :: vI x :: st) hp r := by
  have key : ∀ g : Prop → Prop, True := fun _ => trivial
  cases c <;> simp only [brI] at k <;> split at k <;> rename_i hc
  all_goals first
    | exact Ex.one (ls' := ls) (st' := st) (hp' := hp) hl (by simp only [exec1, brI]; rw [if_pos hc]; rfl) k
    | exact Ex.one (ls' := ls) (st' := st) (hp' := hp) hl (by simp only [exec1, brI]; rw [if_neg hc]; rfl) k
theorem Ex.ifc {p : Nat} {c : Jvm.ClassFile.Cond} {off : Int} {len a b : Nat} {z x : Int32} (hl : lkp pc C = some (p, .ifCond c off, len, a, b, z)) (k : brI c x 0 (Ex d C (tg pc off) ls st hp r) (Ex d C (pc + len) ls st hp r)) : Ex d C pc ls (vI x :: st) hp r := by
  cases c <;> simp only [brI] at k <;> split at k <;> rename_i hc
  all_goals first
    | exact Ex.one (ls' := ls) (st' := st) (hp' := hp) hl (by simp only [exec1, brI]; rw [if_pos hc]; rfl) k
    | exact Ex.one (ls' := ls) (st' := st) (hp' := hp) hl (by simp only [exec1, brI]; rw [if_neg hc]; rfl) k
end EX
end
section
/-- every cell of the finished system, in the order in which the constructors make them -/
def allR : List RF := [(9, 0, 0), (7, 10, 0), (11, 10, 0), (3, 0, 0), (7, 0, 0), (11, 0, 0), (6, 0, 0), (7, 1, 0), (11, 1, 0), (4, 0, 0), (7, 2, 0), (11, 2, 0), (7, 3, 0), (11, 3, 0), (1, 0, 0), (7, 4, 0), (11, 4, 0), (0, 0, 0), (7, 5, 0), (11, 5, 0), (7, 6, 0), (11, 6, 0), (7, 7, 0), (11, 7, 0), (7, 8, 0), (11, 8, 0), (7, 9, 0), (11, 9, 0), (3, 0, 1), (7, 0, 1), (11, 0, 1), (6, 0, 1), (7, 1, 1), (11, 1, 1), (4, 0, 1), (7, 2, 1), (11, 2, 1), (7, 3, 1), (11, 3, 1), (1, 0, 1), (7, 4, 1), (11, 4, 1), (0, 0, 1), (7, 5, 1), (11, 5, 1), (7, 6, 1), (11, 6, 1), (7, 7, 1), (11, 7, 1), (7, 8, 1), (11, 8, 1), (7, 9, 1), (11, 9, 1), (5, 0, 0), (2, 0, 0), (13, 0, 0), (3, 0, 2), (7, 0, 2), (11, 0, 2), (6, 0, 2), (7, 1, 2), (11, 1, 2), (4, 0, 2), (7, 2, 2), (11, 2, 2), (7, 3, 2), (11, 3, 2), (1, 0, 2), (7, 4, 2), (11, 4, 2), (0, 0, 2), (7, 5, 2), (11, 5, 2), (7, 6, 2), (11, 6, 2), (7, 7, 2), (11, 7, 2), (7, 8, 2), (11, 8, 2), (7, 9, 2), (11, 9, 2), (3, 0, 3), (7, 0, 3), (11, 0, 3), (6, 0, 3), (7, 1, 3), (11, 1, 3), (4, 0, 3), (7, 2, 3), (11, 2, 3), (7, 3, 3), (11, 3, 3), (1, 0, 3), (7, 4, 3), (11, 4, 3), (0, 0, 3), (7, 5, 3), (11, 5, 3), (7, 6, 3), (11, 6, 3), (7, 7, 3), (11, 7, 3), (7, 8, 3), (11, 8, 3), (7, 9, 3), (11, 9, 3), (3, 0, 4), (7, 0, 4), (11, 0, 4), (6, 0, 4), (7, 1, 4), (11, 1, 4), (4, 0, 4), (7, 2, 4), (11, 2, 4), (7, 3, 4), (11, 3, 4), (1, 0, 4), (7, 4, 4), (11, 4, 4), (0, 0, 4), (7, 5, 4), (11, 5, 4), (7, 6, 4), (11, 6, 4), (7, 7, 4), (11, 7, 4), (7, 8, 4), (11, 8, 4), (7, 9, 4), (11, 9, 4), (3, 0, 5), (7, 0, 5), (11, 0, 5), (6, 0, 5), (7, 1, 5), (11, 1, 5), (4, 0, 5), (7, 2, 5), (11, 2, 5), (7, 3, 5), (11, 3, 5), (1, 0, 5), (7, 4, 5), (11, 4, 5), (0, 0, 5), (7, 5, 5), (11, 5, 5), (7, 6, 5), (11, 6, 5), (7, 7, 5), (11, 7, 5), (7, 8, 5), (11, 8, 5), (7, 9, 5), (11, 9, 5), (3, 0, 6), (7, 0, 6), (11, 0, 6), (6, 0, 6), (7, 1, 6), (11, 1, 6), (4, 0, 6), (7, 2, 6), (11, 2, 6), (7, 3, 6), (11, 3, 6), (1, 0, 6), (7, 4, 6), (11, 4, 6), (0, 0, 6), (7, 5, 6), (11, 5, 6), (7, 6, 6), (11, 6, 6), (7, 7, 6), (11, 7, 6), (7, 8, 6), (11, 8, 6), (7, 9, 6), (11, 9, 6), (3, 0, 7), (7, 0, 7), (11, 0, 7), (6, 0, 7), (7, 1, 7), (11, 1, 7), (4, 0, 7), (7, 2, 7), (11, 2, 7), (7, 3, 7), (11, 3, 7), (1, 0, 7), (7, 4, 7), (11, 4, 7), (0, 0, 7), (7, 5, 7), (11, 5, 7), (7, 6, 7), (11, 6, 7), (7, 7, 7), (11, 7, 7), (7, 8, 7), (11, 8, 7), (7, 9, 7), (11, 9, 7), (3, 0, 8), (7, 0, 8), (11, 0, 8), (6, 0, 8), (7, 1, 8), (11, 1, 8), (4, 0, 8), (7, 2, 8), (11, 2, 8), (7, 3, 8), (11, 3, 8), (1, 0, 8), (7, 4, 8), (11, 4, 8), (0, 0, 8), (7, 5, 8), (11, 5, 8), (7, 6, 8), (11, 6, 8), (7, 7, 8), (11, 7, 8), (7, 8, 8), (11, 8, 8), (7, 9, 8), (11, 9, 8), (3, 0, 9), (7, 0, 9), (11, 0, 9), (6, 0, 9), (7, 1, 9), (11, 1, 9), (4, 0, 9), (7, 2, 9), (11, 2, 9), (7, 3, 9), (11, 3, 9), (1, 0, 9), (7, 4, 9), (11, 4, 9), (0, 0, 9), (7, 5, 9), (11, 5, 9), (7, 6, 9), (11, 6, 9), (7, 7, 9), (11, 7, 9), (7, 8, 9), (11, 8, 9), (7, 9, 9), (11, 9, 9), (8, 0, 0), (3, 0, 10), (7, 0, 10), (11, 0, 10), (6, 0, 10), (7, 1, 10), (11, 1, 10), (4, 0, 10), (7, 2, 10), (11, 2, 10), (7, 3, 10), (11, 3, 10), (1, 0, 10), (7, 4, 10), (11, 4, 10), (0, 0, 10), (7, 5, 10), (11, 5, 10), (7, 6, 10), (11, 6, 10), (7, 7, 10), (11, 7, 10), (7, 8, 10), (11, 8, 10), (7, 9, 10), (11, 9, 10), (8, 0, 1), (3, 0, 11), (7, 0, 11), (11, 0, 11), (6, 0, 11), (7, 1, 11), (11, 1, 11), (4, 0, 11), (7, 2, 11), (11, 2, 11), (7, 3, 11), (11, 3, 11), (1, 0, 11), (7, 4, 11), (11, 4, 11), (0, 0, 11), (7, 5, 11), (11, 5, 11), (7, 6, 11), (11, 6, 11), (7, 7, 11), (11, 7, 11), (7, 8, 11), (11, 8, 11), (7, 9, 11), (11, 9, 11), (7, 11, 0), (11, 11, 0), (7, 12, 0), (11, 12, 0), (10, 0, 0), (11, 20, 0), (11, 21, 0), (11, 22, 0), (11, 23, 0), (11, 24, 0), (12, 0, 0), (11, 25, 0), (11, 26, 0), (11, 27, 0), (11, 28, 0), (11, 29, 0), (11, 30, 0), (11, 31, 0)]
theorem allR_len : allR.length = 326 := by decide +kernel
theorem allR_nd : allR.Nodup := by decide +kernel
def adr (r : RF) : Nat := allR.idxOf r
theorem adr_get {r : RF} (h : r ∈ allR) : allR[adr r]? = some r := by
  have h1 : adr r < allR.length := List.idxOf_lt_length_of_mem h
  rw [List.getElem?_eq_getElem h1]
  exact congrArg some (List.getElem_idxOf h1)
theorem adr_inj {r r' : RF} (h : r ∈ allR) (h' : r' ∈ allR) (e : adr r = adr r') : r = r' := by
  have h1 := adr_get h
  rw [e, adr_get h'] at h1
  exact (Option.some.inj h1).symm
theorem nd_inj {i j : Nat} {r : RF} (h1 : allR[i]? = some r) (h2 : allR[j]? = some r) : i = j := by
  obtain ⟨hi, e1⟩ := List.getElem?_eq_some_iff.mp h1
  obtain ⟨hj, e2⟩ := List.getElem?_eq_some_iff.mp h2
  have hp := List.pairwise_iff_getElem.mp allR_nd
  rcases Nat.lt_trichotomy i j with h | h | h
  · exact absurd (e1.trans e2.symm) (hp i j hi hj h)
  · exact h
  · exact absurd (e2.trans e1.symm) (hp j i hj hi h)
theorem adr_of {i : Nat} {r : RF} (h : allR[i]? = some r) : adr r = i := nd_inj (adr_get (List.mem_of_getElem? h)) h
/-- the classes of the arrays: of numbers, of truth values, of machines -/
abbrev GG : Type := ClassId × ClassId × ClassId
def fv (B : Nat) (hp : HP) (r : RF) (k : Nat) : Value := if fK r.1 k = 2 then .ref (B + adr (fref r k)) else .int (hp r k)
def ent (B : Nat) (G : GG) (hp : HP) (r : RF) : va_E :=
  if r.1 ≤ 10 then .inr (r.1, (List.range (nF r.1)).map (fv B hp r))
  else if r.1 = 11 then .inl (G.1, alen r, .inl (hp r))
  else if r.1 = 12 then .inl (G.2.1, 2, .inl (hp r))
  else .inl (G.2.2, 8, .inr (.inr (.inr (.inr fun i => some (B + adr (3, 0, 2 + i))))))
def World (B : Nat) (G : GG) (hp : HP) : va_W := allR.mapIdx fun i r => (B + i, ent B G hp r)
theorem World_at {B : Nat} {G : GG} {hp : HP} {i : Nat} : (World B G hp)[i]? = (allR[i]?).map (fun r => (B + i, ent B G hp r)) := by
  unfold World
  rw [List.getElem?_mapIdx]
theorem World_get {B : Nat} {G : GG} {hp : HP} {r : RF} (h : r ∈ allR) : (World B G hp)[adr r]? = some (B + adr r, ent B G hp r) := by
  rw [World_at, adr_get h]
  rfl
theorem World_set {B : Nat} {G : GG} {hp hp' : HP} {r : RF} (h : r ∈ allR) (hk : ∀ r' ∈ allR, r' ≠ r → ent B G hp' r' = ent B G hp r') : (World B G hp).set (adr r) (B + adr r, ent B G hp' r) = World B G hp' := by
  apply List.ext_getElem?
  intro i
  by_cases hi : adr r = i
  · subst hi
    have hl : adr r < (World B G hp).length := (List.getElem?_eq_some_iff.mp (World_get h)).1
    rw [List.getElem?_set_self hl, World_get h]
  · rw [List.getElem?_set_ne hi, World_at, World_at]
    cases hr : allR[i]? with
    | none => rfl
    | some r' =>
      have hne : r' ≠ r := fun e => hi (by rw [← e]; exact adr_of hr)
      show some (B + i, ent B G hp r') = some (B + i, ent B G hp' r')
      rw [hk r' (List.mem_of_getElem? hr) hne]
theorem ent_obj {B : Nat} {G : GG} {hp : HP} {r : RF} (h : r.1 ≤ 10) : ent B G hp r = .inr (r.1, (List.range (nF r.1)).map (fv B hp r)) := by
  unfold ent
  rw [if_pos h]
theorem ent_int {B : Nat} {G : GG} {hp : HP} {r : RF} (h : r.1 = 11) : ent B G hp r = .inl (G.1, alen r, .inl (hp r)) := by
  unfold ent
  rw [if_neg (by omega), if_pos h]
theorem ent_boo {B : Nat} {G : GG} {hp : HP} {r : RF} (h : r.1 = 12) : ent B G hp r = .inl (G.2.1, 2, .inl (hp r)) := by
  unfold ent
  rw [if_neg (by omega), if_neg (by omega), if_pos h]
theorem ent_ref {B : Nat} {G : GG} {hp : HP} {r : RF} (h : r.1 = 13) : ent B G hp r = .inl (G.2.2, 8, .inr (.inr (.inr (.inr fun i => some (B + adr (3, 0, 2 + i)))))) := by
  unfold ent
  rw [if_neg (by omega), if_neg (by omega), if_neg (by omega)]
theorem fv_off {B : Nat} {hp hp' : HP} {r : RF} (h : ∀ k, hp' r k = hp r k) (k : Nat) : fv B hp' r k = fv B hp r k := by
  unfold fv
  rw [h k]
theorem ent_off {B : Nat} {G : GG} {hp hp' : HP} {r : RF} (h : ∀ k, hp' r k = hp r k) : ent B G hp' r = ent B G hp r := by
  have h1 : fv B hp' r = fv B hp r := funext (fv_off h)
  have h2 : hp' r = hp r := funext h
  unfold ent
  rw [h1, h2]
theorem up_ne {hp : HP} {r r' : RF} {k : Nat} {x : Int32} (h : r' ≠ r) (j : Nat) : up hp r k x r' j = hp r' j := by
  unfold up
  rw [if_neg (fun q => h q.1)]
theorem up_self {hp : HP} {r : RF} {k : Nat} {x : Int32} : up hp r k x r = upd (hp r) k x := by
  funext j
  unfold up upd
  by_cases h : j = k <;> simp [h]
theorem set_fv {B : Nat} {hp : HP} {r : RF} {k : Nat} {x : Int32} (hk : fK r.1 k ≠ 2) : ((List.range (nF r.1)).map (fv B hp r)).set k (.int x) = (List.range (nF r.1)).map (fv B (up hp r k x) r) := by
  apply List.ext_getElem?
  intro i
  by_cases hi : k = i
  · subst hi
    by_cases hl : k < nF r.1
    · rw [List.getElem?_set_self (by simpa using hl), List.getElem?_map, List.getElem?_range hl]
      show some (Value.int x) = some (fv B (up hp r k x) r k)
      unfold fv
      rw [if_neg hk, up_self]
      simp [upd]
    · rw [List.getElem?_eq_none (by simp; omega), List.getElem?_eq_none (by simp; omega)]
  · rw [List.getElem?_set_ne hi, List.getElem?_map, List.getElem?_map]
    by_cases hl : i < nF r.1
    · rw [List.getElem?_range hl]
      show some (fv B hp r i) = some (fv B (up hp r k x) r i)
      unfold fv
      rw [up_self]
      simp [upd, Ne.symm hi]
    · rw [List.getElem?_eq_none (by simp; omega)]
      rfl
/-- an own cell: the address of a value -/
def toV (B : Nat) (adK : Nat → Nat) (v : VL) : Value := match v with
  | .inl x => .int x
  | .inr (.inl r) => .ref (if r.1 = 20 then adK r.2.1 else B + adr r)
  | .inr (.inr (.inl x)) => .double x
  | .inr (.inr (.inr x)) => .float x
def okR (r : RF) : Prop := (r.1 = 20 ∧ r.2.1 < 5) ∨ (r.1 ≠ 20 ∧ r ∈ allR)
def okV (v : VL) : Prop := match v with
  | .inr (.inl r) => okR r
  | _ => True
theorem fref_ok : ∀ r ∈ allR, ∀ k, k < nF r.1 → fK r.1 k = 2 → ((fref r k).1 ≠ 20 ∧ fref r k ∈ allR) := by
  have key : ∀ r ∈ allR, ∀ k, k < nF r.1 → fK r.1 k = 2 → ((fref r k).1 ≠ 20 ∧ allR.contains (fref r k) = true) := by decide +kernel
  intro r hr k hk h2
  obtain ⟨h3, h4⟩ := key r hr k hk h2
  exact ⟨h3, by simpa using h4⟩
theorem kept_ok : ∀ i, i < 8 → okR (3, 0, 2 + i) := by
  have key : ∀ i, i < 8 → allR.contains ((3, 0, 2 + i) : RF) = true := by decide +kernel
  intro i hi
  exact Or.inr ⟨fun e => absurd e (by show ¬ (3 : Nat) = 20; decide), by simpa using key i hi⟩
theorem allR_cls : ∀ r ∈ allR, r.1 ≤ 13 := by decide +kernel
end
section
/-! ===== the small machine is the machine: one instruction ===== -/
def lwG : List Jvm.Cond := lw_tbl.filter goodWord
theorem inG {w : Jvm.Cond} (h : w ∈ tables_1) (hg : goodWord w = true) : w ∈ lwG := List.mem_filter.mpr ⟨List.mem_append_right _ h, hg⟩
theorem lwG_good : GoodIn lwG lwG := fun _ hw => ⟨hw, good_of_word (List.mem_filter.mp hw).2⟩
/-- the bytes of the words -/
def txB : List (List Int32) := [txt 0, txt 1, txt 2, txt 3, txt 4]
def txL : List Nat := [7, 5, 6, 3, 3]
abbrev inA (B : Nat) : Nat → Prop := fun q => B ≤ q ∧ q < B + 326
def ENV (B : Nat) (D : va_G) (G : GG) (adK adV : Nat → Nat) (U : State) : Prop :=
  va_K D vwCl [(G.1, .int), (G.2.1, .boolean), (G.2.2, .object RX3)] U ∧ (∀ x ∈ lnkFN, va_Nw (wFN x) U) ∧ (∀ x ∈ lnkMN, va_Nw (wMN x) U)
    ∧ vk_S 5 txL txB adK adV (inA B) U U.heap ∧ (∀ x ∈ lnkL, vk_R (clsN x.1) x.2.1 (txS x.2.2) (adK x.2.2) U)
theorem ENV.warm {B : Nat} {D : va_G} {G : GG} {adK adV : Nat → Nat} {s U : State} (h : ENV B D G adK adV s) (hW : s.WarmedH U.vm) (hq : ∀ q : Nat, q < s.heap.size → ¬ inA B q → U.heap[q]? = s.heap[q]?) : ENV B D G adK adV U := by
  obtain ⟨h1, h2, h3, h4, h5⟩ := h
  exact ⟨h1.moved hW.alike, fun x hx => va_Nw.warmF hW (h2 x hx), fun x hx => va_Nw.warmM hW (h3 x hx), (h4.moved hW.alike).kept hq, fun x hx => (h5 x hx).warm hW⟩
def okI (v : VL) : Prop := match v with
  | .inl _ => True
  | .inr (.inl r) => okR r
  | _ => False
theorem okI.okV {v : VL} (h : okI v) : okV v := by
  rcases v with x | r | x | x
  · exact h
  · exact h
  · exact trivial
  · exact trivial
theorem okI.cat {v : VL} {B : Nat} {adK : Nat → Nat} (h : okI v) : (toV B adK v).category = 1 := by
  rcases v with x | r | x | x
  · rfl
  · rfl
  · exact h.elim
  · exact h.elim
/-- the locals -/
def LH (B : Nat) (adK : Nat → Nat) (sl : Array Slot) (nL : Nat) (ls : List (Option VL)) : Prop :=
  ls.length = nL ∧ (∀ v, some v ∈ ls → okI v) ∧ ∃ lv, lv_has sl nL lv ∧ (∀ q ∈ lv, q.2.category = 1) ∧ ∀ (i : Nat) (v : VL), ls[i]? = some (some v) → (i, toV B adK v) ∈ lv
theorem LH.get {B : Nat} {adK : Nat → Nat} {sl : Array Slot} {nL : Nat} {ls : List (Option VL)} (h : LH B adK sl nL ls) {i : Nat} {v : VL} (hi : ls[i]? = some (some v)) : sl[i]? = some (.val (toV B adK v)) := by
  obtain ⟨-, -, lv, h1, -, h2⟩ := h
  exact h1.2.2 _ (h2 i v hi)
theorem LH.ok {B : Nat} {adK : Nat → Nat} {sl : Array Slot} {nL : Nat} {ls : List (Option VL)} (h : LH B adK sl nL ls) {i : Nat} {v : VL} (hi : ls[i]? = some (some v)) : okI v := h.2.1 v (List.mem_of_getElem? hi)
theorem LH.put {B : Nat} {adK : Nat → Nat} {sl' : Array Slot} {nL : Nat} {ls : List (Option VL)} {lv : List (Nat × Value)} {i : Nat} {v : VL} (h1 : ls.length = nL) (h2 : ∀ v, some v ∈ ls → okI v) (hc : ∀ q ∈ lv, q.2.category = 1) (hm : ∀ (i : Nat) (v : VL), ls[i]? = some (some v) → (i, toV B adK v) ∈ lv) (hv : okI v)
    (h : lv_has sl' nL ((i, toV B adK v) :: lv.filter (fun q => !(q.1 == i) && !(q.1 + 1 == i && q.2.category == 2)))) : LH B adK sl' nL (ls.set i (some v)) := by
  refine ⟨by rw [List.length_set]; exact h1, fun w hw => ?_, _, h, fun q hq => ?_, fun j w hj => ?_⟩
  · rcases List.mem_or_eq_of_mem_set hw with q | q
    · exact h2 w q
    · cases q
      exact hv
  · rcases List.mem_cons.mp hq with rfl | q
    · exact hv.cat
    · exact hc _ (List.mem_filter.mp q).1
  · by_cases hij : i = j
    · subst hij
      by_cases hl : i < ls.length
      · rw [List.getElem?_set_self hl] at hj
        cases hj
        exact List.mem_cons_self
      · rw [List.getElem?_eq_none (by rw [List.length_set]; omega)] at hj
        cases hj
    · rw [List.getElem?_set_ne hij] at hj
      have hm1 := hm j w hj
      refine List.mem_cons_of_mem _ (List.mem_filter.mpr ⟨hm1, ?_⟩)
      have h3 := hc _ hm1
      simp only at h3
      simp [h3, Ne.symm hij]
def STt (B : Nat) (D : va_G) (G : GG) (adK : Nat → Nat) (s : State) (sl : Array Slot) (nL : Nat) (ls : List (Option VL)) (st : List VL) (hp : HP) (H : Heap) (locs : List Loc) : Prop :=
  va_P D vwCl (World B G hp) H ∧ va_S (inA B) s.heap H locs ∧ LH B adK sl nL ls ∧ ∀ v ∈ st, okV v
def rmD (d : Nat) : Room := { frames := d, cells := 0, slots := 0, locals := 36 * d }
def wsOf (μ : Nat) : List Jvm.Cond := Jvm.Cond.code (nameOf μ) (bytesOf μ) (maxOf μ) (retOf μ) :: lwG
def PcS (B : Nat) (D : va_G) (G : GG) (adK adV : Nat → Nat) (args : List VL) (hp : HP) : Array Value → State → Prop := fun av U =>
  av = (args.map (toV B adK)).toArray ∧ va_P D vwCl (World B G hp) U.heap ∧ ENV B D G adK adV U
def QcS (B : Nat) (D : va_G) (G : GG) (adK : Nat → Nat) (v : Option VL) (hp1 : HP) : Array Value → State → Outcome → State → Prop := fun _ st oc t =>
  oc = .returned (v.map (toV B adK)) ∧ va_P D vwCl (World B G hp1) t.heap ∧ va_F (inA B) st t
def SMet (l : Launch) (B : Nat) (D : va_G) (G : GG) (adK adV : Nat → Nat) (d μ : Nat) (args : List VL) (hp : HP) (v : Option VL) (hp1 : HP) : Prop :=
  Met l (nameOf μ) (wsOf μ) (rmD d) (PcS B D G adK adV args hp) (QcS B D G adK v hp1) 0 0 (inA B)
/-- String.length, String.charAt over the words -/
def JST (l : Launch) (B : Nat) (D : va_G) (G : GG) (adK adV : Nat → Nat) : Prop :=
  (∀ w, w < 5 → Met l yJ0_length_8abf5 (Jvm.Cond.code yJ0_length_8abf5 cJ0_length_8abf5 1 (some .int) :: lwG) (rmD 4) (fun av U => av = #[.ref (adK w)] ∧ ENV B D G adK adV U) (fun _ st oc t => oc = .returned (some (.int (nI (txt w).length))) ∧ t.heap = st.heap) 0 0 (fun _ => False))
  ∧ ∀ w j, w < 5 → j < (txt w).length → Met l yJ0_charAt_5068e (Jvm.Cond.code yJ0_charAt_5068e cJ0_charAt_5068e 2 (some .char) :: lwG) (rmD 4) (fun av U => av = #[.ref (adK w), .int (nI j)] ∧ ENV B D G adK adV U) (fun _ st oc t => oc = .returned (some (.int ((txt w).getD j 0))) ∧ t.heap = st.heap) 0 0 (fun _ => False)
def CXX (p : Program) (l : Launch) (B : Nat) (D : va_G) (G : GG) (adK adV : Nat → Nat) (μ : Nat) (s : State) (m : MethodId) (sargs : Array Value) (meth : Method) (c : Code) : Prop :=
  p.tables.exec = Jvm.exec ∧ c.code = bytesOf μ ∧ c.maxLocals = maxOf μ ∧ s.vm.findClass (clsN (clOf μ)) = some m.cls ∧ (∀ w ∈ lwG, w.before sargs s = true) ∧ meth.sig.returnType = retOf μ ∧ meth.locks = false ∧ ENV B D G adK adV s ∧ JST l B D G adK adV ∧ μ < 290
theorem lkp_in {pc : Nat} : ∀ {C : List EN} {e : EN}, lkp pc C = some e → e ∈ C ∧ e.1 = pc
  | [], e, h => by cases h
  | x :: C, e, h => by
    unfold lkp at h
    by_cases hx : x.1 = pc
    · rw [if_pos hx] at h
      cases h
      exact ⟨List.mem_cons_self, hx⟩
    · rw [if_neg hx] at h
      obtain ⟨h1, h2⟩ := lkp_in h
      exact ⟨List.mem_cons_of_mem _ h1, h2⟩
theorem ok_at {μ pc p0 len a b : Nat} {i : Instr} {z : Int32} (hμ : μ < 290) (h : lkp pc (codeOf μ) = some (p0, i, len, a, b, z)) : decode (bytesOf μ) pc = .ok (i, len) ∧ (isSw i = true ∨ len = lenI i) ∧ okL (clOf μ) (maxOf μ) (retOf μ) pc i a b z = true := by
  obtain ⟨h1, h2⟩ := lkp_in h
  have h3 := okM_all μ hμ
  unfold okM at h3
  rw [Bool.and_eq_true] at h3
  have h4 := List.all_eq_true.mp h3.1 _ h1
  unfold okE at h4
  simp only at h2
  subst h2
  simp only [Bool.and_eq_true, Bool.or_eq_true, decide_eq_true_eq] at h4
  exact ⟨h4.1.1, h4.1.2, h4.2⟩
theorem okB_at {μ pc p0 len a b : Nat} {i : Instr} {z : Int32} (hμ : μ < 290) (h : lkp pc (codeOf μ) = some (p0, i, len, a, b, z)) : okB (p0, i, len, a, b, z) = true := by
  have h3 := okN_all μ hμ
  unfold okN at h3
  rw [Bool.and_eq_true] at h3
  exact List.all_eq_true.mp h3.2 _ (lkp_in h).1
theorem tg_of {pc : Nat} {off : Int} (h : okOff pc off = true) : (pc : Int) + off = (tg pc off : Int) := by
  have h1 : 0 ≤ (pc : Int) + off := of_decide_eq_true h
  unfold tg
  omega
theorem inb_in {i : Int32} {n : Nat} (h : inb i n = true) : vp_in i n := by
  unfold inb at h
  simp only [Bool.and_eq_true, Bool.not_eq_true', decide_eq_false_iff_not, decide_eq_true_eq] at h
  intro q
  rcases q with q | q
  · exact h.1 q
  · omega
theorem layW : ∀ a, a ≤ 10 → ∀ w ∈ u_ws (clsN a) (TT a) (nF a), w ∈ lwG := by
  have key : ∀ a, a < 11 → ((u_ws (clsN a) (TT a) (nF a)).all (fun w => decide (w ∈ tables_1) && goodWord w)) = true := by decide +kernel
  intro a ha w hw
  have h := List.all_eq_true.mp (key a (by omega)) w hw
  simp only [Bool.and_eq_true, decide_eq_true_eq] at h
  exact inG h.1 h.2
theorem vwCl_at : ∀ a, a ≤ 10 → vwCl[a]? = some (clsN a, TT a, nF a) := fun a ha => match a, ha with
  | 0, _ => rfl | 1, _ => rfl | 2, _ => rfl | 3, _ => rfl | 4, _ => rfl | 5, _ => rfl | 6, _ => rfl | 7, _ => rfl | 8, _ => rfl | 9, _ => rfl | 10, _ => rfl
  | k + 11, h => absurd h (by omega)
theorem TT_cls : ∀ a, a < 11 → ∀ k, k < nF a → (TT a k).1 = clsN a := by decide +kernel
theorem TT_ty : ∀ a, a < 11 → ∀ k, k < nF a → parseFieldDescriptor (TT a k).2.2.1 = some (tyT a k) := by decide +kernel
theorem TT_nm : ∀ a, a < 11 → ∀ j, j < nF a → ∀ k, k < nF a → j ≠ k → (TT a j).2.1 ≠ (TT a k).2.1 := by decide +kernel
theorem TT_k0 : ∀ a, a < 11 → ∀ k, k < nF a → fK a k = 0 → tyT a k = .int := by decide +kernel
theorem TT_k1 : ∀ a, a < 11 → ∀ k, k < nF a → fK a k = 1 → tyT a k = .boolean := by decide +kernel
theorem fK_le : ∀ a, a < 11 → ∀ k, k < nF a → fK a k ≤ 2 := by decide +kernel
theorem isB_or {x : Int32} (h : isB x = true) : x = 0 ∨ x = 1 := by
  unfold isB at h
  simpa using h
theorem World_D {B : Nat} {G : GG} {hp : HP} : va_D (inA B) (World B G hp) := by
  refine ⟨fun i j p q hi hj hpq => ?_, fun k q hk => ?_⟩
  · rw [World_at] at hi hj
    obtain ⟨r, h1, h2⟩ := Option.map_eq_some_iff.mp hi
    obtain ⟨r', h3, h4⟩ := Option.map_eq_some_iff.mp hj
    subst h2
    subst h4
    simp only at hpq
    omega
  · rw [World_at] at hk
    obtain ⟨r, h1, h2⟩ := Option.map_eq_some_iff.mp hk
    subst h2
    have := (List.getElem?_eq_some_iff.mp h1).1
    rw [allR_len] at this
    exact ⟨Nat.le_add_right _ _, by simp only; omega⟩
end
section
section STEP
variable {p : Program} {l : Launch} {e : Env} {R : Room} {s : State} {m : MethodId} {sargs : Array Value} {below : List Frame} {meth : Method} {c : Code} {Q : State → Prop}
variable {B d μ nL pc len a b : Nat} {D : va_G} {G : GG} {adK adV : Nat → Nat} {z : Int32} {cc : ByteArray}
variable {ls ls' : List (Option VL)} {st st' : List VL} {hp hp' : HP} {H : Heap} {locs : List Loc} {sl : Array Slot} {pc' : Nat}
/-- what is left to do behind an instruction -/
abbrev KKs (p : Program) (l : Launch) (e : Env) (R : Room) (s : State) (m : MethodId) (sargs : Array Value) (below : List Frame) (meth : Method) (c : Code) (Q : State → Prop) (B : Nat) (D : va_G) (G : GG) (adK : Nat → Nat) (nL pc' : Nat) (ls' : List (Option VL)) (st' : List VL) (hp' : HP) : Prop :=
  ∀ (H : Heap) (locs : List Loc) (sl : Array Slot), STt B D G adK s sl nL ls' st' hp' H locs → W p l e R s m sargs below meth c H locs 0 0 Q (F0 m pc' sl (st'.map (toV B adK)))
theorem st_pop {v : VL} (h : STt B D G adK s sl nL ls (v :: st) hp H locs) : STt B D G adK s sl nL ls st hp H locs := ⟨h.1, h.2.1, h.2.2.1, fun w hw => h.2.2.2 w (List.mem_cons_of_mem _ hw)⟩
theorem st_push {v : VL} (h : STt B D G adK s sl nL ls st hp H locs) (hv : okV v) : STt B D G adK s sl nL ls (v :: st) hp H locs := ⟨h.1, h.2.1, h.2.2.1, fun w hw => by
  rcases List.mem_cons.mp hw with rfl | q
  · exact hv
  · exact h.2.2.2 w q⟩
theorem toV_ref {r : RF} (h : r.1 ≠ 20) : toV B adK (vR r) = .ref (B + adr r) := by
  show Value.ref (if r.1 = 20 then adK r.2.1 else B + adr r) = _
  rw [if_neg h]
theorem okR_in {r : RF} (h : okR r) (h2 : r.1 ≠ 20) : r ∈ allR := by
  rcases h with h | h
  · exact absurd h.1 h2
  · exact h.2
theorem inb_lt {i : Int32} {n : Nat} (h : inb i n = true) : i.toNatClampNeg < n := by
  unfold inb at h
  simp only [Bool.and_eq_true, Bool.not_eq_true', decide_eq_false_iff_not, decide_eq_true_eq] at h
  exact h.2
/-- a store into a field -/
theorem st_putf {r : RF} {x : Int32} {k : Nat} (hS : STt B D G adK s sl nL ls st hp H locs) (hr : r ∈ allR) (hc : r.1 ≤ 10) (hk : fK r.1 k ≠ 2) {H1 : Heap} {locs1 : List Loc}
    (h1 : va_P D vwCl ((World B G hp).set (adr r) (B + adr r, .inr (r.1, ((List.range (nF r.1)).map (fv B hp r)).set k (.int x)))) H1) (h2 : va_S (inA B) s.heap H1 locs1) : STt B D G adK s sl nL ls st (up hp r k x) H1 locs1 := by
  refine ⟨?_, h2, hS.2.2⟩
  rw [set_fv hk] at h1
  have h3 : ent B G (up hp r k x) r = .inr (r.1, (List.range (nF r.1)).map (fv B (up hp r k x) r)) := ent_obj hc
  rw [← h3, World_set hr (fun r' _ hne => ent_off (up_ne hne))] at h1
  exact h1
theorem st_puta {r : RF} {x : Int32} {k : Nat} (hS : STt B D G adK s sl nL ls st hp H locs) (hr : r ∈ allR) {E0 : va_E} (hE : E0 = ent B G (up hp r k x) r) {H1 : Heap} {locs1 : List Loc}
    (h1 : va_P D vwCl ((World B G hp).set (adr r) (B + adr r, E0)) H1) (h2 : va_S (inA B) s.heap H1 locs1) : STt B D G adK s sl nL ls st (up hp r k x) H1 locs1 := by
  refine ⟨?_, h2, hS.2.2⟩
  rw [hE, World_set hr (fun r' _ hne => ent_off (up_ne hne))] at h1
  exact h1
theorem br_sim {x y : Int32} {cd : Jvm.ClassFile.Cond} {off : Int} (hx : p.tables.exec = Jvm.exec) (hb : c.code = cc) (hd : decode cc pc = .ok (.if_icmp cd off, 3)) (ho : okOff pc off = true)
    (he : brI cd x y (aC (tg pc off) ls st hp) (aC (pc + 3) ls st hp) = some (.inl ((pc', ls', st'), hp'))) (hS : STt B D G adK s sl nL ls st hp H locs)
    (k : KKs p l e R s m sargs below meth c Q B D G adK nL pc' ls' st' hp') : W p l e R s m sargs below meth c H locs 0 0 Q (F0 m pc sl (.int y :: .int x :: st.map (toV B adK))) := by
  have hT := tg_of ho
  have ka : ∀ {q : Nat}, aC q ls st hp = some (.inl ((pc', ls', st'), hp')) → W p l e R s m sargs below meth c H locs 0 0 Q (F0 m q sl (st.map (toV B adK))) := by
    intro q h
    cases h
    exact k _ _ _ hS
  cases cd
  · exact lv_icmp_eq hx hb hd hT (fun h => ka (by simpa only [brI, if_pos h] using he)) (fun h => ka (by simpa only [brI, if_neg h] using he))
  · exact lv_icmp_ne hx hb hd hT (fun h => ka (by simpa only [brI, if_neg h] using he)) (fun h => ka (by simpa only [brI, if_pos h] using he))
  · exact lv_icmp_lt hx hb hd hT (fun h => ka (by simpa only [brI, if_pos h] using he)) (fun h => ka (by simpa only [brI, if_neg h] using he))
  · exact lv_icmp_ge hx hb hd hT (fun h => ka (by simpa only [brI, if_neg (Int32.not_lt.mpr h)] using he)) (fun h => ka (by simpa only [brI, if_pos (Int32.not_le.mp h)] using he))
  · exact lv_icmp_gt hx hb hd hT (fun h => ka (by simpa only [brI, if_pos h] using he)) (fun h => ka (by simpa only [brI, if_neg h] using he))
  · exact lv_icmp_le hx hb hd hT (fun h => ka (by simpa only [brI, if_neg (Int32.not_lt.mpr h)] using he)) (fun h => ka (by simpa only [brI, if_pos (Int32.not_le.mp h)] using he))
theorem brc_sim {x : Int32} {cd : Jvm.ClassFile.Cond} {off : Int} (hx : p.tables.exec = Jvm.exec) (hb : c.code = cc) (hd : decode cc pc = .ok (.ifCond cd off, 3)) (ho : okOff pc off = true)
    (he : brI cd x 0 (aC (tg pc off) ls st hp) (aC (pc + 3) ls st hp) = some (.inl ((pc', ls', st'), hp'))) (hS : STt B D G adK s sl nL ls st hp H locs)
    (k : KKs p l e R s m sargs below meth c Q B D G adK nL pc' ls' st' hp') : W p l e R s m sargs below meth c H locs 0 0 Q (F0 m pc sl (.int x :: st.map (toV B adK))) := by
  have hT := tg_of ho
  have ka : ∀ {q : Nat}, aC q ls st hp = some (.inl ((pc', ls', st'), hp')) → W p l e R s m sargs below meth c H locs 0 0 Q (F0 m q sl (st.map (toV B adK))) := by
    intro q h
    cases h
    exact k _ _ _ hS
  cases cd
  · exact lv_if_eq hx hb hd hT (fun h => ka (by simpa only [brI, if_pos h] using he)) (fun h => ka (by simpa only [brI, if_neg h] using he))
  · exact lv_if_ne hx hb hd hT (fun h => ka (by simpa only [brI, if_neg h] using he)) (fun h => ka (by simpa only [brI, if_pos h] using he))
  · exact lv_if_lt hx hb hd hT (fun h => ka (by simpa only [brI, if_pos h] using he)) (fun h => ka (by simpa only [brI, if_neg h] using he))
  · exact lv_if_ge hx hb hd hT (fun h => ka (by simpa only [brI, if_neg (Int32.not_lt.mpr h)] using he)) (fun h => ka (by simpa only [brI, if_pos (Int32.not_le.mp h)] using he))
  · exact lv_if_gt hx hb hd hT (fun h => ka (by simpa only [brI, if_pos h] using he)) (fun h => ka (by simpa only [brI, if_neg h] using he))
  · exact lv_if_le hx hb hd hT (fun h => ka (by simpa only [brI, if_neg (Int32.not_lt.mpr h)] using he)) (fun h => ka (by simpa only [brI, if_pos (Int32.not_le.mp h)] using he))
end STEP
end
section
/-! ===== switches; calls of the library's own; they go ahead of the step ===== -/
section SWI
variable {p : Program} {l : Launch} {e : Env} {R : Room} {s : State} {m : MethodId} {sargs : Array Value} {below : List Frame} {meth : Method} {c : Code} {Q : State → Prop}
variable {B d μ nL pc len a b p0 : Nat} {D : va_G} {G : GG} {adK adV : Nat → Nat} {z : Int32} {cc : ByteArray}
variable {ls ls' : List (Option VL)} {st st' : List VL} {hp hp' : HP} {H : Heap} {locs : List Loc} {sl : Array Slot} {pc' : Nat}
theorem aC_inj {q : Nat} (h : aC q ls st hp = some (.inl ((pc', ls', st'), hp'))) : pc' = q ∧ ls' = ls ∧ st' = st ∧ hp' = hp := by
  cases h
  exact ⟨rfl, rfl, rfl, rfl⟩
theorem okB_0 {x : Int32} (h : isB x = true) : narrow .boolean (.int x) = .int x := by
  rcases isB_or h with rfl | rfl <;> decide
theorem nar_B {x : Int32} (h : isB x = true) : vp_nar .boolean x = x := by
  rcases isB_or h with rfl | rfl <;> decide
theorem lnkL_lt : ∀ x ∈ lnkL, x.2.2 < 5 := by decide +kernel
theorem ofInt_eq {x : Int32} {k : Int} (h1 : -2147483648 ≤ k) (h2 : k ≤ 2147483647) : x = Int32.ofInt k ↔ x.toInt = k := by
  constructor
  · intro h
    rw [h, Int32.toInt_ofInt_of_le (by omega) (by omega)]
  · intro h
    rw [← h, Int32.ofInt_toInt]
theorem swI_ts {α : Type} {x : Int32} {f : Int → α} {d : α} : ∀ (offs : List Int) (lo : Int), -2147483648 ≤ lo → lo + offs.length ≤ 2147483648 →
    swI x f d (tsP lo offs) = if x.toInt < lo ∨ lo + offs.length ≤ x.toInt then d else match offs[(x.toInt - lo).toNat]? with | some o => f o | none => d
  | [], lo, h1, h2 => by
    show d = _
    rw [if_pos (by simp only [List.length_nil]; omega)]
  | o :: l, lo, h1, h2 => by
    have h2' : lo + ((l.length : Int) + 1) ≤ 2147483648 := by simpa using h2
    show (if x = Int32.ofInt lo then f o else swI x f d (tsP (lo + 1) l)) = _
    by_cases hx : x = Int32.ofInt lo
    · rw [if_pos hx]
      have hx2 := (ofInt_eq h1 (by omega)).mp hx
      rw [if_neg (by simp only [List.length_cons]; omega), hx2]
      simp
    · have hx2 : ¬ x.toInt = lo := fun q => hx ((ofInt_eq h1 (by omega)).mpr q)
      rw [if_neg hx, swI_ts l (lo + 1) (by omega) (by omega)]
      by_cases hc : x.toInt < lo ∨ lo + ((o :: l).length : Int) ≤ x.toInt
      · rw [if_pos hc, if_pos (by simp only [List.length_cons] at hc; omega)]
      · rw [if_neg hc, if_neg (by simp only [List.length_cons] at hc; omega)]
        have e1 : (x.toInt - lo).toNat = (x.toInt - (lo + 1)).toNat + 1 := by omega
        rw [e1, List.getElem?_cons_succ]
theorem tsw_sim {x : Int32} {dflt lo hi : Int} {offs : Array Int} (hx : p.tables.exec = Jvm.exec) (hb : c.code = cc) (hd : decode cc pc = .ok (.tableswitch dflt lo hi offs, len)) (hok : okL a nL none pc (.tableswitch dflt lo hi offs) 0 0 z = true)
    (he : swI x (fun o => aC (tg pc o) ls st hp) (aC (tg pc dflt) ls st hp) (tsP lo offs.toList) = some (.inl ((pc', ls', st'), hp'))) (hS : STt B D G adK s sl nL ls st hp H locs)
    (k : KKs p l e R s m sargs below meth c Q B D G adK nL pc' ls' st' hp') : W p l e R s m sargs below meth c H locs 0 0 Q (F0 m pc sl (.int x :: st.map (toV B adK))) := by
  have hok2 : (((hi - lo + 1 = (offs.size : Int) ∧ okOff pc dflt = true) ∧ offs.toList.all (okOff pc) = true) ∧ -2147483648 ≤ lo) ∧ hi ≤ 2147483647 := by
    have h := hok
    unfold okL at h
    simpa only [Bool.and_eq_true, decide_eq_true_eq] using h
  obtain ⟨⟨⟨⟨h1, h2⟩, h3⟩, h4⟩, h5⟩ := hok2
  have hsz : (offs.toList.length : Int) = hi - lo + 1 := by rw [Array.length_toList, h1]
  rw [swI_ts offs.toList lo h4 (by omega)] at he
  by_cases hc : x.toInt < lo ∨ lo + (offs.toList.length : Int) ≤ x.toInt
  · rw [if_pos hc] at he
    obtain ⟨rfl, rfl, rfl, rfl⟩ := aC_inj he
    exact lv_tableOut hx hb hd (by omega) (tg_of h2) (k _ _ _ hS)
  · rw [if_neg hc] at he
    have hlt : (x.toInt - lo).toNat < offs.toList.length := by omega
    rw [List.getElem?_eq_getElem hlt] at he
    obtain ⟨rfl, rfl, rfl, rfl⟩ := aC_inj he
    refine lv_tableIn (off := offs.toList[(x.toInt - lo).toNat]) hx hb hd (by omega) (by omega) ?_ (tg_of (List.all_eq_true.mp h3 _ (List.getElem_mem hlt))) (k _ _ _ hS)
    rw [← Array.getElem?_toList, List.getElem?_eq_getElem hlt]
theorem swI_ls {α : Type} {x : Int32} {f : Int → α} {dflt : Int} : ∀ (ps : List (Int × Int)), (∀ q ∈ ps, -2147483648 ≤ q.1 ∧ q.1 ≤ 2147483647) → swI x f (f dflt) ps = f (Op.lookupswitch.offset ps dflt x.toInt)
  | [], _ => rfl
  | (k, o) :: l, h => by
    have hk := h (k, o) List.mem_cons_self
    have ih := swI_ls (x := x) (f := f) (dflt := dflt) l (fun q hq => h q (List.mem_cons_of_mem _ hq))
    show (if x = Int32.ofInt k then f o else swI x f (f dflt) l) = _
    rw [ih]
    by_cases hx : x = Int32.ofInt k
    · have hx2 := (ofInt_eq hk.1 hk.2).mp hx
      rw [if_pos hx]
      simp [Op.lookupswitch.offset, hx2]
    · have hx2 : ¬ k = x.toInt := fun q => hx ((ofInt_eq hk.1 hk.2).mpr q.symm)
      rw [if_neg hx]
      simp [Op.lookupswitch.offset, hx2]
theorem off_ok {dflt v : Int} : ∀ (ps : List (Int × Int)), (∀ q ∈ ps, okOff pc q.2 = true) → okOff pc dflt = true → okOff pc (Op.lookupswitch.offset ps dflt v) = true
  | [], _, h => h
  | (k, o) :: l, h, h2 => by
    show okOff pc (if k = v then o else Op.lookupswitch.offset l dflt v) = true
    by_cases hk : k = v
    · rw [if_pos hk]
      exact h _ List.mem_cons_self
    · rw [if_neg hk]
      exact off_ok l (fun q hq => h q (List.mem_cons_of_mem _ hq)) h2
theorem lsw_sim {x : Int32} {dflt : Int} {ps : Array (Int × Int)} (hx : p.tables.exec = Jvm.exec) (hb : c.code = cc) (hd : decode cc pc = .ok (.lookupswitch dflt ps, len)) (hok : okL a nL none pc (.lookupswitch dflt ps) 0 0 z = true)
    (he : swI x (fun o => aC (tg pc o) ls st hp) (aC (tg pc dflt) ls st hp) ps.toList = some (.inl ((pc', ls', st'), hp'))) (hS : STt B D G adK s sl nL ls st hp H locs)
    (k : KKs p l e R s m sargs below meth c Q B D G adK nL pc' ls' st' hp') : W p l e R s m sargs below meth c H locs 0 0 Q (F0 m pc sl (.int x :: st.map (toV B adK))) := by
  have hok2 : ((ps.toList.zip (ps.toList.drop 1)).all (fun (x, next) => x.1 < next.1) = true ∧ okOff pc dflt = true) ∧ ps.toList.all (fun x => okOff pc x.2 && decide (-2147483648 ≤ x.1) && decide (x.1 ≤ 2147483647)) = true := by
    have h := hok
    unfold okL at h
    simpa only [Bool.and_eq_true] using h
  obtain ⟨⟨h1, h2⟩, h3⟩ := hok2
  have hall : ∀ q ∈ ps.toList, okOff pc q.2 = true ∧ -2147483648 ≤ q.1 ∧ q.1 ≤ 2147483647 := by
    intro q hq
    have h := List.all_eq_true.mp h3 q hq
    simp only [Bool.and_eq_true, decide_eq_true_eq] at h
    exact ⟨h.1.1, h.1.2, h.2⟩
  rw [swI_ls (f := fun o => aC (tg pc o) ls st hp) ps.toList (fun q hq => (hall q hq).2)] at he
  obtain ⟨rfl, rfl, rfl, rfl⟩ := aC_inj he
  have ho : okOff pc (Op.lookupswitch.offset ps.toList dflt x.toInt) = true := off_ok _ (fun q hq => (hall q hq).1) h2
  exact lv_lookup hx hb hd h1 rfl (tg_of ho) (k _ _ _ hS)
end SWI
end
section
/-! ===== the library's own members ===== -/
section BUI
variable {p : Program} {l : Launch} {e : Env} {R : Room} {s : State} {m : MethodId} {sargs : Array Value} {below : List Frame} {meth : Method} {c : Code} {Q : State → Prop}
variable {B d μ nL pc len a b p0 : Nat} {D : va_G} {G : GG} {adK adV : Nat → Nat} {z : Int32} {cc : ByteArray}
variable {ls ls' : List (Option VL)} {st st' : List VL} {hp hp' : HP} {H : Heap} {locs : List Loc} {sl : Array Slot} {pc' : Nat}
theorem biW : ∀ w ∈ ([.static Lib.Math.max.name, .static Lib.Math.min.name, .static Lib.Math.abs.name, .initialized "java/lang/Math", .code Lib.Math.max.name Lib.Math.max.code 2 (some .int), .code Lib.Math.min.name Lib.Math.min.code 2 (some .int), .code Lib.Math.abs.name Lib.Math.abs.code 1 (some .int), .native arraycopyName, .static arraycopyName, .initialized "java/lang/System",
    .instanceMethod yJ0_length_8abf5, .selects RJ0 yJ0_length_8abf5 yJ0_length_8abf5, .initialized RJ0, .code yJ0_length_8abf5 cJ0_length_8abf5 1 (some .int), .instanceMethod yJ0_charAt_5068e, .selects RJ0 yJ0_charAt_5068e yJ0_charAt_5068e, .code yJ0_charAt_5068e cJ0_charAt_5068e 2 (some .char)] : List Jvm.Cond), w ∈ lwG := by
  have key : (([.static Lib.Math.max.name, .static Lib.Math.min.name, .static Lib.Math.abs.name, .initialized "java/lang/Math", .code Lib.Math.max.name Lib.Math.max.code 2 (some .int), .code Lib.Math.min.name Lib.Math.min.code 2 (some .int), .code Lib.Math.abs.name Lib.Math.abs.code 1 (some .int), .native arraycopyName, .static arraycopyName, .initialized "java/lang/System",
    .instanceMethod yJ0_length_8abf5, .selects RJ0 yJ0_length_8abf5 yJ0_length_8abf5, .initialized RJ0, .code yJ0_length_8abf5 cJ0_length_8abf5 1 (some .int), .instanceMethod yJ0_charAt_5068e, .selects RJ0 yJ0_charAt_5068e yJ0_charAt_5068e, .code yJ0_charAt_5068e cJ0_charAt_5068e 2 (some .char)] : List Jvm.Cond).all (fun w => decide (w ∈ tables_1) && goodWord w)) = true := by decide +kernel
  intro w hw
  have h := List.all_eq_true.mp key w hw
  simp only [Bool.and_eq_true, decide_eq_true_eq] at h
  exact inG h.1 h.2
theorem catS : ∀ (st : List VL), ((st.map (toV B adK)).map fun v => v.category).sum ≤ 2 * st.length
  | [] => Nat.le_refl _
  | v :: st => by
    have ih := catS st
    have h : (toV B adK v).category ≤ 2 := by
      rcases v with x | r | x | x <;> first | exact (show 1 ≤ 2 by decide) | exact (show 2 ≤ 2 by decide)
    simp only [List.map_cons, List.sum_cons, List.length_cons]
    omega
theorem bs_sim (hCX : CXX p l B D G adK adV μ s m sargs meth c) (hRf : d ≤ R.frames) (hRl : 36 * d ≤ R.locals) (hlsz : c.maxLocals = sl.size) {idx : Nat} (hd : decode (bytesOf μ) pc = .ok (.invokestatic idx, 3)) (hok : okL (clOf μ) (maxOf μ) (retOf μ) pc (.invokestatic idx) a b z = true)
    (he : exec1 (.invokestatic idx) 3 a b z d pc ls st hp = some (.inl ((pc', ls', st'), hp'))) (hS : STt B D G adK s sl (maxOf μ) ls st hp H locs)
    (k : KKs p l e R s m sargs below meth c Q B D G adK (maxOf μ) pc' ls' st' hp') : W p l e R s m sargs below meth c H locs 0 0 Q (F0 m pc sl (st.map (toV B adK))) := by
  obtain ⟨hx, hb, hml, hown, hts, hr, hlocks, hE, hJ, hμ⟩ := id hCX
  have hK := hE.1
  have hw : ∀ w ∈ lwG, w.before sargs s = true := hts
  have hlk : 1000 ≤ a → (wB (clOf μ, idx, a)).before sargs s = true := by
    intro ha
    unfold okL at hok
    simp only [if_pos ha, Bool.and_eq_true, decide_eq_true_eq] at hok
    exact hts _ (inG (lnkB_ok _ hok.2) rfl)
  replace he : (if a = 1000 then (match (generalizing := false) d, st with | _ + 1, .inl y :: .inl x :: st => if st.length ≤ 4 then aC (pc + 3) ls (vI (imax x y) :: st) hp else none | _, _ => none)
    else if a = 1001 then (match (generalizing := false) d, st with | _ + 1, .inl y :: .inl x :: st => if st.length ≤ 4 then aC (pc + 3) ls (vI (imin x y) :: st) hp else none | _, _ => none)
    else if a = 1002 then (match (generalizing := false) d, st with | _ + 1, .inl x :: st => if st.length ≤ 4 then aC (pc + 3) ls (vI (iabs x) :: st) hp else none | _, _ => none)
    else if a = 1003 then (match (generalizing := false) d, st with
      | _ + 2, .inl n :: .inl dp :: .inr (.inl r1) :: .inl sp :: .inr (.inl r0) :: st =>
        if r0.1 = 11 ∧ r1.1 = 11 ∧ ¬ r0 = r1 ∧ st.length ≤ 4 then (if sp = 0 ∧ dp = 0 ∧ ¬ n < 0 ∧ n.toNatClampNeg ≤ alen r0 ∧ n.toNatClampNeg ≤ alen r1 then aC (pc + 3) ls st (cpA hp r0 r1 0 0 n.toNatClampNeg) else none) else none
      | _, _ => none)
    else if b ≤ st.length ∧ (st.drop b).length ≤ 4 then aCall a (st.take b).reverse (st.drop b) else none) = some (.inl ((pc', ls', st'), hp')) := he
  by_cases h0 : a = 1000
  · rw [if_pos h0] at he
    have hl := hlk (by omega)
    subst h0
    split at he
    · rename_i d0 y x st0
      by_cases h4 : st0.length ≤ 4
      · rw [if_pos h4] at he
        obtain ⟨rfl, rfl, rfl, rfl⟩ := aC_inj he
        have hc := catS (B := B) (adK := adK) st0
        exact va_mmax hx hb hlsz hown hl (hw _ (biW _ (by simp))) (hw _ (biW _ (by simp))) (hw _ (biW _ (by simp))) (by omega) (by omega) (Nat.zero_le _) (Nat.zero_le _) hd (k _ _ _ (st_push (st_pop (st_pop hS)) trivial))
      · rw [if_neg h4] at he
        cases he
    · cases he
  · rw [if_neg h0] at he
    by_cases h1 : a = 1001
    · rw [if_pos h1] at he
      have hl := hlk (by omega)
      subst h1
      split at he
      · rename_i d0 y x st0
        by_cases h4 : st0.length ≤ 4
        · rw [if_pos h4] at he
          obtain ⟨rfl, rfl, rfl, rfl⟩ := aC_inj he
          have hc := catS (B := B) (adK := adK) st0
          exact va_mmin hx hb hlsz hown hl (hw _ (biW _ (by simp))) (hw _ (biW _ (by simp))) (hw _ (biW _ (by simp))) (by omega) (by omega) (Nat.zero_le _) (Nat.zero_le _) hd (k _ _ _ (st_push (st_pop (st_pop hS)) trivial))
        · rw [if_neg h4] at he
          cases he
      · cases he
    · rw [if_neg h1] at he
      by_cases h2 : a = 1002
      · rw [if_pos h2] at he
        have hl := hlk (by omega)
        subst h2
        split at he
        · rename_i d0 x st0
          by_cases h4 : st0.length ≤ 4
          · rw [if_pos h4] at he
            obtain ⟨rfl, rfl, rfl, rfl⟩ := aC_inj he
            have hc := catS (B := B) (adK := adK) st0
            exact va_mabs hx hb hlsz hown hl (hw _ (biW _ (by simp))) (hw _ (biW _ (by simp))) (hw _ (biW _ (by simp))) (by omega) (by omega) (Nat.zero_le _) (Nat.zero_le _) hd (k _ _ _ (st_push (st_pop hS) trivial))
          · rw [if_neg h4] at he
            cases he
        · cases he
      · rw [if_neg h2] at he
        by_cases h3 : a = 1003
        · rw [if_pos h3] at he
          have hl := hlk (by omega)
          subst h3
          split at he
          · rename_i d0 n dp r1 sp r0 st0
            by_cases h4 : r0.1 = 11 ∧ r1.1 = 11 ∧ ¬ r0 = r1 ∧ st0.length ≤ 4
            · rw [if_pos h4] at he
              by_cases h5 : sp = 0 ∧ dp = 0 ∧ ¬ n < 0 ∧ n.toNatClampNeg ≤ alen r0 ∧ n.toNatClampNeg ≤ alen r1
              · rw [if_pos h5] at he
                obtain ⟨rfl, rfl, rfl, rfl⟩ := aC_inj he
                obtain ⟨g0, g1, gne, g4⟩ := h4
                obtain ⟨rfl, rfl, gn, gl0, gl1⟩ := h5
                have hc := catS (B := B) (adK := adK) st'
                have q0 : r0.1 ≠ 20 := by omega
                have q1 : r1.1 ≠ 20 := by omega
                have hA0 : r0 ∈ allR := okR_in (hS.2.2.2 _ (by simp) : okV (vR r0)) q0
                have hA1 : r1 ∈ allR := okR_in (hS.2.2.2 _ (by simp) : okV (vR r1)) q1
                have e0 := World_get (B := B) (G := G) (hp := hp) hA0
                have e1 := World_get (B := B) (G := G) (hp := hp) hA1
                rw [ent_int g0] at e0
                rw [ent_int g1] at e1
                show W p l e R s m sargs below meth c H locs 0 0 Q (F0 m pc sl (.int n :: .int 0 :: toV B adK (vR r1) :: .int 0 :: toV B adK (vR r0) :: st'.map (toV B adK)))
                rw [toV_ref q0, toV_ref q1]
                have z0 : (0 : Int32).toNatClampNeg = 0 := by decide
                refine va_copyi hx hb hlsz hown hl (hw _ (biW _ (by simp))) (hw _ (biW _ (by simp))) (hw _ (biW _ (by simp))) hK hS.1 World_D hS.2.1 (adr r0) (adr r1) 0 0 e0 e1 rfl rfl rfl (by decide) (by decide) gn (by rw [z0]; omega) (by rw [z0]; omega) (fun _ _ => rfl) (by omega) ?_ hd (fun H1 locs1 h1 _ h2 => k _ _ _ ⟨?_, h2, hS.2.2.1, fun w hw => hS.2.2.2 w (by simp [hw])⟩)
                · show _ + (nativeFrameWords "java/lang/System" "arraycopy" 5 + 11) ≤ _
                  have hn : nativeFrameWords "java/lang/System" "arraycopy" 5 = 7 := by decide +kernel
                  rw [hn]
                  omega
                · have hE1 : ent B G (cpA hp r0 r1 0 0 n.toNatClampNeg) r1 = .inl (G.1, alen r1, .inl (va_cpy (hp r0) (hp r1) (0 : Int32).toNatClampNeg (0 : Int32).toNatClampNeg n.toNatClampNeg)) := by
                    rw [ent_int g1, z0]
                    refine congrArg (fun f => Sum.inl (G.1, alen r1, Sum.inl f)) (funext fun j => ?_)
                    simp [cpA, va_cpy]
                  rw [← hE1] at h1
                  rw [World_set hA1 (fun r' _ hne => ent_off (fun j => by simp [cpA, hne]))] at h1
                  exact h1
              · rw [if_neg h5] at he
                cases he
            · rw [if_neg h4] at he
              cases he
          · cases he
        · rw [if_neg h3] at he
          by_cases h6 : b ≤ st.length ∧ (st.drop b).length ≤ 4
          · rw [if_pos h6] at he
            cases he
          · rw [if_neg h6] at he
            cases he
/-- behind a call that writes nothing -/
theorem ret_call {x : Value} {v : VL} {rest : List VL} {st0 : List Value} (hv : toV B adK v = x)
    (hr : va_Run p l e R s m sargs below meth c H locs 0 0 0 0 (F0 m pc sl st0) (rest.map (toV B adK)) (fun (st : State) (oc : Outcome) (t : State) => oc = .returned (some x) ∧ t.heap = st.heap) (fun _ => False))
    (hS : STt B D G adK s sl nL ls rest hp H locs) (k : KKs p l e R s m sargs below meth c Q B D G adK nL (pc + 3) ls (v :: rest) hp) (hk : okV v) : W p l e R s m sargs below meth c H locs 0 0 Q (F0 m pc sl st0) := by
  intro T hT X
  obtain ⟨w, st₀, t, T', L, h0, X', hL, e1, e2, ⟨hw, hh⟩, stp⟩ := hr T hT X
  cases hw
  have hH : T'.heap = H := by rw [e1, hh, h0]
  have hS2 : STt B D G adK s sl nL ls (v :: rest) hp H (locs ++ L) := by
    refine ⟨hS.1, ⟨hS.2.1.1, hS.2.1.2.1, fun q hq => ?_⟩, hS.2.2.1, (st_push hS hk).2.2.2⟩
    rcases List.mem_append.mp hq with h | h
    · exact hS.2.1.2.2 q h
    · exact (hL q h).elim
  obtain ⟨t2, a1, b1⟩ := k H (locs ++ L) sl hS2 T' hH X'
  refine ⟨t2, stp t2 ?_, b1⟩
  rw [List.map_cons, hv] at a1
  exact a1
theorem bv_sim (hCX : CXX p l B D G adK adV μ s m sargs meth c) (hRf : d ≤ R.frames) (hRl : 36 * d ≤ R.locals) {idx : Nat} (hd : decode (bytesOf μ) pc = .ok (.invokevirtual idx, 3)) (hok : okL (clOf μ) (maxOf μ) (retOf μ) pc (.invokevirtual idx) a b z = true)
    (he : exec1 (.invokevirtual idx) 3 a b z d pc ls st hp = some (.inl ((pc', ls', st'), hp'))) (hS : STt B D G adK s sl (maxOf μ) ls st hp H locs)
    (k : KKs p l e R s m sargs below meth c Q B D G adK (maxOf μ) pc' ls' st' hp') : W p l e R s m sargs below meth c H locs 0 0 Q (F0 m pc sl (st.map (toV B adK))) := by
  obtain ⟨hx, hb, hml, hown, hts, hr, hlocks, hE, hJ, hμ⟩ := id hCX
  have hlsz : sl.size = maxOf μ := by
    obtain ⟨-, -, lv, h1, -, -⟩ := hS.2.2.1
    exact h1.1
  have hlk : a = 1004 ∨ a = 1005 → (wB (clOf μ, idx, a)).before sargs s = true := by
    intro ha
    unfold okL at hok
    simp only [if_pos ha, decide_eq_true_eq] at hok
    exact hts _ (inG (lnkB_ok _ hok) rfl)
  have recv : ∀ w, w < 5 → ∃ cellB : Cell, H[adK w]? = some cellB ∧ cellB.vm.isStatics = false ∧ s.vm.findClass RJ0 = some cellB.cls := by
    intro w hw
    exact vk_recv hE.2.2.2.1 hw hS.2.1
  have henv : ∀ U : State, U.heap = H → s.WarmedH U.vm → ENV B D G adK adV U := fun U hU hW => hE.warm hW (fun q h1 h2 => by rw [hU]; exact hS.2.1.2.1 q h1 h2)
  have blind : ∀ (U : State) (g : JFrame) (mk : MethodId) (a : Array Value), ENV B D G adK adV U → ENV B D G adK adV (U.calling g mk a) := fun U g mk a q => q.warm (State.WarmedH.refl U) (fun _ _ _ => rfl)
  replace he : (if a = 1004 then (match (generalizing := false) d, st with | _ + 5, .inr (.inl r) :: st => if r.1 = 20 ∧ st.length ≤ 4 then aC (pc + 3) ls (vI (nI (txt r.2.1).length) :: st) hp else none | _, _ => none)
    else if a = 1005 then (match (generalizing := false) d, st with | _ + 5, .inl j :: .inr (.inl r) :: st => if r.1 = 20 ∧ st.length ≤ 4 then (if inb j (txt r.2.1).length = true then aC (pc + 3) ls (vI ((txt r.2.1).getD j.toNatClampNeg 0) :: st) hp else none) else none | _, _ => none)
    else (match (generalizing := false) st.drop (b % 16 - 1) with | .inr (.inl r) :: rest => if r.1 = b / 16 ∧ 1 ≤ b % 16 ∧ rest.length ≤ 4 then aCall a (vR r :: (st.take (b % 16 - 1)).reverse) rest else none | _ => none)) = some (.inl ((pc', ls', st'), hp')) := he
  by_cases h0 : a = 1004
  · rw [if_pos h0] at he
    have hl := hlk (Or.inl h0)
    subst h0
    split at he
    · rename_i d0 r st0
      by_cases h4 : r.1 = 20 ∧ st0.length ≤ 4
      · rw [if_pos h4] at he
        obtain ⟨rfl, rfl, rfl, rfl⟩ := aC_inj he
        have hc := catS (B := B) (adK := adK) st0
        have hr5 : r.2.1 < 5 := by
          rcases (hS.2.2.2 _ List.mem_cons_self : okR r) with h | h
          · exact h.2
          · exact absurd h4.1 h.1
        have hrV : toV B adK (vR r) = .ref (adK r.2.1) := by
          show Value.ref (if r.1 = 20 then adK r.2.1 else B + adr r) = _
          rw [if_pos h4.1]
        have hC : CallW R s sargs (clsN (clOf μ)) RJ0 idx yJ0_length_8abf5 cJ0_length_8abf5 1 (some .int) (Jvm.Cond.code yJ0_length_8abf5 cJ0_length_8abf5 1 (some .int) :: lwG) (rmD 4) 0 0 0 :=
          ⟨callB_of 0 hts (fun w hw => (List.mem_cons.mp hw).elim (fun e => by rw [e]; exact ⟨biW _ (by simp), Or.inl rfl⟩) (fun h => lwG_good w h)) rfl rfl rfl (hts (.initialized RJ0) (biW _ (by simp))) hl (by decide +kernel) ⟨by show 4 + 1 ≤ _; omega, by show 8 + (1 + 11) + 36 * 4 ≤ _; omega⟩, hts _ (biW _ (by simp)), hts _ (biW _ (by simp))⟩
        show W p l e R s m sargs below meth c H locs 0 0 Q (F0 m pc sl (toV B adK (vR r) :: st0.map (toV B adK)))
        rw [hrV]
        refine ret_call (v := vI (nI (txt r.2.1).length)) (x := .int (nI (txt r.2.1).length)) rfl (va_runV (As := []) (rest := st0.map (toV B adK)) ⟨hx, hb, hml, hown, hts⟩ (hJ.1 r.2.1 hr5) hC ⟨fun a U g mk q => ⟨q.1, blind _ _ _ _ q.2⟩, recv _ hr5, fun U hU hW => ⟨rfl, henv U hU hW⟩⟩ rfl rfl hlsz rfl (lv_room (by omega)) hd ⟨Nat.zero_le _, Nat.zero_le _⟩) (st_pop hS) k trivial
      · rw [if_neg h4] at he
        cases he
    · cases he
  · rw [if_neg h0] at he
    by_cases h1 : a = 1005
    · rw [if_pos h1] at he
      have hl := hlk (Or.inr h1)
      subst h1
      split at he
      · rename_i d0 j r st0
        by_cases h4 : r.1 = 20 ∧ st0.length ≤ 4
        · rw [if_pos h4] at he
          by_cases h5 : inb j (txt r.2.1).length = true
          · rw [if_pos h5] at he
            obtain ⟨rfl, rfl, rfl, rfl⟩ := aC_inj he
            have hc := catS (B := B) (adK := adK) st0
            have hr5 : r.2.1 < 5 := by
              rcases (hS.2.2.2 (vR r) (by simp) : okR r) with h | h
              · exact h.2
              · exact absurd h4.1 h.1
            have hrV : toV B adK (vR r) = .ref (adK r.2.1) := by
              show Value.ref (if r.1 = 20 then adK r.2.1 else B + adr r) = _
              rw [if_pos h4.1]
            have hlen9 : (txt r.2.1).length ≤ 7 := by
              have : ∀ w, w < 5 → (txt w).length ≤ 7 := by decide
              exact this _ hr5
            obtain ⟨j0, hj0, rfl⟩ := vp_in_of (inb_in h5) (by omega)
            have hjc : (nI j0).toNatClampNeg = j0 := nI_clamp (by omega)
            rw [hjc] at k
            have hC : CallW R s sargs (clsN (clOf μ)) RJ0 idx yJ0_charAt_5068e cJ0_charAt_5068e 2 (some .char) (Jvm.Cond.code yJ0_charAt_5068e cJ0_charAt_5068e 2 (some .char) :: lwG) (rmD 4) 0 0 1 :=
              ⟨callB_of 1 hts (fun w hw => (List.mem_cons.mp hw).elim (fun e => by rw [e]; exact ⟨biW _ (by simp), Or.inl rfl⟩) (fun h => lwG_good w h)) rfl rfl rfl (hts (.initialized RJ0) (biW _ (by simp))) hl (by decide +kernel) ⟨by show 4 + 1 ≤ _; omega, by show 8 + (2 + 11) + 36 * 4 ≤ _; omega⟩, hts _ (biW _ (by simp)), hts _ (biW _ (by simp))⟩
            show W p l e R s m sargs below meth c H locs 0 0 Q (F0 m pc sl (.int (nI j0) :: toV B adK (vR r) :: st0.map (toV B adK)))
            rw [hrV]
            refine ret_call (v := vI ((txt r.2.1).getD j0 0)) (x := .int ((txt r.2.1).getD j0 0)) rfl (va_runV (As := [.int (nI j0)]) (rest := st0.map (toV B adK)) ⟨hx, hb, hml, hown, hts⟩ (hJ.2 r.2.1 j0 hr5 hj0) hC ⟨fun a U g mk q => ⟨q.1, blind _ _ _ _ q.2⟩, recv _ hr5, fun U hU hW => ⟨rfl, henv U hU hW⟩⟩ rfl rfl hlsz rfl (lv_room (by omega)) hd ⟨Nat.zero_le _, Nat.zero_le _⟩) (st_pop (st_pop hS)) k trivial
          · rw [if_neg h5] at he
            cases he
        · rw [if_neg h4] at he
          cases he
      · cases he
    · rw [if_neg h1] at he
      split at he
      · rename_i r rest hq
        by_cases h6 : r.1 = b / 16 ∧ 1 ≤ b % 16 ∧ rest.length ≤ 4
        · rw [if_pos h6] at he
          cases he
        · rw [if_neg h6] at he
          cases he
      · cases he
end BUI
end
section
section STEP2
variable {p : Program} {l : Launch} {e : Env} {R : Room} {s : State} {m : MethodId} {sargs : Array Value} {below : List Frame} {meth : Method} {c : Code} {Q : State → Prop}
variable {B d μ nL pc len a b p0 : Nat} {D : va_G} {G : GG} {adK adV : Nat → Nat} {z : Int32}
variable {ls ls' : List (Option VL)} {st st' : List VL} {hp hp' : HP} {H : Heap} {locs : List Loc} {sl : Array Slot} {pc' : Nat}

set_option maxHeartbeats 400000 in
theorem sx_iconst (hCX : CXX p l B D G adK adV μ s m sargs meth c) (hRf : d ≤ R.frames) (hRl : 36 * d ≤ R.locals) {n : Int} (hlk : lkp pc (codeOf μ) = some (p0, .iconst n, len, a, b, z)) (he : exec1 (.iconst n) len a b z d pc ls st hp = some (.inl ((pc', ls', st'), hp')))
    (hS : STt B D G adK s sl (maxOf μ) ls st hp H locs) (k : KKs p l e R s m sargs below meth c Q B D G adK (maxOf μ) pc' ls' st' hp') : W p l e R s m sargs below meth c H locs 0 0 Q (F0 m pc sl (st.map (toV B adK))) := by
  obtain ⟨hx, hb, hml, hown, hts, hr, hlocks, hE, hJ, hμ⟩ := id hCX
  obtain ⟨hd, hlen, hok⟩ := ok_at hμ hlk
  have hK := hE.1
  have hlsz : c.maxLocals = sl.size := by
    obtain ⟨-, -, lv, h1, -, -⟩ := hS.2.2.1
    rw [hml, h1.1]
  have hln : len = 1 := by simpa [isSw, lenI] using hlen
  subst hln
  obtain ⟨rfl, rfl, rfl, rfl⟩ := aC_inj (show aC (pc + 1) ls (vI z :: st) hp = _ from he)
  exact lv_iconst hx hb hd (of_decide_eq_true hok) (k _ _ _ (st_push hS trivial))
set_option maxHeartbeats 400000 in
theorem sx_bipush (hCX : CXX p l B D G adK adV μ s m sargs meth c) (hRf : d ≤ R.frames) (hRl : 36 * d ≤ R.locals) {n : Int} (hlk : lkp pc (codeOf μ) = some (p0, .bipush n, len, a, b, z)) (he : exec1 (.bipush n) len a b z d pc ls st hp = some (.inl ((pc', ls', st'), hp')))
    (hS : STt B D G adK s sl (maxOf μ) ls st hp H locs) (k : KKs p l e R s m sargs below meth c Q B D G adK (maxOf μ) pc' ls' st' hp') : W p l e R s m sargs below meth c H locs 0 0 Q (F0 m pc sl (st.map (toV B adK))) := by
  obtain ⟨hx, hb, hml, hown, hts, hr, hlocks, hE, hJ, hμ⟩ := id hCX
  obtain ⟨hd, hlen, hok⟩ := ok_at hμ hlk
  have hK := hE.1
  have hlsz : c.maxLocals = sl.size := by
    obtain ⟨-, -, lv, h1, -, -⟩ := hS.2.2.1
    rw [hml, h1.1]
  have hln : len = 2 := by simpa [isSw, lenI] using hlen
  subst hln
  obtain ⟨rfl, rfl, rfl, rfl⟩ := aC_inj (show aC (pc + 2) ls (vI z :: st) hp = _ from he)
  exact lv_bipush hx hb hd (of_decide_eq_true hok) (k _ _ _ (st_push hS trivial))
set_option maxHeartbeats 400000 in
theorem sx_sipush (hCX : CXX p l B D G adK adV μ s m sargs meth c) (hRf : d ≤ R.frames) (hRl : 36 * d ≤ R.locals) {n : Int} (hlk : lkp pc (codeOf μ) = some (p0, .sipush n, len, a, b, z)) (he : exec1 (.sipush n) len a b z d pc ls st hp = some (.inl ((pc', ls', st'), hp')))
    (hS : STt B D G adK s sl (maxOf μ) ls st hp H locs) (k : KKs p l e R s m sargs below meth c Q B D G adK (maxOf μ) pc' ls' st' hp') : W p l e R s m sargs below meth c H locs 0 0 Q (F0 m pc sl (st.map (toV B adK))) := by
  obtain ⟨hx, hb, hml, hown, hts, hr, hlocks, hE, hJ, hμ⟩ := id hCX
  obtain ⟨hd, hlen, hok⟩ := ok_at hμ hlk
  have hK := hE.1
  have hlsz : c.maxLocals = sl.size := by
    obtain ⟨-, -, lv, h1, -, -⟩ := hS.2.2.1
    rw [hml, h1.1]
  have hln : len = 3 := by simpa [isSw, lenI] using hlen
  subst hln
  obtain ⟨rfl, rfl, rfl, rfl⟩ := aC_inj (show aC (pc + 3) ls (vI z :: st) hp = _ from he)
  exact lv_sipush hx hb hd (of_decide_eq_true hok) (k _ _ _ (st_push hS trivial))
set_option maxHeartbeats 400000 in
theorem sx_iload (hCX : CXX p l B D G adK adV μ s m sargs meth c) (hRf : d ≤ R.frames) (hRl : 36 * d ≤ R.locals) {kk : Nat} (hlk : lkp pc (codeOf μ) = some (p0, .iload kk, len, a, b, z)) (he : exec1 (.iload kk) len a b z d pc ls st hp = some (.inl ((pc', ls', st'), hp')))
    (hS : STt B D G adK s sl (maxOf μ) ls st hp H locs) (k : KKs p l e R s m sargs below meth c Q B D G adK (maxOf μ) pc' ls' st' hp') : W p l e R s m sargs below meth c H locs 0 0 Q (F0 m pc sl (st.map (toV B adK))) := by
  obtain ⟨hx, hb, hml, hown, hts, hr, hlocks, hE, hJ, hμ⟩ := id hCX
  obtain ⟨hd, hlen, hok⟩ := ok_at hμ hlk
  have hK := hE.1
  have hlsz : c.maxLocals = sl.size := by
    obtain ⟨-, -, lv, h1, -, -⟩ := hS.2.2.1
    rw [hml, h1.1]
  have hln : len = 2 := by simpa [isSw, lenI] using hlen
  subst hln
  have he : (match ls[kk]? with | some (some (.inl x)) => aC (pc + 2) ls (vI x :: st) hp | _ => none) = some (.inl ((pc', ls', st'), hp')) := he
  split at he
  · rename_i x hg
    obtain ⟨rfl, rfl, rfl, rfl⟩ := aC_inj he
    exact lv_iload hx hb hd (hS.2.2.1.get hg) (k _ _ _ (st_push hS trivial))
  · cases he
set_option maxHeartbeats 400000 in
theorem sx_iload_n (hCX : CXX p l B D G adK adV μ s m sargs meth c) (hRf : d ≤ R.frames) (hRl : 36 * d ≤ R.locals) {kk : Fin 4} (hlk : lkp pc (codeOf μ) = some (p0, .iload_n kk, len, a, b, z)) (he : exec1 (.iload_n kk) len a b z d pc ls st hp = some (.inl ((pc', ls', st'), hp')))
    (hS : STt B D G adK s sl (maxOf μ) ls st hp H locs) (k : KKs p l e R s m sargs below meth c Q B D G adK (maxOf μ) pc' ls' st' hp') : W p l e R s m sargs below meth c H locs 0 0 Q (F0 m pc sl (st.map (toV B adK))) := by
  obtain ⟨hx, hb, hml, hown, hts, hr, hlocks, hE, hJ, hμ⟩ := id hCX
  obtain ⟨hd, hlen, hok⟩ := ok_at hμ hlk
  have hK := hE.1
  have hlsz : c.maxLocals = sl.size := by
    obtain ⟨-, -, lv, h1, -, -⟩ := hS.2.2.1
    rw [hml, h1.1]
  have hln : len = 1 := by simpa [isSw, lenI] using hlen
  subst hln
  have he : (match ls[kk.val]? with | some (some (.inl x)) => aC (pc + 1) ls (vI x :: st) hp | _ => none) = some (.inl ((pc', ls', st'), hp')) := he
  split at he
  · rename_i x hg
    obtain ⟨rfl, rfl, rfl, rfl⟩ := aC_inj he
    exact lv_iload_n hx hb hd rfl (hS.2.2.1.get hg) (k _ _ _ (st_push hS trivial))
  · cases he
set_option maxHeartbeats 400000 in
theorem sx_aload (hCX : CXX p l B D G adK adV μ s m sargs meth c) (hRf : d ≤ R.frames) (hRl : 36 * d ≤ R.locals) {kk : Nat} (hlk : lkp pc (codeOf μ) = some (p0, .aload kk, len, a, b, z)) (he : exec1 (.aload kk) len a b z d pc ls st hp = some (.inl ((pc', ls', st'), hp')))
    (hS : STt B D G adK s sl (maxOf μ) ls st hp H locs) (k : KKs p l e R s m sargs below meth c Q B D G adK (maxOf μ) pc' ls' st' hp') : W p l e R s m sargs below meth c H locs 0 0 Q (F0 m pc sl (st.map (toV B adK))) := by
  obtain ⟨hx, hb, hml, hown, hts, hr, hlocks, hE, hJ, hμ⟩ := id hCX
  obtain ⟨hd, hlen, hok⟩ := ok_at hμ hlk
  have hK := hE.1
  have hlsz : c.maxLocals = sl.size := by
    obtain ⟨-, -, lv, h1, -, -⟩ := hS.2.2.1
    rw [hml, h1.1]
  have hln : len = 2 := by simpa [isSw, lenI] using hlen
  subst hln
  have he : (match ls[kk]? with | some (some (.inr (.inl r))) => aC (pc + 2) ls (vR r :: st) hp | _ => none) = some (.inl ((pc', ls', st'), hp')) := he
  split at he
  · rename_i r hg
    obtain ⟨rfl, rfl, rfl, rfl⟩ := aC_inj he
    exact lv_aload hx hb hd (hS.2.2.1.get hg) (k _ _ _ (st_push hS (hS.2.2.1.ok hg : okI (vR r))))
  · cases he
set_option maxHeartbeats 400000 in
theorem sx_aload_n (hCX : CXX p l B D G adK adV μ s m sargs meth c) (hRf : d ≤ R.frames) (hRl : 36 * d ≤ R.locals) {kk : Fin 4} (hlk : lkp pc (codeOf μ) = some (p0, .aload_n kk, len, a, b, z)) (he : exec1 (.aload_n kk) len a b z d pc ls st hp = some (.inl ((pc', ls', st'), hp')))
    (hS : STt B D G adK s sl (maxOf μ) ls st hp H locs) (k : KKs p l e R s m sargs below meth c Q B D G adK (maxOf μ) pc' ls' st' hp') : W p l e R s m sargs below meth c H locs 0 0 Q (F0 m pc sl (st.map (toV B adK))) := by
  obtain ⟨hx, hb, hml, hown, hts, hr, hlocks, hE, hJ, hμ⟩ := id hCX
  obtain ⟨hd, hlen, hok⟩ := ok_at hμ hlk
  have hK := hE.1
  have hlsz : c.maxLocals = sl.size := by
    obtain ⟨-, -, lv, h1, -, -⟩ := hS.2.2.1
    rw [hml, h1.1]
  have hln : len = 1 := by simpa [isSw, lenI] using hlen
  subst hln
  have he : (match ls[kk.val]? with | some (some (.inr (.inl r))) => aC (pc + 1) ls (vR r :: st) hp | _ => none) = some (.inl ((pc', ls', st'), hp')) := he
  split at he
  · rename_i r hg
    obtain ⟨rfl, rfl, rfl, rfl⟩ := aC_inj he
    exact lv_aload_n hx hb hd rfl (hS.2.2.1.get hg) (k _ _ _ (st_push hS (hS.2.2.1.ok hg : okI (vR r))))
  · cases he
set_option maxHeartbeats 400000 in
theorem sx_istore (hCX : CXX p l B D G adK adV μ s m sargs meth c) (hRf : d ≤ R.frames) (hRl : 36 * d ≤ R.locals) {kk : Nat} (hlk : lkp pc (codeOf μ) = some (p0, .istore kk, len, a, b, z)) (he : exec1 (.istore kk) len a b z d pc ls st hp = some (.inl ((pc', ls', st'), hp')))
    (hS : STt B D G adK s sl (maxOf μ) ls st hp H locs) (k : KKs p l e R s m sargs below meth c Q B D G adK (maxOf μ) pc' ls' st' hp') : W p l e R s m sargs below meth c H locs 0 0 Q (F0 m pc sl (st.map (toV B adK))) := by
  obtain ⟨hx, hb, hml, hown, hts, hr, hlocks, hE, hJ, hμ⟩ := id hCX
  obtain ⟨hd, hlen, hok⟩ := ok_at hμ hlk
  have hK := hE.1
  have hlsz : c.maxLocals = sl.size := by
    obtain ⟨-, -, lv, h1, -, -⟩ := hS.2.2.1
    rw [hml, h1.1]
  have hln : len = 2 := by simpa [isSw, lenI] using hlen
  subst hln
  rcases st with _ | ⟨v | v, st⟩
  all_goals try cases (show (none : Option ACT) = some (.inl ((pc', ls', st'), hp')) from he)
  obtain ⟨rfl, rfl, rfl, rfl⟩ := aC_inj (show aC (pc + 2) (ls.set kk (some (vI v))) st hp = _ from he)
  obtain ⟨g1, g2, lv, g3, g4, g5⟩ := hS.2.2.1
  exact lv_istore hx hb hd g3 (of_decide_eq_true hok) rfl (fun ls2 hl2 => k _ _ _ ⟨hS.1, hS.2.1, LH.put g1 g2 g4 g5 trivial hl2, (st_pop hS).2.2.2⟩)
set_option maxHeartbeats 400000 in
theorem sx_istore_n (hCX : CXX p l B D G adK adV μ s m sargs meth c) (hRf : d ≤ R.frames) (hRl : 36 * d ≤ R.locals) {kk : Fin 4} (hlk : lkp pc (codeOf μ) = some (p0, .istore_n kk, len, a, b, z)) (he : exec1 (.istore_n kk) len a b z d pc ls st hp = some (.inl ((pc', ls', st'), hp')))
    (hS : STt B D G adK s sl (maxOf μ) ls st hp H locs) (k : KKs p l e R s m sargs below meth c Q B D G adK (maxOf μ) pc' ls' st' hp') : W p l e R s m sargs below meth c H locs 0 0 Q (F0 m pc sl (st.map (toV B adK))) := by
  obtain ⟨hx, hb, hml, hown, hts, hr, hlocks, hE, hJ, hμ⟩ := id hCX
  obtain ⟨hd, hlen, hok⟩ := ok_at hμ hlk
  have hK := hE.1
  have hlsz : c.maxLocals = sl.size := by
    obtain ⟨-, -, lv, h1, -, -⟩ := hS.2.2.1
    rw [hml, h1.1]
  have hln : len = 1 := by simpa [isSw, lenI] using hlen
  subst hln
  rcases st with _ | ⟨v | v, st⟩
  all_goals try cases (show (none : Option ACT) = some (.inl ((pc', ls', st'), hp')) from he)
  obtain ⟨rfl, rfl, rfl, rfl⟩ := aC_inj (show aC (pc + 1) (ls.set kk.val (some (vI v))) st hp = _ from he)
  obtain ⟨g1, g2, lv, g3, g4, g5⟩ := hS.2.2.1
  exact lv_istore_n hx hb hd rfl g3 (of_decide_eq_true hok) rfl (fun ls2 hl2 => k _ _ _ ⟨hS.1, hS.2.1, LH.put g1 g2 g4 g5 trivial hl2, (st_pop hS).2.2.2⟩)
set_option maxHeartbeats 400000 in
theorem sx_astore (hCX : CXX p l B D G adK adV μ s m sargs meth c) (hRf : d ≤ R.frames) (hRl : 36 * d ≤ R.locals) {kk : Nat} (hlk : lkp pc (codeOf μ) = some (p0, .astore kk, len, a, b, z)) (he : exec1 (.astore kk) len a b z d pc ls st hp = some (.inl ((pc', ls', st'), hp')))
    (hS : STt B D G adK s sl (maxOf μ) ls st hp H locs) (k : KKs p l e R s m sargs below meth c Q B D G adK (maxOf μ) pc' ls' st' hp') : W p l e R s m sargs below meth c H locs 0 0 Q (F0 m pc sl (st.map (toV B adK))) := by
  obtain ⟨hx, hb, hml, hown, hts, hr, hlocks, hE, hJ, hμ⟩ := id hCX
  obtain ⟨hd, hlen, hok⟩ := ok_at hμ hlk
  have hK := hE.1
  have hlsz : c.maxLocals = sl.size := by
    obtain ⟨-, -, lv, h1, -, -⟩ := hS.2.2.1
    rw [hml, h1.1]
  have hln : len = 2 := by simpa [isSw, lenI] using hlen
  subst hln
  rcases st with _ | ⟨v | v | v, st⟩
  all_goals try cases (show (none : Option ACT) = some (.inl ((pc', ls', st'), hp')) from he)
  obtain ⟨rfl, rfl, rfl, rfl⟩ := aC_inj (show aC (pc + 2) (ls.set kk (some (vR v))) st hp = _ from he)
  obtain ⟨g1, g2, lv, g3, g4, g5⟩ := hS.2.2.1
  exact lv_astore hx hb hd g3 (of_decide_eq_true hok) rfl (fun ls2 hl2 => k _ _ _ ⟨hS.1, hS.2.1, LH.put g1 g2 g4 g5 (hS.2.2.2 _ List.mem_cons_self) hl2, (st_pop hS).2.2.2⟩)
set_option maxHeartbeats 400000 in
theorem sx_astore_n (hCX : CXX p l B D G adK adV μ s m sargs meth c) (hRf : d ≤ R.frames) (hRl : 36 * d ≤ R.locals) {kk : Fin 4} (hlk : lkp pc (codeOf μ) = some (p0, .astore_n kk, len, a, b, z)) (he : exec1 (.astore_n kk) len a b z d pc ls st hp = some (.inl ((pc', ls', st'), hp')))
    (hS : STt B D G adK s sl (maxOf μ) ls st hp H locs) (k : KKs p l e R s m sargs below meth c Q B D G adK (maxOf μ) pc' ls' st' hp') : W p l e R s m sargs below meth c H locs 0 0 Q (F0 m pc sl (st.map (toV B adK))) := by
  obtain ⟨hx, hb, hml, hown, hts, hr, hlocks, hE, hJ, hμ⟩ := id hCX
  obtain ⟨hd, hlen, hok⟩ := ok_at hμ hlk
  have hK := hE.1
  have hlsz : c.maxLocals = sl.size := by
    obtain ⟨-, -, lv, h1, -, -⟩ := hS.2.2.1
    rw [hml, h1.1]
  have hln : len = 1 := by simpa [isSw, lenI] using hlen
  subst hln
  rcases st with _ | ⟨v | v | v, st⟩
  all_goals try cases (show (none : Option ACT) = some (.inl ((pc', ls', st'), hp')) from he)
  obtain ⟨rfl, rfl, rfl, rfl⟩ := aC_inj (show aC (pc + 1) (ls.set kk.val (some (vR v))) st hp = _ from he)
  obtain ⟨g1, g2, lv, g3, g4, g5⟩ := hS.2.2.1
  exact lv_astore_n hx hb hd rfl g3 (of_decide_eq_true hok) rfl (fun ls2 hl2 => k _ _ _ ⟨hS.1, hS.2.1, LH.put g1 g2 g4 g5 (hS.2.2.2 _ List.mem_cons_self) hl2, (st_pop hS).2.2.2⟩)
set_option maxHeartbeats 400000 in
theorem sx_iinc (hCX : CXX p l B D G adK adV μ s m sargs meth c) (hRf : d ≤ R.frames) (hRl : 36 * d ≤ R.locals) {kk : Nat} {n : Int} (hlk : lkp pc (codeOf μ) = some (p0, .iinc kk n, len, a, b, z)) (he : exec1 (.iinc kk n) len a b z d pc ls st hp = some (.inl ((pc', ls', st'), hp')))
    (hS : STt B D G adK s sl (maxOf μ) ls st hp H locs) (k : KKs p l e R s m sargs below meth c Q B D G adK (maxOf μ) pc' ls' st' hp') : W p l e R s m sargs below meth c H locs 0 0 Q (F0 m pc sl (st.map (toV B adK))) := by
  obtain ⟨hx, hb, hml, hown, hts, hr, hlocks, hE, hJ, hμ⟩ := id hCX
  obtain ⟨hd, hlen, hok⟩ := ok_at hμ hlk
  have hK := hE.1
  have hlsz : c.maxLocals = sl.size := by
    obtain ⟨-, -, lv, h1, -, -⟩ := hS.2.2.1
    rw [hml, h1.1]
  have hln : len = 3 := by simpa [isSw, lenI] using hlen
  subst hln
  have he : (match ls[kk]? with | some (some (.inl x)) => aC (pc + 3) (ls.set kk (some (vI (x + z)))) st hp | _ => none) = some (.inl ((pc', ls', st'), hp')) := he
  split at he
  · rename_i x hg
    obtain ⟨rfl, rfl, rfl, rfl⟩ := aC_inj he
    obtain ⟨g1, g2, lv, g3, g4, g5⟩ := hS.2.2.1
    obtain ⟨q, hq⟩ := List.getElem?_of_mem (g5 _ _ hg)
    have hok2 : decide (kk < maxOf μ) = true ∧ decide (Int32.ofInt n = z) = true := by
      have h := hok
      unfold okL at h
      simpa only [Bool.and_eq_true] using h
    exact lv_iinc hx hb hd g3 hq (by rw [of_decide_eq_true hok2.2]) (of_decide_eq_true hok2.1) rfl (fun ls2 hl2 => k _ _ _ ⟨hS.1, hS.2.1, LH.put g1 g2 g4 g5 trivial hl2, hS.2.2.2⟩)
  · cases he
set_option maxHeartbeats 400000 in
theorem sx_iadd (hCX : CXX p l B D G adK adV μ s m sargs meth c) (hRf : d ≤ R.frames) (hRl : 36 * d ≤ R.locals) (hlk : lkp pc (codeOf μ) = some (p0, .iadd, len, a, b, z)) (he : exec1 (.iadd) len a b z d pc ls st hp = some (.inl ((pc', ls', st'), hp')))
    (hS : STt B D G adK s sl (maxOf μ) ls st hp H locs) (k : KKs p l e R s m sargs below meth c Q B D G adK (maxOf μ) pc' ls' st' hp') : W p l e R s m sargs below meth c H locs 0 0 Q (F0 m pc sl (st.map (toV B adK))) := by
  obtain ⟨hx, hb, hml, hown, hts, hr, hlocks, hE, hJ, hμ⟩ := id hCX
  obtain ⟨hd, hlen, hok⟩ := ok_at hμ hlk
  have hK := hE.1
  have hlsz : c.maxLocals = sl.size := by
    obtain ⟨-, -, lv, h1, -, -⟩ := hS.2.2.1
    rw [hml, h1.1]
  have hln : len = 1 := by simpa [isSw, lenI] using hlen
  subst hln
  rcases st with _ | ⟨y | _, _ | ⟨x | _, st⟩⟩
  all_goals try cases (show (none : Option ACT) = some (.inl ((pc', ls', st'), hp')) from he)
  obtain ⟨rfl, rfl, rfl, rfl⟩ := aC_inj (show aC (pc + 1) ls (vI (x + y) :: st) hp = _ from he)
  exact lv_iadd hx hb hd (k _ _ _ (st_push (st_pop (st_pop hS)) trivial))
set_option maxHeartbeats 400000 in
theorem sx_isub (hCX : CXX p l B D G adK adV μ s m sargs meth c) (hRf : d ≤ R.frames) (hRl : 36 * d ≤ R.locals) (hlk : lkp pc (codeOf μ) = some (p0, .isub, len, a, b, z)) (he : exec1 (.isub) len a b z d pc ls st hp = some (.inl ((pc', ls', st'), hp')))
    (hS : STt B D G adK s sl (maxOf μ) ls st hp H locs) (k : KKs p l e R s m sargs below meth c Q B D G adK (maxOf μ) pc' ls' st' hp') : W p l e R s m sargs below meth c H locs 0 0 Q (F0 m pc sl (st.map (toV B adK))) := by
  obtain ⟨hx, hb, hml, hown, hts, hr, hlocks, hE, hJ, hμ⟩ := id hCX
  obtain ⟨hd, hlen, hok⟩ := ok_at hμ hlk
  have hK := hE.1
  have hlsz : c.maxLocals = sl.size := by
    obtain ⟨-, -, lv, h1, -, -⟩ := hS.2.2.1
    rw [hml, h1.1]
  have hln : len = 1 := by simpa [isSw, lenI] using hlen
  subst hln
  rcases st with _ | ⟨y | _, _ | ⟨x | _, st⟩⟩
  all_goals try cases (show (none : Option ACT) = some (.inl ((pc', ls', st'), hp')) from he)
  obtain ⟨rfl, rfl, rfl, rfl⟩ := aC_inj (show aC (pc + 1) ls (vI (x - y) :: st) hp = _ from he)
  exact lv_isub hx hb hd (k _ _ _ (st_push (st_pop (st_pop hS)) trivial))
set_option maxHeartbeats 400000 in
theorem sx_imul (hCX : CXX p l B D G adK adV μ s m sargs meth c) (hRf : d ≤ R.frames) (hRl : 36 * d ≤ R.locals) (hlk : lkp pc (codeOf μ) = some (p0, .imul, len, a, b, z)) (he : exec1 (.imul) len a b z d pc ls st hp = some (.inl ((pc', ls', st'), hp')))
    (hS : STt B D G adK s sl (maxOf μ) ls st hp H locs) (k : KKs p l e R s m sargs below meth c Q B D G adK (maxOf μ) pc' ls' st' hp') : W p l e R s m sargs below meth c H locs 0 0 Q (F0 m pc sl (st.map (toV B adK))) := by
  obtain ⟨hx, hb, hml, hown, hts, hr, hlocks, hE, hJ, hμ⟩ := id hCX
  obtain ⟨hd, hlen, hok⟩ := ok_at hμ hlk
  have hK := hE.1
  have hlsz : c.maxLocals = sl.size := by
    obtain ⟨-, -, lv, h1, -, -⟩ := hS.2.2.1
    rw [hml, h1.1]
  have hln : len = 1 := by simpa [isSw, lenI] using hlen
  subst hln
  rcases st with _ | ⟨y | _, _ | ⟨x | _, st⟩⟩
  all_goals try cases (show (none : Option ACT) = some (.inl ((pc', ls', st'), hp')) from he)
  obtain ⟨rfl, rfl, rfl, rfl⟩ := aC_inj (show aC (pc + 1) ls (vI (x * y) :: st) hp = _ from he)
  exact lv_imul hx hb hd (k _ _ _ (st_push (st_pop (st_pop hS)) trivial))
set_option maxHeartbeats 400000 in
theorem sx_iand (hCX : CXX p l B D G adK adV μ s m sargs meth c) (hRf : d ≤ R.frames) (hRl : 36 * d ≤ R.locals) (hlk : lkp pc (codeOf μ) = some (p0, .iand, len, a, b, z)) (he : exec1 (.iand) len a b z d pc ls st hp = some (.inl ((pc', ls', st'), hp')))
    (hS : STt B D G adK s sl (maxOf μ) ls st hp H locs) (k : KKs p l e R s m sargs below meth c Q B D G adK (maxOf μ) pc' ls' st' hp') : W p l e R s m sargs below meth c H locs 0 0 Q (F0 m pc sl (st.map (toV B adK))) := by
  obtain ⟨hx, hb, hml, hown, hts, hr, hlocks, hE, hJ, hμ⟩ := id hCX
  obtain ⟨hd, hlen, hok⟩ := ok_at hμ hlk
  have hK := hE.1
  have hlsz : c.maxLocals = sl.size := by
    obtain ⟨-, -, lv, h1, -, -⟩ := hS.2.2.1
    rw [hml, h1.1]
  have hln : len = 1 := by simpa [isSw, lenI] using hlen
  subst hln
  rcases st with _ | ⟨y | _, _ | ⟨x | _, st⟩⟩
  all_goals try cases (show (none : Option ACT) = some (.inl ((pc', ls', st'), hp')) from he)
  obtain ⟨rfl, rfl, rfl, rfl⟩ := aC_inj (show aC (pc + 1) ls (vI (x &&& y) :: st) hp = _ from he)
  exact lv_iand hx hb hd (k _ _ _ (st_push (st_pop (st_pop hS)) trivial))
set_option maxHeartbeats 400000 in
theorem sx_ishr (hCX : CXX p l B D G adK adV μ s m sargs meth c) (hRf : d ≤ R.frames) (hRl : 36 * d ≤ R.locals) (hlk : lkp pc (codeOf μ) = some (p0, .ishr, len, a, b, z)) (he : exec1 (.ishr) len a b z d pc ls st hp = some (.inl ((pc', ls', st'), hp')))
    (hS : STt B D G adK s sl (maxOf μ) ls st hp H locs) (k : KKs p l e R s m sargs below meth c Q B D G adK (maxOf μ) pc' ls' st' hp') : W p l e R s m sargs below meth c H locs 0 0 Q (F0 m pc sl (st.map (toV B adK))) := by
  obtain ⟨hx, hb, hml, hown, hts, hr, hlocks, hE, hJ, hμ⟩ := id hCX
  obtain ⟨hd, hlen, hok⟩ := ok_at hμ hlk
  have hK := hE.1
  have hlsz : c.maxLocals = sl.size := by
    obtain ⟨-, -, lv, h1, -, -⟩ := hS.2.2.1
    rw [hml, h1.1]
  have hln : len = 1 := by simpa [isSw, lenI] using hlen
  subst hln
  rcases st with _ | ⟨y | _, _ | ⟨x | _, st⟩⟩
  all_goals try cases (show (none : Option ACT) = some (.inl ((pc', ls', st'), hp')) from he)
  obtain ⟨rfl, rfl, rfl, rfl⟩ := aC_inj (show aC (pc + 1) ls (vI (x >>> (y &&& 31)) :: st) hp = _ from he)
  exact lv_ishr hx hb hd (k _ _ _ (st_push (st_pop (st_pop hS)) trivial))
set_option maxHeartbeats 400000 in
theorem sx_idiv (hCX : CXX p l B D G adK adV μ s m sargs meth c) (hRf : d ≤ R.frames) (hRl : 36 * d ≤ R.locals) (hlk : lkp pc (codeOf μ) = some (p0, .idiv, len, a, b, z)) (he : exec1 (.idiv) len a b z d pc ls st hp = some (.inl ((pc', ls', st'), hp')))
    (hS : STt B D G adK s sl (maxOf μ) ls st hp H locs) (k : KKs p l e R s m sargs below meth c Q B D G adK (maxOf μ) pc' ls' st' hp') : W p l e R s m sargs below meth c H locs 0 0 Q (F0 m pc sl (st.map (toV B adK))) := by
  obtain ⟨hx, hb, hml, hown, hts, hr, hlocks, hE, hJ, hμ⟩ := id hCX
  obtain ⟨hd, hlen, hok⟩ := ok_at hμ hlk
  have hK := hE.1
  have hlsz : c.maxLocals = sl.size := by
    obtain ⟨-, -, lv, h1, -, -⟩ := hS.2.2.1
    rw [hml, h1.1]
  have hln : len = 1 := by simpa [isSw, lenI] using hlen
  subst hln
  rcases st with _ | ⟨y | _, _ | ⟨x | _, st⟩⟩
  all_goals try cases (show (none : Option ACT) = some (.inl ((pc', ls', st'), hp')) from he)
  have he : (if y = 0 then none else aC (pc + 1) ls (vI (idv x y) :: st) hp) = some (.inl ((pc', ls', st'), hp')) := he
  by_cases h0 : y = 0
  · rw [if_pos h0] at he
    cases he
  · rw [if_neg h0] at he
    obtain ⟨rfl, rfl, rfl, rfl⟩ := aC_inj he
    exact lv_idiv hx hb hd h0 (k _ _ _ (st_push (st_pop (st_pop hS)) trivial))
set_option maxHeartbeats 400000 in
theorem sx_irem (hCX : CXX p l B D G adK adV μ s m sargs meth c) (hRf : d ≤ R.frames) (hRl : 36 * d ≤ R.locals) (hlk : lkp pc (codeOf μ) = some (p0, .irem, len, a, b, z)) (he : exec1 (.irem) len a b z d pc ls st hp = some (.inl ((pc', ls', st'), hp')))
    (hS : STt B D G adK s sl (maxOf μ) ls st hp H locs) (k : KKs p l e R s m sargs below meth c Q B D G adK (maxOf μ) pc' ls' st' hp') : W p l e R s m sargs below meth c H locs 0 0 Q (F0 m pc sl (st.map (toV B adK))) := by
  obtain ⟨hx, hb, hml, hown, hts, hr, hlocks, hE, hJ, hμ⟩ := id hCX
  obtain ⟨hd, hlen, hok⟩ := ok_at hμ hlk
  have hK := hE.1
  have hlsz : c.maxLocals = sl.size := by
    obtain ⟨-, -, lv, h1, -, -⟩ := hS.2.2.1
    rw [hml, h1.1]
  have hln : len = 1 := by simpa [isSw, lenI] using hlen
  subst hln
  rcases st with _ | ⟨y | _, _ | ⟨x | _, st⟩⟩
  all_goals try cases (show (none : Option ACT) = some (.inl ((pc', ls', st'), hp')) from he)
  have he : (if y = 0 then none else aC (pc + 1) ls (vI (irm x y) :: st) hp) = some (.inl ((pc', ls', st'), hp')) := he
  by_cases h0 : y = 0
  · rw [if_pos h0] at he
    cases he
  · rw [if_neg h0] at he
    obtain ⟨rfl, rfl, rfl, rfl⟩ := aC_inj he
    exact lv_irem hx hb hd h0 (k _ _ _ (st_push (st_pop (st_pop hS)) trivial))
set_option maxHeartbeats 400000 in
theorem sx_dup (hCX : CXX p l B D G adK adV μ s m sargs meth c) (hRf : d ≤ R.frames) (hRl : 36 * d ≤ R.locals) (hlk : lkp pc (codeOf μ) = some (p0, .dup, len, a, b, z)) (he : exec1 (.dup) len a b z d pc ls st hp = some (.inl ((pc', ls', st'), hp')))
    (hS : STt B D G adK s sl (maxOf μ) ls st hp H locs) (k : KKs p l e R s m sargs below meth c Q B D G adK (maxOf μ) pc' ls' st' hp') : W p l e R s m sargs below meth c H locs 0 0 Q (F0 m pc sl (st.map (toV B adK))) := by
  obtain ⟨hx, hb, hml, hown, hts, hr, hlocks, hE, hJ, hμ⟩ := id hCX
  obtain ⟨hd, hlen, hok⟩ := ok_at hμ hlk
  have hK := hE.1
  have hlsz : c.maxLocals = sl.size := by
    obtain ⟨-, -, lv, h1, -, -⟩ := hS.2.2.1
    rw [hml, h1.1]
  have hln : len = 1 := by simpa [isSw, lenI] using hlen
  subst hln
  rcases st with _ | ⟨x | r | _, st⟩
  all_goals try cases (show (none : Option ACT) = some (.inl ((pc', ls', st'), hp')) from he)
  · obtain ⟨rfl, rfl, rfl, rfl⟩ := aC_inj (show aC (pc + 1) ls (vI x :: vI x :: st) hp = _ from he)
    exact lv_dup hx hb hd rfl (k _ _ _ (st_push hS trivial))
  · obtain ⟨rfl, rfl, rfl, rfl⟩ := aC_inj (show aC (pc + 1) ls (vR r :: vR r :: st) hp = _ from he)
    exact lv_dup hx hb hd rfl (k _ _ _ (st_push hS (hS.2.2.2 _ List.mem_cons_self)))
set_option maxHeartbeats 400000 in
theorem sx_dup2 (hCX : CXX p l B D G adK adV μ s m sargs meth c) (hRf : d ≤ R.frames) (hRl : 36 * d ≤ R.locals) (hlk : lkp pc (codeOf μ) = some (p0, .dup2, len, a, b, z)) (he : exec1 (.dup2) len a b z d pc ls st hp = some (.inl ((pc', ls', st'), hp')))
    (hS : STt B D G adK s sl (maxOf μ) ls st hp H locs) (k : KKs p l e R s m sargs below meth c Q B D G adK (maxOf μ) pc' ls' st' hp') : W p l e R s m sargs below meth c H locs 0 0 Q (F0 m pc sl (st.map (toV B adK))) := by
  obtain ⟨hx, hb, hml, hown, hts, hr, hlocks, hE, hJ, hμ⟩ := id hCX
  obtain ⟨hd, hlen, hok⟩ := ok_at hμ hlk
  have hK := hE.1
  have hlsz : c.maxLocals = sl.size := by
    obtain ⟨-, -, lv, h1, -, -⟩ := hS.2.2.1
    rw [hml, h1.1]
  have hln : len = 1 := by simpa [isSw, lenI] using hlen
  subst hln
  rcases st with _ | ⟨x | _, _ | ⟨_ | r | _, st⟩⟩
  all_goals try cases (show (none : Option ACT) = some (.inl ((pc', ls', st'), hp')) from he)
  obtain ⟨rfl, rfl, rfl, rfl⟩ := aC_inj (show aC (pc + 1) ls (vI x :: vR r :: vI x :: vR r :: st) hp = _ from he)
  exact lv_dup2_11 hx hb hd rfl rfl (k _ _ _ (st_push (st_push hS (hS.2.2.2 _ (List.mem_cons_of_mem _ List.mem_cons_self))) trivial))
set_option maxHeartbeats 400000 in
theorem sx_pop (hCX : CXX p l B D G adK adV μ s m sargs meth c) (hRf : d ≤ R.frames) (hRl : 36 * d ≤ R.locals) (hlk : lkp pc (codeOf μ) = some (p0, .pop, len, a, b, z)) (he : exec1 (.pop) len a b z d pc ls st hp = some (.inl ((pc', ls', st'), hp')))
    (hS : STt B D G adK s sl (maxOf μ) ls st hp H locs) (k : KKs p l e R s m sargs below meth c Q B D G adK (maxOf μ) pc' ls' st' hp') : W p l e R s m sargs below meth c H locs 0 0 Q (F0 m pc sl (st.map (toV B adK))) := by
  obtain ⟨hx, hb, hml, hown, hts, hr, hlocks, hE, hJ, hμ⟩ := id hCX
  obtain ⟨hd, hlen, hok⟩ := ok_at hμ hlk
  have hK := hE.1
  have hlsz : c.maxLocals = sl.size := by
    obtain ⟨-, -, lv, h1, -, -⟩ := hS.2.2.1
    rw [hml, h1.1]
  have hln : len = 1 := by simpa [isSw, lenI] using hlen
  subst hln
  rcases st with _ | ⟨x | _, st⟩
  all_goals try cases (show (none : Option ACT) = some (.inl ((pc', ls', st'), hp')) from he)
  obtain ⟨rfl, rfl, rfl, rfl⟩ := aC_inj (show aC (pc + 1) ls st hp = _ from he)
  exact lv_pop hx hb hd rfl (k _ _ _ (st_pop hS))
set_option maxHeartbeats 400000 in
theorem sx_goto (hCX : CXX p l B D G adK adV μ s m sargs meth c) (hRf : d ≤ R.frames) (hRl : 36 * d ≤ R.locals) {off : Int} (hlk : lkp pc (codeOf μ) = some (p0, .goto off, len, a, b, z)) (he : exec1 (.goto off) len a b z d pc ls st hp = some (.inl ((pc', ls', st'), hp')))
    (hS : STt B D G adK s sl (maxOf μ) ls st hp H locs) (k : KKs p l e R s m sargs below meth c Q B D G adK (maxOf μ) pc' ls' st' hp') : W p l e R s m sargs below meth c H locs 0 0 Q (F0 m pc sl (st.map (toV B adK))) := by
  obtain ⟨hx, hb, hml, hown, hts, hr, hlocks, hE, hJ, hμ⟩ := id hCX
  obtain ⟨hd, hlen, hok⟩ := ok_at hμ hlk
  have hK := hE.1
  have hlsz : c.maxLocals = sl.size := by
    obtain ⟨-, -, lv, h1, -, -⟩ := hS.2.2.1
    rw [hml, h1.1]
  have hln : len = 3 := by simpa [isSw, lenI] using hlen
  subst hln
  obtain ⟨rfl, rfl, rfl, rfl⟩ := aC_inj (show aC (tg pc off) ls st hp = _ from he)
  exact lv_goto hx hb hd (tg_of hok) (k _ _ _ hS)
set_option maxHeartbeats 400000 in
theorem sx_if_icmp (hCX : CXX p l B D G adK adV μ s m sargs meth c) (hRf : d ≤ R.frames) (hRl : 36 * d ≤ R.locals) {cd : Jvm.ClassFile.Cond} {off : Int} (hlk : lkp pc (codeOf μ) = some (p0, .if_icmp cd off, len, a, b, z)) (he : exec1 (.if_icmp cd off) len a b z d pc ls st hp = some (.inl ((pc', ls', st'), hp')))
    (hS : STt B D G adK s sl (maxOf μ) ls st hp H locs) (k : KKs p l e R s m sargs below meth c Q B D G adK (maxOf μ) pc' ls' st' hp') : W p l e R s m sargs below meth c H locs 0 0 Q (F0 m pc sl (st.map (toV B adK))) := by
  obtain ⟨hx, hb, hml, hown, hts, hr, hlocks, hE, hJ, hμ⟩ := id hCX
  obtain ⟨hd, hlen, hok⟩ := ok_at hμ hlk
  have hK := hE.1
  have hlsz : c.maxLocals = sl.size := by
    obtain ⟨-, -, lv, h1, -, -⟩ := hS.2.2.1
    rw [hml, h1.1]
  have hln : len = 3 := by simpa [isSw, lenI] using hlen
  subst hln
  rcases st with _ | ⟨y | _, _ | ⟨x | _, st⟩⟩
  all_goals try cases (show (none : Option ACT) = some (.inl ((pc', ls', st'), hp')) from he)
  exact br_sim hx hb hd hok he (st_pop (st_pop hS)) k
set_option maxHeartbeats 400000 in
theorem sx_ifCond (hCX : CXX p l B D G adK adV μ s m sargs meth c) (hRf : d ≤ R.frames) (hRl : 36 * d ≤ R.locals) {cd : Jvm.ClassFile.Cond} {off : Int} (hlk : lkp pc (codeOf μ) = some (p0, .ifCond cd off, len, a, b, z)) (he : exec1 (.ifCond cd off) len a b z d pc ls st hp = some (.inl ((pc', ls', st'), hp')))
    (hS : STt B D G adK s sl (maxOf μ) ls st hp H locs) (k : KKs p l e R s m sargs below meth c Q B D G adK (maxOf μ) pc' ls' st' hp') : W p l e R s m sargs below meth c H locs 0 0 Q (F0 m pc sl (st.map (toV B adK))) := by
  obtain ⟨hx, hb, hml, hown, hts, hr, hlocks, hE, hJ, hμ⟩ := id hCX
  obtain ⟨hd, hlen, hok⟩ := ok_at hμ hlk
  have hK := hE.1
  have hlsz : c.maxLocals = sl.size := by
    obtain ⟨-, -, lv, h1, -, -⟩ := hS.2.2.1
    rw [hml, h1.1]
  have hln : len = 3 := by simpa [isSw, lenI] using hlen
  subst hln
  rcases st with _ | ⟨x | _, st⟩
  all_goals try cases (show (none : Option ACT) = some (.inl ((pc', ls', st'), hp')) from he)
  exact brc_sim hx hb hd hok he (st_pop hS) k
set_option maxHeartbeats 400000 in
theorem sx_ifnull (hCX : CXX p l B D G adK adV μ s m sargs meth c) (hRf : d ≤ R.frames) (hRl : 36 * d ≤ R.locals) {off : Int} (hlk : lkp pc (codeOf μ) = some (p0, .ifnull off, len, a, b, z)) (he : exec1 (.ifnull off) len a b z d pc ls st hp = some (.inl ((pc', ls', st'), hp')))
    (hS : STt B D G adK s sl (maxOf μ) ls st hp H locs) (k : KKs p l e R s m sargs below meth c Q B D G adK (maxOf μ) pc' ls' st' hp') : W p l e R s m sargs below meth c H locs 0 0 Q (F0 m pc sl (st.map (toV B adK))) := by
  obtain ⟨hx, hb, hml, hown, hts, hr, hlocks, hE, hJ, hμ⟩ := id hCX
  obtain ⟨hd, hlen, hok⟩ := ok_at hμ hlk
  have hK := hE.1
  have hlsz : c.maxLocals = sl.size := by
    obtain ⟨-, -, lv, h1, -, -⟩ := hS.2.2.1
    rw [hml, h1.1]
  have hln : len = 3 := by simpa [isSw, lenI] using hlen
  subst hln
  rcases st with _ | ⟨_ | r | _, st⟩
  all_goals try cases (show (none : Option ACT) = some (.inl ((pc', ls', st'), hp')) from he)
  obtain ⟨rfl, rfl, rfl, rfl⟩ := aC_inj (show aC (pc + 3) ls st hp = _ from he)
  exact lv_ifnull hx hb hd (k _ _ _ (st_pop hS))
set_option maxHeartbeats 400000 in
theorem sx_getfield (hCX : CXX p l B D G adK adV μ s m sargs meth c) (hRf : d ≤ R.frames) (hRl : 36 * d ≤ R.locals) {idx : Nat} (hlk : lkp pc (codeOf μ) = some (p0, .getfield idx, len, a, b, z)) (he : exec1 (.getfield idx) len a b z d pc ls st hp = some (.inl ((pc', ls', st'), hp')))
    (hS : STt B D G adK s sl (maxOf μ) ls st hp H locs) (k : KKs p l e R s m sargs below meth c Q B D G adK (maxOf μ) pc' ls' st' hp') : W p l e R s m sargs below meth c H locs 0 0 Q (F0 m pc sl (st.map (toV B adK))) := by
  obtain ⟨hx, hb, hml, hown, hts, hr, hlocks, hE, hJ, hμ⟩ := id hCX
  obtain ⟨hd, hlen, hok⟩ := ok_at hμ hlk
  have hK := hE.1
  have hlsz : c.maxLocals = sl.size := by
    obtain ⟨-, -, lv, h1, -, -⟩ := hS.2.2.1
    rw [hml, h1.1]
  have hln : len = 3 := by simpa [isSw, lenI] using hlen
  subst hln
  rcases st with _ | ⟨_ | r | _, st⟩
  all_goals try cases (show (none : Option ACT) = some (.inl ((pc', ls', st'), hp')) from he)
  have he : (if r.1 = a then (if fK a b = 2 then aC (pc + 3) ls (vR (fref r b) :: st) hp else aC (pc + 3) ls (vI (hp r b) :: st) hp) else none) = some (.inl ((pc', ls', st'), hp')) := he
  by_cases hra : r.1 = a
  · rw [if_pos hra] at he
    have hok2 : (((clOf μ, idx, a, b) ∈ lnkF ∨ (clOf μ, idx, a, b) ∈ lnkFN) ∧ a ≤ 10) ∧ b < nF a := by
      have h := hok
      unfold okL at h
      simpa only [Bool.and_eq_true, Bool.or_eq_true, decide_eq_true_eq] using h
    obtain ⟨⟨hl, ha⟩, hbn⟩ := hok2
    have hr20 : r.1 ≠ 20 := by omega
    have hrA : r ∈ allR := okR_in (hS.2.2.2 _ List.mem_cons_self) hr20
    have hent : (World B G hp)[adr r]? = some (B + adr r, .inr (a, (List.range (nF a)).map (fv B hp r))) := by
      rw [World_get hrA, ent_obj (by omega), hra]
    have hv : ((List.range (nF a)).map (fv B hp r))[b]? = some (fv B hp r b) := by
      rw [List.getElem?_map, List.getElem?_range hbn]
      rfl
    have hsame : ∀ x, s.fieldFound? (TT a b).1 (TT a b).2.1 (TT a b).2.2.1 = some x → s.fieldFound? (clsN a) (TT a b).2.1 (TT a b).2.2.1 = some x := by
      rw [TT_cls a (by omega) b hbn]
      exact fun _ h => h
    have goal : W p l e R s m sargs below meth c H locs 0 0 Q (F0 m (pc + 3) sl (fv B hp r b :: st.map (toV B adK))) := by
      by_cases h2 : fK a b = 2
      · rw [if_pos h2] at he
        obtain ⟨rfl, rfl, rfl, rfl⟩ := aC_inj he
        have hf := fref_ok r hrA b (by rw [hra]; exact hbn) (by rw [hra]; exact h2)
        have hfv : fv B hp' r b = toV B adK (vR (fref r b)) := by
          rw [toV_ref hf.1]
          unfold fv
          rw [hra, if_pos h2]
        rw [hfv]
        exact k _ _ _ (st_push (st_pop hS) (Or.inr hf : okR (fref r b)))
      · rw [if_neg h2] at he
        obtain ⟨rfl, rfl, rfl, rfl⟩ := aC_inj he
        have hfv : fv B hp' r b = toV B adK (vI (hp' r b)) := by
          unfold fv
          rw [hra, if_neg h2]
          rfl
        rw [hfv]
        exact k _ _ _ (st_push (st_pop hS) trivial)
    show W p l e R s m sargs below meth c H locs 0 0 Q (F0 m pc sl (toV B adK (vR r) :: st.map (toV B adK)))
    rw [toV_ref hr20]
    rcases hl with hl | hl
    · have hq2 : (Jvm.Cond.fieldLink (clsN (clOf μ)) idx (clsN a) (TT a b).2.1 (TT a b).2.2.1).before sargs s = true := hts (wF (clOf μ, idx, a, b)) (inG (lnkF_ok _ hl) rfl)
      exact va_get (T := TT a) (N := nF a) (C := clsN a) (ref := clsN a) hx hb hts (layW a ha) hown hK hS.1 (adr r) hent (vwCl_at a ha) b hbn hq2 hsame hv hd goal
    · have hq : va_Nw (wFN (clOf μ, idx, a, b)) s := hE.2.1 _ hl
      have hq2 : (Jvm.Cond.fieldLinkNest (clsN (clOf μ)) idx (clsN a) (TT a b).2.1 (TT a b).2.2.1 "TypebarMachine").before sargs s = true := va_Nw.use (w := wFN (clOf μ, idx, a, b)) rfl hq
      exact va_getN (T := TT a) (N := nF a) (C := clsN a) (ref := clsN a) (host := "TypebarMachine") hx hb hts (layW a ha) hown hK hS.1 (adr r) hent (vwCl_at a ha) b hbn hq2 hsame hv hd goal
  · rw [if_neg hra] at he
    cases he
set_option maxHeartbeats 400000 in
theorem sx_putfield (hCX : CXX p l B D G adK adV μ s m sargs meth c) (hRf : d ≤ R.frames) (hRl : 36 * d ≤ R.locals) {idx : Nat} (hlk : lkp pc (codeOf μ) = some (p0, .putfield idx, len, a, b, z)) (he : exec1 (.putfield idx) len a b z d pc ls st hp = some (.inl ((pc', ls', st'), hp')))
    (hS : STt B D G adK s sl (maxOf μ) ls st hp H locs) (k : KKs p l e R s m sargs below meth c Q B D G adK (maxOf μ) pc' ls' st' hp') : W p l e R s m sargs below meth c H locs 0 0 Q (F0 m pc sl (st.map (toV B adK))) := by
  obtain ⟨hx, hb, hml, hown, hts, hr, hlocks, hE, hJ, hμ⟩ := id hCX
  obtain ⟨hd, hlen, hok⟩ := ok_at hμ hlk
  have hK := hE.1
  have hlsz : c.maxLocals = sl.size := by
    obtain ⟨-, -, lv, h1, -, -⟩ := hS.2.2.1
    rw [hml, h1.1]
  have hln : len = 3 := by simpa [isSw, lenI] using hlen
  subst hln
  rcases st with _ | ⟨x | _, _ | ⟨_ | r | _, st⟩⟩
  all_goals try cases (show (none : Option ACT) = some (.inl ((pc', ls', st'), hp')) from he)
  have he : (if r.1 = a then (if fK a b = 0 then aC (pc + 3) ls st (up hp r b x) else if isB x = true then aC (pc + 3) ls st (up hp r b x) else none) else none) = some (.inl ((pc', ls', st'), hp')) := he
  by_cases hra : r.1 = a
  · rw [if_pos hra] at he
    have hok2 : (((((clOf μ, idx, a, b) ∈ lnkF ∨ (clOf μ, idx, a, b) ∈ lnkFN) ∧ a ≤ 10) ∧ b < nF a) ∧ (TT a b).2.2.2 = false) ∧ fK a b ≤ 1 := by
      have h := hok
      unfold okL at h
      simpa only [Bool.and_eq_true, Bool.or_eq_true, decide_eq_true_eq, Bool.not_eq_true'] using h
    obtain ⟨⟨⟨⟨hl, ha⟩, hbn⟩, hfin⟩, hk1⟩ := hok2
    have hr20 : r.1 ≠ 20 := by omega
    have hS2 := st_pop (st_pop hS)
    have hrA : r ∈ allR := okR_in (hS.2.2.2 _ (List.mem_cons_of_mem _ List.mem_cons_self)) hr20
    have hent : (World B G hp)[adr r]? = some (B + adr r, .inr (a, (List.range (nF a)).map (fv B hp r))) := by
      rw [World_get hrA, ent_obj (by omega), hra]
    have hsame : ∀ x, s.fieldFound? (TT a b).1 (TT a b).2.1 (TT a b).2.2.1 = some x → s.fieldFound? (clsN a) (TT a b).2.1 (TT a b).2.2.1 = some x := by
      rw [TT_cls a (by omega) b hbn]
      exact fun _ h => h
    have h3 : (narrow (tyT a b) (.int x) = .int x ∧ fits (tyT a b) (.int x) = true) ∧ (pc' = pc + 3 ∧ ls' = ls ∧ st' = st ∧ hp' = up hp r b x) := by
      by_cases h0 : fK a b = 0
      · rw [if_pos h0] at he
        rw [TT_k0 a (by omega) b hbn h0]
        exact ⟨⟨vp_nar_int x, rfl⟩, aC_inj he⟩
      · rw [if_neg h0] at he
        by_cases hB : isB x = true
        · rw [if_pos hB] at he
          rw [TT_k1 a (by omega) b hbn (by omega)]
          exact ⟨⟨okB_0 hB, by rcases isB_or hB with rfl | rfl <;> decide⟩, aC_inj he⟩
        · rw [if_neg hB] at he
          cases he
    obtain ⟨⟨hn, hf⟩, rfl, rfl, rfl, rfl⟩ := h3
    have hlen2 : b < ((List.range (nF a)).map (fv B hp r)).length := by simpa using hbn
    have kk : ∀ (H1 : Heap) (locs1 : List Loc), va_P D vwCl ((World B G hp).set (adr r) (B + adr r, .inr (a, ((List.range (nF a)).map (fv B hp r)).set b (.int x)))) H1 → va_D (inA B) ((World B G hp).set (adr r) (B + adr r, .inr (a, ((List.range (nF a)).map (fv B hp r)).set b (.int x)))) → va_S (inA B) s.heap H1 locs1 → W p l e R s m sargs below meth c H1 locs1 0 0 Q (F0 m (pc + 3) sl (st'.map (toV B adK))) := by
      intro H1 locs1 h1 _ h2
      refine k _ _ _ (st_putf hS2 hrA (by omega) (by rw [hra]; omega) ?_ h2)
      rw [hra]
      exact h1
    show W p l e R s m sargs below meth c H locs 0 0 Q (F0 m pc sl (.int x :: toV B adK (vR r) :: st'.map (toV B adK)))
    rw [toV_ref hr20]
    rcases hl with hl | hl
    · have hq2 : (Jvm.Cond.fieldLink (clsN (clOf μ)) idx (clsN a) (TT a b).2.1 (TT a b).2.2.1).before sargs s = true := hts (wF (clOf μ, idx, a, b)) (inG (lnkF_ok _ hl) rfl)
      exact va_put (T := TT a) (N := nF a) (C := clsN a) (ref := clsN a) hx hb hts (layW a ha) (tyT a) (TT_ty a (by omega)) (TT_nm a (by omega)) hown hK hS.1 World_D hS.2.1 (adr r) hent (vwCl_at a ha) b hbn hq2 hsame hfin (TT_ty a (by omega) b hbn) hn hf hlen2 hd kk
    · have hq : va_Nw (wFN (clOf μ, idx, a, b)) s := hE.2.1 _ hl
      have hq2 : (Jvm.Cond.fieldLinkNest (clsN (clOf μ)) idx (clsN a) (TT a b).2.1 (TT a b).2.2.1 "TypebarMachine").before sargs s = true := va_Nw.use (w := wFN (clOf μ, idx, a, b)) rfl hq
      exact va_putN (T := TT a) (N := nF a) (C := clsN a) (ref := clsN a) (host := "TypebarMachine") hx hb hts (layW a ha) (tyT a) (TT_ty a (by omega)) (TT_nm a (by omega)) hown hK hS.1 World_D hS.2.1 (adr r) hent (vwCl_at a ha) b hbn hq2 hsame hfin (TT_ty a (by omega) b hbn) hn hf hlen2 hd kk
  · rw [if_neg hra] at he
    cases he
set_option maxHeartbeats 400000 in
theorem sx_iaload (hCX : CXX p l B D G adK adV μ s m sargs meth c) (hRf : d ≤ R.frames) (hRl : 36 * d ≤ R.locals) (hlk : lkp pc (codeOf μ) = some (p0, .iaload, len, a, b, z)) (he : exec1 (.iaload) len a b z d pc ls st hp = some (.inl ((pc', ls', st'), hp')))
    (hS : STt B D G adK s sl (maxOf μ) ls st hp H locs) (k : KKs p l e R s m sargs below meth c Q B D G adK (maxOf μ) pc' ls' st' hp') : W p l e R s m sargs below meth c H locs 0 0 Q (F0 m pc sl (st.map (toV B adK))) := by
  obtain ⟨hx, hb, hml, hown, hts, hr, hlocks, hE, hJ, hμ⟩ := id hCX
  obtain ⟨hd, hlen, hok⟩ := ok_at hμ hlk
  have hK := hE.1
  have hlsz : c.maxLocals = sl.size := by
    obtain ⟨-, -, lv, h1, -, -⟩ := hS.2.2.1
    rw [hml, h1.1]
  have hln : len = 1 := by simpa [isSw, lenI] using hlen
  subst hln
  rcases st with _ | ⟨j | _, _ | ⟨_ | r | _, st⟩⟩
  all_goals try cases (show (none : Option ACT) = some (.inl ((pc', ls', st'), hp')) from he)
  have he : (if r.1 = 11 then (if inb j (alen r) = true then aC (pc + 1) ls (vI (hp r j.toNatClampNeg) :: st) hp else none) else none) = some (.inl ((pc', ls', st'), hp')) := he
  by_cases hra : r.1 = 11
  · rw [if_pos hra] at he
    by_cases hi : inb j (alen r) = true
    · rw [if_pos hi] at he
      obtain ⟨rfl, rfl, rfl, rfl⟩ := aC_inj he
      have hr20 : r.1 ≠ 20 := by omega
      have hrA : r ∈ allR := okR_in (hS.2.2.2 _ (List.mem_cons_of_mem _ List.mem_cons_self)) hr20
      have hent := World_get (B := B) (G := G) (hp := hp') hrA
      rw [ent_int hra] at hent
      show W p l e R s m sargs below meth c H locs 0 0 Q (F0 m pc sl (.int j :: toV B adK (vR r) :: st.map (toV B adK)))
      rw [toV_ref hr20]
      exact va_iald hx hb hK hS.1 (adr r) 0 hent rfl (inb_in hi) hd (k _ _ _ (st_push (st_pop (st_pop hS)) trivial))
    · rw [if_neg hi] at he
      cases he
  · rw [if_neg hra] at he
    cases he
set_option maxHeartbeats 400000 in
theorem sx_baload (hCX : CXX p l B D G adK adV μ s m sargs meth c) (hRf : d ≤ R.frames) (hRl : 36 * d ≤ R.locals) (hlk : lkp pc (codeOf μ) = some (p0, .baload, len, a, b, z)) (he : exec1 (.baload) len a b z d pc ls st hp = some (.inl ((pc', ls', st'), hp')))
    (hS : STt B D G adK s sl (maxOf μ) ls st hp H locs) (k : KKs p l e R s m sargs below meth c Q B D G adK (maxOf μ) pc' ls' st' hp') : W p l e R s m sargs below meth c H locs 0 0 Q (F0 m pc sl (st.map (toV B adK))) := by
  obtain ⟨hx, hb, hml, hown, hts, hr, hlocks, hE, hJ, hμ⟩ := id hCX
  obtain ⟨hd, hlen, hok⟩ := ok_at hμ hlk
  have hK := hE.1
  have hlsz : c.maxLocals = sl.size := by
    obtain ⟨-, -, lv, h1, -, -⟩ := hS.2.2.1
    rw [hml, h1.1]
  have hln : len = 1 := by simpa [isSw, lenI] using hlen
  subst hln
  rcases st with _ | ⟨j | _, _ | ⟨_ | r | _, st⟩⟩
  all_goals try cases (show (none : Option ACT) = some (.inl ((pc', ls', st'), hp')) from he)
  have he : (if r.1 = 12 then (if inb j (alen r) = true then aC (pc + 1) ls (vI (hp r j.toNatClampNeg) :: st) hp else none) else none) = some (.inl ((pc', ls', st'), hp')) := he
  by_cases hra : r.1 = 12
  · rw [if_pos hra] at he
    by_cases hi : inb j (alen r) = true
    · rw [if_pos hi] at he
      obtain ⟨rfl, rfl, rfl, rfl⟩ := aC_inj he
      have hr20 : r.1 ≠ 20 := by omega
      have hrA : r ∈ allR := okR_in (hS.2.2.2 _ (List.mem_cons_of_mem _ List.mem_cons_self)) hr20
      have hent := World_get (B := B) (G := G) (hp := hp') hrA
      rw [ent_boo hra] at hent
      show W p l e R s m sargs below meth c H locs 0 0 Q (F0 m pc sl (.int j :: toV B adK (vR r) :: st.map (toV B adK)))
      rw [toV_ref hr20]
      have h2 : alen r = 2 := by unfold alen; rw [if_neg (by omega), if_pos hra]
      rw [h2] at hi
      exact va_zald hx hb hK hS.1 (adr r) 1 hent rfl (inb_in hi) hd (k _ _ _ (st_push (st_pop (st_pop hS)) trivial))
    · rw [if_neg hi] at he
      cases he
  · rw [if_neg hra] at he
    cases he
set_option maxHeartbeats 400000 in
theorem sx_aaload (hCX : CXX p l B D G adK adV μ s m sargs meth c) (hRf : d ≤ R.frames) (hRl : 36 * d ≤ R.locals) (hlk : lkp pc (codeOf μ) = some (p0, .aaload, len, a, b, z)) (he : exec1 (.aaload) len a b z d pc ls st hp = some (.inl ((pc', ls', st'), hp')))
    (hS : STt B D G adK s sl (maxOf μ) ls st hp H locs) (k : KKs p l e R s m sargs below meth c Q B D G adK (maxOf μ) pc' ls' st' hp') : W p l e R s m sargs below meth c H locs 0 0 Q (F0 m pc sl (st.map (toV B adK))) := by
  obtain ⟨hx, hb, hml, hown, hts, hr, hlocks, hE, hJ, hμ⟩ := id hCX
  obtain ⟨hd, hlen, hok⟩ := ok_at hμ hlk
  have hK := hE.1
  have hlsz : c.maxLocals = sl.size := by
    obtain ⟨-, -, lv, h1, -, -⟩ := hS.2.2.1
    rw [hml, h1.1]
  have hln : len = 1 := by simpa [isSw, lenI] using hlen
  subst hln
  rcases st with _ | ⟨j | _, _ | ⟨_ | r | _, st⟩⟩
  all_goals try cases (show (none : Option ACT) = some (.inl ((pc', ls', st'), hp')) from he)
  have he : (if r.1 = 13 then (if inb j 8 = true then aC (pc + 1) ls (vR (3, 0, 2 + j.toNatClampNeg) :: st) hp else none) else none) = some (.inl ((pc', ls', st'), hp')) := he
  by_cases hra : r.1 = 13
  · rw [if_pos hra] at he
    by_cases hi : inb j 8 = true
    · rw [if_pos hi] at he
      obtain ⟨rfl, rfl, rfl, rfl⟩ := aC_inj he
      have hr20 : r.1 ≠ 20 := by omega
      have hrA : r ∈ allR := okR_in (hS.2.2.2 _ (List.mem_cons_of_mem _ List.mem_cons_self)) hr20
      have hent := World_get (B := B) (G := G) (hp := hp') hrA
      rw [ent_ref hra] at hent
      show W p l e R s m sargs below meth c H locs 0 0 Q (F0 m pc sl (.int j :: toV B adK (vR r) :: st.map (toV B adK)))
      rw [toV_ref hr20]
      have hk8 := kept_ok j.toNatClampNeg (inb_lt hi)
      have h20 : ((3, 0, 2 + j.toNatClampNeg) : RF).1 ≠ 20 := by show ¬ (3 : Nat) = 20; decide
      refine va_aldq hx hb hK hS.1 (adr r) 2 hent rfl (inb_in hi) hd ?_
      have hg := k _ _ _ (st_push (st_pop (st_pop hS)) (hk8 : okV (vR (3, 0, 2 + j.toNatClampNeg))))
      rw [List.map_cons, toV_ref h20] at hg
      exact hg
    · rw [if_neg hi] at he
      cases he
  · rw [if_neg hra] at he
    cases he
set_option maxHeartbeats 400000 in
theorem sx_iastore (hCX : CXX p l B D G adK adV μ s m sargs meth c) (hRf : d ≤ R.frames) (hRl : 36 * d ≤ R.locals) (hlk : lkp pc (codeOf μ) = some (p0, .iastore, len, a, b, z)) (he : exec1 (.iastore) len a b z d pc ls st hp = some (.inl ((pc', ls', st'), hp')))
    (hS : STt B D G adK s sl (maxOf μ) ls st hp H locs) (k : KKs p l e R s m sargs below meth c Q B D G adK (maxOf μ) pc' ls' st' hp') : W p l e R s m sargs below meth c H locs 0 0 Q (F0 m pc sl (st.map (toV B adK))) := by
  obtain ⟨hx, hb, hml, hown, hts, hr, hlocks, hE, hJ, hμ⟩ := id hCX
  obtain ⟨hd, hlen, hok⟩ := ok_at hμ hlk
  have hK := hE.1
  have hlsz : c.maxLocals = sl.size := by
    obtain ⟨-, -, lv, h1, -, -⟩ := hS.2.2.1
    rw [hml, h1.1]
  have hln : len = 1 := by simpa [isSw, lenI] using hlen
  subst hln
  rcases st with _ | ⟨x | _, _ | ⟨j | _, _ | ⟨_ | r | _, st⟩⟩⟩
  all_goals try cases (show (none : Option ACT) = some (.inl ((pc', ls', st'), hp')) from he)
  have he : (if r.1 = 11 then (if inb j (alen r) = true then aC (pc + 1) ls st (up hp r j.toNatClampNeg x) else none) else none) = some (.inl ((pc', ls', st'), hp')) := he
  by_cases hra : r.1 = 11
  · rw [if_pos hra] at he
    by_cases hi : inb j (alen r) = true
    · rw [if_pos hi] at he
      obtain ⟨rfl, rfl, rfl, rfl⟩ := aC_inj he
      have hr20 : r.1 ≠ 20 := by omega
      have hrA : r ∈ allR := okR_in (hS.2.2.2 _ (List.mem_cons_of_mem _ (List.mem_cons_of_mem _ List.mem_cons_self))) hr20
      have hent := World_get (B := B) (G := G) (hp := hp) hrA
      rw [ent_int hra] at hent
      show W p l e R s m sargs below meth c H locs 0 0 Q (F0 m pc sl (.int x :: .int j :: toV B adK (vR r) :: st'.map (toV B adK)))
      rw [toV_ref hr20]
      refine va_iast hx hb hK hS.1 World_D hS.2.1 (adr r) 0 hent rfl (inb_in hi) hd (fun H1 locs1 h1 _ h2 => k _ _ _ (st_puta (st_pop (st_pop (st_pop hS))) hrA ?_ h1 h2))
      rw [ent_int hra, up_self]
    · rw [if_neg hi] at he
      cases he
  · rw [if_neg hra] at he
    cases he
set_option maxHeartbeats 400000 in
theorem sx_bastore (hCX : CXX p l B D G adK adV μ s m sargs meth c) (hRf : d ≤ R.frames) (hRl : 36 * d ≤ R.locals) (hlk : lkp pc (codeOf μ) = some (p0, .bastore, len, a, b, z)) (he : exec1 (.bastore) len a b z d pc ls st hp = some (.inl ((pc', ls', st'), hp')))
    (hS : STt B D G adK s sl (maxOf μ) ls st hp H locs) (k : KKs p l e R s m sargs below meth c Q B D G adK (maxOf μ) pc' ls' st' hp') : W p l e R s m sargs below meth c H locs 0 0 Q (F0 m pc sl (st.map (toV B adK))) := by
  obtain ⟨hx, hb, hml, hown, hts, hr, hlocks, hE, hJ, hμ⟩ := id hCX
  obtain ⟨hd, hlen, hok⟩ := ok_at hμ hlk
  have hK := hE.1
  have hlsz : c.maxLocals = sl.size := by
    obtain ⟨-, -, lv, h1, -, -⟩ := hS.2.2.1
    rw [hml, h1.1]
  have hln : len = 1 := by simpa [isSw, lenI] using hlen
  subst hln
  rcases st with _ | ⟨x | _, _ | ⟨j | _, _ | ⟨_ | r | _, st⟩⟩⟩
  all_goals try cases (show (none : Option ACT) = some (.inl ((pc', ls', st'), hp')) from he)
  have he : (if r.1 = 12 then (if inb j (alen r) = true then (if isB x = true then aC (pc + 1) ls st (up hp r j.toNatClampNeg x) else none) else none) else none) = some (.inl ((pc', ls', st'), hp')) := he
  by_cases hra : r.1 = 12
  · rw [if_pos hra] at he
    by_cases hi : inb j (alen r) = true
    · rw [if_pos hi] at he
      by_cases hB : isB x = true
      · rw [if_pos hB] at he
        obtain ⟨rfl, rfl, rfl, rfl⟩ := aC_inj he
        have hr20 : r.1 ≠ 20 := by omega
        have hrA : r ∈ allR := okR_in (hS.2.2.2 _ (List.mem_cons_of_mem _ (List.mem_cons_of_mem _ List.mem_cons_self))) hr20
        have hent := World_get (B := B) (G := G) (hp := hp) hrA
        rw [ent_boo hra] at hent
        have h2 : alen r = 2 := by unfold alen; rw [if_neg (by omega), if_pos hra]
        rw [h2] at hi
        show W p l e R s m sargs below meth c H locs 0 0 Q (F0 m pc sl (.int x :: .int j :: toV B adK (vR r) :: st'.map (toV B adK)))
        rw [toV_ref hr20]
        refine va_zast hx hb hK hS.1 World_D hS.2.1 (adr r) 1 hent rfl (inb_in hi) hd (fun H1 locs1 h1 _ h2 => k _ _ _ (st_puta (st_pop (st_pop (st_pop hS))) hrA ?_ h1 h2))
        rw [ent_boo hra, up_self, nar_B hB]
      · rw [if_neg hB] at he
        cases he
    · rw [if_neg hi] at he
      cases he
  · rw [if_neg hra] at he
    cases he
set_option maxHeartbeats 400000 in
theorem sx_arraylength (hCX : CXX p l B D G adK adV μ s m sargs meth c) (hRf : d ≤ R.frames) (hRl : 36 * d ≤ R.locals) (hlk : lkp pc (codeOf μ) = some (p0, .arraylength, len, a, b, z)) (he : exec1 (.arraylength) len a b z d pc ls st hp = some (.inl ((pc', ls', st'), hp')))
    (hS : STt B D G adK s sl (maxOf μ) ls st hp H locs) (k : KKs p l e R s m sargs below meth c Q B D G adK (maxOf μ) pc' ls' st' hp') : W p l e R s m sargs below meth c H locs 0 0 Q (F0 m pc sl (st.map (toV B adK))) := by
  obtain ⟨hx, hb, hml, hown, hts, hr, hlocks, hE, hJ, hμ⟩ := id hCX
  obtain ⟨hd, hlen, hok⟩ := ok_at hμ hlk
  have hK := hE.1
  have hlsz : c.maxLocals = sl.size := by
    obtain ⟨-, -, lv, h1, -, -⟩ := hS.2.2.1
    rw [hml, h1.1]
  have hln : len = 1 := by simpa [isSw, lenI] using hlen
  subst hln
  rcases st with _ | ⟨_ | r | _, st⟩
  all_goals try cases (show (none : Option ACT) = some (.inl ((pc', ls', st'), hp')) from he)
  have he : (if 11 ≤ r.1 ∧ r.1 ≠ 20 then aC (pc + 1) ls (vI (nI (alen r)) :: st) hp else none) = some (.inl ((pc', ls', st'), hp')) := he
  by_cases hra : 11 ≤ r.1 ∧ r.1 ≠ 20
  · rw [if_pos hra] at he
    obtain ⟨rfl, rfl, rfl, rfl⟩ := aC_inj he
    have hrA : r ∈ allR := okR_in (hS.2.2.2 _ List.mem_cons_self) hra.2
    have h13 := allR_cls r hrA
    have hent := World_get (B := B) (G := G) (hp := hp') hrA
    have hg := k _ _ _ (st_push (st_pop hS) (trivial : okV (vI (nI (alen r)))))
    show W p l e R s m sargs below meth c H locs 0 0 Q (F0 m pc sl (toV B adK (vR r) :: st.map (toV B adK)))
    rw [toV_ref hra.2]
    rcases (show r.1 = 11 ∨ r.1 = 12 ∨ r.1 = 13 by omega) with h | h | h
    · rw [ent_int h] at hent
      exact va_alen hx hb hK hS.1 (adr r) 0 hent rfl rfl hd hg
    · rw [ent_boo h] at hent
      have h2 : alen r = 2 := by unfold alen; rw [if_neg (by omega), if_pos h]
      rw [h2] at hg
      exact va_alen hx hb hK hS.1 (adr r) 1 hent rfl rfl hd hg
    · rw [ent_ref h] at hent
      have h2 : alen r = 8 := by unfold alen; rw [if_neg (by omega), if_neg (by omega)]
      rw [h2] at hg
      exact va_alen hx hb hK hS.1 (adr r) 2 hent rfl rfl hd hg
  · rw [if_neg hra] at he
    cases he
set_option maxHeartbeats 400000 in
theorem sx_i2d (hCX : CXX p l B D G adK adV μ s m sargs meth c) (hRf : d ≤ R.frames) (hRl : 36 * d ≤ R.locals) (hlk : lkp pc (codeOf μ) = some (p0, .i2d, len, a, b, z)) (he : exec1 (.i2d) len a b z d pc ls st hp = some (.inl ((pc', ls', st'), hp')))
    (hS : STt B D G adK s sl (maxOf μ) ls st hp H locs) (k : KKs p l e R s m sargs below meth c Q B D G adK (maxOf μ) pc' ls' st' hp') : W p l e R s m sargs below meth c H locs 0 0 Q (F0 m pc sl (st.map (toV B adK))) := by
  obtain ⟨hx, hb, hml, hown, hts, hr, hlocks, hE, hJ, hμ⟩ := id hCX
  obtain ⟨hd, hlen, hok⟩ := ok_at hμ hlk
  have hK := hE.1
  have hlsz : c.maxLocals = sl.size := by
    obtain ⟨-, -, lv, h1, -, -⟩ := hS.2.2.1
    rw [hml, h1.1]
  have hln : len = 1 := by simpa [isSw, lenI] using hlen
  subst hln
  rcases st with _ | ⟨x | _, st⟩
  all_goals try cases (show (none : Option ACT) = some (.inl ((pc', ls', st'), hp')) from he)
  obtain ⟨rfl, rfl, rfl, rfl⟩ := aC_inj (show aC (pc + 1) ls (vD (FP.i2d x) :: st) hp = _ from he)
  exact lv_i2d hx hb hd (k _ _ _ (st_push (st_pop hS) trivial))
set_option maxHeartbeats 400000 in
theorem sx_i2f (hCX : CXX p l B D G adK adV μ s m sargs meth c) (hRf : d ≤ R.frames) (hRl : 36 * d ≤ R.locals) (hlk : lkp pc (codeOf μ) = some (p0, .i2f, len, a, b, z)) (he : exec1 (.i2f) len a b z d pc ls st hp = some (.inl ((pc', ls', st'), hp')))
    (hS : STt B D G adK s sl (maxOf μ) ls st hp H locs) (k : KKs p l e R s m sargs below meth c Q B D G adK (maxOf μ) pc' ls' st' hp') : W p l e R s m sargs below meth c H locs 0 0 Q (F0 m pc sl (st.map (toV B adK))) := by
  obtain ⟨hx, hb, hml, hown, hts, hr, hlocks, hE, hJ, hμ⟩ := id hCX
  obtain ⟨hd, hlen, hok⟩ := ok_at hμ hlk
  have hK := hE.1
  have hlsz : c.maxLocals = sl.size := by
    obtain ⟨-, -, lv, h1, -, -⟩ := hS.2.2.1
    rw [hml, h1.1]
  have hln : len = 1 := by simpa [isSw, lenI] using hlen
  subst hln
  rcases st with _ | ⟨x | _, st⟩
  all_goals try cases (show (none : Option ACT) = some (.inl ((pc', ls', st'), hp')) from he)
  obtain ⟨rfl, rfl, rfl, rfl⟩ := aC_inj (show aC (pc + 1) ls (vF (FP.i2f x) :: st) hp = _ from he)
  exact lv_i2f hx hb hd (k _ _ _ (st_push (st_pop hS) trivial))
set_option maxHeartbeats 400000 in
theorem sx_ddiv (hCX : CXX p l B D G adK adV μ s m sargs meth c) (hRf : d ≤ R.frames) (hRl : 36 * d ≤ R.locals) (hlk : lkp pc (codeOf μ) = some (p0, .ddiv, len, a, b, z)) (he : exec1 (.ddiv) len a b z d pc ls st hp = some (.inl ((pc', ls', st'), hp')))
    (hS : STt B D G adK s sl (maxOf μ) ls st hp H locs) (k : KKs p l e R s m sargs below meth c Q B D G adK (maxOf μ) pc' ls' st' hp') : W p l e R s m sargs below meth c H locs 0 0 Q (F0 m pc sl (st.map (toV B adK))) := by
  obtain ⟨hx, hb, hml, hown, hts, hr, hlocks, hE, hJ, hμ⟩ := id hCX
  obtain ⟨hd, hlen, hok⟩ := ok_at hμ hlk
  have hK := hE.1
  have hlsz : c.maxLocals = sl.size := by
    obtain ⟨-, -, lv, h1, -, -⟩ := hS.2.2.1
    rw [hml, h1.1]
  have hln : len = 1 := by simpa [isSw, lenI] using hlen
  subst hln
  rcases st with _ | ⟨_ | _ | y | _, _ | ⟨_ | _ | x | _, st⟩⟩
  all_goals try cases (show (none : Option ACT) = some (.inl ((pc', ls', st'), hp')) from he)
  have he : (if okD (FP.ddiv x y) = true then aC (pc + 1) ls (vD (FP.ddiv x y) :: st) hp else none) = some (.inl ((pc', ls', st'), hp')) := he
  by_cases h0 : okD (FP.ddiv x y) = true
  · rw [if_pos h0] at he
    obtain ⟨rfl, rfl, rfl, rfl⟩ := aC_inj he
    have h1 : vf_n64 (FP.ddiv x y) := of_decide_eq_true (p := (FP.ddiv x y &&& 0x7fffffffffffffff ≤ 0x7ff0000000000000)) h0
    exact lv_ddiv hx hb hd h1 (k _ _ _ (st_push (st_pop (st_pop hS)) trivial))
  · rw [if_neg h0] at he
    cases he
set_option maxHeartbeats 400000 in
theorem sx_fdiv (hCX : CXX p l B D G adK adV μ s m sargs meth c) (hRf : d ≤ R.frames) (hRl : 36 * d ≤ R.locals) (hlk : lkp pc (codeOf μ) = some (p0, .fdiv, len, a, b, z)) (he : exec1 (.fdiv) len a b z d pc ls st hp = some (.inl ((pc', ls', st'), hp')))
    (hS : STt B D G adK s sl (maxOf μ) ls st hp H locs) (k : KKs p l e R s m sargs below meth c Q B D G adK (maxOf μ) pc' ls' st' hp') : W p l e R s m sargs below meth c H locs 0 0 Q (F0 m pc sl (st.map (toV B adK))) := by
  obtain ⟨hx, hb, hml, hown, hts, hr, hlocks, hE, hJ, hμ⟩ := id hCX
  obtain ⟨hd, hlen, hok⟩ := ok_at hμ hlk
  have hK := hE.1
  have hlsz : c.maxLocals = sl.size := by
    obtain ⟨-, -, lv, h1, -, -⟩ := hS.2.2.1
    rw [hml, h1.1]
  have hln : len = 1 := by simpa [isSw, lenI] using hlen
  subst hln
  rcases st with _ | ⟨_ | _ | _ | y, _ | ⟨_ | _ | _ | x, st⟩⟩
  all_goals try cases (show (none : Option ACT) = some (.inl ((pc', ls', st'), hp')) from he)
  have he : (if okF (FP.fdiv x y) = true then aC (pc + 1) ls (vF (FP.fdiv x y) :: st) hp else none) = some (.inl ((pc', ls', st'), hp')) := he
  by_cases h0 : okF (FP.fdiv x y) = true
  · rw [if_pos h0] at he
    obtain ⟨rfl, rfl, rfl, rfl⟩ := aC_inj he
    have h1 : vf_n32 (FP.fdiv x y) := of_decide_eq_true (p := (FP.fdiv x y &&& 0x7fffffff ≤ 0x7f800000)) h0
    exact lv_fdiv hx hb hd h1 (k _ _ _ (st_push (st_pop (st_pop hS)) trivial))
  · rw [if_neg h0] at he
    cases he
set_option maxHeartbeats 400000 in
theorem sx_dconst (hCX : CXX p l B D G adK adV μ s m sargs meth c) (hRf : d ≤ R.frames) (hRl : 36 * d ≤ R.locals) {kk : Fin 2} (hlk : lkp pc (codeOf μ) = some (p0, .dconst kk, len, a, b, z)) (he : exec1 (.dconst kk) len a b z d pc ls st hp = some (.inl ((pc', ls', st'), hp')))
    (hS : STt B D G adK s sl (maxOf μ) ls st hp H locs) (k : KKs p l e R s m sargs below meth c Q B D G adK (maxOf μ) pc' ls' st' hp') : W p l e R s m sargs below meth c H locs 0 0 Q (F0 m pc sl (st.map (toV B adK))) := by
  obtain ⟨hx, hb, hml, hown, hts, hr, hlocks, hE, hJ, hμ⟩ := id hCX
  obtain ⟨hd, hlen, hok⟩ := ok_at hμ hlk
  have hK := hE.1
  have hlsz : c.maxLocals = sl.size := by
    obtain ⟨-, -, lv, h1, -, -⟩ := hS.2.2.1
    rw [hml, h1.1]
  have hln : len = 1 := by simpa [isSw, lenI] using hlen
  subst hln
  have he : (if kk = 0 then aC (pc + 1) ls (vD FP.dconst0 :: st) hp else none) = some (.inl ((pc', ls', st'), hp')) := he
  by_cases h0 : kk = 0
  · rw [if_pos h0] at he
    obtain ⟨rfl, rfl, rfl, rfl⟩ := aC_inj he
    subst h0
    exact lv_dconst0 hx hb hd (k _ _ _ (st_push hS trivial))
  · rw [if_neg h0] at he
    cases he
set_option maxHeartbeats 400000 in
theorem sx_fconst (hCX : CXX p l B D G adK adV μ s m sargs meth c) (hRf : d ≤ R.frames) (hRl : 36 * d ≤ R.locals) {kk : Fin 3} (hlk : lkp pc (codeOf μ) = some (p0, .fconst kk, len, a, b, z)) (he : exec1 (.fconst kk) len a b z d pc ls st hp = some (.inl ((pc', ls', st'), hp')))
    (hS : STt B D G adK s sl (maxOf μ) ls st hp H locs) (k : KKs p l e R s m sargs below meth c Q B D G adK (maxOf μ) pc' ls' st' hp') : W p l e R s m sargs below meth c H locs 0 0 Q (F0 m pc sl (st.map (toV B adK))) := by
  obtain ⟨hx, hb, hml, hown, hts, hr, hlocks, hE, hJ, hμ⟩ := id hCX
  obtain ⟨hd, hlen, hok⟩ := ok_at hμ hlk
  have hK := hE.1
  have hlsz : c.maxLocals = sl.size := by
    obtain ⟨-, -, lv, h1, -, -⟩ := hS.2.2.1
    rw [hml, h1.1]
  have hln : len = 1 := by simpa [isSw, lenI] using hlen
  subst hln
  have he : (if kk = 0 then aC (pc + 1) ls (vF FP.fconst0 :: st) hp else none) = some (.inl ((pc', ls', st'), hp')) := he
  by_cases h0 : kk = 0
  · rw [if_pos h0] at he
    obtain ⟨rfl, rfl, rfl, rfl⟩ := aC_inj he
    subst h0
    exact lv_fconst0 hx hb hd (k _ _ _ (st_push hS trivial))
  · rw [if_neg h0] at he
    cases he
set_option maxHeartbeats 400000 in
theorem sx_ldc (hCX : CXX p l B D G adK adV μ s m sargs meth c) (hRf : d ≤ R.frames) (hRl : 36 * d ≤ R.locals) {idx : Nat} (hlk : lkp pc (codeOf μ) = some (p0, .ldc idx, len, a, b, z)) (he : exec1 (.ldc idx) len a b z d pc ls st hp = some (.inl ((pc', ls', st'), hp')))
    (hS : STt B D G adK s sl (maxOf μ) ls st hp H locs) (k : KKs p l e R s m sargs below meth c Q B D G adK (maxOf μ) pc' ls' st' hp') : W p l e R s m sargs below meth c H locs 0 0 Q (F0 m pc sl (st.map (toV B adK))) := by
  obtain ⟨hx, hb, hml, hown, hts, hr, hlocks, hE, hJ, hμ⟩ := id hCX
  obtain ⟨hd, hlen, hok⟩ := ok_at hμ hlk
  have hK := hE.1
  have hlsz : c.maxLocals = sl.size := by
    obtain ⟨-, -, lv, h1, -, -⟩ := hS.2.2.1
    rw [hml, h1.1]
  have hln : len = 2 := by simpa [isSw, lenI] using hlen
  subst hln
  obtain ⟨rfl, rfl, rfl, rfl⟩ := aC_inj (show aC (pc + 2) ls (vR (20, a, 0) :: st) hp = _ from he)
  have hm : (clOf μ, idx, a) ∈ lnkL := by
    have h := hok
    unfold okL at h
    simpa only [decide_eq_true_eq] using h
  have ha : a < 5 := lnkL_lt _ hm
  have hZ : vk_R (clsN (clOf μ)) idx (txS a) (adK a) s := hE.2.2.2.2 (clOf μ, idx, a) hm
  exact va_ldcS hx hb hown hZ hd (k _ _ _ (st_push hS (Or.inl ⟨rfl, ha⟩ : okR (20, a, 0))))
set_option maxHeartbeats 400000 in
theorem sx_tableswitch (hCX : CXX p l B D G adK adV μ s m sargs meth c) (hRf : d ≤ R.frames) (hRl : 36 * d ≤ R.locals) {dflt : Int} {lo : Int} {hi : Int} {offs : Array Int} (hlk : lkp pc (codeOf μ) = some (p0, .tableswitch dflt lo hi offs, len, a, b, z)) (he : exec1 (.tableswitch dflt lo hi offs) len a b z d pc ls st hp = some (.inl ((pc', ls', st'), hp')))
    (hS : STt B D G adK s sl (maxOf μ) ls st hp H locs) (k : KKs p l e R s m sargs below meth c Q B D G adK (maxOf μ) pc' ls' st' hp') : W p l e R s m sargs below meth c H locs 0 0 Q (F0 m pc sl (st.map (toV B adK))) := by
  obtain ⟨hx, hb, hml, hown, hts, hr, hlocks, hE, hJ, hμ⟩ := id hCX
  obtain ⟨hd, hlen, hok⟩ := ok_at hμ hlk
  have hK := hE.1
  have hlsz : c.maxLocals = sl.size := by
    obtain ⟨-, -, lv, h1, -, -⟩ := hS.2.2.1
    rw [hml, h1.1]
  rcases st with _ | ⟨x | _, st⟩
  all_goals try cases (show (none : Option ACT) = some (.inl ((pc', ls', st'), hp')) from he)
  exact tsw_sim (a := clOf μ) (z := z) hx hb hd (show okL (clOf μ) (maxOf μ) none pc (.tableswitch dflt lo hi offs) 0 0 z = true from hok) he (st_pop hS) k
set_option maxHeartbeats 400000 in
theorem sx_lookupswitch (hCX : CXX p l B D G adK adV μ s m sargs meth c) (hRf : d ≤ R.frames) (hRl : 36 * d ≤ R.locals) {dflt : Int} {ps : Array (Int × Int)} (hlk : lkp pc (codeOf μ) = some (p0, .lookupswitch dflt ps, len, a, b, z)) (he : exec1 (.lookupswitch dflt ps) len a b z d pc ls st hp = some (.inl ((pc', ls', st'), hp')))
    (hS : STt B D G adK s sl (maxOf μ) ls st hp H locs) (k : KKs p l e R s m sargs below meth c Q B D G adK (maxOf μ) pc' ls' st' hp') : W p l e R s m sargs below meth c H locs 0 0 Q (F0 m pc sl (st.map (toV B adK))) := by
  obtain ⟨hx, hb, hml, hown, hts, hr, hlocks, hE, hJ, hμ⟩ := id hCX
  obtain ⟨hd, hlen, hok⟩ := ok_at hμ hlk
  have hK := hE.1
  have hlsz : c.maxLocals = sl.size := by
    obtain ⟨-, -, lv, h1, -, -⟩ := hS.2.2.1
    rw [hml, h1.1]
  rcases st with _ | ⟨x | _, st⟩
  all_goals try cases (show (none : Option ACT) = some (.inl ((pc', ls', st'), hp')) from he)
  exact lsw_sim (a := clOf μ) (z := z) hx hb hd (show okL (clOf μ) (maxOf μ) none pc (.lookupswitch dflt ps) 0 0 z = true from hok) he (st_pop hS) k
set_option maxHeartbeats 400000 in
theorem sx_invokevirtual (hCX : CXX p l B D G adK adV μ s m sargs meth c) (hRf : d ≤ R.frames) (hRl : 36 * d ≤ R.locals) {idx : Nat} (hlk : lkp pc (codeOf μ) = some (p0, .invokevirtual idx, len, a, b, z)) (he : exec1 (.invokevirtual idx) len a b z d pc ls st hp = some (.inl ((pc', ls', st'), hp')))
    (hS : STt B D G adK s sl (maxOf μ) ls st hp H locs) (k : KKs p l e R s m sargs below meth c Q B D G adK (maxOf μ) pc' ls' st' hp') : W p l e R s m sargs below meth c H locs 0 0 Q (F0 m pc sl (st.map (toV B adK))) := by
  obtain ⟨hx, hb, hml, hown, hts, hr, hlocks, hE, hJ, hμ⟩ := id hCX
  obtain ⟨hd, hlen, hok⟩ := ok_at hμ hlk
  have hK := hE.1
  have hlsz : c.maxLocals = sl.size := by
    obtain ⟨-, -, lv, h1, -, -⟩ := hS.2.2.1
    rw [hml, h1.1]
  have hln : len = 3 := by simpa [isSw, lenI] using hlen
  subst hln
  exact bv_sim hCX hRf hRl hd hok he hS k
set_option maxHeartbeats 400000 in
theorem sx_invokestatic (hCX : CXX p l B D G adK adV μ s m sargs meth c) (hRf : d ≤ R.frames) (hRl : 36 * d ≤ R.locals) {idx : Nat} (hlk : lkp pc (codeOf μ) = some (p0, .invokestatic idx, len, a, b, z)) (he : exec1 (.invokestatic idx) len a b z d pc ls st hp = some (.inl ((pc', ls', st'), hp')))
    (hS : STt B D G adK s sl (maxOf μ) ls st hp H locs) (k : KKs p l e R s m sargs below meth c Q B D G adK (maxOf μ) pc' ls' st' hp') : W p l e R s m sargs below meth c H locs 0 0 Q (F0 m pc sl (st.map (toV B adK))) := by
  obtain ⟨hx, hb, hml, hown, hts, hr, hlocks, hE, hJ, hμ⟩ := id hCX
  obtain ⟨hd, hlen, hok⟩ := ok_at hμ hlk
  have hK := hE.1
  have hlsz : c.maxLocals = sl.size := by
    obtain ⟨-, -, lv, h1, -, -⟩ := hS.2.2.1
    rw [hml, h1.1]
  have hln : len = 3 := by simpa [isSw, lenI] using hlen
  subst hln
  exact bs_sim hCX hRf hRl hlsz hd hok he hS k
set_option maxHeartbeats 400000 in
theorem sx_ireturn (hCX : CXX p l B D G adK adV μ s m sargs meth c) (hRf : d ≤ R.frames) (hRl : 36 * d ≤ R.locals) (hlk : lkp pc (codeOf μ) = some (p0, .ireturn, len, a, b, z)) (he : exec1 (.ireturn) len a b z d pc ls st hp = some (.inl ((pc', ls', st'), hp')))
    (hS : STt B D G adK s sl (maxOf μ) ls st hp H locs) (k : KKs p l e R s m sargs below meth c Q B D G adK (maxOf μ) pc' ls' st' hp') : W p l e R s m sargs below meth c H locs 0 0 Q (F0 m pc sl (st.map (toV B adK))) := by
  obtain ⟨hx, hb, hml, hown, hts, hr, hlocks, hE, hJ, hμ⟩ := id hCX
  obtain ⟨hd, hlen, hok⟩ := ok_at hμ hlk
  have hK := hE.1
  have hlsz : c.maxLocals = sl.size := by
    obtain ⟨-, -, lv, h1, -, -⟩ := hS.2.2.1
    rw [hml, h1.1]
  exfalso
  rcases st with _ | ⟨x | _, _ | ⟨_, _⟩⟩
  all_goals try cases (show (none : Option ACT) = some (.inl ((pc', ls', st'), hp')) from he)
  have he : (if a = 1 then (if isB x = true then aRet (some (vI x)) else none) else aRet (some (vI x))) = some (.inl ((pc', ls', st'), hp')) := he
  split at he
  · split at he
    · cases he
    · cases he
  · cases he
set_option maxHeartbeats 400000 in
theorem sx_areturn (hCX : CXX p l B D G adK adV μ s m sargs meth c) (hRf : d ≤ R.frames) (hRl : 36 * d ≤ R.locals) (hlk : lkp pc (codeOf μ) = some (p0, .areturn, len, a, b, z)) (he : exec1 (.areturn) len a b z d pc ls st hp = some (.inl ((pc', ls', st'), hp')))
    (hS : STt B D G adK s sl (maxOf μ) ls st hp H locs) (k : KKs p l e R s m sargs below meth c Q B D G adK (maxOf μ) pc' ls' st' hp') : W p l e R s m sargs below meth c H locs 0 0 Q (F0 m pc sl (st.map (toV B adK))) := by
  obtain ⟨hx, hb, hml, hown, hts, hr, hlocks, hE, hJ, hμ⟩ := id hCX
  obtain ⟨hd, hlen, hok⟩ := ok_at hμ hlk
  have hK := hE.1
  have hlsz : c.maxLocals = sl.size := by
    obtain ⟨-, -, lv, h1, -, -⟩ := hS.2.2.1
    rw [hml, h1.1]
  exfalso
  rcases st with _ | ⟨_ | r | _, _ | ⟨_, _⟩⟩
  all_goals try cases (show (none : Option ACT) = some (.inl ((pc', ls', st'), hp')) from he)
  cases (show aRet (some (vR r)) = some (.inl ((pc', ls', st'), hp')) from he)
set_option maxHeartbeats 400000 in
theorem sx_dreturn (hCX : CXX p l B D G adK adV μ s m sargs meth c) (hRf : d ≤ R.frames) (hRl : 36 * d ≤ R.locals) (hlk : lkp pc (codeOf μ) = some (p0, .dreturn, len, a, b, z)) (he : exec1 (.dreturn) len a b z d pc ls st hp = some (.inl ((pc', ls', st'), hp')))
    (hS : STt B D G adK s sl (maxOf μ) ls st hp H locs) (k : KKs p l e R s m sargs below meth c Q B D G adK (maxOf μ) pc' ls' st' hp') : W p l e R s m sargs below meth c H locs 0 0 Q (F0 m pc sl (st.map (toV B adK))) := by
  obtain ⟨hx, hb, hml, hown, hts, hr, hlocks, hE, hJ, hμ⟩ := id hCX
  obtain ⟨hd, hlen, hok⟩ := ok_at hμ hlk
  have hK := hE.1
  have hlsz : c.maxLocals = sl.size := by
    obtain ⟨-, -, lv, h1, -, -⟩ := hS.2.2.1
    rw [hml, h1.1]
  exfalso
  rcases st with _ | ⟨_ | _ | x | _, _ | ⟨_, _⟩⟩
  all_goals try cases (show (none : Option ACT) = some (.inl ((pc', ls', st'), hp')) from he)
  cases (show aRet (some (vD x)) = some (.inl ((pc', ls', st'), hp')) from he)
set_option maxHeartbeats 400000 in
theorem sx_freturn (hCX : CXX p l B D G adK adV μ s m sargs meth c) (hRf : d ≤ R.frames) (hRl : 36 * d ≤ R.locals) (hlk : lkp pc (codeOf μ) = some (p0, .freturn, len, a, b, z)) (he : exec1 (.freturn) len a b z d pc ls st hp = some (.inl ((pc', ls', st'), hp')))
    (hS : STt B D G adK s sl (maxOf μ) ls st hp H locs) (k : KKs p l e R s m sargs below meth c Q B D G adK (maxOf μ) pc' ls' st' hp') : W p l e R s m sargs below meth c H locs 0 0 Q (F0 m pc sl (st.map (toV B adK))) := by
  obtain ⟨hx, hb, hml, hown, hts, hr, hlocks, hE, hJ, hμ⟩ := id hCX
  obtain ⟨hd, hlen, hok⟩ := ok_at hμ hlk
  have hK := hE.1
  have hlsz : c.maxLocals = sl.size := by
    obtain ⟨-, -, lv, h1, -, -⟩ := hS.2.2.1
    rw [hml, h1.1]
  exfalso
  rcases st with _ | ⟨_ | _ | _ | x, _ | ⟨_, _⟩⟩
  all_goals try cases (show (none : Option ACT) = some (.inl ((pc', ls', st'), hp')) from he)
  cases (show aRet (some (vF x)) = some (.inl ((pc', ls', st'), hp')) from he)
set_option maxHeartbeats 400000 in
theorem sx_return_ (hCX : CXX p l B D G adK adV μ s m sargs meth c) (hRf : d ≤ R.frames) (hRl : 36 * d ≤ R.locals) (hlk : lkp pc (codeOf μ) = some (p0, .return_, len, a, b, z)) (he : exec1 (.return_) len a b z d pc ls st hp = some (.inl ((pc', ls', st'), hp')))
    (hS : STt B D G adK s sl (maxOf μ) ls st hp H locs) (k : KKs p l e R s m sargs below meth c Q B D G adK (maxOf μ) pc' ls' st' hp') : W p l e R s m sargs below meth c H locs 0 0 Q (F0 m pc sl (st.map (toV B adK))) := by
  obtain ⟨hx, hb, hml, hown, hts, hr, hlocks, hE, hJ, hμ⟩ := id hCX
  obtain ⟨hd, hlen, hok⟩ := ok_at hμ hlk
  have hK := hE.1
  have hlsz : c.maxLocals = sl.size := by
    obtain ⟨-, -, lv, h1, -, -⟩ := hS.2.2.1
    rw [hml, h1.1]
  exfalso
  rcases st with _ | ⟨_, _⟩
  all_goals try cases (show (none : Option ACT) = some (.inl ((pc', ls', st'), hp')) from he)
  cases (show aRet none = some (.inl ((pc', ls', st'), hp')) from he)
set_option maxHeartbeats 400000 in
theorem sx_new (hCX : CXX p l B D G adK adV μ s m sargs meth c) (hRf : d ≤ R.frames) (hRl : 36 * d ≤ R.locals) {idx : Nat} (hlk : lkp pc (codeOf μ) = some (p0, .new idx, len, a, b, z)) (he : exec1 (.new idx) len a b z d pc ls st hp = some (.inl ((pc', ls', st'), hp')))
    (hS : STt B D G adK s sl (maxOf μ) ls st hp H locs) (k : KKs p l e R s m sargs below meth c Q B D G adK (maxOf μ) pc' ls' st' hp') : W p l e R s m sargs below meth c H locs 0 0 Q (F0 m pc sl (st.map (toV B adK))) := by
  obtain ⟨hx, hb, hml, hown, hts, hr, hlocks, hE, hJ, hμ⟩ := id hCX
  obtain ⟨hd, hlen, hok⟩ := ok_at hμ hlk
  have hK := hE.1
  have hlsz : c.maxLocals = sl.size := by
    obtain ⟨-, -, lv, h1, -, -⟩ := hS.2.2.1
    rw [hml, h1.1]
  exfalso
  have he : (match (generalizing := false) d with | _ + 6 => aThr a | _ => none) = some (.inl ((pc', ls', st'), hp')) := he
  split at he <;> cases he
theorem step_sim (hCX : CXX p l B D G adK adV μ s m sargs meth c) (hRf : d ≤ R.frames) (hRl : 36 * d ≤ R.locals) {i : Instr} (hlk : lkp pc (codeOf μ) = some (p0, i, len, a, b, z)) (he : exec1 i len a b z d pc ls st hp = some (.inl ((pc', ls', st'), hp')))
    (hS : STt B D G adK s sl (maxOf μ) ls st hp H locs) (k : KKs p l e R s m sargs below meth c Q B D G adK (maxOf μ) pc' ls' st' hp') : W p l e R s m sargs below meth c H locs 0 0 Q (F0 m pc sl (st.map (toV B adK))) := by
  cases i
  case aaload => exact sx_aaload hCX hRf hRl hlk he hS k
  case aload => exact sx_aload hCX hRf hRl hlk he hS k
  case aload_n => exact sx_aload_n hCX hRf hRl hlk he hS k
  case areturn => exact sx_areturn hCX hRf hRl hlk he hS k
  case arraylength => exact sx_arraylength hCX hRf hRl hlk he hS k
  case astore => exact sx_astore hCX hRf hRl hlk he hS k
  case astore_n => exact sx_astore_n hCX hRf hRl hlk he hS k
  case baload => exact sx_baload hCX hRf hRl hlk he hS k
  case bastore => exact sx_bastore hCX hRf hRl hlk he hS k
  case bipush => exact sx_bipush hCX hRf hRl hlk he hS k
  case dconst => exact sx_dconst hCX hRf hRl hlk he hS k
  case ddiv => exact sx_ddiv hCX hRf hRl hlk he hS k
  case dreturn => exact sx_dreturn hCX hRf hRl hlk he hS k
  case dup => exact sx_dup hCX hRf hRl hlk he hS k
  case dup2 => exact sx_dup2 hCX hRf hRl hlk he hS k
  case fconst => exact sx_fconst hCX hRf hRl hlk he hS k
  case fdiv => exact sx_fdiv hCX hRf hRl hlk he hS k
  case freturn => exact sx_freturn hCX hRf hRl hlk he hS k
  case getfield => exact sx_getfield hCX hRf hRl hlk he hS k
  case goto => exact sx_goto hCX hRf hRl hlk he hS k
  case i2d => exact sx_i2d hCX hRf hRl hlk he hS k
  case i2f => exact sx_i2f hCX hRf hRl hlk he hS k
  case iadd => exact sx_iadd hCX hRf hRl hlk he hS k
  case iaload => exact sx_iaload hCX hRf hRl hlk he hS k
  case iand => exact sx_iand hCX hRf hRl hlk he hS k
  case iastore => exact sx_iastore hCX hRf hRl hlk he hS k
  case iconst => exact sx_iconst hCX hRf hRl hlk he hS k
  case idiv => exact sx_idiv hCX hRf hRl hlk he hS k
  case if_icmp => exact sx_if_icmp hCX hRf hRl hlk he hS k
  case ifCond => exact sx_ifCond hCX hRf hRl hlk he hS k
  case ifnull => exact sx_ifnull hCX hRf hRl hlk he hS k
  case iinc => exact sx_iinc hCX hRf hRl hlk he hS k
  case iload => exact sx_iload hCX hRf hRl hlk he hS k
  case iload_n => exact sx_iload_n hCX hRf hRl hlk he hS k
  case imul => exact sx_imul hCX hRf hRl hlk he hS k
  case invokestatic => exact sx_invokestatic hCX hRf hRl hlk he hS k
  case invokevirtual => exact sx_invokevirtual hCX hRf hRl hlk he hS k
  case irem => exact sx_irem hCX hRf hRl hlk he hS k
  case ireturn => exact sx_ireturn hCX hRf hRl hlk he hS k
  case ishr => exact sx_ishr hCX hRf hRl hlk he hS k
  case istore => exact sx_istore hCX hRf hRl hlk he hS k
  case istore_n => exact sx_istore_n hCX hRf hRl hlk he hS k
  case isub => exact sx_isub hCX hRf hRl hlk he hS k
  case ldc => exact sx_ldc hCX hRf hRl hlk he hS k
  case lookupswitch => exact sx_lookupswitch hCX hRf hRl hlk he hS k
  case new => exact sx_new hCX hRf hRl hlk he hS k
  case pop => exact sx_pop hCX hRf hRl hlk he hS k
  case putfield => exact sx_putfield hCX hRf hRl hlk he hS k
  case return_ => exact sx_return_ hCX hRf hRl hlk he hS k
  case sipush => exact sx_sipush hCX hRf hRl hlk he hS k
  case tableswitch => exact sx_tableswitch hCX hRf hRl hlk he hS k
  all_goals cases (show (none : Option ACT) = some (.inl ((pc', ls', st'), hp')) from he)
end STEP2
end
section
/-! ===== which instructions go on, call, end ===== -/
section CNT
variable {d pc len a b : Nat} {z : Int32} {ls : List (Option VL)} {st : List VL} {hp : HP}
def contI (i : Instr) : Bool := match i with
  | .invokevirtual _ => false | .invokestatic _ => false | .ireturn => false | .areturn => false | .dreturn => false | .freturn => false | .return_ => false | .new _ => false | _ => true
theorem brI_cont {cd : Jvm.ClassFile.Cond} {x y : Int32} {p q : Nat} {act : ACT} (h : brI cd x y (aC p ls st hp) (aC q ls st hp) = some act) : ∃ w, act = .inl w := by
  cases cd <;> simp only [brI] at h <;> split at h <;> (cases h; exact ⟨_, rfl⟩)
theorem swI_cont {x : Int32} {dflt : Int} {act : ACT} : ∀ (l : List (Int × Int)), swI x (fun o => aC (tg pc o) ls st hp) (aC (tg pc dflt) ls st hp) l = some act → ∃ w, act = .inl w
  | [], h => by
    cases (show aC (tg pc dflt) ls st hp = some act from h)
    exact ⟨_, rfl⟩
  | (k, o) :: l, h => by
    have h : (if x = Int32.ofInt k then aC (tg pc o) ls st hp else swI x (fun o => aC (tg pc o) ls st hp) (aC (tg pc dflt) ls st hp) l) = some act := h
    by_cases hx : x = Int32.ofInt k
    · rw [if_pos hx] at h
      cases h
      exact ⟨_, rfl⟩
    · rw [if_neg hx] at h
      exact swI_cont l h
set_option maxHeartbeats 2000000 in
theorem exec1_cont {i : Instr} {act : ACT} (hc : contI i = true) (he : exec1 i len a b z d pc ls st hp = some act) : ∃ w, act = .inl w := by
  cases i
  case if_icmp cd off =>
    rcases st with _ | ⟨y | _, _ | ⟨x | _, st⟩⟩
    all_goals try cases (show (none : Option ACT) = some act from he)
    exact brI_cont he
  case ifCond cd off =>
    rcases st with _ | ⟨x | _, st⟩
    all_goals try cases (show (none : Option ACT) = some act from he)
    exact brI_cont he
  case tableswitch =>
    rcases st with _ | ⟨x | _, st⟩
    all_goals try cases (show (none : Option ACT) = some act from he)
    exact swI_cont _ he
  case lookupswitch =>
    rcases st with _ | ⟨x | _, st⟩
    all_goals try cases (show (none : Option ACT) = some act from he)
    exact swI_cont _ he
  all_goals first
    | cases (show (false : Bool) = true from hc)
    | cases (show (none : Option ACT) = some act from he)
    | (simp only [exec1, aC] at he
       repeat' split at he
       all_goals first | (cases he; exact ⟨_, rfl⟩) | cases he)
theorem vcall_inv {idx μ : Nat} {args rest : List VL} (he : exec1 (.invokevirtual idx) len a b z d pc ls st hp = aCall μ args rest) : ¬ (a = 1004 ∨ a = 1005) ∧ μ = a ∧ ∃ r : RF, st = st.take (b % 16 - 1) ++ vR r :: rest ∧ args = vR r :: (st.take (b % 16 - 1)).reverse ∧ r.1 = b / 16 ∧ 1 ≤ b % 16 ∧ rest.length ≤ 4 ∧ (st.take (b % 16 - 1)).length = b % 16 - 1 := by
  replace he : (if a = 1004 then (match (generalizing := false) d, st with | _ + 5, .inr (.inl r) :: st => if r.1 = 20 ∧ st.length ≤ 4 then aC (pc + len) ls (vI (nI (txt r.2.1).length) :: st) hp else none | _, _ => none)
    else if a = 1005 then (match (generalizing := false) d, st with | _ + 5, .inl j :: .inr (.inl r) :: st => if r.1 = 20 ∧ st.length ≤ 4 then (if inb j (txt r.2.1).length = true then aC (pc + len) ls (vI ((txt r.2.1).getD j.toNatClampNeg 0) :: st) hp else none) else none | _, _ => none)
    else (match (generalizing := false) st.drop (b % 16 - 1) with | .inr (.inl r) :: rest => if r.1 = b / 16 ∧ 1 ≤ b % 16 ∧ rest.length ≤ 4 then aCall a (vR r :: (st.take (b % 16 - 1)).reverse) rest else none | _ => none)) = aCall μ args rest := he
  by_cases h0 : a = 1004
  · rw [if_pos h0] at he
    exfalso
    split at he
    · split at he <;> cases he
    · cases he
  · rw [if_neg h0] at he
    by_cases h1 : a = 1005
    · rw [if_pos h1] at he
      exfalso
      split at he
      · split at he
        · split at he <;> cases he
        · cases he
      · cases he
    · rw [if_neg h1] at he
      split at he
      · rename_i r rest0 hq
        by_cases h6 : r.1 = b / 16 ∧ 1 ≤ b % 16 ∧ rest0.length ≤ 4
        · rw [if_pos h6] at he
          cases he
          have hl : (st.drop (b % 16 - 1)).length = rest.length + 1 := by rw [hq]; rfl
          rw [List.length_drop] at hl
          exact ⟨by omega, rfl, r, by rw [← hq, List.take_append_drop], rfl, h6.1, h6.2.1, h6.2.2, by rw [List.length_take]; omega⟩
        · rw [if_neg h6] at he
          cases he
      · cases he
theorem scall_inv {idx μ : Nat} {args rest : List VL} (he : exec1 (.invokestatic idx) len a b z d pc ls st hp = aCall μ args rest) : a < 1000 ∨ 1003 < a ∧ True := by
  rcases Nat.lt_or_ge a 1000 with h | h
  · exact Or.inl h
  · rcases Nat.lt_or_ge 1003 a with h2 | h2
    · exact Or.inr ⟨h2, trivial⟩
    · exfalso
      replace he : (if a = 1000 then (match (generalizing := false) d, st with | _ + 1, .inl y :: .inl x :: st => if st.length ≤ 4 then aC (pc + len) ls (vI (imax x y) :: st) hp else none | _, _ => none)
        else if a = 1001 then (match (generalizing := false) d, st with | _ + 1, .inl y :: .inl x :: st => if st.length ≤ 4 then aC (pc + len) ls (vI (imin x y) :: st) hp else none | _, _ => none)
        else if a = 1002 then (match (generalizing := false) d, st with | _ + 1, .inl x :: st => if st.length ≤ 4 then aC (pc + len) ls (vI (iabs x) :: st) hp else none | _, _ => none)
        else if a = 1003 then (match (generalizing := false) d, st with
          | _ + 2, .inl n :: .inl dp :: .inr (.inl r1) :: .inl sp :: .inr (.inl r0) :: st =>
            if r0.1 = 11 ∧ r1.1 = 11 ∧ ¬ r0 = r1 ∧ st.length ≤ 4 then (if sp = 0 ∧ dp = 0 ∧ ¬ n < 0 ∧ n.toNatClampNeg ≤ alen r0 ∧ n.toNatClampNeg ≤ alen r1 then aC (pc + len) ls st (cpA hp r0 r1 0 0 n.toNatClampNeg) else none) else none
          | _, _ => none)
        else if b ≤ st.length ∧ (st.drop b).length ≤ 4 then aCall a (st.take b).reverse (st.drop b) else none) = aCall μ args rest := he
      rcases (show a = 1000 ∨ a = 1001 ∨ a = 1002 ∨ a = 1003 by omega) with h3 | h3 | h3 | h3
      · rw [if_pos h3] at he
        split at he
        · split at he <;> cases he
        · cases he
      · rw [if_neg (by omega), if_pos h3] at he
        split at he
        · split at he <;> cases he
        · cases he
      · rw [if_neg (by omega), if_neg (by omega), if_pos h3] at he
        split at he
        · split at he <;> cases he
        · cases he
      · rw [if_neg (by omega), if_neg (by omega), if_neg (by omega), if_pos h3] at he
        split at he
        · split at he
          · split at he <;> cases he
          · cases he
        · cases he
theorem scall_inv2 {idx μ : Nat} {args rest : List VL} (he : exec1 (.invokestatic idx) len a b z d pc ls st hp = aCall μ args rest) (h : a < 1000) : μ = a ∧ args = (st.take b).reverse ∧ rest = st.drop b ∧ b ≤ st.length ∧ (st.drop b).length ≤ 4 := by
  have he2 : exec1 (.invokestatic idx) len a b z d pc ls st hp = if b ≤ st.length ∧ (st.drop b).length ≤ 4 then aCall a (st.take b).reverse (st.drop b) else none := by
    simp only [exec1]
    rw [if_neg (by omega), if_neg (by omega), if_neg (by omega), if_neg (by omega)]
  rw [he2] at he
  by_cases h6 : b ≤ st.length ∧ (st.drop b).length ≤ 4
  · rw [if_pos h6] at he
    cases he
    exact ⟨rfl, rfl, rfl, h6.1, h6.2⟩
  · rw [if_neg h6] at he
    cases he
end CNT
end
section
/-! ===== the small machine is the machine: whole methods that return ===== -/
section FRM
variable {p : Program} {l : Launch} {e : Env} {R : Room} {s : State} {m : MethodId} {sargs : Array Value} {below : List Frame} {meth : Method} {c : Code} {Q : State → Prop}
variable {B d μ nL pc len a b p0 : Nat} {D : va_G} {G : GG} {adK adV : Nat → Nat} {z : Int32}
variable {ls : List (Option VL)} {st : List VL} {hp hp1 : HP} {H : Heap} {locs : List Loc} {sl : Array Slot}
/-- a method's end, with what it answers -/
def QcR (B : Nat) (D : va_G) (G : GG) (adK : Nat → Nat) (v : Option VL) (hp1 : HP) : Array Value → State → Outcome → State → Prop := fun av st oc t => QcS B D G adK v hp1 av st oc t ∧ ∀ w, v = some w → okV w
def RMet (l : Launch) (B : Nat) (D : va_G) (G : GG) (adK adV : Nat → Nat) (d μ : Nat) (args : List VL) (hp : HP) (v : Option VL) (hp1 : HP) : Prop :=
  Met l (nameOf μ) (wsOf μ) (rmD d) (PcS B D G adK adV args hp) (QcR B D G adK v hp1) 0 0 (inA B)
theorem ret_sim (hCX : CXX p l B D G adK adV μ s m sargs meth c) {i : Instr} {v : Option VL} (hlk : lkp pc (codeOf μ) = some (p0, i, len, a, b, z)) (he : exec1 i len a b z d pc ls st hp = aRet v)
    (hS : STt B D G adK s sl (maxOf μ) ls st hp H locs) : W p l e R s m sargs below meth c H locs 0 0 (MQ below (QcR B D G adK v hp) sargs s 0 0 (inA B)) (F0 m pc sl (st.map (toV B adK))) := by
  obtain ⟨hx, hb, hml, hown, hts, hr, hlocks, hE, hJ, hμ⟩ := id hCX
  obtain ⟨hd, hlen, hok⟩ := ok_at hμ hlk
  by_cases hc : contI i = true
  · obtain ⟨w, hw⟩ := exec1_cont hc he
    cases hw
  have hQ : ∀ (w : Option VL), (∀ u, w = some u → okV u) → ∀ t : State, t.heap = H → QcR B D G adK w hp sargs s (.returned (w.map (toV B adK))) t := fun w hw t ht => ⟨⟨rfl, by rw [ht]; exact hS.1, hS.2.1.F ht⟩, hw⟩
  cases i <;> try exact absurd (show (true : Bool) = true from rfl) hc
  case invokevirtual idx =>
    exfalso
    replace he : (if a = 1004 then (match (generalizing := false) d, st with | _ + 5, .inr (.inl r) :: st => if r.1 = 20 ∧ st.length ≤ 4 then aC (pc + len) ls (vI (nI (txt r.2.1).length) :: st) hp else none | _, _ => none)
      else if a = 1005 then (match (generalizing := false) d, st with | _ + 5, .inl j :: .inr (.inl r) :: st => if r.1 = 20 ∧ st.length ≤ 4 then (if inb j (txt r.2.1).length = true then aC (pc + len) ls (vI ((txt r.2.1).getD j.toNatClampNeg 0) :: st) hp else none) else none | _, _ => none)
      else (match (generalizing := false) st.drop (b % 16 - 1) with | .inr (.inl r) :: rest => if r.1 = b / 16 ∧ 1 ≤ b % 16 ∧ rest.length ≤ 4 then aCall a (vR r :: (st.take (b % 16 - 1)).reverse) rest else none | _ => none)) = aRet v := he
    repeat' split at he
    all_goals cases he
  case invokestatic idx =>
    exfalso
    replace he : (if a = 1000 then (match (generalizing := false) d, st with | _ + 1, .inl y :: .inl x :: st => if st.length ≤ 4 then aC (pc + len) ls (vI (imax x y) :: st) hp else none | _, _ => none)
      else if a = 1001 then (match (generalizing := false) d, st with | _ + 1, .inl y :: .inl x :: st => if st.length ≤ 4 then aC (pc + len) ls (vI (imin x y) :: st) hp else none | _, _ => none)
      else if a = 1002 then (match (generalizing := false) d, st with | _ + 1, .inl x :: st => if st.length ≤ 4 then aC (pc + len) ls (vI (iabs x) :: st) hp else none | _, _ => none)
      else if a = 1003 then (match (generalizing := false) d, st with
        | _ + 2, .inl n :: .inl dp :: .inr (.inl r1) :: .inl sp :: .inr (.inl r0) :: st =>
          if r0.1 = 11 ∧ r1.1 = 11 ∧ ¬ r0 = r1 ∧ st.length ≤ 4 then (if sp = 0 ∧ dp = 0 ∧ ¬ n < 0 ∧ n.toNatClampNeg ≤ alen r0 ∧ n.toNatClampNeg ≤ alen r1 then aC (pc + len) ls st (cpA hp r0 r1 0 0 n.toNatClampNeg) else none) else none
        | _, _ => none)
      else if b ≤ st.length ∧ (st.drop b).length ≤ 4 then aCall a (st.take b).reverse (st.drop b) else none) = aRet v := he
    repeat' split at he
    all_goals cases he
  case new idx =>
    exfalso
    replace he : (match (generalizing := false) d with | _ + 6 => aThr a | _ => none) = aRet v := he
    split at he <;> cases he
  case ireturn =>
    have hln : len = 1 := by simpa [isSw, lenI] using hlen
    subst hln
    rcases st with _ | ⟨x | _, _ | ⟨_, _⟩⟩
    all_goals try cases (show (none : Option ACT) = aRet v from he)
    replace he : (if a = 1 then (if isB x = true then aRet (some (vI x)) else none) else aRet (some (vI x))) = aRet v := he
    have hret : retOf μ = if a = 1 then some .boolean else some .int := by
      have h := hok
      unfold okL at h
      simpa only [decide_eq_true_eq] using h
    by_cases ha : a = 1
    · rw [if_pos ha] at he hret
      by_cases hB : isB x = true
      · rw [if_pos hB] at he
        cases he
        exact W.zret hx hb (hr.trans hret) (okB_0 hB) (fun t ht _ => hQ (some (vI x)) (fun u hu => by cases hu; trivial) t ht) hS.2.1.2.2 hd hlocks
      · rw [if_neg hB] at he
        cases he
    · rw [if_neg ha] at he hret
      cases he
      exact W.iret hx hb (hr.trans hret) (fun t ht _ => hQ (some (vI x)) (fun u hu => by cases hu; trivial) t ht) hS.2.1.2.2 hd hlocks
  case areturn =>
    have hln : len = 1 := by simpa [isSw, lenI] using hlen
    subst hln
    rcases st with _ | ⟨_ | r | _, _ | ⟨_, _⟩⟩
    all_goals try cases (show (none : Option ACT) = aRet v from he)
    cases (show aRet (some (vR r)) = aRet v from he)
    have hret : ∃ n, retOf μ = some (.object n) := by
      have h : (match retOf μ with | some (.object _) => true | _ => false) = true := hok
      split at h
      · rename_i n hn
        exact ⟨n, hn⟩
      · cases h
    obtain ⟨n, hret⟩ := hret
    exact W.aret hx hb (hr.trans hret) (Or.inl ⟨n, rfl⟩) (Or.inr ⟨_, rfl⟩) (fun t ht _ => hQ (some (vR r)) (fun u hu => by cases hu; exact hS.2.2.2 _ List.mem_cons_self) t ht) hS.2.1.2.2 hd hlocks
  case dreturn =>
    have hln : len = 1 := by simpa [isSw, lenI] using hlen
    subst hln
    rcases st with _ | ⟨_ | _ | x | _, _ | ⟨_, _⟩⟩
    all_goals try cases (show (none : Option ACT) = aRet v from he)
    cases (show aRet (some (vD x)) = aRet v from he)
    have hret : retOf μ = some .double := by
      have h := hok
      unfold okL at h
      simpa only [decide_eq_true_eq] using h
    exact W.dret hx hb (hr.trans hret) (fun t ht _ => hQ (some (vD x)) (fun u hu => by cases hu; trivial) t ht) hS.2.1.2.2 hd hlocks
  case freturn =>
    have hln : len = 1 := by simpa [isSw, lenI] using hlen
    subst hln
    rcases st with _ | ⟨_ | _ | _ | x, _ | ⟨_, _⟩⟩
    all_goals try cases (show (none : Option ACT) = aRet v from he)
    cases (show aRet (some (vF x)) = aRet v from he)
    have hret : retOf μ = some .float := by
      have h := hok
      unfold okL at h
      simpa only [decide_eq_true_eq] using h
    exact W.fret hx hb (hr.trans hret) (fun t ht _ => hQ (some (vF x)) (fun u hu => by cases hu; trivial) t ht) hS.2.1.2.2 hd hlocks
  case return_ =>
    have hln : len = 1 := by simpa [isSw, lenI] using hlen
    subst hln
    rcases st with _ | ⟨_, _⟩
    all_goals try cases (show (none : Option ACT) = aRet v from he)
    cases (show aRet none = aRet v from he)
    have hret : retOf μ = none := by
      have h := hok
      unfold okL at h
      simpa only [decide_eq_true_eq] using h
    exact W.vret hx hb (hr.trans hret) (fun t ht _ => hQ none (fun u hu => by cases hu) t ht) hS.2.1.2.2 hd hlocks
/-- behind a call -/
theorem my_call {v : Option VL} {rest : List VL} {st0 : List Value} {ar : Array Value} (hr : va_Run p l e R s m sargs below meth c H locs 0 0 0 0 (F0 m pc sl st0) (rest.map (toV B adK)) (QcR B D G adK v hp1 ar) (inA B))
    (hS : STt B D G adK s sl nL ls rest hp H locs) (k : KKs p l e R s m sargs below meth c Q B D G adK nL (pc + 3) ls (v.toList ++ rest) hp1) : W p l e R s m sargs below meth c H locs 0 0 Q (F0 m pc sl st0) := by
  intro T hT X
  obtain ⟨w, st₀, t, T', L, h0, X', hL, e1, e2, ⟨⟨hw, hP, hF⟩, hv⟩, stp⟩ := hr T hT X
  cases hw
  have hS2 : STt B D G adK s sl nL ls (v.toList ++ rest) hp1 T'.heap (locs ++ L) := by
    refine ⟨by rw [e1]; exact hP, ⟨?_, fun q h1 h2 => ?_, fun q hq => ?_⟩, hS.2.2.1, fun w hw => ?_⟩
    · have h1 := hF.1
      rw [h0] at h1
      rw [e1]
      exact Nat.le_trans hS.2.1.1 h1
    · have h3 := hF.2 q (by rw [h0]; exact Nat.lt_of_lt_of_le h1 hS.2.1.1) h2
      rw [h0] at h3
      rw [e1, h3]
      exact hS.2.1.2.1 q h1 h2
    · rcases List.mem_append.mp hq with h | h
      · exact hS.2.1.2.2 q h
      · exact hL q h
    · rcases List.mem_append.mp hw with h | h
      · cases v with
        | none => cases h
        | some u =>
          simp only [Option.toList_some, List.mem_singleton] at h
          subst h
          exact hv _ rfl
      · exact hS.2.2.2 w h
  obtain ⟨t2, a1, b1⟩ := k T'.heap (locs ++ L) sl hS2 T' rfl X'
  refine ⟨t2, stp t2 ?_, b1⟩
  have hm : (v.toList ++ rest).map (toV B adK) = (v.map (toV B adK)).toList ++ rest.map (toV B adK) := by
    cases v <;> rfl
  rw [hm] at a1
  exact a1
def nA (μ : Nat) : Nat := (mus μ).2.2 + (if (mus μ).2.1 = true then 0 else 1)
def CallOK (l : Launch) (B : Nat) (D : va_G) (G : GG) (adK adV : Nat → Nat) (k : Nat) : Prop := ∀ (d μ : Nat) (args : List VL) (hp : HP) (v : Option VL) (hp1 : HP), μ < 290 → args.length = nA μ → (∀ w ∈ args, okI w) → run k d (codeOf μ) 0 (entryL args (maxOf μ)) [] hp = some (.inl v, hp1) → RMet l B D G adK adV d μ args hp v hp1
def RunOK (l : Launch) (B : Nat) (D : va_G) (G : GG) (adK adV : Nat → Nat) (k : Nat) : Prop := ∀ (d μ pc : Nat) (ls : List (Option VL)) (st : List VL) (hp : HP) (v : Option VL) (hp1 : HP), run k d (codeOf μ) pc ls st hp = some (.inl v, hp1) →
  ∀ (p : Program) (e : Env) (R : Room) (s : State) (m : MethodId) (sargs : Array Value) (below : List Frame) (meth : Method) (c : Code) (H : Heap) (locs : List Loc) (sl : Array Slot), CXX p l B D G adK adV μ s m sargs meth c → d ≤ R.frames → 36 * d ≤ R.locals → STt B D G adK s sl (maxOf μ) ls st hp H locs →
    W p l e R s m sargs below meth c H locs 0 0 (MQ below (QcR B D G adK v hp1) sargs s 0 0 (inA B)) (F0 m pc sl (st.map (toV B adK)))
theorem okW_at {μ : Nat} (hμ : μ < 290) : (nameOf μ).cls = clsN (clOf μ) ∧ plainName (nameOf μ).cls = true ∧ ((nameOf μ).cls ≠ "java/lang/invoke/MethodHandle" ∧ (nameOf μ).cls ≠ "java/lang/invoke/VarHandle") ∧ (parseMethodDescriptor (nameOf μ).desc).map (fun d => d.parameters.length) = some (mus μ).2.2 ∧ maxOf μ ≤ 17 ∧ nA μ ≤ maxOf μ := by
  have h := okM_all μ hμ
  unfold okM okW at h
  simp only [Bool.and_eq_true, decide_eq_true_eq] at h
  obtain ⟨-, ⟨⟨⟨⟨⟨h1, h2⟩, h3⟩, h4⟩, h5⟩, h6⟩, h7⟩ := h
  exact ⟨h1, h2, ⟨h3, h4⟩, h5, h6, h7⟩
theorem tabS_in {j : Nat} {w : Jvm.Cond} (h : w ∈ tabS j) (hg : goodWord w = true) : w ∈ lwG := by
  unfold tabS at h
  by_cases hj : j = 0
  · rw [if_pos hj] at h
    exact List.mem_filter.mpr ⟨List.mem_append_left _ h, hg⟩
  · rw [if_neg hj] at h
    exact inG (tabC_in h) hg
theorem okD_at {μ : Nat} (hμ : μ < 290) : Jvm.Cond.code (nameOf μ) (bytesOf μ) (maxOf μ) (retOf μ) ∈ lwG ∧ Jvm.Cond.initialized (clsN (clOf μ)) ∈ lwG ∧ ((mus μ).2.1 = true → Jvm.Cond.static (nameOf μ) ∈ lwG) ∧ ((mus μ).2.1 = false → Jvm.Cond.instanceMethod (nameOf μ) ∈ lwG ∧ Jvm.Cond.selects (clsN (clOf μ)) (nameOf μ) (nameOf μ) ∈ lwG) := by
  have h := okN_all μ hμ
  unfold okN okD2 at h
  simp only [Bool.and_eq_true, decide_eq_true_eq] at h
  obtain ⟨⟨⟨h1, h2⟩, h3⟩, -⟩ := h
  refine ⟨inG (tabC_in (List.mem_of_getElem? h1)) rfl, inG (tabC_in (List.mem_of_getElem? h2)) rfl, fun hs => ?_, fun hs => ?_⟩
  · rw [if_pos hs] at h3
    exact inG (tabC_in (List.mem_of_getElem? (of_decide_eq_true h3))) rfl
  · rw [if_neg (by rw [hs]; decide)] at h3
    simp only [Bool.and_eq_true, decide_eq_true_eq] at h3
    exact ⟨inG (tabC_in (List.mem_of_getElem? h3.1)) rfl, tabS_in (List.mem_of_getElem? h3.2) rfl⟩
end FRM
end
section
section SIM
variable {l : Launch} {B : Nat} {D : va_G} {G : GG} {adK adV : Nat → Nat}
theorem lkp_lt {pc : Nat} {C : List EN} {x : EN} (h : lkp pc C = some x) : x ∈ C := (lkp_in h).1
/-- what a call needs of the words -/
theorem callB_my {R : Room} {s : State} {sargs : Array Value} {own : String} {idx μ d : Nat} (hμ : μ < 290) (hts : ∀ w ∈ lwG, w.before sargs s = true) (hl : (Jvm.Cond.methodLink own idx (nameOf μ)).before sargs s = true) (hRf : d + 1 ≤ R.frames) (hRl : 36 * (d + 1) ≤ R.locals) :
    CallB R s sargs own idx (nameOf μ) (bytesOf μ) (maxOf μ) (retOf μ) (wsOf μ) (rmD d) 0 0 (mus μ).2.2 := by
  obtain ⟨w1, w2, w3, w4, w5, w6⟩ := okW_at hμ
  obtain ⟨d1, d2, d3, d4⟩ := okD_at hμ
  refine callB_of (mus μ).2.2 hts (fun w hw => ?_) rfl rfl rfl (by rw [w1]; exact hts _ d2) hl ⟨w3.1, w3.2, w4⟩ ⟨hRf, by show 8 + (maxOf μ + 11) + 36 * d ≤ R.locals; omega⟩
  rcases List.mem_cons.mp hw with h | h
  · rw [h]
    exact ⟨d1, Or.inl rfl⟩
  · exact lwG_good w h
theorem callN_my {R : Room} {s : State} {sargs : Array Value} {own : String} {idx μ d : Nat} (hμ : μ < 290) (hts : ∀ w ∈ lwG, w.before sargs s = true) (hl : va_Nw (.methodLinkNest own idx (nameOf μ) "TypebarMachine") s) (hRf : d + 1 ≤ R.frames) (hRl : 36 * (d + 1) ≤ R.locals) :
    va_CN R s sargs own idx (nameOf μ) "TypebarMachine" (bytesOf μ) (maxOf μ) (retOf μ) (wsOf μ) (rmD d) 0 0 (mus μ).2.2 := by
  obtain ⟨w1, w2, w3, w4, w5, w6⟩ := okW_at hμ
  obtain ⟨d1, d2, d3, d4⟩ := okD_at hμ
  refine va_cnB (mus μ).2.2 hts (fun w hw => ?_) rfl rfl rfl hl (by rw [w1]; exact hts _ d2) ⟨w3.1, w3.2, w4⟩ ⟨hRf, by show 8 + (maxOf μ + 11) + 36 * d ≤ R.locals; omega⟩
  rcases List.mem_cons.mp hw with h | h
  · rw [h]
    exact ⟨d1, Or.inl rfl⟩
  · exact lwG_good w h
theorem mem_tk {α : Type} {n : Nat} {l : List α} {x : α} (h : x ∈ l.take n) : x ∈ l := List.mem_of_mem_take h
/-- arguments that were popped are numbers and references: what the callee's contract says -/
theorem okV_I {v : VL} (h : okV v) (h2 : ∀ x, v ≠ .inr (.inr x)) : okI v := by
  rcases v with x | r | x
  · trivial
  · exact h
  · exact absurd rfl (h2 x)
theorem clOf_le : ∀ μ, μ < 290 → clOf μ ≤ 10 := by decide +kernel
theorem no_call {d pc len a b : Nat} {z : Int32} {ls : List (Option VL)} {st : List VL} {hp : HP} {i : Instr} {act : Nat × List VL × List VL} (hnc : contI i = false) (h1 : ¬ ∃ idx, i = .invokevirtual idx) (h2 : ¬ ∃ idx, i = .invokestatic idx) (he : exec1 i len a b z d pc ls st hp = some (.inr (.inl act))) : False := by
  cases i <;> try cases (show true = false from hnc)
  case invokevirtual idx => exact h1 ⟨idx, rfl⟩
  case invokestatic idx => exact h2 ⟨idx, rfl⟩
  all_goals
    simp only [exec1, aRet, aThr] at he
    repeat' split at he
    all_goals cases he
theorem frame_ok (hJ : JST l B D G adK adV) (n : Nat) (IHc : ∀ k, k < n → CallOK l B D G adK adV k) : ∀ k, k ≤ n → RunOK l B D G adK adV k := by
  intro k
  induction k with
  | zero => intro _ d μ pc ls st hp v hp1 h; cases h
  | succ k ih =>
    intro hkn d μ pc ls st hp v hp1 h p e R s m sargs below meth c H locs sl hCX hRf hRl hS
    rw [run] at h
    cases hlk : lkp pc (codeOf μ) with
    | none => rw [hlk] at h; cases h
    | some en =>
      obtain ⟨p0, i, len, a, b, z⟩ := en
      rw [hlk] at h
      dsimp only at h
      cases he : exec1 i len a b z d pc ls st hp with
      | none => rw [he] at h; cases h
      | some act =>
        rw [he] at h
        rcases act with ⟨⟨pc', ls', st'⟩, hp'⟩ | ⟨μ', args, rest⟩ | w | E
        · exact step_sim hCX hRf hRl hlk he hS (fun H locs sl hS2 => ih (Nat.le_of_succ_le hkn) d μ pc' ls' st' hp' v hp1 h p e R s m sargs below meth c H locs sl hCX hRf hRl hS2)
        · dsimp only at h
          obtain ⟨hx, hb, hml, hown, hts, hr, hlocks, hE, hJ, hμ⟩ := id hCX
          obtain ⟨hd, hlen, hok⟩ := ok_at hμ hlk
          have hokB := okB_at hμ hlk
          have hlsz : sl.size = maxOf μ := by
            obtain ⟨-, -, lv, h1, -, -⟩ := hS.2.2.1
            exact h1.1
          cases d with
          | zero => cases h
          | succ d' =>
            dsimp only at h
            by_cases hIR : args.all isIR = true
            case neg =>
              rw [if_neg hIR] at h
              cases h
            rw [if_pos hIR] at h
            cases hcl : run k d' (codeOf μ') 0 (entryL args (maxOf μ')) [] hp with
            | none => rw [hcl] at h; cases h
            | some q =>
              rw [hcl] at h
              obtain ⟨w | E, hpc⟩ := q
              · dsimp only at h
                have henv : ∀ U : State, U.heap = H → s.WarmedH U.vm → ENV B D G adK adV U := fun U hU hW => hE.warm hW (fun q h1 h2 => by rw [hU]; exact hS.2.1.2.1 q h1 h2)
                have blind : FrameBlind (PcS B D G adK adV args hp) := fun a U g mk q => ⟨q.1, q.2.1, q.2.2.warm (State.WarmedH.refl U) (fun _ _ _ => rfl)⟩
                have kk : KKs p l e R s m sargs below meth c (MQ below (QcR B D G adK v hp1) sargs s 0 0 (inA B)) B D G adK (maxOf μ) (pc + 3) ls (w.toList ++ rest) hpc :=
                  fun H locs sl hS2 => ih (Nat.le_of_succ_le hkn) (d' + 1) μ (pc + 3) ls (w.toList ++ rest) hpc v hp1 h p e R s m sargs below meth c H locs sl hCX hRf hRl hS2
                have hnc : contI i = false := by
                  cases hci : contI i with
                  | false => rfl
                  | true =>
                    obtain ⟨q, hq⟩ := exec1_cont hci he
                    cases hq
                by_cases hv : ∃ idx, i = .invokevirtual idx
                · obtain ⟨idx, rfl⟩ := hv
                  have hln : len = 3 := by simpa [isSw, lenI] using hlen
                  subst hln
                  obtain ⟨hna, rfl, r, hst, hargs, hrb, hb1, hr4, hlt⟩ := vcall_inv he
                  have hok2 : (clOf μ, idx, μ') ∈ lnkM ∧ μ' < 290 := by
                    have h := hok
                    unfold okL at h
                    simp only [if_neg hna, Bool.and_eq_true, decide_eq_true_eq] at h
                    exact h
                  obtain ⟨hm, hμ'⟩ := hok2
                  have hB2 : (b = (mus μ').2.2 + 1 + 16 * clOf μ' ∧ (mus μ').2.1 = false) ∧ (mus μ').2.2 < 15 := by
                    have h := hokB
                    unfold okB at h
                    simp only [Bool.or_eq_true, Bool.and_eq_true, decide_eq_true_eq, Bool.not_eq_true'] at h
                    rcases h with h | h
                    · omega
                    · exact h
                  obtain ⟨⟨hbv, hstt⟩, h15⟩ := hB2
                  have hbm : b % 16 = (mus μ').2.2 + 1 := by omega
                  have hbd : b / 16 = clOf μ' := by omega
                  have hc10 : clOf μ' ≤ 10 := by
                    have := clOf_le μ' hμ'
                    exact this
                  have hr20 : r.1 ≠ 20 := by omega
                  have hmem : vR r ∈ st := by rw [hst]; simp
                  have hrA : r ∈ allR := okR_in (hS.2.2.2 _ hmem : okR r) hr20
                  have hirs : ∀ w ∈ args, isIR w = true := List.all_eq_true.mp hIR
                  have hoI : ∀ w ∈ args, okI w := by
                    intro w hw
                    have hwst : w ∈ st := by
                      rw [hargs] at hw
                      rcases List.mem_cons.mp hw with h | h
                      · rw [h]; exact hmem
                      · exact mem_tk (List.mem_reverse.mp h)
                    exact okV_I (hS.2.2.2 w hwst) (fun x hx => by have := hirs w hw; rw [hx] at this; cases this)
                  have hnA : args.length = nA μ' := by
                    rw [hargs]
                    simp only [List.length_cons, List.length_reverse, hlt, nA, hstt]
                    simp
                    omega
                  have hM := IHc k (Nat.lt_of_succ_le hkn) d' μ' args hp w hpc hμ' hnA hoI hcl
                  obtain ⟨d1, d2, d3, d4⟩ := okD_at hμ'
                  obtain ⟨g1, g2⟩ := d4 hstt
                  obtain ⟨w1, -⟩ := okW_at hμ'
                  have hent := World_get (B := B) (G := G) (hp := hp) hrA
                  rw [ent_obj (by omega), hrb, hbd] at hent
                  have hargV : (args.map (toV B adK)).toArray = (Value.ref (B + adr r) :: (st.take (b % 16 - 1)).reverse.map (toV B adK)).toArray := by
                    rw [hargs, List.map_cons, toV_ref hr20]
                  have hL : (Jvm.Cond.methodLink (clsN (clOf μ)) idx (nameOf μ')).before sargs s = true := hts (wM (clOf μ, idx, μ')) (inG (lnkM_ok _ hm) rfl)
                  have hstk : st.map (toV B adK) = ((st.take (b % 16 - 1)).reverse.map (toV B adK)).reverse ++ Value.ref (B + adr r) :: rest.map (toV B adK) := by
                    rw [List.map_reverse, List.reverse_reverse, ← toV_ref hr20, ← List.map_cons, ← List.map_append, ← hst]
                  have hcat := catS (B := B) (adK := adK) rest
                  refine my_call (rest := rest) (va_runV (C := clsN (clOf μ')) (As := (st.take (b % 16 - 1)).reverse.map (toV B adK)) (rest := rest.map (toV B adK)) ⟨hx, hb, hml, hown, hts⟩ hM ⟨callB_my hμ' hts hL hRf hRl, hts _ g1, hts _ g2⟩ ⟨blind, ?_, fun U hU hW => ⟨hargV.symm, by rw [hU]; exact hS.1, henv U hU hW⟩⟩ rfl ?_ hlsz hstk (lv_room (by omega)) hd ⟨Nat.zero_le _, Nat.zero_le _⟩) ⟨hS.1, hS.2.1, hS.2.2.1, fun w hw => hS.2.2.2 w (by rw [hst]; simp [hw])⟩ kk
                  · exact va_recv hE.1 hS.1 (vwCl_at _ hc10) hent
                  · rw [List.length_map, List.length_reverse, hlt]
                    omega
                · by_cases hv2 : ∃ idx, i = .invokestatic idx
                  · obtain ⟨idx, rfl⟩ := hv2
                    have hln : len = 3 := by simpa [isSw, lenI] using hlen
                    subst hln
                    have ha : a < 1000 := by
                      rcases Nat.lt_or_ge a 1000 with h | h
                      · exact h
                      · exfalso
                        have h3 := hok
                        unfold okL at h3
                        simp only [if_pos h, Bool.and_eq_true, decide_eq_true_eq] at h3
                        rcases scall_inv he with h4 | h4
                        · omega
                        · omega
                    obtain ⟨rfl, hargs, hrest, hbl, hr4⟩ := scall_inv2 he ha
                    have hok2 : ((clOf μ, idx, μ') ∈ lnkM ∨ (clOf μ, idx, μ') ∈ lnkMN) ∧ μ' < 290 := by
                      have h := hok
                      unfold okL at h
                      simp only [if_neg (show ¬ 1000 ≤ μ' by omega), Bool.and_eq_true, Bool.or_eq_true, decide_eq_true_eq] at h
                      exact h
                    obtain ⟨hm, hμ'⟩ := hok2
                    have hB2 : b = (mus μ').2.2 ∧ (mus μ').2.1 = true := by
                      have h := hokB
                      unfold okB at h
                      simp only [Bool.or_eq_true, Bool.and_eq_true, decide_eq_true_eq] at h
                      rcases h with h | h
                      · omega
                      · exact h
                    obtain ⟨hbv, hstt⟩ := hB2
                    have hst : st = st.take b ++ rest := by rw [hrest, List.take_append_drop]
                    have hirs : ∀ w ∈ args, isIR w = true := List.all_eq_true.mp hIR
                    have hoI : ∀ w ∈ args, okI w := by
                      intro w hw
                      have hwst : w ∈ st := by
                        rw [hargs] at hw
                        exact mem_tk (List.mem_reverse.mp hw)
                      exact okV_I (hS.2.2.2 w hwst) (fun x hx => by have := hirs w hw; rw [hx] at this; cases this)
                    have hnA : args.length = nA μ' := by
                      rw [hargs]
                      simp only [List.length_reverse, List.length_take, nA, hstt]
                      simp
                      omega
                    have hM := IHc k (Nat.lt_of_succ_le hkn) d' μ' args hp w hpc hμ' hnA hoI hcl
                    obtain ⟨d1, d2, d3, d4⟩ := okD_at hμ'
                    have hargV : (args.map (toV B adK)).toArray = ((st.take b).reverse.map (toV B adK)).toArray := by rw [hargs]
                    have hstk : st.map (toV B adK) = ((st.take b).reverse.map (toV B adK)).reverse ++ rest.map (toV B adK) := by
                      rw [List.map_reverse, List.reverse_reverse, ← List.map_append, ← hst]
                    have hcat := catS (B := B) (adK := adK) rest
                    have hr4' : rest.length ≤ 4 := by rw [hrest]; exact hr4
                    have hSr : STt B D G adK s sl (maxOf μ) ls rest hp H locs := ⟨hS.1, hS.2.1, hS.2.2.1, fun w hw => hS.2.2.2 w (by rw [hst]; simp [hw])⟩
                    have hAl : ((st.take b).reverse.map (toV B adK)).length = (mus μ').2.2 := by
                      rw [List.length_map, List.length_reverse, List.length_take]
                      omega
                    rcases hm with hm | hm
                    · have hL : (Jvm.Cond.methodLink (clsN (clOf μ)) idx (nameOf μ')).before sargs s = true := hts (wM (clOf μ, idx, μ')) (inG (lnkM_ok _ hm) rfl)
                      exact my_call (rest := rest) (va_runS (As := (st.take b).reverse.map (toV B adK)) (rest := rest.map (toV B adK)) ⟨hx, hb, hml, hown, hts⟩ hM ⟨callB_my hμ' hts hL hRf hRl, hts _ (d3 hstt)⟩ ⟨blind, fun U hU hW => ⟨hargV.symm, by rw [hU]; exact hS.1, henv U hU hW⟩⟩ rfl hAl hlsz hstk (lv_room (by omega)) hd ⟨Nat.zero_le _, Nat.zero_le _⟩) hSr kk
                    · have hL : va_Nw (.methodLinkNest (clsN (clOf μ)) idx (nameOf μ') "TypebarMachine") s := hE.2.2.1 (clOf μ, idx, μ') hm
                      exact my_call (rest := rest) (va_runSN (As := (st.take b).reverse.map (toV B adK)) (rest := rest.map (toV B adK)) ⟨hx, hb, hml, hown, hts⟩ hM ⟨callN_my hμ' hts hL hRf hRl, hts _ (d3 hstt), trivial⟩ ⟨blind, fun U hU hW => ⟨hargV.symm, by rw [hU]; exact hS.1, henv U hU hW⟩⟩ rfl hAl hlsz hstk (lv_room (by omega)) hd ⟨Nat.zero_le _, Nat.zero_le _⟩) hSr kk
                  · exfalso
                    exact no_call hnc hv hv2 he
              · cases h
        · have hq : (.inl v, hp1) = ((.inl w, hp) : RES) := (Option.some.inj h).symm
          cases hq
          exact ret_sim hCX hlk he hS
        · cases h
theorem lg_sl1 : ∀ (vs : List Value), (∀ v ∈ vs, v.category = 1) → (lg_sl vs).length = vs.length
  | [], _ => rfl
  | v :: vs, h => by
    have h1 := h v List.mem_cons_self
    have ih := lg_sl1 vs (fun w hw => h w (List.mem_cons_of_mem _ hw))
    show ((if v.category = 2 then [Slot.val v, Slot.second] else [Slot.val v]) ++ lg_sl vs).length = _
    rw [h1, if_neg (by decide), List.length_append, ih]
    simp only [List.length_cons, List.length_nil]
    omega
theorem lv_args1 : ∀ (vs : List Value) (i : Nat), (∀ v ∈ vs, v.category = 1) → (∀ q ∈ lv_args i vs, q.2.category = 1) ∧ ∀ (j : Nat) (v : Value), vs[j]? = some v → (i + j, v) ∈ lv_args i vs
  | [], i, _ => ⟨fun q hq => absurd hq List.not_mem_nil, fun j v h => by simp at h⟩
  | w :: vs, i, h => by
    have h1 := h w List.mem_cons_self
    obtain ⟨g1, g2⟩ := lv_args1 vs (i + 1) (fun w hw => h w (List.mem_cons_of_mem _ hw))
    have e1 : lv_args i (w :: vs) = (i, w) :: lv_args (i + 1) vs := by
      show (i, w) :: lv_args (if w.category = 2 then i + 2 else i + 1) vs = _
      rw [h1, if_neg (by decide)]
    rw [e1]
    refine ⟨fun q hq => ?_, fun j v hj => ?_⟩
    · rcases List.mem_cons.mp hq with rfl | hq
      · exact h1
      · exact g1 q hq
    · cases j with
      | zero =>
        rw [List.getElem?_cons_zero] at hj
        cases hj
        exact List.mem_cons_self
      | succ j =>
        rw [List.getElem?_cons_succ] at hj
        have h3 := g2 j v hj
        rw [show i + 1 + j = i + (j + 1) by omega] at h3
        exact List.mem_cons_of_mem _ h3
theorem call_ok (hJ : JST l B D G adK adV) (n : Nat) (hR : RunOK l B D G adK adV n) : CallOK l B D G adK adV n := by
  intro d μ args hp v hp1 hμ hnA hoI h
  obtain ⟨w1, w2, w3, w4, w5, w6⟩ := okW_at hμ
  refine Met.ofW (cc := bytesOf μ) (maxL := maxOf μ) (ret := retOf μ) w2 rfl ?_
  intro p e s m sargs below meth c s₁ Bd hml hv
  obtain ⟨rfl, hP, hE⟩ := hv
  have hts := atoms_spec (ws := wsOf μ) Bd.pre
  have hown : s.vm.findClass (clsN (clOf μ)) = some m.cls := by
    have h1 := findClass_of_methodNamed Bd.named
    rw [w1] at h1
    exact h1
  have hcat : ∀ v ∈ args.map (toV B adK), v.category = 1 := by
    intro v hv
    obtain ⟨w, hw, rfl⟩ := List.mem_map.mp hv
    exact (hoI w hw).cat
  have hle : (lg_sl (args.map (toV B adK))).length ≤ maxOf μ := by
    rw [lg_sl1 _ hcat, List.length_map]
    omega
  have hl := lv_entry (args.map (toV B adK)) hle
  obtain ⟨g1, g2⟩ := lv_args1 (args.map (toV B adK)) 0 hcat
  rw [lg_entry_eq]
  have hS : STt B D G adK s ((lg_sl (args.map (toV B adK)) ++ List.replicate (maxOf μ - (lg_sl (args.map (toV B adK))).length) Slot.unset).toArray) (maxOf μ) (entryL args (maxOf μ)) [] hp s.heap [] := by
    refine ⟨hP, va_S.rf, ⟨?_, ?_, _, hl, g1, ?_⟩, fun v hv => absurd hv List.not_mem_nil⟩
    · unfold entryL
      simp only [List.length_append, List.length_map, List.length_replicate]
      omega
    · intro v hv
      unfold entryL at hv
      rcases List.mem_append.mp hv with hv | hv
      · obtain ⟨w, hw, e⟩ := List.mem_map.mp hv
        cases e
        exact hoI _ hw
      · have := (List.mem_replicate.mp hv).2
        cases this
    · intro i v hv
      unfold entryL at hv
      by_cases hi : i < args.length
      · rw [List.getElem?_append_left (by rw [List.length_map]; exact hi), List.getElem?_map] at hv
        obtain ⟨w, hw, e⟩ := Option.map_eq_some_iff.mp hv
        cases e
        have h3 := g2 i (toV B adK v) (by rw [List.getElem?_map, hw]; rfl)
        rw [Nat.zero_add] at h3
        exact h3
      · rw [List.getElem?_append_right (by rw [List.length_map]; omega)] at hv
        have := List.mem_of_getElem? hv
        have := (List.mem_replicate.mp this).2
        cases this
  exact hR d μ 0 (entryL args (maxOf μ)) [] hp v hp1 h p e (headSpec (wsOf μ) (rmD d)).room s m _ below meth c s.heap [] _ ⟨Bd.exec, Bd.bytes, hml, hown, fun w hw => hts w (List.mem_cons_of_mem _ hw), Bd.returns, Bd.notSynchronized, hE, hJ, hμ⟩ (Nat.le_refl _) (Nat.le_refl _) hS
theorem all_ok (hJ : JST l B D G adK adV) : ∀ n, CallOK l B D G adK adV n ∧ RunOK l B D G adK adV n := by
  have key : ∀ n, ∀ k, k < n → CallOK l B D G adK adV k := by
    intro n
    induction n with
    | zero => exact fun k h => absurd h (Nat.not_lt_zero k)
    | succ n ih =>
      intro k hk
      rcases Nat.lt_or_ge k n with h | h
      · exact ih k h
      · have hkn : k = n := by omega
        subst hkn
        exact call_ok hJ k (frame_ok hJ k ih k (Nat.le_refl _))
  exact fun n => ⟨key (n + 1) n (Nat.lt_succ_self n), frame_ok hJ n (key n) n (Nat.le_refl _)⟩
/-- THE SMALL MACHINE IS THE MACHINE: a method that returns there meets its contract -/
theorem sim_call (hJ : JST l B D G adK adV) {d μ : Nat} {args : List VL} {hp : HP} {v : Option VL} {hp1 : HP} (hμ : μ < 290) (hn : args.length = nA μ) (hI : ∀ w ∈ args, okI w) (h : Calls d μ args hp (.inl v, hp1)) : RMet l B D G adK adV d μ args hp v hp1 := by
  obtain ⟨n, hn2⟩ := h
  exact (all_ok hJ n).1 d μ args hp v hp1 hμ hn hI hn2
end SIM
end
section
theorem zz_end : True := trivial
end
