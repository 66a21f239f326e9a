-- ===== PART A: goes FIRST, ahead of the names: the tables' words, and 'selects' of the private methods out of them =====
/-- a private method of a class that the tables say can be made, by its rows of tables_1 -/
def lw_okq (q : MethodName × Nat) : Prop := (q.1.cls ≠ "java/lang/invoke/MethodHandle" ∧ q.1.cls ≠ "java/lang/invoke/VarHandle") ∧ Cond.instantiable q.1.cls q.2 ∈ tables_1 ∧ Cond.privateMethod q.1 ∈ tables_1 ∧ Cond.instanceMethod q.1 ∈ tables_1
theorem lw_p0 : lw_okq (⟨"FingerRows$Fewest", "fillSet", "(LFingerRows$Cell;II)V"⟩, 3) := ⟨⟨by decide +kernel, by decide +kernel⟩, List.mem_of_getElem? (i := 133) (by decide +kernel), List.mem_of_getElem? (i := 362) (by decide +kernel), List.mem_of_getElem? (i := 363) (by decide +kernel)⟩
theorem lw_p1 : lw_okq (⟨"FingerRows$Orders", "weighSet", "(I)V"⟩, 7) := ⟨⟨by decide +kernel, by decide +kernel⟩, List.mem_of_getElem? (i := 61) (by decide +kernel), List.mem_of_getElem? (i := 384) (by decide +kernel), List.mem_of_getElem? (i := 385) (by decide +kernel)⟩
theorem lw_p2 : lw_okq (⟨"FingerRows$Orders", "weigh", "(II)V"⟩, 7) := ⟨⟨by decide +kernel, by decide +kernel⟩, List.mem_of_getElem? (i := 61) (by decide +kernel), List.mem_of_getElem? (i := 389) (by decide +kernel), List.mem_of_getElem? (i := 390) (by decide +kernel)⟩
theorem lw_p3 : lw_okq (⟨"FingerRows$Orders", "waysOver", "(II)J"⟩, 7) := ⟨⟨by decide +kernel, by decide +kernel⟩, List.mem_of_getElem? (i := 61) (by decide +kernel), List.mem_of_getElem? (i := 395) (by decide +kernel), List.mem_of_getElem? (i := 396) (by decide +kernel)⟩
theorem lw_p4 : lw_okq (⟨"FingerRows$Orders", "calmOver", "(III)I"⟩, 7) := ⟨⟨by decide +kernel, by decide +kernel⟩, List.mem_of_getElem? (i := 61) (by decide +kernel), List.mem_of_getElem? (i := 409) (by decide +kernel), List.mem_of_getElem? (i := 410) (by decide +kernel)⟩
theorem lw_p5 : lw_okq (⟨"FingerRows", "redraw", "()V"⟩, 15) := ⟨⟨by decide +kernel, by decide +kernel⟩, List.mem_of_getElem? (i := 27) (by decide +kernel), List.mem_of_getElem? (i := 424) (by decide +kernel), List.mem_of_getElem? (i := 425) (by decide +kernel)⟩
theorem lw_p6 : lw_okq (⟨"FingerRows$Columns", "put", "(III)V"⟩, 7) := ⟨⟨by decide +kernel, by decide +kernel⟩, List.mem_of_getElem? (i := 217) (by decide +kernel), List.mem_of_getElem? (i := 443) (by decide +kernel), List.mem_of_getElem? (i := 444) (by decide +kernel)⟩
theorem lw_p7 : lw_okq (⟨"FingerRows$Wires", "note", "(II)V"⟩, 10) := ⟨⟨by decide +kernel, by decide +kernel⟩, List.mem_of_getElem? (i := 256) (by decide +kernel), List.mem_of_getElem? (i := 459) (by decide +kernel), List.mem_of_getElem? (i := 460) (by decide +kernel)⟩
theorem lw_p8 : lw_okq (⟨"FingerRows$Pins", "collect", "(LFingerRows$Cell;LFingerRows$Wires;)V"⟩, 4) := ⟨⟨by decide +kernel, by decide +kernel⟩, List.mem_of_getElem? (i := 262) (by decide +kernel), List.mem_of_getElem? (i := 467) (by decide +kernel), List.mem_of_getElem? (i := 468) (by decide +kernel)⟩
theorem lw_p9 : lw_okq (⟨"FingerRows$Pins", "offer", "(LFingerRows$Wires;II)V"⟩, 4) := ⟨⟨by decide +kernel, by decide +kernel⟩, List.mem_of_getElem? (i := 262) (by decide +kernel), List.mem_of_getElem? (i := 476) (by decide +kernel), List.mem_of_getElem? (i := 477) (by decide +kernel)⟩
theorem lw_p10 : lw_okq (⟨"FingerRows$Pins", "priceOf", "(LFingerRows$Wires;II)J"⟩, 4) := ⟨⟨by decide +kernel, by decide +kernel⟩, List.mem_of_getElem? (i := 262) (by decide +kernel), List.mem_of_getElem? (i := 480) (by decide +kernel), List.mem_of_getElem? (i := 481) (by decide +kernel)⟩
theorem lw_p11 : lw_okq (⟨"FingerRows$Wires", "drawWire", "(IZ)V"⟩, 10) := ⟨⟨by decide +kernel, by decide +kernel⟩, List.mem_of_getElem? (i := 256) (by decide +kernel), List.mem_of_getElem? (i := 488) (by decide +kernel), List.mem_of_getElem? (i := 489) (by decide +kernel)⟩
theorem lw_p12 : lw_okq (⟨"FingerRows$Cell", "tiedNets", "(II)I"⟩, 12) := ⟨⟨by decide +kernel, by decide +kernel⟩, List.mem_of_getElem? (i := 67) (by decide +kernel), List.mem_of_getElem? (i := 605) (by decide +kernel), List.mem_of_getElem? (i := 606) (by decide +kernel)⟩
theorem lw_p13 : lw_okq (⟨"FingerRows$Tape", "expectWord", "(Ljava/lang/String;)V"⟩, 5) := ⟨⟨by decide +kernel, by decide +kernel⟩, List.mem_of_getElem? (i := 35) (by decide +kernel), List.mem_of_getElem? (i := 685) (by decide +kernel), List.mem_of_getElem? (i := 686) (by decide +kernel)⟩
theorem lw_p14 : lw_okq (⟨"FingerRows$Tape", "readWord", "()V"⟩, 5) := ⟨⟨by decide +kernel, by decide +kernel⟩, List.mem_of_getElem? (i := 35) (by decide +kernel), List.mem_of_getElem? (i := 689) (by decide +kernel), List.mem_of_getElem? (i := 690) (by decide +kernel)⟩
theorem lw_p15 : lw_okq (⟨"FingerRows$Tape", "skipBlanks", "()V"⟩, 5) := ⟨⟨by decide +kernel, by decide +kernel⟩, List.mem_of_getElem? (i := 35) (by decide +kernel), List.mem_of_getElem? (i := 693) (by decide +kernel), List.mem_of_getElem? (i := 694) (by decide +kernel)⟩
def lw_privs_1 : List (MethodName × Nat) := [(⟨"FingerRows$Fewest", "fillSet", "(LFingerRows$Cell;II)V"⟩, 3), (⟨"FingerRows$Orders", "weighSet", "(I)V"⟩, 7), (⟨"FingerRows$Orders", "weigh", "(II)V"⟩, 7), (⟨"FingerRows$Orders", "waysOver", "(II)J"⟩, 7), (⟨"FingerRows$Orders", "calmOver", "(III)I"⟩, 7), (⟨"FingerRows", "redraw", "()V"⟩, 15), (⟨"FingerRows$Columns", "put", "(III)V"⟩, 7), (⟨"FingerRows$Wires", "note", "(II)V"⟩, 10), (⟨"FingerRows$Pins", "collect", "(LFingerRows$Cell;LFingerRows$Wires;)V"⟩, 4), (⟨"FingerRows$Pins", "offer", "(LFingerRows$Wires;II)V"⟩, 4), (⟨"FingerRows$Pins", "priceOf", "(LFingerRows$Wires;II)J"⟩, 4), (⟨"FingerRows$Wires", "drawWire", "(IZ)V"⟩, 10), (⟨"FingerRows$Cell", "tiedNets", "(II)I"⟩, 12), (⟨"FingerRows$Tape", "expectWord", "(Ljava/lang/String;)V"⟩, 5), (⟨"FingerRows$Tape", "readWord", "()V"⟩, 5), (⟨"FingerRows$Tape", "skipBlanks", "()V"⟩, 5)]
theorem lw_r1 : ∀ q ∈ lw_privs_1, lw_okq q := List.forall_mem_cons.mpr ⟨lw_p0, List.forall_mem_cons.mpr ⟨lw_p1, List.forall_mem_cons.mpr ⟨lw_p2, List.forall_mem_cons.mpr ⟨lw_p3, List.forall_mem_cons.mpr ⟨lw_p4, List.forall_mem_cons.mpr ⟨lw_p5, List.forall_mem_cons.mpr ⟨lw_p6, List.forall_mem_cons.mpr ⟨lw_p7, List.forall_mem_cons.mpr ⟨lw_p8, List.forall_mem_cons.mpr ⟨lw_p9, List.forall_mem_cons.mpr ⟨lw_p10, List.forall_mem_cons.mpr ⟨lw_p11, List.forall_mem_cons.mpr ⟨lw_p12, List.forall_mem_cons.mpr ⟨lw_p13, List.forall_mem_cons.mpr ⟨lw_p14, List.forall_mem_cons.mpr ⟨lw_p15, fun _ h => absurd h List.not_mem_nil⟩⟩⟩⟩⟩⟩⟩⟩⟩⟩⟩⟩⟩⟩⟩⟩
theorem lw_p16 : lw_okq (⟨"FingerRows$Tape", "goThroughWord", "()V"⟩, 5) := ⟨⟨by decide +kernel, by decide +kernel⟩, List.mem_of_getElem? (i := 35) (by decide +kernel), List.mem_of_getElem? (i := 697) (by decide +kernel), List.mem_of_getElem? (i := 698) (by decide +kernel)⟩
theorem lw_p17 : lw_okq (⟨"FingerRows$Tape", "fail", "(I)V"⟩, 5) := ⟨⟨by decide +kernel, by decide +kernel⟩, List.mem_of_getElem? (i := 35) (by decide +kernel), List.mem_of_getElem? (i := 701) (by decide +kernel), List.mem_of_getElem? (i := 702) (by decide +kernel)⟩
theorem lw_p18 : lw_okq (⟨"FingerRows$Tape", "wordIs", "(Ljava/lang/String;)Z"⟩, 5) := ⟨⟨by decide +kernel, by decide +kernel⟩, List.mem_of_getElem? (i := 35) (by decide +kernel), List.mem_of_getElem? (i := 705) (by decide +kernel), List.mem_of_getElem? (i := 706) (by decide +kernel)⟩
theorem lw_p19 : lw_okq (⟨"FingerRows$Tape", "readNumber", "(II)I"⟩, 5) := ⟨⟨by decide +kernel, by decide +kernel⟩, List.mem_of_getElem? (i := 35) (by decide +kernel), List.mem_of_getElem? (i := 757) (by decide +kernel), List.mem_of_getElem? (i := 758) (by decide +kernel)⟩
theorem lw_p20 : lw_okq (⟨"FingerRows$Tape", "anotherLine", "()Z"⟩, 5) := ⟨⟨by decide +kernel, by decide +kernel⟩, List.mem_of_getElem? (i := 35) (by decide +kernel), List.mem_of_getElem? (i := 761) (by decide +kernel), List.mem_of_getElem? (i := 762) (by decide +kernel)⟩
theorem lw_p21 : lw_okq (⟨"FingerRows$Tape", "readLine", "(LFingerRows$Cell;I)V"⟩, 5) := ⟨⟨by decide +kernel, by decide +kernel⟩, List.mem_of_getElem? (i := 35) (by decide +kernel), List.mem_of_getElem? (i := 765) (by decide +kernel), List.mem_of_getElem? (i := 766) (by decide +kernel)⟩
theorem lw_p22 : lw_okq (⟨"FingerRows$Tape", "readPair", "(LFingerRows$Cell;I)V"⟩, 5) := ⟨⟨by decide +kernel, by decide +kernel⟩, List.mem_of_getElem? (i := 35) (by decide +kernel), List.mem_of_getElem? (i := 770) (by decide +kernel), List.mem_of_getElem? (i := 771) (by decide +kernel)⟩
theorem lw_p23 : lw_okq (⟨"FingerRows$Tape", "readNet", "()I"⟩, 5) := ⟨⟨by decide +kernel, by decide +kernel⟩, List.mem_of_getElem? (i := 35) (by decide +kernel), List.mem_of_getElem? (i := 774) (by decide +kernel), List.mem_of_getElem? (i := 775) (by decide +kernel)⟩
theorem lw_p24 : lw_okq (⟨"FingerRows$Tape", "passWord", "(Ljava/lang/String;)Z"⟩, 5) := ⟨⟨by decide +kernel, by decide +kernel⟩, List.mem_of_getElem? (i := 35) (by decide +kernel), List.mem_of_getElem? (i := 781) (by decide +kernel), List.mem_of_getElem? (i := 782) (by decide +kernel)⟩
theorem lw_p25 : lw_okq (⟨"FingerRows$Tape", "readNewNet", "(I)I"⟩, 5) := ⟨⟨by decide +kernel, by decide +kernel⟩, List.mem_of_getElem? (i := 35) (by decide +kernel), List.mem_of_getElem? (i := 790) (by decide +kernel), List.mem_of_getElem? (i := 791) (by decide +kernel)⟩
theorem lw_p26 : lw_okq (⟨"FingerRows$Tape", "readPin", "(LFingerRows$Cell;I)V"⟩, 5) := ⟨⟨by decide +kernel, by decide +kernel⟩, List.mem_of_getElem? (i := 35) (by decide +kernel), List.mem_of_getElem? (i := 796) (by decide +kernel), List.mem_of_getElem? (i := 797) (by decide +kernel)⟩
theorem lw_p27 : lw_okq (⟨"FingerRows$Tape", "readBlock", "(LFingerRows$Cell;I)V"⟩, 5) := ⟨⟨by decide +kernel, by decide +kernel⟩, List.mem_of_getElem? (i := 35) (by decide +kernel), List.mem_of_getElem? (i := 802) (by decide +kernel), List.mem_of_getElem? (i := 803) (by decide +kernel)⟩
theorem lw_p28 : lw_okq (⟨"java/lang/Throwable", "fillInStackTrace", "(I)Ljava/lang/Throwable;"⟩, 6) := ⟨⟨by decide +kernel, by decide +kernel⟩, List.mem_of_getElem? (i := 845) (by decide +kernel), List.mem_of_getElem? (i := 843) (by decide +kernel), List.mem_of_getElem? (i := 844) (by decide +kernel)⟩
theorem lw_p29 : lw_okq (⟨"FingerRows", "notKept", "()LFingerRows$Orders;"⟩, 15) := ⟨⟨by decide +kernel, by decide +kernel⟩, List.mem_of_getElem? (i := 27) (by decide +kernel), List.mem_of_getElem? (i := 874) (by decide +kernel), List.mem_of_getElem? (i := 875) (by decide +kernel)⟩
theorem lw_p30 : lw_okq (⟨"FingerRows", "isPlace", "(I)Z"⟩, 15) := ⟨⟨by decide +kernel, by decide +kernel⟩, List.mem_of_getElem? (i := 27) (by decide +kernel), List.mem_of_getElem? (i := 939) (by decide +kernel), List.mem_of_getElem? (i := 940) (by decide +kernel)⟩
theorem lw_p31 : lw_okq (⟨"FingerRows", "isFinger", "(I)Z"⟩, 15) := ⟨⟨by decide +kernel, by decide +kernel⟩, List.mem_of_getElem? (i := 27) (by decide +kernel), List.mem_of_getElem? (i := 1048) (by decide +kernel), List.mem_of_getElem? (i := 1049) (by decide +kernel)⟩
def lw_privs_2 : List (MethodName × Nat) := [(⟨"FingerRows$Tape", "goThroughWord", "()V"⟩, 5), (⟨"FingerRows$Tape", "fail", "(I)V"⟩, 5), (⟨"FingerRows$Tape", "wordIs", "(Ljava/lang/String;)Z"⟩, 5), (⟨"FingerRows$Tape", "readNumber", "(II)I"⟩, 5), (⟨"FingerRows$Tape", "anotherLine", "()Z"⟩, 5), (⟨"FingerRows$Tape", "readLine", "(LFingerRows$Cell;I)V"⟩, 5), (⟨"FingerRows$Tape", "readPair", "(LFingerRows$Cell;I)V"⟩, 5), (⟨"FingerRows$Tape", "readNet", "()I"⟩, 5), (⟨"FingerRows$Tape", "passWord", "(Ljava/lang/String;)Z"⟩, 5), (⟨"FingerRows$Tape", "readNewNet", "(I)I"⟩, 5), (⟨"FingerRows$Tape", "readPin", "(LFingerRows$Cell;I)V"⟩, 5), (⟨"FingerRows$Tape", "readBlock", "(LFingerRows$Cell;I)V"⟩, 5), (⟨"java/lang/Throwable", "fillInStackTrace", "(I)Ljava/lang/Throwable;"⟩, 6), (⟨"FingerRows", "notKept", "()LFingerRows$Orders;"⟩, 15), (⟨"FingerRows", "isPlace", "(I)Z"⟩, 15), (⟨"FingerRows", "isFinger", "(I)Z"⟩, 15)]
theorem lw_r2 : ∀ q ∈ lw_privs_2, lw_okq q := List.forall_mem_cons.mpr ⟨lw_p16, List.forall_mem_cons.mpr ⟨lw_p17, List.forall_mem_cons.mpr ⟨lw_p18, List.forall_mem_cons.mpr ⟨lw_p19, List.forall_mem_cons.mpr ⟨lw_p20, List.forall_mem_cons.mpr ⟨lw_p21, List.forall_mem_cons.mpr ⟨lw_p22, List.forall_mem_cons.mpr ⟨lw_p23, List.forall_mem_cons.mpr ⟨lw_p24, List.forall_mem_cons.mpr ⟨lw_p25, List.forall_mem_cons.mpr ⟨lw_p26, List.forall_mem_cons.mpr ⟨lw_p27, List.forall_mem_cons.mpr ⟨lw_p28, List.forall_mem_cons.mpr ⟨lw_p29, List.forall_mem_cons.mpr ⟨lw_p30, List.forall_mem_cons.mpr ⟨lw_p31, fun _ h => absurd h List.not_mem_nil⟩⟩⟩⟩⟩⟩⟩⟩⟩⟩⟩⟩⟩⟩⟩⟩
theorem lw_p32 : lw_okq (⟨"FingerRows$Advice", "weigh", "(IIII)V"⟩, 1) := ⟨⟨by decide +kernel, by decide +kernel⟩, List.mem_of_getElem? (i := 325) (by decide +kernel), List.mem_of_getElem? (i := 1107) (by decide +kernel), List.mem_of_getElem? (i := 1108) (by decide +kernel)⟩
theorem lw_p33 : lw_okq (⟨"FingerRows", "lengthOf", "(I)I"⟩, 15) := ⟨⟨by decide +kernel, by decide +kernel⟩, List.mem_of_getElem? (i := 27) (by decide +kernel), List.mem_of_getElem? (i := 1123) (by decide +kernel), List.mem_of_getElem? (i := 1124) (by decide +kernel)⟩
theorem lw_p34 : lw_okq (⟨"FingerRows$Orders", "waysAcross", "(III)J"⟩, 7) := ⟨⟨by decide +kernel, by decide +kernel⟩, List.mem_of_getElem? (i := 61) (by decide +kernel), List.mem_of_getElem? (i := 1140) (by decide +kernel), List.mem_of_getElem? (i := 1141) (by decide +kernel)⟩
theorem lw_p35 : lw_okq (⟨"FingerRowsModel", "expects", "(Ljava/lang/String;)V"⟩, 41) := ⟨⟨by decide +kernel, by decide +kernel⟩, List.mem_of_getElem? (i := 1245) (by decide +kernel), List.mem_of_getElem? (i := 1398) (by decide +kernel), List.mem_of_getElem? (i := 1399) (by decide +kernel)⟩
theorem lw_p36 : lw_okq (⟨"FingerRowsModel", "has", "(Ljava/lang/String;)Z"⟩, 41) := ⟨⟨by decide +kernel, by decide +kernel⟩, List.mem_of_getElem? (i := 1245) (by decide +kernel), List.mem_of_getElem? (i := 1402) (by decide +kernel), List.mem_of_getElem? (i := 1403) (by decide +kernel)⟩
theorem lw_p37 : lw_okq (⟨"FingerRowsModel", "here", "()I"⟩, 41) := ⟨⟨by decide +kernel, by decide +kernel⟩, List.mem_of_getElem? (i := 1245) (by decide +kernel), List.mem_of_getElem? (i := 1406) (by decide +kernel), List.mem_of_getElem? (i := 1407) (by decide +kernel)⟩
theorem lw_p38 : lw_okq (⟨"FingerRowsModel", "wrong", "(I)V"⟩, 41) := ⟨⟨by decide +kernel, by decide +kernel⟩, List.mem_of_getElem? (i := 1245) (by decide +kernel), List.mem_of_getElem? (i := 1412) (by decide +kernel), List.mem_of_getElem? (i := 1413) (by decide +kernel)⟩
theorem lw_p39 : lw_okq (⟨"FingerRowsModel", "number", "(II)I"⟩, 41) := ⟨⟨by decide +kernel, by decide +kernel⟩, List.mem_of_getElem? (i := 1245) (by decide +kernel), List.mem_of_getElem? (i := 1416) (by decide +kernel), List.mem_of_getElem? (i := 1417) (by decide +kernel)⟩
theorem lw_p40 : lw_okq (⟨"FingerRowsModel", "line", "()V"⟩, 41) := ⟨⟨by decide +kernel, by decide +kernel⟩, List.mem_of_getElem? (i := 1245) (by decide +kernel), List.mem_of_getElem? (i := 1420) (by decide +kernel), List.mem_of_getElem? (i := 1421) (by decide +kernel)⟩
theorem lw_p41 : lw_okq (⟨"FingerRowsModel", "pairLine", "(I)V"⟩, 41) := ⟨⟨by decide +kernel, by decide +kernel⟩, List.mem_of_getElem? (i := 1245) (by decide +kernel), List.mem_of_getElem? (i := 1425) (by decide +kernel), List.mem_of_getElem? (i := 1426) (by decide +kernel)⟩
theorem lw_p42 : lw_okq (⟨"FingerRowsModel", "netLine", "(I)V"⟩, 41) := ⟨⟨by decide +kernel, by decide +kernel⟩, List.mem_of_getElem? (i := 1245) (by decide +kernel), List.mem_of_getElem? (i := 1433) (by decide +kernel), List.mem_of_getElem? (i := 1434) (by decide +kernel)⟩
theorem lw_p43 : lw_okq (⟨"FingerRowsModel", "blockLine", "(I)V"⟩, 41) := ⟨⟨by decide +kernel, by decide +kernel⟩, List.mem_of_getElem? (i := 1245) (by decide +kernel), List.mem_of_getElem? (i := 1445) (by decide +kernel), List.mem_of_getElem? (i := 1446) (by decide +kernel)⟩
theorem lw_p44 : lw_okq (⟨"FingerRowsModel", "fingers", "()I"⟩, 41) := ⟨⟨by decide +kernel, by decide +kernel⟩, List.mem_of_getElem? (i := 1245) (by decide +kernel), List.mem_of_getElem? (i := 1449) (by decide +kernel), List.mem_of_getElem? (i := 1450) (by decide +kernel)⟩
theorem lw_p45 : lw_okq (⟨"FingerRowsModel", "fingersOf", "(I)I"⟩, 41) := ⟨⟨by decide +kernel, by decide +kernel⟩, List.mem_of_getElem? (i := 1245) (by decide +kernel), List.mem_of_getElem? (i := 1461) (by decide +kernel), List.mem_of_getElem? (i := 1462) (by decide +kernel)⟩
theorem lw_p46 : lw_okq (⟨"FingerRowsModel", "isFinger", "(I)Z"⟩, 41) := ⟨⟨by decide +kernel, by decide +kernel⟩, List.mem_of_getElem? (i := 1245) (by decide +kernel), List.mem_of_getElem? (i := 1469) (by decide +kernel), List.mem_of_getElem? (i := 1470) (by decide +kernel)⟩
theorem lw_p47 : lw_okq (⟨"FingerRowsModel", "laysColumns", "()V"⟩, 41) := ⟨⟨by decide +kernel, by decide +kernel⟩, List.mem_of_getElem? (i := 1245) (by decide +kernel), List.mem_of_getElem? (i := 1473) (by decide +kernel), List.mem_of_getElem? (i := 1474) (by decide +kernel)⟩
def lw_privs_3 : List (MethodName × Nat) := [(⟨"FingerRows$Advice", "weigh", "(IIII)V"⟩, 1), (⟨"FingerRows", "lengthOf", "(I)I"⟩, 15), (⟨"FingerRows$Orders", "waysAcross", "(III)J"⟩, 7), (⟨"FingerRowsModel", "expects", "(Ljava/lang/String;)V"⟩, 41), (⟨"FingerRowsModel", "has", "(Ljava/lang/String;)Z"⟩, 41), (⟨"FingerRowsModel", "here", "()I"⟩, 41), (⟨"FingerRowsModel", "wrong", "(I)V"⟩, 41), (⟨"FingerRowsModel", "number", "(II)I"⟩, 41), (⟨"FingerRowsModel", "line", "()V"⟩, 41), (⟨"FingerRowsModel", "pairLine", "(I)V"⟩, 41), (⟨"FingerRowsModel", "netLine", "(I)V"⟩, 41), (⟨"FingerRowsModel", "blockLine", "(I)V"⟩, 41), (⟨"FingerRowsModel", "fingers", "()I"⟩, 41), (⟨"FingerRowsModel", "fingersOf", "(I)I"⟩, 41), (⟨"FingerRowsModel", "isFinger", "(I)Z"⟩, 41), (⟨"FingerRowsModel", "laysColumns", "()V"⟩, 41)]
theorem lw_r3 : ∀ q ∈ lw_privs_3, lw_okq q := List.forall_mem_cons.mpr ⟨lw_p32, List.forall_mem_cons.mpr ⟨lw_p33, List.forall_mem_cons.mpr ⟨lw_p34, List.forall_mem_cons.mpr ⟨lw_p35, List.forall_mem_cons.mpr ⟨lw_p36, List.forall_mem_cons.mpr ⟨lw_p37, List.forall_mem_cons.mpr ⟨lw_p38, List.forall_mem_cons.mpr ⟨lw_p39, List.forall_mem_cons.mpr ⟨lw_p40, List.forall_mem_cons.mpr ⟨lw_p41, List.forall_mem_cons.mpr ⟨lw_p42, List.forall_mem_cons.mpr ⟨lw_p43, List.forall_mem_cons.mpr ⟨lw_p44, List.forall_mem_cons.mpr ⟨lw_p45, List.forall_mem_cons.mpr ⟨lw_p46, List.forall_mem_cons.mpr ⟨lw_p47, fun _ h => absurd h List.not_mem_nil⟩⟩⟩⟩⟩⟩⟩⟩⟩⟩⟩⟩⟩⟩⟩⟩
theorem lw_p48 : lw_okq (⟨"FingerRowsModel", "fingerAt", "(I)I"⟩, 41) := ⟨⟨by decide +kernel, by decide +kernel⟩, List.mem_of_getElem? (i := 1245) (by decide +kernel), List.mem_of_getElem? (i := 1477) (by decide +kernel), List.mem_of_getElem? (i := 1478) (by decide +kernel)⟩
theorem lw_p49 : lw_okq (⟨"FingerRowsModel", "turnAt", "(I)I"⟩, 41) := ⟨⟨by decide +kernel, by decide +kernel⟩, List.mem_of_getElem? (i := 1245) (by decide +kernel), List.mem_of_getElem? (i := 1481) (by decide +kernel), List.mem_of_getElem? (i := 1482) (by decide +kernel)⟩
theorem lw_p50 : lw_okq (⟨"FingerRowsModel", "side", "(IIZZ)I"⟩, 41) := ⟨⟨by decide +kernel, by decide +kernel⟩, List.mem_of_getElem? (i := 1245) (by decide +kernel), List.mem_of_getElem? (i := 1485) (by decide +kernel), List.mem_of_getElem? (i := 1486) (by decide +kernel)⟩
theorem lw_p51 : lw_okq (⟨"FingerRowsModel", "of", "(II)I"⟩, 41) := ⟨⟨by decide +kernel, by decide +kernel⟩, List.mem_of_getElem? (i := 1245) (by decide +kernel), List.mem_of_getElem? (i := 1489) (by decide +kernel), List.mem_of_getElem? (i := 1490) (by decide +kernel)⟩
theorem lw_p52 : lw_okq (⟨"FingerRowsModel", "laysColumn", "(IIII)V"⟩, 41) := ⟨⟨by decide +kernel, by decide +kernel⟩, List.mem_of_getElem? (i := 1245) (by decide +kernel), List.mem_of_getElem? (i := 1493) (by decide +kernel), List.mem_of_getElem? (i := 1494) (by decide +kernel)⟩
theorem lw_p53 : lw_okq (⟨"FingerRowsModel", "lackBehind", "(I)I"⟩, 41) := ⟨⟨by decide +kernel, by decide +kernel⟩, List.mem_of_getElem? (i := 1245) (by decide +kernel), List.mem_of_getElem? (i := 1497) (by decide +kernel), List.mem_of_getElem? (i := 1498) (by decide +kernel)⟩
theorem lw_p54 : lw_okq (⟨"FingerRowsModel", "lacks", "(IIII)I"⟩, 41) := ⟨⟨by decide +kernel, by decide +kernel⟩, List.mem_of_getElem? (i := 1245) (by decide +kernel), List.mem_of_getElem? (i := 1501) (by decide +kernel), List.mem_of_getElem? (i := 1502) (by decide +kernel)⟩
theorem lw_p55 : lw_okq (⟨"FingerRowsModel", "meets", "(IIIIZ)Z"⟩, 41) := ⟨⟨by decide +kernel, by decide +kernel⟩, List.mem_of_getElem? (i := 1245) (by decide +kernel), List.mem_of_getElem? (i := 1505) (by decide +kernel), List.mem_of_getElem? (i := 1506) (by decide +kernel)⟩
theorem lw_p56 : lw_okq (⟨"FingerRowsModel", "laysNet", "(I)V"⟩, 41) := ⟨⟨by decide +kernel, by decide +kernel⟩, List.mem_of_getElem? (i := 1245) (by decide +kernel), List.mem_of_getElem? (i := 1509) (by decide +kernel), List.mem_of_getElem? (i := 1510) (by decide +kernel)⟩
theorem lw_p57 : lw_okq (⟨"FingerRowsModel", "isReadBack", "(I)Z"⟩, 41) := ⟨⟨by decide +kernel, by decide +kernel⟩, List.mem_of_getElem? (i := 1245) (by decide +kernel), List.mem_of_getElem? (i := 1513) (by decide +kernel), List.mem_of_getElem? (i := 1514) (by decide +kernel)⟩
theorem lw_p58 : lw_okq (⟨"FingerRowsModel", "laysOut", "()V"⟩, 41) := ⟨⟨by decide +kernel, by decide +kernel⟩, List.mem_of_getElem? (i := 1245) (by decide +kernel), List.mem_of_getElem? (i := 1524) (by decide +kernel), List.mem_of_getElem? (i := 1525) (by decide +kernel)⟩
theorem lw_p59 : lw_okq (⟨"FingerRowsModel", "laysPins", "()V"⟩, 41) := ⟨⟨by decide +kernel, by decide +kernel⟩, List.mem_of_getElem? (i := 1245) (by decide +kernel), List.mem_of_getElem? (i := 1528) (by decide +kernel), List.mem_of_getElem? (i := 1529) (by decide +kernel)⟩
theorem lw_p60 : lw_okq (⟨"FingerRowsModel", "restOf", "(II)I"⟩, 41) := ⟨⟨by decide +kernel, by decide +kernel⟩, List.mem_of_getElem? (i := 1245) (by decide +kernel), List.mem_of_getElem? (i := 1532) (by decide +kernel), List.mem_of_getElem? (i := 1533) (by decide +kernel)⟩
theorem lw_p61 : lw_okq (⟨"FingerRowsModel", "beyond", "(II)I"⟩, 41) := ⟨⟨by decide +kernel, by decide +kernel⟩, List.mem_of_getElem? (i := 1245) (by decide +kernel), List.mem_of_getElem? (i := 1536) (by decide +kernel), List.mem_of_getElem? (i := 1537) (by decide +kernel)⟩
theorem lw_p62 : lw_okq (⟨"FingerRowsModel", "laysWire", "(I)V"⟩, 41) := ⟨⟨by decide +kernel, by decide +kernel⟩, List.mem_of_getElem? (i := 1245) (by decide +kernel), List.mem_of_getElem? (i := 1546) (by decide +kernel), List.mem_of_getElem? (i := 1547) (by decide +kernel)⟩
theorem lw_p63 : lw_okq (⟨"FingerRowsModel", "laysTracks", "()V"⟩, 41) := ⟨⟨by decide +kernel, by decide +kernel⟩, List.mem_of_getElem? (i := 1245) (by decide +kernel), List.mem_of_getElem? (i := 1550) (by decide +kernel), List.mem_of_getElem? (i := 1551) (by decide +kernel)⟩
def lw_privs_4 : List (MethodName × Nat) := [(⟨"FingerRowsModel", "fingerAt", "(I)I"⟩, 41), (⟨"FingerRowsModel", "turnAt", "(I)I"⟩, 41), (⟨"FingerRowsModel", "side", "(IIZZ)I"⟩, 41), (⟨"FingerRowsModel", "of", "(II)I"⟩, 41), (⟨"FingerRowsModel", "laysColumn", "(IIII)V"⟩, 41), (⟨"FingerRowsModel", "lackBehind", "(I)I"⟩, 41), (⟨"FingerRowsModel", "lacks", "(IIII)I"⟩, 41), (⟨"FingerRowsModel", "meets", "(IIIIZ)Z"⟩, 41), (⟨"FingerRowsModel", "laysNet", "(I)V"⟩, 41), (⟨"FingerRowsModel", "isReadBack", "(I)Z"⟩, 41), (⟨"FingerRowsModel", "laysOut", "()V"⟩, 41), (⟨"FingerRowsModel", "laysPins", "()V"⟩, 41), (⟨"FingerRowsModel", "restOf", "(II)I"⟩, 41), (⟨"FingerRowsModel", "beyond", "(II)I"⟩, 41), (⟨"FingerRowsModel", "laysWire", "(I)V"⟩, 41), (⟨"FingerRowsModel", "laysTracks", "()V"⟩, 41)]
theorem lw_r4 : ∀ q ∈ lw_privs_4, lw_okq q := List.forall_mem_cons.mpr ⟨lw_p48, List.forall_mem_cons.mpr ⟨lw_p49, List.forall_mem_cons.mpr ⟨lw_p50, List.forall_mem_cons.mpr ⟨lw_p51, List.forall_mem_cons.mpr ⟨lw_p52, List.forall_mem_cons.mpr ⟨lw_p53, List.forall_mem_cons.mpr ⟨lw_p54, List.forall_mem_cons.mpr ⟨lw_p55, List.forall_mem_cons.mpr ⟨lw_p56, List.forall_mem_cons.mpr ⟨lw_p57, List.forall_mem_cons.mpr ⟨lw_p58, List.forall_mem_cons.mpr ⟨lw_p59, List.forall_mem_cons.mpr ⟨lw_p60, List.forall_mem_cons.mpr ⟨lw_p61, List.forall_mem_cons.mpr ⟨lw_p62, List.forall_mem_cons.mpr ⟨lw_p63, fun _ h => absurd h List.not_mem_nil⟩⟩⟩⟩⟩⟩⟩⟩⟩⟩⟩⟩⟩⟩⟩⟩
theorem lw_p64 : lw_okq (⟨"FingerRowsModel", "isFree", "(II)Z"⟩, 41) := ⟨⟨by decide +kernel, by decide +kernel⟩, List.mem_of_getElem? (i := 1245) (by decide +kernel), List.mem_of_getElem? (i := 1554) (by decide +kernel), List.mem_of_getElem? (i := 1555) (by decide +kernel)⟩
theorem lw_p65 : lw_okq (⟨"FingerRowsModel", "crosses", "(III)Z"⟩, 41) := ⟨⟨by decide +kernel, by decide +kernel⟩, List.mem_of_getElem? (i := 1245) (by decide +kernel), List.mem_of_getElem? (i := 1558) (by decide +kernel), List.mem_of_getElem? (i := 1559) (by decide +kernel)⟩
theorem lw_p66 : lw_okq (⟨"FingerRowsModel", "hasWire", "(I)Z"⟩, 41) := ⟨⟨by decide +kernel, by decide +kernel⟩, List.mem_of_getElem? (i := 1245) (by decide +kernel), List.mem_of_getElem? (i := 1562) (by decide +kernel), List.mem_of_getElem? (i := 1563) (by decide +kernel)⟩
theorem lw_p67 : lw_okq (⟨"FingerRowsModel", "cut", "(I)I"⟩, 41) := ⟨⟨by decide +kernel, by decide +kernel⟩, List.mem_of_getElem? (i := 1245) (by decide +kernel), List.mem_of_getElem? (i := 1566) (by decide +kernel), List.mem_of_getElem? (i := 1567) (by decide +kernel)⟩
theorem lw_p68 : lw_okq (⟨"FingerRowsModel", "tracks", "()I"⟩, 41) := ⟨⟨by decide +kernel, by decide +kernel⟩, List.mem_of_getElem? (i := 1245) (by decide +kernel), List.mem_of_getElem? (i := 1581) (by decide +kernel), List.mem_of_getElem? (i := 1582) (by decide +kernel)⟩
theorem lw_p69 : lw_okq (⟨"FingerRowsModel", "gapsNow", "()I"⟩, 41) := ⟨⟨by decide +kernel, by decide +kernel⟩, List.mem_of_getElem? (i := 1245) (by decide +kernel), List.mem_of_getElem? (i := 1585) (by decide +kernel), List.mem_of_getElem? (i := 1586) (by decide +kernel)⟩
theorem lw_p70 : lw_okq (⟨"FingerRowsModel", "breaksNow", "()I"⟩, 41) := ⟨⟨by decide +kernel, by decide +kernel⟩, List.mem_of_getElem? (i := 1245) (by decide +kernel), List.mem_of_getElem? (i := 1589) (by decide +kernel), List.mem_of_getElem? (i := 1590) (by decide +kernel)⟩
theorem lw_p71 : lw_okq (⟨"FingerRowsModel", "wires", "()I"⟩, 41) := ⟨⟨by decide +kernel, by decide +kernel⟩, List.mem_of_getElem? (i := 1245) (by decide +kernel), List.mem_of_getElem? (i := 1593) (by decide +kernel), List.mem_of_getElem? (i := 1594) (by decide +kernel)⟩
theorem lw_p72 : lw_okq (⟨"FingerRowsModel", "worst", "()I"⟩, 41) := ⟨⟨by decide +kernel, by decide +kernel⟩, List.mem_of_getElem? (i := 1245) (by decide +kernel), List.mem_of_getElem? (i := 1597) (by decide +kernel), List.mem_of_getElem? (i := 1598) (by decide +kernel)⟩
theorem lw_p73 : lw_okq (⟨"FingerRowsModel", "lost", "()I"⟩, 41) := ⟨⟨by decide +kernel, by decide +kernel⟩, List.mem_of_getElem? (i := 1245) (by decide +kernel), List.mem_of_getElem? (i := 1601) (by decide +kernel), List.mem_of_getElem? (i := 1602) (by decide +kernel)⟩
theorem lw_p74 : lw_okq (⟨"FingerRowsModel", "length", "()I"⟩, 41) := ⟨⟨by decide +kernel, by decide +kernel⟩, List.mem_of_getElem? (i := 1245) (by decide +kernel), List.mem_of_getElem? (i := 1605) (by decide +kernel), List.mem_of_getElem? (i := 1606) (by decide +kernel)⟩
theorem lw_p75 : lw_okq (⟨"FingerRowsModel", "isSame", "()Z"⟩, 41) := ⟨⟨by decide +kernel, by decide +kernel⟩, List.mem_of_getElem? (i := 1245) (by decide +kernel), List.mem_of_getElem? (i := 1609) (by decide +kernel), List.mem_of_getElem? (i := 1610) (by decide +kernel)⟩
theorem lw_p76 : lw_okq (⟨"FingerRowsModel", "laysBest", "()V"⟩, 41) := ⟨⟨by decide +kernel, by decide +kernel⟩, List.mem_of_getElem? (i := 1245) (by decide +kernel), List.mem_of_getElem? (i := 1617) (by decide +kernel), List.mem_of_getElem? (i := 1618) (by decide +kernel)⟩
theorem lw_p77 : lw_okq (⟨"FingerRowsModel", "laysAll", "(I)V"⟩, 41) := ⟨⟨by decide +kernel, by decide +kernel⟩, List.mem_of_getElem? (i := 1245) (by decide +kernel), List.mem_of_getElem? (i := 1621) (by decide +kernel), List.mem_of_getElem? (i := 1622) (by decide +kernel)⟩
theorem lw_p78 : lw_okq (⟨"FingerRowsModel", "laysState", "(IIII)V"⟩, 41) := ⟨⟨by decide +kernel, by decide +kernel⟩, List.mem_of_getElem? (i := 1245) (by decide +kernel), List.mem_of_getElem? (i := 1625) (by decide +kernel), List.mem_of_getElem? (i := 1626) (by decide +kernel)⟩
theorem lw_p79 : lw_okq (⟨"FingerRowsModel", "tellsBest", "(J)V"⟩, 41) := ⟨⟨by decide +kernel, by decide +kernel⟩, List.mem_of_getElem? (i := 1245) (by decide +kernel), List.mem_of_getElem? (i := 1640) (by decide +kernel), List.mem_of_getElem? (i := 1641) (by decide +kernel)⟩
def lw_privs_5 : List (MethodName × Nat) := [(⟨"FingerRowsModel", "isFree", "(II)Z"⟩, 41), (⟨"FingerRowsModel", "crosses", "(III)Z"⟩, 41), (⟨"FingerRowsModel", "hasWire", "(I)Z"⟩, 41), (⟨"FingerRowsModel", "cut", "(I)I"⟩, 41), (⟨"FingerRowsModel", "tracks", "()I"⟩, 41), (⟨"FingerRowsModel", "gapsNow", "()I"⟩, 41), (⟨"FingerRowsModel", "breaksNow", "()I"⟩, 41), (⟨"FingerRowsModel", "wires", "()I"⟩, 41), (⟨"FingerRowsModel", "worst", "()I"⟩, 41), (⟨"FingerRowsModel", "lost", "()I"⟩, 41), (⟨"FingerRowsModel", "length", "()I"⟩, 41), (⟨"FingerRowsModel", "isSame", "()Z"⟩, 41), (⟨"FingerRowsModel", "laysBest", "()V"⟩, 41), (⟨"FingerRowsModel", "laysAll", "(I)V"⟩, 41), (⟨"FingerRowsModel", "laysState", "(IIII)V"⟩, 41), (⟨"FingerRowsModel", "tellsBest", "(J)V"⟩, 41)]
theorem lw_r5 : ∀ q ∈ lw_privs_5, lw_okq q := List.forall_mem_cons.mpr ⟨lw_p64, List.forall_mem_cons.mpr ⟨lw_p65, List.forall_mem_cons.mpr ⟨lw_p66, List.forall_mem_cons.mpr ⟨lw_p67, List.forall_mem_cons.mpr ⟨lw_p68, List.forall_mem_cons.mpr ⟨lw_p69, List.forall_mem_cons.mpr ⟨lw_p70, List.forall_mem_cons.mpr ⟨lw_p71, List.forall_mem_cons.mpr ⟨lw_p72, List.forall_mem_cons.mpr ⟨lw_p73, List.forall_mem_cons.mpr ⟨lw_p74, List.forall_mem_cons.mpr ⟨lw_p75, List.forall_mem_cons.mpr ⟨lw_p76, List.forall_mem_cons.mpr ⟨lw_p77, List.forall_mem_cons.mpr ⟨lw_p78, List.forall_mem_cons.mpr ⟨lw_p79, fun _ h => absurd h List.not_mem_nil⟩⟩⟩⟩⟩⟩⟩⟩⟩⟩⟩⟩⟩⟩⟩⟩
theorem lw_p80 : lw_okq (⟨"FingerRowsModel", "bound0", "(Z)I"⟩, 41) := ⟨⟨by decide +kernel, by decide +kernel⟩, List.mem_of_getElem? (i := 1245) (by decide +kernel), List.mem_of_getElem? (i := 1656) (by decide +kernel), List.mem_of_getElem? (i := 1657) (by decide +kernel)⟩
theorem lw_p81 : lw_okq (⟨"FingerRowsModel", "timesOf", "(IZ)I"⟩, 41) := ⟨⟨by decide +kernel, by decide +kernel⟩, List.mem_of_getElem? (i := 1245) (by decide +kernel), List.mem_of_getElem? (i := 1660) (by decide +kernel), List.mem_of_getElem? (i := 1661) (by decide +kernel)⟩
theorem lw_p82 : lw_okq (⟨"FingerRowsModel", "tiedTo", "(IZ)I"⟩, 41) := ⟨⟨by decide +kernel, by decide +kernel⟩, List.mem_of_getElem? (i := 1245) (by decide +kernel), List.mem_of_getElem? (i := 1664) (by decide +kernel), List.mem_of_getElem? (i := 1665) (by decide +kernel)⟩
theorem lw_p83 : lw_okq (⟨"FingerRowsModel", "everyFinger", "()I"⟩, 41) := ⟨⟨by decide +kernel, by decide +kernel⟩, List.mem_of_getElem? (i := 1245) (by decide +kernel), List.mem_of_getElem? (i := 1676) (by decide +kernel), List.mem_of_getElem? (i := 1677) (by decide +kernel)⟩
theorem lw_p84 : lw_okq (⟨"FingerRowsModel", "laysAhead", "()V"⟩, 41) := ⟨⟨by decide +kernel, by decide +kernel⟩, List.mem_of_getElem? (i := 1245) (by decide +kernel), List.mem_of_getElem? (i := 1680) (by decide +kernel), List.mem_of_getElem? (i := 1681) (by decide +kernel)⟩
theorem lw_p85 : lw_okq (⟨"FingerRowsModel", "laysAheadOf", "(III)V"⟩, 41) := ⟨⟨by decide +kernel, by decide +kernel⟩, List.mem_of_getElem? (i := 1245) (by decide +kernel), List.mem_of_getElem? (i := 1684) (by decide +kernel), List.mem_of_getElem? (i := 1685) (by decide +kernel)⟩
theorem lw_p86 : lw_okq (⟨"FingerRowsModel", "gapsOf", "(I)I"⟩, 41) := ⟨⟨by decide +kernel, by decide +kernel⟩, List.mem_of_getElem? (i := 1245) (by decide +kernel), List.mem_of_getElem? (i := 1688) (by decide +kernel), List.mem_of_getElem? (i := 1689) (by decide +kernel)⟩
theorem lw_p87 : lw_okq (⟨"FingerRowsModel", "canJoin", "(II)Z"⟩, 41) := ⟨⟨by decide +kernel, by decide +kernel⟩, List.mem_of_getElem? (i := 1245) (by decide +kernel), List.mem_of_getElem? (i := 1704) (by decide +kernel), List.mem_of_getElem? (i := 1705) (by decide +kernel)⟩
theorem lw_p88 : lw_okq (⟨"FingerRowsModel", "remembers", "()V"⟩, 41) := ⟨⟨by decide +kernel, by decide +kernel⟩, List.mem_of_getElem? (i := 1245) (by decide +kernel), List.mem_of_getElem? (i := 1716) (by decide +kernel), List.mem_of_getElem? (i := 1717) (by decide +kernel)⟩
theorem lw_p89 : lw_okq (⟨"FingerRowsModel", "copies", "([II[II)V"⟩, 41) := ⟨⟨by decide +kernel, by decide +kernel⟩, List.mem_of_getElem? (i := 1245) (by decide +kernel), List.mem_of_getElem? (i := 1720) (by decide +kernel), List.mem_of_getElem? (i := 1721) (by decide +kernel)⟩
theorem lw_p90 : lw_okq (⟨"FingerRowsModel", "moves", "(II)V"⟩, 41) := ⟨⟨by decide +kernel, by decide +kernel⟩, List.mem_of_getElem? (i := 1245) (by decide +kernel), List.mem_of_getElem? (i := 1728) (by decide +kernel), List.mem_of_getElem? (i := 1729) (by decide +kernel)⟩
theorem lw_p91 : lw_okq (⟨"FingerRowsModel", "laysTold", "()V"⟩, 41) := ⟨⟨by decide +kernel, by decide +kernel⟩, List.mem_of_getElem? (i := 1245) (by decide +kernel), List.mem_of_getElem? (i := 1736) (by decide +kernel), List.mem_of_getElem? (i := 1737) (by decide +kernel)⟩
theorem lw_p92 : lw_okq (⟨"FingerRowsModel", "tries", "(III)V"⟩, 41) := ⟨⟨by decide +kernel, by decide +kernel⟩, List.mem_of_getElem? (i := 1245) (by decide +kernel), List.mem_of_getElem? (i := 1752) (by decide +kernel), List.mem_of_getElem? (i := 1753) (by decide +kernel)⟩
theorem lw_p93 : lw_okq (⟨"FingerRowsModel", "aheadOf", "(II)J"⟩, 41) := ⟨⟨by decide +kernel, by decide +kernel⟩, List.mem_of_getElem? (i := 1245) (by decide +kernel), List.mem_of_getElem? (i := 1764) (by decide +kernel), List.mem_of_getElem? (i := 1765) (by decide +kernel)⟩
def lw_privs_6 : List (MethodName × Nat) := [(⟨"FingerRowsModel", "bound0", "(Z)I"⟩, 41), (⟨"FingerRowsModel", "timesOf", "(IZ)I"⟩, 41), (⟨"FingerRowsModel", "tiedTo", "(IZ)I"⟩, 41), (⟨"FingerRowsModel", "everyFinger", "()I"⟩, 41), (⟨"FingerRowsModel", "laysAhead", "()V"⟩, 41), (⟨"FingerRowsModel", "laysAheadOf", "(III)V"⟩, 41), (⟨"FingerRowsModel", "gapsOf", "(I)I"⟩, 41), (⟨"FingerRowsModel", "canJoin", "(II)Z"⟩, 41), (⟨"FingerRowsModel", "remembers", "()V"⟩, 41), (⟨"FingerRowsModel", "copies", "([II[II)V"⟩, 41), (⟨"FingerRowsModel", "moves", "(II)V"⟩, 41), (⟨"FingerRowsModel", "laysTold", "()V"⟩, 41), (⟨"FingerRowsModel", "tries", "(III)V"⟩, 41), (⟨"FingerRowsModel", "aheadOf", "(II)J"⟩, 41)]
theorem lw_r6 : ∀ q ∈ lw_privs_6, lw_okq q := List.forall_mem_cons.mpr ⟨lw_p80, List.forall_mem_cons.mpr ⟨lw_p81, List.forall_mem_cons.mpr ⟨lw_p82, List.forall_mem_cons.mpr ⟨lw_p83, List.forall_mem_cons.mpr ⟨lw_p84, List.forall_mem_cons.mpr ⟨lw_p85, List.forall_mem_cons.mpr ⟨lw_p86, List.forall_mem_cons.mpr ⟨lw_p87, List.forall_mem_cons.mpr ⟨lw_p88, List.forall_mem_cons.mpr ⟨lw_p89, List.forall_mem_cons.mpr ⟨lw_p90, List.forall_mem_cons.mpr ⟨lw_p91, List.forall_mem_cons.mpr ⟨lw_p92, List.forall_mem_cons.mpr ⟨lw_p93, fun _ h => absurd h List.not_mem_nil⟩⟩⟩⟩⟩⟩⟩⟩⟩⟩⟩⟩⟩⟩
def lw_privs : List (MethodName × Nat) := lw_privs_1 ++ (lw_privs_2 ++ (lw_privs_3 ++ (lw_privs_4 ++ (lw_privs_5 ++ (lw_privs_6)))))
def lw_tbl : List Cond := k2_sels lw_privs ++ tables_1
theorem lw_privs_ok : ∀ q ∈ lw_privs, lw_okq q := by
  show ∀ q ∈ lw_privs_1 ++ (lw_privs_2 ++ (lw_privs_3 ++ (lw_privs_4 ++ (lw_privs_5 ++ (lw_privs_6))))), lw_okq q
  exact List.forall_mem_append.mpr ⟨lw_r1, List.forall_mem_append.mpr ⟨lw_r2, List.forall_mem_append.mpr ⟨lw_r3, List.forall_mem_append.mpr ⟨lw_r4, List.forall_mem_append.mpr ⟨lw_r5, lw_r6⟩⟩⟩⟩⟩
theorem goodIn_r {big : List Cond} (ws : List Cond) (ps : List Nat) (hp : ws = ps.filterMap (fun i => big[i]?)) (h : ws.all goodWord = true) : GoodIn big ws := by
  intro w hw
  have h1 := List.all_eq_true.mp h w hw
  rw [hp] at hw
  obtain ⟨i, -, hi⟩ := List.mem_filterMap.mp hw
  have hm : w ∈ big := by first | exact List.mem_of_getElem? hi | exact List.getElem?_mem hi
  exact ⟨hm, good_of_word h1⟩
theorem goodIn_app {big a b : List Cond} (ha : GoodIn big a) (hb : GoodIn big b) : GoodIn big (a ++ b) := fun w h => (List.mem_append.mp h).elim (ha w) (hb w)
theorem goodIn_ca {big a b : List Cond} {c : Cond} (ha : GoodIn big (c :: a)) (hb : GoodIn big b) : GoodIn big (c :: (a ++ b)) := fun w h => (List.mem_cons.mp h).elim (fun e => ha w (List.mem_cons.mpr (Or.inl e))) (fun h => (List.mem_append.mp h).elim (fun h => ha w (List.mem_cons.mpr (Or.inr h))) (hb w))
theorem goodIn_sub {big ws : List Cond} (hm : ∀ w ∈ ws, w ∈ big) (h : ws.all goodWord = true) : GoodIn big ws := fun w hw => ⟨hm w hw, good_of_word (List.all_eq_true.mp h w hw)⟩
def RX0 : String := "FingerRows$Advice"
def TX0 : u_T := fun k => match k with
  | _ => ("FingerRows$Advice", "parts", "[I", true)
def tyX0 : Nat → FieldType := fun k => match k with
  | _ => .array .int
abbrev wsX00 : List Cond := u_ws RX0 TX0 1
theorem nmX0 : ∀ a, a < 1 → ∀ b, b < 1 → a ≠ b → (TX0 a).2.1 ≠ (TX0 b).2.1 := by decide +kernel
theorem tyX0_ok : ∀ k, k < 1 → parseFieldDescriptor (TX0 k).2.2.1 = some (tyX0 k) := by decide +kernel
abbrev cX0_init : ByteArray := prog_2_method_1_code
def yX0_init : MethodName := ⟨RX0, "<init>", "()V"⟩
abbrev cX0_seek : ByteArray := prog_2_method_2_code
def yX0_seek : MethodName := ⟨RX0, "seek", "(LFingerRows$Cell;LFingerRows$Row;LFingerRows$Row;)V"⟩
abbrev cX0_weigh : ByteArray := prog_2_method_3_code
def yX0_weigh : MethodName := ⟨RX0, "weigh", "(IIII)V"⟩
def RX1 : String := "FingerRows$Cell"
def TX1 : u_T := fun k => match k with
  | 0 => ("FingerRows$Cell", "unit", "I", false)
  | 1 => ("FingerRows$Cell", "pitch", "I", false)
  | 2 => ("FingerRows$Cell", "rails", "I", false)
  | 3 => ("FingerRows$Cell", "pins", "I", false)
  | 4 => ("FingerRows$Cell", "pairs", "I", false)
  | 5 => ("FingerRows$Cell", "fingers", "I", false)
  | 6 => ("FingerRows$Cell", "blocks", "I", false)
  | 7 => ("FingerRows$Cell", "parts", "[I", true)
  | 8 => ("FingerRows$Cell", "pairOf", "[I", true)
  | 9 => ("FingerRows$Cell", "blockParts", "[I", true)
  | 10 => ("FingerRows$Cell", "leftOf", "[I", true)
  | _ => ("FingerRows$Cell", "meeting", "[I", true)
def tyX1 : Nat → FieldType := fun k => match k with
  | 0 => .int
  | 1 => .int
  | 2 => .int
  | 3 => .int
  | 4 => .int
  | 5 => .int
  | 6 => .int
  | 7 => .array .int
  | 8 => .array .int
  | 9 => .array .int
  | 10 => .array .int
  | _ => .array .int
abbrev wsX10 : List Cond := u_ws RX1 TX1 12
theorem nmX1 : ∀ a, a < 12 → ∀ b, b < 12 → a ≠ b → (TX1 a).2.1 ≠ (TX1 b).2.1 := by decide +kernel
theorem tyX1_ok : ∀ k, k < 12 → parseFieldDescriptor (TX1 k).2.2.1 = some (tyX1 k) := by decide +kernel
abbrev cX1_init : ByteArray := prog_3_method_1_code
def yX1_init : MethodName := ⟨RX1, "<init>", "()V"⟩
abbrev cX1_clear : ByteArray := prog_3_method_2_code
def yX1_clear : MethodName := ⟨RX1, "clear", "()V"⟩
abbrev cX1_allFingers : ByteArray := prog_3_method_3_code
def yX1_allFingers : MethodName := ⟨RX1, "allFingers", "()I"⟩
abbrev cX1_partOf : ByteArray := prog_3_method_4_code
def yX1_partOf : MethodName := ⟨RX1, "partOf", "(II)I"⟩
abbrev cX1_gateOf : ByteArray := prog_3_method_5_code
def yX1_gateOf : MethodName := ⟨RX1, "gateOf", "(I)I"⟩
abbrev cX1_fingersOf : ByteArray := prog_3_method_6_code
def yX1_fingersOf : MethodName := ⟨RX1, "fingersOf", "(I)I"⟩
abbrev cX1_addPair : ByteArray := prog_3_method_7_code
def yX1_addPair : MethodName := ⟨RX1, "addPair", "()Z"⟩
abbrev cX1_netOf : ByteArray := prog_3_method_8_code
def yX1_netOf : MethodName := ⟨RX1, "netOf", "(IIZ)I"⟩
abbrev cX1_findMeetings : ByteArray := prog_3_method_9_code
def yX1_findMeetings : MethodName := ⟨RX1, "findMeetings", "()V"⟩
abbrev cX1_joining : ByteArray := prog_3_method_10_code
def yX1_joining : MethodName := ⟨RX1, "joining", "(I)I"⟩
abbrev cX1_meetingAtAll : ByteArray := prog_3_method_11_code
def yX1_meetingAtAll : MethodName := ⟨RX1, "meetingAtAll", "(I)I"⟩
abbrev cX1_areJoined : ByteArray := prog_3_method_12_code
def yX1_areJoined : MethodName := ⟨RX1, "areJoined", "(II)Z"⟩
abbrev cX1_breaksBetween : ByteArray := prog_3_method_13_code
def yX1_breaksBetween : MethodName := ⟨RX1, "breaksBetween", "(II)I"⟩
abbrev cX1_areTied : ByteArray := prog_3_method_14_code
def yX1_areTied : MethodName := ⟨RX1, "areTied", "(II)Z"⟩
abbrev cX1_tiedPairs : ByteArray := prog_3_method_15_code
def yX1_tiedPairs : MethodName := ⟨RX1, "tiedPairs", "()I"⟩
abbrev cX1_lonelyFingers : ByteArray := prog_3_method_16_code
def yX1_lonelyFingers : MethodName := ⟨RX1, "lonelyFingers", "()I"⟩
abbrev cX1_oddBound : ByteArray := prog_3_method_17_code
def yX1_oddBound : MethodName := ⟨RX1, "oddBound", "(I)I"⟩
abbrev cX1_tiedNets : ByteArray := prog_3_method_18_code
def yX1_tiedNets : MethodName := ⟨RX1, "tiedNets", "(II)I"⟩
def RX2 : String := "FingerRows$Columns"
def TX2 : u_T := fun k => match k with
  | 0 => ("FingerRows$Columns", "gaps", "I", false)
  | 1 => ("FingerRows$Columns", "breaks", "I", false)
  | 2 => ("FingerRows$Columns", "span", "I", false)
  | 3 => ("FingerRows$Columns", "up", "[I", true)
  | 4 => ("FingerRows$Columns", "low", "[I", true)
  | 5 => ("FingerRows$Columns", "gate", "[I", true)
  | _ => ("FingerRows$Columns", "gateAt", "[I", true)
def tyX2 : Nat → FieldType := fun k => match k with
  | 0 => .int
  | 1 => .int
  | 2 => .int
  | 3 => .array .int
  | 4 => .array .int
  | 5 => .array .int
  | _ => .array .int
abbrev wsX20 : List Cond := u_ws RX2 TX2 7
theorem nmX2 : ∀ a, a < 7 → ∀ b, b < 7 → a ≠ b → (TX2 a).2.1 ≠ (TX2 b).2.1 := by decide +kernel
theorem tyX2_ok : ∀ k, k < 7 → parseFieldDescriptor (TX2 k).2.2.1 = some (tyX2 k) := by decide +kernel
abbrev cX2_init : ByteArray := prog_4_method_1_code
def yX2_init : MethodName := ⟨RX2, "<init>", "()V"⟩
abbrev cX2_draw : ByteArray := prog_4_method_2_code
def yX2_draw : MethodName := ⟨RX2, "draw", "(LFingerRows$Cell;LFingerRows$Row;)V"⟩
abbrev cX2_put : ByteArray := prog_4_method_3_code
def yX2_put : MethodName := ⟨RX2, "put", "(III)V"⟩
abbrev cX2_readBack : ByteArray := prog_4_method_4_code
def yX2_readBack : MethodName := ⟨RX2, "readBack", "(LFingerRows$Cell;II)Z"⟩
abbrev cX2_areThese : ByteArray := prog_4_method_5_code
def yX2_areThese : MethodName := ⟨RX2, "areThese", "(IILFingerRows$Cell;II)Z"⟩
abbrev cX2_isSame : ByteArray := prog_4_method_6_code
def yX2_isSame : MethodName := ⟨RX2, "isSame", "()Z"⟩
def RX3 : String := "FingerRows$Fewest"
def TX3 : u_T := fun k => match k with
  | 0 => ("FingerRows$Fewest", "gaps", "[I", true)
  | 1 => ("FingerRows$Fewest", "firsts", "[I", true)
  | _ => ("FingerRows$Fewest", "seconds", "[I", true)
def tyX3 : Nat → FieldType := fun k => match k with
  | 0 => .array .int
  | 1 => .array .int
  | _ => .array .int
abbrev wsX30 : List Cond := u_ws RX3 TX3 3
theorem nmX3 : ∀ a, a < 3 → ∀ b, b < 3 → a ≠ b → (TX3 a).2.1 ≠ (TX3 b).2.1 := by decide +kernel
theorem tyX3_ok : ∀ k, k < 3 → parseFieldDescriptor (TX3 k).2.2.1 = some (tyX3 k) := by decide +kernel
abbrev cX3_init : ByteArray := prog_5_method_1_code
def yX3_init : MethodName := ⟨RX3, "<init>", "()V"⟩
abbrev cX3_fill : ByteArray := prog_5_method_2_code
def yX3_fill : MethodName := ⟨RX3, "fill", "(LFingerRows$Cell;I)V"⟩
abbrev cX3_fillSet : ByteArray := prog_5_method_3_code
def yX3_fillSet : MethodName := ⟨RX3, "fillSet", "(LFingerRows$Cell;II)V"⟩
abbrev cX3_mayBegin : ByteArray := prog_5_method_4_code
def yX3_mayBegin : MethodName := ⟨RX3, "mayBegin", "(III)Z"⟩
abbrev cX3_gapsFrom : ByteArray := prog_5_method_5_code
def yX3_gapsFrom : MethodName := ⟨RX3, "gapsFrom", "(LFingerRows$Cell;II)I"⟩
abbrev cX3_nexts : ByteArray := prog_5_method_6_code
def yX3_nexts : MethodName := ⟨RX3, "nexts", "(LFingerRows$Cell;II)I"⟩
def RX4 : String := "FingerRows$Orders"
def TX4 : u_T := fun k => match k with
  | 0 => ("FingerRows$Orders", "cell", "LFingerRows$Cell;", false)
  | 1 => ("FingerRows$Orders", "any", "LFingerRows$Fewest;", true)
  | 2 => ("FingerRows$Orders", "totals", "[J", true)
  | 3 => ("FingerRows$Orders", "calmest", "[I", true)
  | 4 => ("FingerRows$Orders", "ending", "LFingerRows$Fewest;", true)
  | 5 => ("FingerRows$Orders", "ways", "[I", true)
  | _ => ("FingerRows$Orders", "calms", "[I", true)
def tyX4 : Nat → FieldType := fun k => match k with
  | 0 => .object "FingerRows$Cell"
  | 1 => .object "FingerRows$Fewest"
  | 2 => .array .long
  | 3 => .array .int
  | 4 => .object "FingerRows$Fewest"
  | 5 => .array .int
  | _ => .array .int
abbrev wsX40 : List Cond := u_ws RX4 TX4 7
theorem nmX4 : ∀ a, a < 7 → ∀ b, b < 7 → a ≠ b → (TX4 a).2.1 ≠ (TX4 b).2.1 := by decide +kernel
theorem tyX4_ok : ∀ k, k < 7 → parseFieldDescriptor (TX4 k).2.2.1 = some (tyX4 k) := by decide +kernel
abbrev cX4_init : ByteArray := prog_6_method_1_code
def yX4_init : MethodName := ⟨RX4, "<init>", "([I)V"⟩
abbrev cX4_exchange : ByteArray := prog_6_method_2_code
def yX4_exchange : MethodName := ⟨RX4, "exchange", "(LFingerRows$Cell;)LFingerRows$Cell;"⟩
abbrev cX4_total : ByteArray := prog_6_method_3_code
def yX4_total : MethodName := ⟨RX4, "total", "()J"⟩
abbrev cX4_prepare : ByteArray := prog_6_method_4_code
def yX4_prepare : MethodName := ⟨RX4, "prepare", "()V"⟩
abbrev cX4_weighSet : ByteArray := prog_6_method_5_code
def yX4_weighSet : MethodName := ⟨RX4, "weighSet", "(I)V"⟩
abbrev cX4_weigh : ByteArray := prog_6_method_6_code
def yX4_weigh : MethodName := ⟨RX4, "weigh", "(II)V"⟩
abbrev cX4_waysOver : ByteArray := prog_6_method_7_code
def yX4_waysOver : MethodName := ⟨RX4, "waysOver", "(II)J"⟩
abbrev cX4_calmOver : ByteArray := prog_6_method_8_code
def yX4_calmOver : MethodName := ⟨RX4, "calmOver", "(III)I"⟩
abbrev cX4_layInto : ByteArray := prog_6_method_9_code
def yX4_layInto : MethodName := ⟨RX4, "layInto", "(JLFingerRows$Row;)V"⟩
abbrev cX4_fewestBetween : ByteArray := prog_6_method_10_code
def yX4_fewestBetween : MethodName := ⟨RX4, "fewestBetween", "(II)I"⟩
abbrev cX4_partedGaps : ByteArray := prog_6_method_11_code
def yX4_partedGaps : MethodName := ⟨RX4, "partedGaps", "(I)I"⟩
abbrev cX4_partingSet : ByteArray := prog_6_method_12_code
def yX4_partingSet : MethodName := ⟨RX4, "partingSet", "(I)I"⟩
abbrev cX4_dearestFinger : ByteArray := prog_6_method_13_code
def yX4_dearestFinger : MethodName := ⟨RX4, "dearestFinger", "()I"⟩
abbrev cX4_waysFrom : ByteArray := prog_6_method_14_code
def yX4_waysFrom : MethodName := ⟨RX4, "waysFrom", "(I)J"⟩
abbrev cX4_waysAhead : ByteArray := prog_6_method_15_code
def yX4_waysAhead : MethodName := ⟨RX4, "waysAhead", "(II)J"⟩
abbrev cX4_waysAcross : ByteArray := prog_6_method_16_code
def yX4_waysAcross : MethodName := ⟨RX4, "waysAcross", "(III)J"⟩
def RX5 : String := "FingerRows$Past"
def TX5 : u_T := fun k => match k with
  | 0 => ("FingerRows$Past", "size", "I", false)
  | 1 => ("FingerRows$Past", "next", "I", false)
  | _ => ("FingerRows$Past", "rows", "[LFingerRows$Row;", true)
def tyX5 : Nat → FieldType := fun k => match k with
  | 0 => .int
  | 1 => .int
  | _ => .array (.object "FingerRows$Row")
abbrev wsX50 : List Cond := u_ws RX5 TX5 3
theorem nmX5 : ∀ a, a < 3 → ∀ b, b < 3 → a ≠ b → (TX5 a).2.1 ≠ (TX5 b).2.1 := by decide +kernel
theorem tyX5_ok : ∀ k, k < 3 → parseFieldDescriptor (TX5 k).2.2.1 = some (tyX5 k) := by decide +kernel
abbrev cX5_init : ByteArray := prog_7_method_1_code
def yX5_init : MethodName := ⟨RX5, "<init>", "()V"⟩
abbrev cX5_remember : ByteArray := prog_7_method_2_code
def yX5_remember : MethodName := ⟨RX5, "remember", "(LFingerRows$Row;)V"⟩
abbrev cX5_takeBack : ByteArray := prog_7_method_3_code
def yX5_takeBack : MethodName := ⟨RX5, "takeBack", "(LFingerRows$Row;)V"⟩
abbrev cX5_forget : ByteArray := prog_7_method_4_code
def yX5_forget : MethodName := ⟨RX5, "forget", "()V"⟩
def RX6 : String := "FingerRows$Pins"
def TX6 : u_T := fun k => match k with
  | 0 => ("FingerRows$Pins", "size", "I", false)
  | 1 => ("FingerRows$Pins", "nets", "[I", true)
  | 2 => ("FingerRows$Pins", "offers", "[J", true)
  | _ => ("FingerRows$Pins", "prices", "[J", true)
def tyX6 : Nat → FieldType := fun k => match k with
  | 0 => .int
  | 1 => .array .int
  | 2 => .array .long
  | _ => .array .long
abbrev wsX60 : List Cond := u_ws RX6 TX6 4
theorem nmX6 : ∀ a, a < 4 → ∀ b, b < 4 → a ≠ b → (TX6 a).2.1 ≠ (TX6 b).2.1 := by decide +kernel
theorem tyX6_ok : ∀ k, k < 4 → parseFieldDescriptor (TX6 k).2.2.1 = some (tyX6 k) := by decide +kernel
abbrev cX6_init : ByteArray := prog_8_method_1_code
def yX6_init : MethodName := ⟨RX6, "<init>", "()V"⟩
abbrev cX6_place : ByteArray := prog_8_method_2_code
def yX6_place : MethodName := ⟨RX6, "place", "(LFingerRows$Cell;LFingerRows$Wires;I)I"⟩
abbrev cX6_collect : ByteArray := prog_8_method_3_code
def yX6_collect : MethodName := ⟨RX6, "collect", "(LFingerRows$Cell;LFingerRows$Wires;)V"⟩
abbrev cX6_offer : ByteArray := prog_8_method_4_code
def yX6_offer : MethodName := ⟨RX6, "offer", "(LFingerRows$Wires;II)V"⟩
abbrev cX6_priceOf : ByteArray := prog_8_method_5_code
def yX6_priceOf : MethodName := ⟨RX6, "priceOf", "(LFingerRows$Wires;II)J"⟩
abbrev cX6_shiftOf : ByteArray := prog_8_method_6_code
def yX6_shiftOf : MethodName := ⟨RX6, "shiftOf", "(I)I"⟩
def RX7 : String := "FingerRows$Row"
def TX7 : u_T := fun k => match k with
  | 0 => ("FingerRows$Row", "size", "I", false)
  | _ => ("FingerRows$Row", "stances", "[I", true)
def tyX7 : Nat → FieldType := fun k => match k with
  | 0 => .int
  | _ => .array .int
abbrev wsX70 : List Cond := u_ws RX7 TX7 2
theorem nmX7 : ∀ a, a < 2 → ∀ b, b < 2 → a ≠ b → (TX7 a).2.1 ≠ (TX7 b).2.1 := by decide +kernel
theorem tyX7_ok : ∀ k, k < 2 → parseFieldDescriptor (TX7 k).2.2.1 = some (tyX7 k) := by decide +kernel
abbrev cX7_init : ByteArray := prog_9_method_1_code
def yX7_init : MethodName := ⟨RX7, "<init>", "()V"⟩
abbrev cX7_reset : ByteArray := prog_9_method_2_code
def yX7_reset : MethodName := ⟨RX7, "reset", "(I)V"⟩
abbrev cX7_copyFrom : ByteArray := prog_9_method_3_code
def yX7_copyFrom : MethodName := ⟨RX7, "copyFrom", "(LFingerRows$Row;)V"⟩
abbrev cX7_fingerAt : ByteArray := prog_9_method_4_code
def yX7_fingerAt : MethodName := ⟨RX7, "fingerAt", "(I)I"⟩
abbrev cX7_turnAt : ByteArray := prog_9_method_5_code
def yX7_turnAt : MethodName := ⟨RX7, "turnAt", "(I)I"⟩
abbrev cX7_setTurn : ByteArray := prog_9_method_6_code
def yX7_setTurn : MethodName := ⟨RX7, "setTurn", "(II)V"⟩
abbrev cX7_shift : ByteArray := prog_9_method_7_code
def yX7_shift : MethodName := ⟨RX7, "shift", "(II)V"⟩
abbrev cX7_flip : ByteArray := prog_9_method_8_code
def yX7_flip : MethodName := ⟨RX7, "flip", "()V"⟩
abbrev cX7_joinsNext : ByteArray := prog_9_method_9_code
def yX7_joinsNext : MethodName := ⟨RX7, "joinsNext", "(LFingerRows$Cell;I)Z"⟩
abbrev cX7_countGaps : ByteArray := prog_9_method_10_code
def yX7_countGaps : MethodName := ⟨RX7, "countGaps", "(LFingerRows$Cell;)I"⟩
def RX8 : String := "FingerRows$Tape"
def TX8 : u_T := fun k => match k with
  | 0 => ("FingerRows$Tape", "length", "I", false)
  | 1 => ("FingerRows$Tape", "fault", "I", false)
  | 2 => ("FingerRows$Tape", "bytes", "[B", true)
  | 3 => ("FingerRows$Tape", "spot", "I", false)
  | _ => ("FingerRows$Tape", "begin", "I", false)
def tyX8 : Nat → FieldType := fun k => match k with
  | 0 => .int
  | 1 => .int
  | 2 => .array .byte
  | 3 => .int
  | _ => .int
abbrev wsX80 : List Cond := u_ws RX8 TX8 5
theorem nmX8 : ∀ a, a < 5 → ∀ b, b < 5 → a ≠ b → (TX8 a).2.1 ≠ (TX8 b).2.1 := by decide +kernel
theorem tyX8_ok : ∀ k, k < 5 → parseFieldDescriptor (TX8 k).2.2.1 = some (tyX8 k) := by decide +kernel
abbrev cX8_init : ByteArray := prog_10_method_1_code
def yX8_init : MethodName := ⟨RX8, "<init>", "()V"⟩
abbrev cX8_hasRoom : ByteArray := prog_10_method_2_code
def yX8_hasRoom : MethodName := ⟨RX8, "hasRoom", "()Z"⟩
abbrev cX8_take : ByteArray := prog_10_method_3_code
def yX8_take : MethodName := ⟨RX8, "take", "(I)V"⟩
abbrev cX8_readInto : ByteArray := prog_10_method_4_code
def yX8_readInto : MethodName := ⟨RX8, "readInto", "(LFingerRows$Cell;)Z"⟩
abbrev cX8_readLine : ByteArray := prog_10_method_5_code
def yX8_readLine : MethodName := ⟨RX8, "readLine", "(LFingerRows$Cell;I)V"⟩
abbrev cX8_readPair : ByteArray := prog_10_method_6_code
def yX8_readPair : MethodName := ⟨RX8, "readPair", "(LFingerRows$Cell;I)V"⟩
abbrev cX8_readPin : ByteArray := prog_10_method_7_code
def yX8_readPin : MethodName := ⟨RX8, "readPin", "(LFingerRows$Cell;I)V"⟩
abbrev cX8_readBlock : ByteArray := prog_10_method_8_code
def yX8_readBlock : MethodName := ⟨RX8, "readBlock", "(LFingerRows$Cell;I)V"⟩
abbrev cX8_readNet : ByteArray := prog_10_method_9_code
def yX8_readNet : MethodName := ⟨RX8, "readNet", "()I"⟩
abbrev cX8_readNewNet : ByteArray := prog_10_method_10_code
def yX8_readNewNet : MethodName := ⟨RX8, "readNewNet", "(I)I"⟩
abbrev cX8_anotherLine : ByteArray := prog_10_method_11_code
def yX8_anotherLine : MethodName := ⟨RX8, "anotherLine", "()Z"⟩
abbrev cX8_readNumber : ByteArray := prog_10_method_12_code
def yX8_readNumber : MethodName := ⟨RX8, "readNumber", "(II)I"⟩
abbrev cX8_expectWord : ByteArray := prog_10_method_13_code
def yX8_expectWord : MethodName := ⟨RX8, "expectWord", "(Ljava/lang/String;)V"⟩
abbrev cX8_passWord : ByteArray := prog_10_method_14_code
def yX8_passWord : MethodName := ⟨RX8, "passWord", "(Ljava/lang/String;)Z"⟩
abbrev cX8_readWord : ByteArray := prog_10_method_15_code
def yX8_readWord : MethodName := ⟨RX8, "readWord", "()V"⟩
abbrev cX8_goThroughWord : ByteArray := prog_10_method_16_code
def yX8_goThroughWord : MethodName := ⟨RX8, "goThroughWord", "()V"⟩
abbrev cX8_wordIs : ByteArray := prog_10_method_17_code
def yX8_wordIs : MethodName := ⟨RX8, "wordIs", "(Ljava/lang/String;)Z"⟩
abbrev cX8_skipBlanks : ByteArray := prog_10_method_18_code
def yX8_skipBlanks : MethodName := ⟨RX8, "skipBlanks", "()V"⟩
abbrev cX8_fail : ByteArray := prog_10_method_19_code
def yX8_fail : MethodName := ⟨RX8, "fail", "(I)V"⟩
def RX9 : String := "FingerRows$Wires"
def TX9 : u_T := fun k => match k with
  | 0 => ("FingerRows$Wires", "stretch", "I", false)
  | 1 => ("FingerRows$Wires", "least", "[I", true)
  | 2 => ("FingerRows$Wires", "greatest", "[I", true)
  | 3 => ("FingerRows$Wires", "howMany", "[I", true)
  | 4 => ("FingerRows$Wires", "pinAt", "[I", true)
  | 5 => ("FingerRows$Wires", "first", "[I", true)
  | 6 => ("FingerRows$Wires", "last", "[I", true)
  | 7 => ("FingerRows$Wires", "track", "[I", true)
  | 8 => ("FingerRows$Wires", "cut", "[I", true)
  | _ => ("FingerRows$Wires", "pins", "LFingerRows$Pins;", true)
def tyX9 : Nat → FieldType := fun k => match k with
  | 0 => .int
  | 1 => .array .int
  | 2 => .array .int
  | 3 => .array .int
  | 4 => .array .int
  | 5 => .array .int
  | 6 => .array .int
  | 7 => .array .int
  | 8 => .array .int
  | _ => .object "FingerRows$Pins"
abbrev wsX90 : List Cond := u_ws RX9 TX9 10
theorem nmX9 : ∀ a, a < 10 → ∀ b, b < 10 → a ≠ b → (TX9 a).2.1 ≠ (TX9 b).2.1 := by decide +kernel
theorem tyX9_ok : ∀ k, k < 10 → parseFieldDescriptor (TX9 k).2.2.1 = some (tyX9 k) := by decide +kernel
abbrev cX9_init : ByteArray := prog_11_method_1_code
def yX9_init : MethodName := ⟨RX9, "<init>", "()V"⟩
abbrev cX9_draw : ByteArray := prog_11_method_2_code
def yX9_draw : MethodName := ⟨RX9, "draw", "(LFingerRows$Cell;LFingerRows$Columns;)V"⟩
abbrev cX9_note : ByteArray := prog_11_method_3_code
def yX9_note : MethodName := ⟨RX9, "note", "(II)V"⟩
abbrev cX9_drawWire : ByteArray := prog_11_method_4_code
def yX9_drawWire : MethodName := ⟨RX9, "drawWire", "(IZ)V"⟩
abbrev cX9_assignTracks : ByteArray := prog_11_method_5_code
def yX9_assignTracks : MethodName := ⟨RX9, "assignTracks", "(LFingerRows$Cell;I)V"⟩
abbrev cX9_leastTrack : ByteArray := prog_11_method_6_code
def yX9_leastTrack : MethodName := ⟨RX9, "leastTrack", "(I)I"⟩
abbrev cX9_hasWire : ByteArray := prog_11_method_7_code
def yX9_hasWire : MethodName := ⟨RX9, "hasWire", "(I)Z"⟩
abbrev cX9_freeTracks : ByteArray := prog_11_method_8_code
def yX9_freeTracks : MethodName := ⟨RX9, "freeTracks", "(LFingerRows$Cell;I)I"⟩
abbrev cX9_isFree : ByteArray := prog_11_method_9_code
def yX9_isFree : MethodName := ⟨RX9, "isFree", "(LFingerRows$Cell;II)Z"⟩
abbrev cX9_total : ByteArray := prog_11_method_10_code
def yX9_total : MethodName := ⟨RX9, "total", "()I"⟩
abbrev cX9_greatestCut : ByteArray := prog_11_method_11_code
def yX9_greatestCut : MethodName := ⟨RX9, "greatestCut", "(I)I"⟩
abbrev cX9_worst : ByteArray := prog_11_method_12_code
def yX9_worst : MethodName := ⟨RX9, "worst", "(I)I"⟩
abbrev cX9_usedTracks : ByteArray := prog_11_method_13_code
def yX9_usedTracks : MethodName := ⟨RX9, "usedTracks", "()I"⟩
abbrev cX9_height : ByteArray := prog_11_method_14_code
def yX9_height : MethodName := ⟨RX9, "height", "()I"⟩
abbrev cX9_lost : ByteArray := prog_11_method_15_code
def yX9_lost : MethodName := ⟨RX9, "lost", "()I"⟩
abbrev cX9_totalLength : ByteArray := prog_11_method_16_code
def yX9_totalLength : MethodName := ⟨RX9, "totalLength", "()I"⟩
def RX10 : String := "FingerRows"
def TX10 : u_T := fun k => match k with
  | 0 => ("FingerRows", "tape", "LFingerRows$Tape;", true)
  | 1 => ("FingerRows", "one", "LFingerRows$Orders;", true)
  | 2 => ("FingerRows", "two", "LFingerRows$Orders;", true)
  | 3 => ("FingerRows", "row", "LFingerRows$Row;", true)
  | 4 => ("FingerRows", "keptRow", "LFingerRows$Row;", true)
  | 5 => ("FingerRows", "past", "LFingerRows$Past;", true)
  | 6 => ("FingerRows", "columns", "LFingerRows$Columns;", true)
  | 7 => ("FingerRows", "wires", "LFingerRows$Wires;", true)
  | 8 => ("FingerRows", "trialRow", "LFingerRows$Row;", true)
  | 9 => ("FingerRows", "trialColumns", "LFingerRows$Columns;", true)
  | 10 => ("FingerRows", "trialWires", "LFingerRows$Wires;", true)
  | 11 => ("FingerRows", "advice", "LFingerRows$Advice;", true)
  | 12 => ("FingerRows", "told", "LFingerRows$Orders;", false)
  | 13 => ("FingerRows", "kept", "LFingerRows$Orders;", false)
  | _ => ("FingerRows", "draft", "LFingerRows$Cell;", false)
def tyX10 : Nat → FieldType := fun k => match k with
  | 0 => .object "FingerRows$Tape"
  | 1 => .object "FingerRows$Orders"
  | 2 => .object "FingerRows$Orders"
  | 3 => .object "FingerRows$Row"
  | 4 => .object "FingerRows$Row"
  | 5 => .object "FingerRows$Past"
  | 6 => .object "FingerRows$Columns"
  | 7 => .object "FingerRows$Wires"
  | 8 => .object "FingerRows$Row"
  | 9 => .object "FingerRows$Columns"
  | 10 => .object "FingerRows$Wires"
  | 11 => .object "FingerRows$Advice"
  | 12 => .object "FingerRows$Orders"
  | 13 => .object "FingerRows$Orders"
  | _ => .object "FingerRows$Cell"
abbrev wsX100 : List Cond := u_ws RX10 TX10 15
theorem nmX10 : ∀ a, a < 15 → ∀ b, b < 15 → a ≠ b → (TX10 a).2.1 ≠ (TX10 b).2.1 := by decide +kernel
theorem tyX10_ok : ∀ k, k < 15 → parseFieldDescriptor (TX10 k).2.2.1 = some (tyX10 k) := by decide +kernel
abbrev cX10_init : ByteArray := prog_1_method_1_code
def yX10_init : MethodName := ⟨RX10, "<init>", "()V"⟩
abbrev cX10_feed : ByteArray := prog_1_method_2_code
def yX10_feed : MethodName := ⟨RX10, "feed", "(IIIII)I"⟩
abbrev cX10_end : ByteArray := prog_1_method_3_code
def yX10_end : MethodName := ⟨RX10, "end", "(I)Z"⟩
abbrev cX10_cell : ByteArray := prog_1_method_4_code
def yX10_cell : MethodName := ⟨RX10, "cell", "()I"⟩
abbrev cX10_fault : ByteArray := prog_1_method_5_code
def yX10_fault : MethodName := ⟨RX10, "fault", "()I"⟩
abbrev cX10_pair : ByteArray := prog_1_method_6_code
def yX10_pair : MethodName := ⟨RX10, "pair", "(II)I"⟩
abbrev cX10_at : ByteArray := prog_1_method_7_code
def yX10_at : MethodName := ⟨RX10, "at", "(II)I"⟩
abbrev cX10_column : ByteArray := prog_1_method_8_code
def yX10_column : MethodName := ⟨RX10, "column", "(II)I"⟩
abbrev cX10_net : ByteArray := prog_1_method_9_code
def yX10_net : MethodName := ⟨RX10, "net", "(II)I"⟩
abbrev cX10_layout : ByteArray := prog_1_method_10_code
def yX10_layout : MethodName := ⟨RX10, "layout", "(I)I"⟩
abbrev cX10_least : ByteArray := prog_1_method_11_code
def yX10_least : MethodName := ⟨RX10, "least", "()I"⟩
abbrev cX10_many : ByteArray := prog_1_method_12_code
def yX10_many : MethodName := ⟨RX10, "many", "()J"⟩
abbrev cX10_best : ByteArray := prog_1_method_13_code
def yX10_best : MethodName := ⟨RX10, "best", "(JIZ)I"⟩
abbrev cX10_calm : ByteArray := prog_1_method_14_code
def yX10_calm : MethodName := ⟨RX10, "calm", "()I"⟩
abbrev cX10_with : ByteArray := prog_1_method_15_code
def yX10_with : MethodName := ⟨RX10, "with", "(II)I"⟩
abbrev cX10_bound : ByteArray := prog_1_method_16_code
def yX10_bound : MethodName := ⟨RX10, "bound", "(Z)I"⟩
abbrev cX10_agrees : ByteArray := prog_1_method_17_code
def yX10_agrees : MethodName := ⟨RX10, "agrees", "()Z"⟩
abbrev cX10_ofSet : ByteArray := prog_1_method_18_code
def yX10_ofSet : MethodName := ⟨RX10, "ofSet", "(I)I"⟩
abbrev cX10_parted : ByteArray := prog_1_method_19_code
def yX10_parted : MethodName := ⟨RX10, "parted", "(IZ)I"⟩
abbrev cX10_dearest : ByteArray := prog_1_method_20_code
def yX10_dearest : MethodName := ⟨RX10, "dearest", "()I"⟩
abbrev cX10_ties : ByteArray := prog_1_method_21_code
def yX10_ties : MethodName := ⟨RX10, "ties", "()I"⟩
abbrev cX10_lonely : ByteArray := prog_1_method_22_code
def yX10_lonely : MethodName := ⟨RX10, "lonely", "()I"⟩
abbrev cX10_better : ByteArray := prog_1_method_23_code
def yX10_better : MethodName := ⟨RX10, "better", "(I)I"⟩
abbrev cX10_shortest : ByteArray := prog_1_method_24_code
def yX10_shortest : MethodName := ⟨RX10, "shortest", "(IZ)I"⟩
abbrev cX10_neighbours : ByteArray := prog_1_method_25_code
def yX10_neighbours : MethodName := ⟨RX10, "neighbours", "(II)J"⟩
abbrev cX10_starts : ByteArray := prog_1_method_26_code
def yX10_starts : MethodName := ⟨RX10, "starts", "(I)J"⟩
abbrev cX10_turn : ByteArray := prog_1_method_27_code
def yX10_turn : MethodName := ⟨RX10, "turn", "(II)I"⟩
abbrev cX10_move : ByteArray := prog_1_method_28_code
def yX10_move : MethodName := ⟨RX10, "move", "(II)I"⟩
abbrev cX10_mirror : ByteArray := prog_1_method_29_code
def yX10_mirror : MethodName := ⟨RX10, "mirror", "()I"⟩
abbrev cX10_lay : ByteArray := prog_1_method_30_code
def yX10_lay : MethodName := ⟨RX10, "lay", "(J)I"⟩
abbrev cX10_undo : ByteArray := prog_1_method_31_code
def yX10_undo : MethodName := ⟨RX10, "undo", "()I"⟩
abbrev cX10_fits : ByteArray := prog_1_method_32_code
def yX10_fits : MethodName := ⟨RX10, "fits", "(II)I"⟩
abbrev cX10_room : ByteArray := prog_1_method_33_code
def yX10_room : MethodName := ⟨RX10, "room", "(I)I"⟩
abbrev cX10_image : ByteArray := prog_1_method_34_code
def yX10_image : MethodName := ⟨RX10, "image", "()V"⟩
abbrev cX10_back : ByteArray := prog_1_method_35_code
def yX10_back : MethodName := ⟨RX10, "back", "()Z"⟩
abbrev cX10_count : ByteArray := prog_1_method_36_code
def yX10_count : MethodName := ⟨RX10, "count", "(I)I"⟩
abbrev cX10_isPlace : ByteArray := prog_1_method_37_code
def yX10_isPlace : MethodName := ⟨RX10, "isPlace", "(I)Z"⟩
abbrev cX10_isFinger : ByteArray := prog_1_method_38_code
def yX10_isFinger : MethodName := ⟨RX10, "isFinger", "(I)Z"⟩
abbrev cX10_isNet : ByteArray := prog_1_method_39_code
def yX10_isNet : MethodName := ⟨RX10, "isNet", "(I)Z"⟩
abbrev cX10_notKept : ByteArray := prog_1_method_40_code
def yX10_notKept : MethodName := ⟨RX10, "notKept", "()LFingerRows$Orders;"⟩
abbrev cX10_redraw : ByteArray := prog_1_method_41_code
def yX10_redraw : MethodName := ⟨RX10, "redraw", "()V"⟩
abbrev cX10_lengthOf : ByteArray := prog_1_method_42_code
def yX10_lengthOf : MethodName := ⟨RX10, "lengthOf", "(I)I"⟩
abbrev cX10_lowestBit : ByteArray := prog_1_method_43_code
def yX10_lowestBit : MethodName := ⟨RX10, "lowestBit", "(I)I"⟩
abbrev cX10_without : ByteArray := prog_1_method_44_code
def yX10_without : MethodName := ⟨RX10, "without", "(II)I"⟩
abbrev cX10_has : ByteArray := prog_1_method_45_code
def yX10_has : MethodName := ⟨RX10, "has", "(II)Z"⟩
abbrev cX10_overlap : ByteArray := prog_1_method_46_code
def yX10_overlap : MethodName := ⟨RX10, "overlap", "(IIII)Z"⟩
def RX11 : String := "FingerRowsModel"
def TX11 : u_T := fun k => match k with
  | 0 => ("FingerRowsModel", "thrown", "I", false)
  | 1 => ("FingerRowsModel", "m", "[I", true)
  | 2 => ("FingerRowsModel", "undoRow", "[I", true)
  | 3 => ("FingerRowsModel", "undos", "I", false)
  | 4 => ("FingerRowsModel", "imageRow", "[I", true)
  | 5 => ("FingerRowsModel", "hasImage", "Z", false)
  | 6 => ("FingerRowsModel", "tape", "[I", true)
  | 7 => ("FingerRowsModel", "taped", "I", false)
  | 8 => ("FingerRowsModel", "end", "I", false)
  | 9 => ("FingerRowsModel", "at", "I", false)
  | 10 => ("FingerRowsModel", "fault", "I", false)
  | 11 => ("FingerRowsModel", "read", "[I", true)
  | 12 => ("FingerRowsModel", "gaps", "[I", true)
  | 13 => ("FingerRowsModel", "ways", "[J", true)
  | 14 => ("FingerRowsModel", "breaks", "[I", true)
  | 15 => ("FingerRowsModel", "gapsAhead", "[I", true)
  | 16 => ("FingerRowsModel", "waysAhead", "[J", true)
  | 17 => ("FingerRowsModel", "least", "I", false)
  | 18 => ("FingerRowsModel", "many", "J", false)
  | 19 => ("FingerRowsModel", "calm", "I", false)
  | 20 => ("FingerRowsModel", "toldPlace", "[I", true)
  | 21 => ("FingerRowsModel", "toldTurn", "[I", true)
  | 22 => ("FingerRowsModel", "asidePlace", "[I", true)
  | 23 => ("FingerRowsModel", "upper", "[I", true)
  | 24 => ("FingerRowsModel", "middle", "[I", true)
  | 25 => ("FingerRowsModel", "lower", "[I", true)
  | 26 => ("FingerRowsModel", "gateColumn", "[I", true)
  | 27 => ("FingerRowsModel", "span", "I", false)
  | 28 => ("FingerRowsModel", "lowest", "[I", true)
  | 29 => ("FingerRowsModel", "highest", "[I", true)
  | 30 => ("FingerRowsModel", "columnsOf", "[I", true)
  | 31 => ("FingerRowsModel", "pinAt", "[I", true)
  | 32 => ("FingerRowsModel", "wireFrom", "[I", true)
  | 33 => ("FingerRowsModel", "wireTo", "[I", true)
  | 34 => ("FingerRowsModel", "trackOf", "[I", true)
  | 35 => ("FingerRowsModel", "isPinned", "Z", false)
  | 36 => ("FingerRowsModel", "stretch", "I", false)
  | 37 => ("FingerRowsModel", "pinNet", "[I", true)
  | 38 => ("FingerRowsModel", "pinMany", "I", false)
  | 39 => ("FingerRowsModel", "costs", "[I", true)
  | _ => ("FingerRowsModel", "found", "[I", true)
def tyX11 : Nat → FieldType := fun k => match k with
  | 0 => .int
  | 1 => .array .int
  | 2 => .array .int
  | 3 => .int
  | 4 => .array .int
  | 5 => .boolean
  | 6 => .array .int
  | 7 => .int
  | 8 => .int
  | 9 => .int
  | 10 => .int
  | 11 => .array .int
  | 12 => .array .int
  | 13 => .array .long
  | 14 => .array .int
  | 15 => .array .int
  | 16 => .array .long
  | 17 => .int
  | 18 => .long
  | 19 => .int
  | 20 => .array .int
  | 21 => .array .int
  | 22 => .array .int
  | 23 => .array .int
  | 24 => .array .int
  | 25 => .array .int
  | 26 => .array .int
  | 27 => .int
  | 28 => .array .int
  | 29 => .array .int
  | 30 => .array .int
  | 31 => .array .int
  | 32 => .array .int
  | 33 => .array .int
  | 34 => .array .int
  | 35 => .boolean
  | 36 => .int
  | 37 => .array .int
  | 38 => .int
  | 39 => .array .int
  | _ => .array .int
abbrev wsX110 : List Cond := u_ws RX11 TX11 41
theorem nmX11 : ∀ a, a < 41 → ∀ b, b < 41 → a ≠ b → (TX11 a).2.1 ≠ (TX11 b).2.1 := by decide +kernel
theorem tyX11_ok : ∀ k, k < 41 → parseFieldDescriptor (TX11 k).2.2.1 = some (tyX11 k) := by decide +kernel
abbrev cX11_init : ByteArray := prog_13_method_1_code
def yX11_init : MethodName := ⟨RX11, "<init>", "()V"⟩
abbrev cX11_thrown : ByteArray := prog_13_method_2_code
def yX11_thrown : MethodName := ⟨RX11, "thrown", "()I"⟩
abbrev cX11_clears : ByteArray := prog_13_method_3_code
def yX11_clears : MethodName := ⟨RX11, "clears", "([I)V"⟩
abbrev cX11_isIn : ByteArray := prog_13_method_4_code
def yX11_isIn : MethodName := ⟨RX11, "isIn", "(III)Z"⟩
abbrev cX11_lesser : ByteArray := prog_13_method_5_code
def yX11_lesser : MethodName := ⟨RX11, "lesser", "(II)I"⟩
abbrev cX11_greater : ByteArray := prog_13_method_6_code
def yX11_greater : MethodName := ⟨RX11, "greater", "(II)I"⟩
abbrev cX11_fingers : ByteArray := prog_13_method_7_code
def yX11_fingers : MethodName := ⟨RX11, "fingers", "()I"⟩
abbrev cX11_isFinger : ByteArray := prog_13_method_8_code
def yX11_isFinger : MethodName := ⟨RX11, "isFinger", "(I)Z"⟩
abbrev cX11_isNet : ByteArray := prog_13_method_9_code
def yX11_isNet : MethodName := ⟨RX11, "isNet", "(I)Z"⟩
abbrev cX11_of : ByteArray := prog_13_method_10_code
def yX11_of : MethodName := ⟨RX11, "of", "(II)I"⟩
abbrev cX11_side : ByteArray := prog_13_method_11_code
def yX11_side : MethodName := ⟨RX11, "side", "(IIZZ)I"⟩
abbrev cX11_meets : ByteArray := prog_13_method_12_code
def yX11_meets : MethodName := ⟨RX11, "meets", "(IIIIZ)Z"⟩
abbrev cX11_lacks : ByteArray := prog_13_method_13_code
def yX11_lacks : MethodName := ⟨RX11, "lacks", "(IIII)I"⟩
abbrev cX11_state : ByteArray := prog_13_method_14_code
def yX11_state : MethodName := ⟨RX11, "state", "(III)I"⟩
abbrev cX11_laysState : ByteArray := prog_13_method_15_code
def yX11_laysState : MethodName := ⟨RX11, "laysState", "(IIII)V"⟩
abbrev cX11_laysAll : ByteArray := prog_13_method_16_code
def yX11_laysAll : MethodName := ⟨RX11, "laysAll", "(I)V"⟩
abbrev cX11_laysBest : ByteArray := prog_13_method_17_code
def yX11_laysBest : MethodName := ⟨RX11, "laysBest", "()V"⟩
abbrev cX11_laysAhead : ByteArray := prog_13_method_18_code
def yX11_laysAhead : MethodName := ⟨RX11, "laysAhead", "()V"⟩
abbrev cX11_laysAheadOf : ByteArray := prog_13_method_19_code
def yX11_laysAheadOf : MethodName := ⟨RX11, "laysAheadOf", "(III)V"⟩
abbrev cX11_tellsBest : ByteArray := prog_13_method_20_code
def yX11_tellsBest : MethodName := ⟨RX11, "tellsBest", "(J)V"⟩
abbrev cX11_fingerAt : ByteArray := prog_13_method_21_code
def yX11_fingerAt : MethodName := ⟨RX11, "fingerAt", "(I)I"⟩
abbrev cX11_turnAt : ByteArray := prog_13_method_22_code
def yX11_turnAt : MethodName := ⟨RX11, "turnAt", "(I)I"⟩
abbrev cX11_lackBehind : ByteArray := prog_13_method_23_code
def yX11_lackBehind : MethodName := ⟨RX11, "lackBehind", "(I)I"⟩
abbrev cX11_gapsNow : ByteArray := prog_13_method_24_code
def yX11_gapsNow : MethodName := ⟨RX11, "gapsNow", "()I"⟩
abbrev cX11_breaksNow : ByteArray := prog_13_method_25_code
def yX11_breaksNow : MethodName := ⟨RX11, "breaksNow", "()I"⟩
abbrev cX11_laysColumn : ByteArray := prog_13_method_26_code
def yX11_laysColumn : MethodName := ⟨RX11, "laysColumn", "(IIII)V"⟩
abbrev cX11_laysColumns : ByteArray := prog_13_method_27_code
def yX11_laysColumns : MethodName := ⟨RX11, "laysColumns", "()V"⟩
abbrev cX11_laysNet : ByteArray := prog_13_method_28_code
def yX11_laysNet : MethodName := ⟨RX11, "laysNet", "(I)V"⟩
abbrev cX11_beyond : ByteArray := prog_13_method_29_code
def yX11_beyond : MethodName := ⟨RX11, "beyond", "(II)I"⟩
abbrev cX11_has : ByteArray := prog_13_method_30_code
def yX11_has : MethodName := ⟨RX11, "has", "(II)Z"⟩
abbrev cX11_restOf : ByteArray := prog_13_method_31_code
def yX11_restOf : MethodName := ⟨RX11, "restOf", "(II)I"⟩
abbrev cX11_laysPins : ByteArray := prog_13_method_32_code
def yX11_laysPins : MethodName := ⟨RX11, "laysPins", "()V"⟩
abbrev cX11_hasWire : ByteArray := prog_13_method_33_code
def yX11_hasWire : MethodName := ⟨RX11, "hasWire", "(I)Z"⟩
abbrev cX11_laysWire : ByteArray := prog_13_method_34_code
def yX11_laysWire : MethodName := ⟨RX11, "laysWire", "(I)V"⟩
abbrev cX11_crosses : ByteArray := prog_13_method_35_code
def yX11_crosses : MethodName := ⟨RX11, "crosses", "(III)Z"⟩
abbrev cX11_isFree : ByteArray := prog_13_method_36_code
def yX11_isFree : MethodName := ⟨RX11, "isFree", "(II)Z"⟩
abbrev cX11_laysTracks : ByteArray := prog_13_method_37_code
def yX11_laysTracks : MethodName := ⟨RX11, "laysTracks", "()V"⟩
abbrev cX11_laysOut : ByteArray := prog_13_method_38_code
def yX11_laysOut : MethodName := ⟨RX11, "laysOut", "()V"⟩
abbrev cX11_cut : ByteArray := prog_13_method_39_code
def yX11_cut : MethodName := ⟨RX11, "cut", "(I)I"⟩
abbrev cX11_worst : ByteArray := prog_13_method_40_code
def yX11_worst : MethodName := ⟨RX11, "worst", "()I"⟩
abbrev cX11_wires : ByteArray := prog_13_method_41_code
def yX11_wires : MethodName := ⟨RX11, "wires", "()I"⟩
abbrev cX11_tracks : ByteArray := prog_13_method_42_code
def yX11_tracks : MethodName := ⟨RX11, "tracks", "()I"⟩
abbrev cX11_lost : ByteArray := prog_13_method_43_code
def yX11_lost : MethodName := ⟨RX11, "lost", "()I"⟩
abbrev cX11_length : ByteArray := prog_13_method_44_code
def yX11_length : MethodName := ⟨RX11, "length", "()I"⟩
abbrev cX11_isSame : ByteArray := prog_13_method_45_code
def yX11_isSame : MethodName := ⟨RX11, "isSame", "()Z"⟩
abbrev cX11_feed : ByteArray := prog_13_method_46_code
def yX11_feed : MethodName := ⟨RX11, "feed", "(IIIII)I"⟩
abbrev cX11_end : ByteArray := prog_13_method_47_code
def yX11_end : MethodName := ⟨RX11, "end", "(I)Z"⟩
abbrev cX11_here : ByteArray := prog_13_method_48_code
def yX11_here : MethodName := ⟨RX11, "here", "()I"⟩
abbrev cX11_wrong : ByteArray := prog_13_method_49_code
def yX11_wrong : MethodName := ⟨RX11, "wrong", "(I)V"⟩
abbrev cX11_has_ : ByteArray := prog_13_method_50_code
def yX11_has_ : MethodName := ⟨RX11, "has", "(Ljava/lang/String;)Z"⟩
abbrev cX11_expects : ByteArray := prog_13_method_51_code
def yX11_expects : MethodName := ⟨RX11, "expects", "(Ljava/lang/String;)V"⟩
abbrev cX11_number : ByteArray := prog_13_method_52_code
def yX11_number : MethodName := ⟨RX11, "number", "(II)I"⟩
abbrev cX11_pairLine : ByteArray := prog_13_method_53_code
def yX11_pairLine : MethodName := ⟨RX11, "pairLine", "(I)V"⟩
abbrev cX11_netLine : ByteArray := prog_13_method_54_code
def yX11_netLine : MethodName := ⟨RX11, "netLine", "(I)V"⟩
abbrev cX11_members : ByteArray := prog_13_method_55_code
def yX11_members : MethodName := ⟨RX11, "members", "(I)I"⟩
abbrev cX11_blockLine : ByteArray := prog_13_method_56_code
def yX11_blockLine : MethodName := ⟨RX11, "blockLine", "(I)V"⟩
abbrev cX11_line : ByteArray := prog_13_method_57_code
def yX11_line : MethodName := ⟨RX11, "line", "()V"⟩
abbrev cX11_cell : ByteArray := prog_13_method_58_code
def yX11_cell : MethodName := ⟨RX11, "cell", "()I"⟩
abbrev cX11_fault : ByteArray := prog_13_method_59_code
def yX11_fault : MethodName := ⟨RX11, "fault", "()I"⟩
abbrev cX11_fingersOf : ByteArray := prog_13_method_60_code
def yX11_fingersOf : MethodName := ⟨RX11, "fingersOf", "(I)I"⟩
abbrev cX11_pair : ByteArray := prog_13_method_61_code
def yX11_pair : MethodName := ⟨RX11, "pair", "(II)I"⟩
abbrev cX11_areLike : ByteArray := prog_13_method_62_code
def yX11_areLike : MethodName := ⟨RX11, "areLike", "(IIII)Z"⟩
abbrev cX11_isReadBack : ByteArray := prog_13_method_63_code
def yX11_isReadBack : MethodName := ⟨RX11, "isReadBack", "(I)Z"⟩
abbrev cX11_at : ByteArray := prog_13_method_64_code
def yX11_at : MethodName := ⟨RX11, "at", "(II)I"⟩
abbrev cX11_column : ByteArray := prog_13_method_65_code
def yX11_column : MethodName := ⟨RX11, "column", "(II)I"⟩
abbrev cX11_net : ByteArray := prog_13_method_66_code
def yX11_net : MethodName := ⟨RX11, "net", "(II)I"⟩
abbrev cX11_layout : ByteArray := prog_13_method_67_code
def yX11_layout : MethodName := ⟨RX11, "layout", "(I)I"⟩
abbrev cX11_least : ByteArray := prog_13_method_68_code
def yX11_least : MethodName := ⟨RX11, "least", "()I"⟩
abbrev cX11_many : ByteArray := prog_13_method_69_code
def yX11_many : MethodName := ⟨RX11, "many", "()J"⟩
abbrev cX11_best : ByteArray := prog_13_method_70_code
def yX11_best : MethodName := ⟨RX11, "best", "(JIZ)I"⟩
abbrev cX11_calm : ByteArray := prog_13_method_71_code
def yX11_calm : MethodName := ⟨RX11, "calm", "()I"⟩
abbrev cX11_with : ByteArray := prog_13_method_72_code
def yX11_with : MethodName := ⟨RX11, "with", "(II)I"⟩
abbrev cX11_tiedTo : ByteArray := prog_13_method_73_code
def yX11_tiedTo : MethodName := ⟨RX11, "tiedTo", "(IZ)I"⟩
abbrev cX11_timesOf : ByteArray := prog_13_method_74_code
def yX11_timesOf : MethodName := ⟨RX11, "timesOf", "(IZ)I"⟩
abbrev cX11_bound0 : ByteArray := prog_13_method_75_code
def yX11_bound0 : MethodName := ⟨RX11, "bound0", "(Z)I"⟩
abbrev cX11_bound : ByteArray := prog_13_method_76_code
def yX11_bound : MethodName := ⟨RX11, "bound", "(Z)I"⟩
abbrev cX11_agrees : ByteArray := prog_13_method_77_code
def yX11_agrees : MethodName := ⟨RX11, "agrees", "()Z"⟩
abbrev cX11_gapsOf : ByteArray := prog_13_method_78_code
def yX11_gapsOf : MethodName := ⟨RX11, "gapsOf", "(I)I"⟩
abbrev cX11_everyFinger : ByteArray := prog_13_method_79_code
def yX11_everyFinger : MethodName := ⟨RX11, "everyFinger", "()I"⟩
abbrev cX11_ofSet : ByteArray := prog_13_method_80_code
def yX11_ofSet : MethodName := ⟨RX11, "ofSet", "(I)I"⟩
abbrev cX11_parted : ByteArray := prog_13_method_81_code
def yX11_parted : MethodName := ⟨RX11, "parted", "(IZ)I"⟩
abbrev cX11_dearest : ByteArray := prog_13_method_82_code
def yX11_dearest : MethodName := ⟨RX11, "dearest", "()I"⟩
abbrev cX11_canJoin : ByteArray := prog_13_method_83_code
def yX11_canJoin : MethodName := ⟨RX11, "canJoin", "(II)Z"⟩
abbrev cX11_ties : ByteArray := prog_13_method_84_code
def yX11_ties : MethodName := ⟨RX11, "ties", "()I"⟩
abbrev cX11_lonely : ByteArray := prog_13_method_85_code
def yX11_lonely : MethodName := ⟨RX11, "lonely", "()I"⟩
abbrev cX11_copies : ByteArray := prog_13_method_86_code
def yX11_copies : MethodName := ⟨RX11, "copies", "([II[II)V"⟩
abbrev cX11_remembers : ByteArray := prog_13_method_87_code
def yX11_remembers : MethodName := ⟨RX11, "remembers", "()V"⟩
abbrev cX11_moves : ByteArray := prog_13_method_88_code
def yX11_moves : MethodName := ⟨RX11, "moves", "(II)V"⟩
abbrev cX11_turn : ByteArray := prog_13_method_89_code
def yX11_turn : MethodName := ⟨RX11, "turn", "(II)I"⟩
abbrev cX11_move : ByteArray := prog_13_method_90_code
def yX11_move : MethodName := ⟨RX11, "move", "(II)I"⟩
abbrev cX11_mirror : ByteArray := prog_13_method_91_code
def yX11_mirror : MethodName := ⟨RX11, "mirror", "()I"⟩
abbrev cX11_laysTold : ByteArray := prog_13_method_92_code
def yX11_laysTold : MethodName := ⟨RX11, "laysTold", "()V"⟩
abbrev cX11_lay : ByteArray := prog_13_method_93_code
def yX11_lay : MethodName := ⟨RX11, "lay", "(J)I"⟩
abbrev cX11_undo : ByteArray := prog_13_method_94_code
def yX11_undo : MethodName := ⟨RX11, "undo", "()I"⟩
abbrev cX11_tries : ByteArray := prog_13_method_95_code
def yX11_tries : MethodName := ⟨RX11, "tries", "(III)V"⟩
abbrev cX11_better : ByteArray := prog_13_method_96_code
def yX11_better : MethodName := ⟨RX11, "better", "(I)I"⟩
abbrev cX11_shortest : ByteArray := prog_13_method_97_code
def yX11_shortest : MethodName := ⟨RX11, "shortest", "(IZ)I"⟩
abbrev cX11_aheadOf : ByteArray := prog_13_method_98_code
def yX11_aheadOf : MethodName := ⟨RX11, "aheadOf", "(II)J"⟩
abbrev cX11_neighbours : ByteArray := prog_13_method_99_code
def yX11_neighbours : MethodName := ⟨RX11, "neighbours", "(II)J"⟩
abbrev cX11_starts : ByteArray := prog_13_method_100_code
def yX11_starts : MethodName := ⟨RX11, "starts", "(I)J"⟩
abbrev cX11_fits : ByteArray := prog_13_method_101_code
def yX11_fits : MethodName := ⟨RX11, "fits", "(II)I"⟩
abbrev cX11_room : ByteArray := prog_13_method_102_code
def yX11_room : MethodName := ⟨RX11, "room", "(I)I"⟩
abbrev cX11_image : ByteArray := prog_13_method_103_code
def yX11_image : MethodName := ⟨RX11, "image", "()V"⟩
abbrev cX11_back : ByteArray := prog_13_method_104_code
def yX11_back : MethodName := ⟨RX11, "back", "()Z"⟩
abbrev cX11_count : ByteArray := prog_13_method_105_code
def yX11_count : MethodName := ⟨RX11, "count", "(I)I"⟩
def RJ6 : String := "java/lang/Integer"
def TJ6 : u_T := fun k => match k with
  | _ => ("", "", "", false)
def tyJ6 : Nat → FieldType := fun k => match k with
  | _ => .int
abbrev cJ6_bitCount_0f7a4 : ByteArray := prog_21_method_49_code
def yJ6_bitCount_0f7a4 : MethodName := ⟨RJ6, "bitCount", "(I)I"⟩
def RJ9 : String := "java/lang/Math"
def TJ9 : u_T := fun k => match k with
  | _ => ("", "", "", false)
def tyJ9 : Nat → FieldType := fun k => match k with
  | _ => .int
abbrev cJ9_max_7cf53 : ByteArray := prog_22_method_65_code
def yJ9_max_7cf53 : MethodName := ⟨RJ9, "max", "(II)I"⟩
abbrev cJ9_min_7cf53 : ByteArray := prog_22_method_69_code
def yJ9_min_7cf53 : MethodName := ⟨RJ9, "min", "(II)I"⟩
def RJ0 : String := "java/lang/String"
def TJ0 : u_T := fun k => match k with
  | _ => ("", "", "", false)
def tyJ0 : Nat → FieldType := fun k => match k with
  | _ => .int
abbrev cJ0_length_8abf5 : ByteArray := prog_24_method_54_code
def yJ0_length_8abf5 : MethodName := ⟨RJ0, "length", "()I"⟩
abbrev cJ0_charAt_5068e : ByteArray := prog_24_method_56_code
def yJ0_charAt_5068e : MethodName := ⟨RJ0, "charAt", "(I)C"⟩
abbrev cJ0_coder_7d493 : ByteArray := prog_24_method_152_code
def yJ0_coder_7d493 : MethodName := ⟨RJ0, "coder", "()B"⟩
abbrev cJ0_isLatin1_aae02 : ByteArray := prog_24_method_154_code
def yJ0_isLatin1_aae02 : MethodName := ⟨RJ0, "isLatin1", "()Z"⟩
abbrev cJ0_checkIndex_df160 : ByteArray := prog_24_method_155_code
def yJ0_checkIndex_df160 : MethodName := ⟨RJ0, "checkIndex", "(II)V"⟩
def RJ1 : String := "java/lang/StringLatin1"
def TJ1 : u_T := fun k => match k with
  | _ => ("", "", "", false)
def tyJ1 : Nat → FieldType := fun k => match k with
  | _ => .int
abbrev cJ1_charAt_3b067 : ByteArray := prog_25_method_2_code
def yJ1_charAt_3b067 : MethodName := ⟨RJ1, "charAt", "([BI)C"⟩
def RJ2 : String := "java/lang/StringUTF16"
def TJ2 : u_T := fun k => match k with
  | _ => ("", "", "", false)
def tyJ2 : Nat → FieldType := fun k => match k with
  | _ => .int
abbrev cJ2_getChar_3b067 : ByteArray := prog_26_method_5_code
def yJ2_getChar_3b067 : MethodName := ⟨RJ2, "getChar", "([BI)C"⟩
abbrev cJ2_length_9d52b : ByteArray := prog_26_method_6_code
def yJ2_length_9d52b : MethodName := ⟨RJ2, "length", "([B)I"⟩
abbrev cJ2_charAt_3b067 : ByteArray := prog_26_method_83_code
def yJ2_charAt_3b067 : MethodName := ⟨RJ2, "charAt", "([BI)C"⟩
abbrev cJ2_checkIndex_2214a : ByteArray := prog_26_method_91_code
def yJ2_checkIndex_2214a : MethodName := ⟨RJ2, "checkIndex", "(I[B)V"⟩
def RJ3 : String := "jdk/internal/util/Preconditions"
def TJ3 : u_T := fun k => match k with
  | _ => ("", "", "", false)
def tyJ3 : Nat → FieldType := fun k => match k with
  | _ => .int
abbrev cJ3_checkIndex_8e157 : ByteArray := prog_31_method_11_code
def yJ3_checkIndex_8e157 : MethodName := ⟨RJ3, "checkIndex", "(IILjava/util/function/BiFunction;)I"⟩
def RL : String := "FingerRowsLaw"
abbrev cL_cell : ByteArray := method_3_code
def yL_cell : MethodName := ⟨RL, "cell", "(LFingerRows;[J)I"⟩
abbrev cL_pair : ByteArray := method_4_code
def yL_pair : MethodName := ⟨RL, "pair", "(LFingerRows;II[J)I"⟩
abbrev cL_at : ByteArray := method_5_code
def yL_at : MethodName := ⟨RL, "at", "(LFingerRows;II[J)I"⟩
abbrev cL_column : ByteArray := method_6_code
def yL_column : MethodName := ⟨RL, "column", "(LFingerRows;II[J)I"⟩
abbrev cL_net : ByteArray := method_7_code
def yL_net : MethodName := ⟨RL, "net", "(LFingerRows;II[J)I"⟩
abbrev cL_layout : ByteArray := method_8_code
def yL_layout : MethodName := ⟨RL, "layout", "(LFingerRows;I[J)I"⟩
abbrev cL_best : ByteArray := method_9_code
def yL_best : MethodName := ⟨RL, "best", "(LFingerRows;JIZ[J)I"⟩
abbrev cL_with : ByteArray := method_10_code
def yL_with : MethodName := ⟨RL, "with", "(LFingerRows;II[J)I"⟩
abbrev cL_ofSet : ByteArray := method_11_code
def yL_ofSet : MethodName := ⟨RL, "ofSet", "(LFingerRows;I[J)I"⟩
abbrev cL_parted : ByteArray := method_12_code
def yL_parted : MethodName := ⟨RL, "parted", "(LFingerRows;IZ[J)I"⟩
abbrev cL_better : ByteArray := method_13_code
def yL_better : MethodName := ⟨RL, "better", "(LFingerRows;I[J)I"⟩
abbrev cL_shortest : ByteArray := method_14_code
def yL_shortest : MethodName := ⟨RL, "shortest", "(LFingerRows;IZ[J)I"⟩
abbrev cL_neighbours : ByteArray := method_15_code
def yL_neighbours : MethodName := ⟨RL, "neighbours", "(LFingerRows;II[J)I"⟩
abbrev cL_starts : ByteArray := method_16_code
def yL_starts : MethodName := ⟨RL, "starts", "(LFingerRows;I[J)I"⟩
abbrev cL_turn : ByteArray := method_17_code
def yL_turn : MethodName := ⟨RL, "turn", "(LFingerRows;II[J)I"⟩
abbrev cL_move : ByteArray := method_18_code
def yL_move : MethodName := ⟨RL, "move", "(LFingerRows;II[J)I"⟩
abbrev cL_mirror : ByteArray := method_19_code
def yL_mirror : MethodName := ⟨RL, "mirror", "(LFingerRows;[J)I"⟩
abbrev cL_lay : ByteArray := method_20_code
def yL_lay : MethodName := ⟨RL, "lay", "(LFingerRows;J[J)I"⟩
abbrev cL_undo : ByteArray := method_21_code
def yL_undo : MethodName := ⟨RL, "undo", "(LFingerRows;[J)I"⟩
abbrev cL_fits : ByteArray := method_22_code
def yL_fits : MethodName := ⟨RL, "fits", "(LFingerRows;II[J)I"⟩
abbrev cL_room : ByteArray := method_23_code
def yL_room : MethodName := ⟨RL, "room", "(LFingerRows;I[J)I"⟩
abbrev cL_law : ByteArray := code
def yL_law : MethodName := ⟨RL, "law", "([I)Z"⟩
abbrev vwCl : List vw_C := [(RX0, TX0, 1), (RX1, TX1, 12), (RX2, TX2, 7), (RX3, TX3, 3), (RX4, TX4, 7), (RX5, TX5, 3), (RX6, TX6, 4), (RX7, TX7, 2), (RX8, TX8, 5), (RX9, TX9, 10), (RX10, TX10, 15), (RX11, TX11, 41)]
/-- the words that pass from a caller to a callee: all good words of the tables, and what selects the private methods -/
def Tg : List Cond := (k2_sels lw_privs).filter goodWord ++ tables_1.filter goodWord
theorem tg_good : ∀ w ∈ Tg, goodWord w = true := fun w h => (List.mem_append.mp h).elim (fun h => (List.mem_filter.mp h).2) (fun h => (List.mem_filter.mp h).2)
theorem tg_tbl : ∀ w ∈ Tg, w ∈ lw_tbl := fun w h => (List.mem_append.mp h).elim (fun h => List.mem_append_left _ (List.mem_filter.mp h).1) (fun h => List.mem_append_right _ (List.mem_filter.mp h).1)
theorem tg_t {w : Cond} (h : w ∈ tables_1) (hg : goodWord w = true) : w ∈ Tg := List.mem_append_right _ (List.mem_filter.mpr ⟨h, hg⟩)
theorem tg_p {w : Cond} (h : w ∈ k2_sels lw_privs) (hg : goodWord w = true) : w ∈ Tg := List.mem_append_left _ (List.mem_filter.mpr ⟨h, hg⟩)
theorem tb1 {w : Cond} (h : w ∈ tables_1_1) : w ∈ tables_1 := List.mem_append_left _ h
theorem tb2 {w : Cond} (h : w ∈ tables_1_2) : w ∈ tables_1 := List.mem_append_right _ (List.mem_append_left _ h)
theorem tb3 {w : Cond} (h : w ∈ tables_1_3) : w ∈ tables_1 := List.mem_append_right _ (List.mem_append_right _ (List.mem_append_left _ h))
theorem tb4 {w : Cond} (h : w ∈ tables_1_4) : w ∈ tables_1 := List.mem_append_right _ (List.mem_append_right _ (List.mem_append_right _ (List.mem_append_left _ h)))
theorem tb5 {w : Cond} (h : w ∈ tables_1_5) : w ∈ tables_1 := List.mem_append_right _ (List.mem_append_right _ (List.mem_append_right _ (List.mem_append_right _ (List.mem_append_left _ h))))
theorem tb6 {w : Cond} (h : w ∈ tables_1_6) : w ∈ tables_1 := List.mem_append_right _ (List.mem_append_right _ (List.mem_append_right _ (List.mem_append_right _ (List.mem_append_right _ (List.mem_append_left _ h)))))
theorem tb7 {w : Cond} (h : w ∈ tables_1_7) : w ∈ tables_1 := List.mem_append_right _ (List.mem_append_right _ (List.mem_append_right _ (List.mem_append_right _ (List.mem_append_right _ (List.mem_append_right _ (List.mem_append_left _ h))))))
theorem tb8 {w : Cond} (h : w ∈ tables_1_8) : w ∈ tables_1 := List.mem_append_right _ (List.mem_append_right _ (List.mem_append_right _ (List.mem_append_right _ (List.mem_append_right _ (List.mem_append_right _ (List.mem_append_right _ h))))))
theorem tg_in {w : Cond} (j : Nat) (ws : List Cond) (hs : ∀ w ∈ ws, w ∈ tables_1) (h : ws[j]? = some w) (hg : goodWord w = true) : w ∈ Tg := tg_t (hs w (List.mem_of_getElem? h)) hg
/-- a callee's words among a caller's -/
theorem tg_sub {y : MethodName} {b : ByteArray} {n : Nat} {r : Option FieldType} (h : Cond.code y b n r ∈ Tg) : GoodIn Tg (Cond.code y b n r :: Tg) := fun w hw => (List.mem_cons.mp hw).elim (fun e => by subst e; exact ⟨h, good_of_word (tg_good _ h)⟩) (fun hw => ⟨hw, good_of_word (tg_good _ hw)⟩)

