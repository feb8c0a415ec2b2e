-- ===== PART A: goes FIRST, ahead of the names: the tables' words, and 'selects' of the private methods out of them =====
/-- a private method of a class that the tables say can be made, by its rows of tables_1 -/
def lw_okq (q : MethodName × Nat) : Prop := (q.1.cls ≠ "java/lang/invoke/MethodHandle" ∧ q.1.cls ≠ "java/lang/invoke/VarHandle") ∧ Cond.instantiable q.1.cls q.2 ∈ tables_1 ∧ Cond.privateMethod q.1 ∈ tables_1 ∧ Cond.instanceMethod q.1 ∈ tables_1
theorem lw_p0 : lw_okq (⟨"LabelStacks", "beginAct", "()V"⟩, 17) := ⟨⟨by decide +kernel, by decide +kernel⟩, List.mem_of_getElem? (i := 22) (by decide +kernel), List.mem_of_getElem? (i := 402) (by decide +kernel), List.mem_of_getElem? (i := 403) (by decide +kernel)⟩
theorem lw_p1 : lw_okq (⟨"LabelStacks", "canBeBound", "()Z"⟩, 17) := ⟨⟨by decide +kernel, by decide +kernel⟩, List.mem_of_getElem? (i := 22) (by decide +kernel), List.mem_of_getElem? (i := 497) (by decide +kernel), List.mem_of_getElem? (i := 498) (by decide +kernel)⟩
theorem lw_p2 : lw_okq (⟨"LabelStacks", "wayEnd", "()I"⟩, 17) := ⟨⟨by decide +kernel, by decide +kernel⟩, List.mem_of_getElem? (i := 22) (by decide +kernel), List.mem_of_getElem? (i := 535) (by decide +kernel), List.mem_of_getElem? (i := 536) (by decide +kernel)⟩
theorem lw_p3 : lw_okq (⟨"LabelStacks", "planned", "(LLabelStacks$Row;)Z"⟩, 17) := ⟨⟨by decide +kernel, by decide +kernel⟩, List.mem_of_getElem? (i := 22) (by decide +kernel), List.mem_of_getElem? (i := 570) (by decide +kernel), List.mem_of_getElem? (i := 571) (by decide +kernel)⟩
theorem lw_p4 : lw_okq (⟨"LabelStacks", "freshRoutes", "()LLabelStacks$Routes;"⟩, 17) := ⟨⟨by decide +kernel, by decide +kernel⟩, List.mem_of_getElem? (i := 22) (by decide +kernel), List.mem_of_getElem? (i := 574) (by decide +kernel), List.mem_of_getElem? (i := 575) (by decide +kernel)⟩
theorem lw_p5 : lw_okq (⟨"LabelStacks$Routes", "nearest", "(II)I"⟩, 2) := ⟨⟨by decide +kernel, by decide +kernel⟩, List.mem_of_getElem? (i := 230) (by decide +kernel), List.mem_of_getElem? (i := 588) (by decide +kernel), List.mem_of_getElem? (i := 589) (by decide +kernel)⟩
theorem lw_p6 : lw_okq (⟨"LabelStacks$Routes", "comeInto", "(LLabelStacks$Network;III)V"⟩, 2) := ⟨⟨by decide +kernel, by decide +kernel⟩, List.mem_of_getElem? (i := 230) (by decide +kernel), List.mem_of_getElem? (i := 592) (by decide +kernel), List.mem_of_getElem? (i := 593) (by decide +kernel)⟩
theorem lw_p7 : lw_okq (⟨"LabelStacks$Writer", "writeFrom", "(LLabelStacks$Network;LLabelStacks$Routes;I)V"⟩, 9) := ⟨⟨by decide +kernel, by decide +kernel⟩, List.mem_of_getElem? (i := 244) (by decide +kernel), List.mem_of_getElem? (i := 606) (by decide +kernel), List.mem_of_getElem? (i := 607) (by decide +kernel)⟩
theorem lw_p8 : lw_okq (⟨"LabelStacks$Writer", "offer", "(IIII)V"⟩, 9) := ⟨⟨by decide +kernel, by decide +kernel⟩, List.mem_of_getElem? (i := 244) (by decide +kernel), List.mem_of_getElem? (i := 632) (by decide +kernel), List.mem_of_getElem? (i := 633) (by decide +kernel)⟩
theorem lw_p9 : lw_okq (⟨"LabelStacks$Writer", "bindingReach", "(LLabelStacks$Network;LLabelStacks$Routes;II)I"⟩, 9) := ⟨⟨by decide +kernel, by decide +kernel⟩, List.mem_of_getElem? (i := 244) (by decide +kernel), List.mem_of_getElem? (i := 636) (by decide +kernel), List.mem_of_getElem? (i := 637) (by decide +kernel)⟩
theorem lw_p10 : lw_okq (⟨"LabelStacks$Writer", "follow", "(LLabelStacks$Network;LLabelStacks$Routes;II)I"⟩, 9) := ⟨⟨by decide +kernel, by decide +kernel⟩, List.mem_of_getElem? (i := 244) (by decide +kernel), List.mem_of_getElem? (i := 648) (by decide +kernel), List.mem_of_getElem? (i := 649) (by decide +kernel)⟩
theorem lw_p11 : lw_okq (⟨"LabelStacks", "sent", "(I)Z"⟩, 17) := ⟨⟨by decide +kernel, by decide +kernel⟩, List.mem_of_getElem? (i := 22) (by decide +kernel), List.mem_of_getElem? (i := 706) (by decide +kernel), List.mem_of_getElem? (i := 707) (by decide +kernel)⟩
theorem lw_p12 : lw_okq (⟨"LabelStacks$Packet", "begin", "(I)V"⟩, 12) := ⟨⟨by decide +kernel, by decide +kernel⟩, List.mem_of_getElem? (i := 279) (by decide +kernel), List.mem_of_getElem? (i := 715) (by decide +kernel), List.mem_of_getElem? (i := 716) (by decide +kernel)⟩
theorem lw_p13 : lw_okq (⟨"LabelStacks$Packet", "unfolds", "(LLabelStacks$Network;I)Z"⟩, 12) := ⟨⟨by decide +kernel, by decide +kernel⟩, List.mem_of_getElem? (i := 279) (by decide +kernel), List.mem_of_getElem? (i := 726) (by decide +kernel), List.mem_of_getElem? (i := 727) (by decide +kernel)⟩
theorem lw_p14 : lw_okq (⟨"LabelStacks$Packet", "goesAlong", "(LLabelStacks$Network;I)Z"⟩, 12) := ⟨⟨by decide +kernel, by decide +kernel⟩, List.mem_of_getElem? (i := 279) (by decide +kernel), List.mem_of_getElem? (i := 731) (by decide +kernel), List.mem_of_getElem? (i := 732) (by decide +kernel)⟩
theorem lw_p15 : lw_okq (⟨"LabelStacks$Packet", "pass", "(LLabelStacks$Network;I)V"⟩, 12) := ⟨⟨by decide +kernel, by decide +kernel⟩, List.mem_of_getElem? (i := 279) (by decide +kernel), List.mem_of_getElem? (i := 736) (by decide +kernel), List.mem_of_getElem? (i := 737) (by decide +kernel)⟩
def lw_privs_1 : List (MethodName × Nat) := [(⟨"LabelStacks", "beginAct", "()V"⟩, 17), (⟨"LabelStacks", "canBeBound", "()Z"⟩, 17), (⟨"LabelStacks", "wayEnd", "()I"⟩, 17), (⟨"LabelStacks", "planned", "(LLabelStacks$Row;)Z"⟩, 17), (⟨"LabelStacks", "freshRoutes", "()LLabelStacks$Routes;"⟩, 17), (⟨"LabelStacks$Routes", "nearest", "(II)I"⟩, 2), (⟨"LabelStacks$Routes", "comeInto", "(LLabelStacks$Network;III)V"⟩, 2), (⟨"LabelStacks$Writer", "writeFrom", "(LLabelStacks$Network;LLabelStacks$Routes;I)V"⟩, 9), (⟨"LabelStacks$Writer", "offer", "(IIII)V"⟩, 9), (⟨"LabelStacks$Writer", "bindingReach", "(LLabelStacks$Network;LLabelStacks$Routes;II)I"⟩, 9), (⟨"LabelStacks$Writer", "follow", "(LLabelStacks$Network;LLabelStacks$Routes;II)I"⟩, 9), (⟨"LabelStacks", "sent", "(I)Z"⟩, 17), (⟨"LabelStacks$Packet", "begin", "(I)V"⟩, 12), (⟨"LabelStacks$Packet", "unfolds", "(LLabelStacks$Network;I)Z"⟩, 12), (⟨"LabelStacks$Packet", "goesAlong", "(LLabelStacks$Network;I)Z"⟩, 12), (⟨"LabelStacks$Packet", "pass", "(LLabelStacks$Network;I)V"⟩, 12)]
theorem lw_r1 : ∀ q ∈ lw_privs_1, lw_okq q := List.forall_mem_cons.mpr ⟨lw_p0, List.forall_mem_cons.mpr ⟨lw_p1, List.forall_mem_cons.mpr ⟨lw_p2, List.forall_mem_cons.mpr ⟨lw_p3, List.forall_mem_cons.mpr ⟨lw_p4, List.forall_mem_cons.mpr ⟨lw_p5, List.forall_mem_cons.mpr ⟨lw_p6, List.forall_mem_cons.mpr ⟨lw_p7, List.forall_mem_cons.mpr ⟨lw_p8, List.forall_mem_cons.mpr ⟨lw_p9, List.forall_mem_cons.mpr ⟨lw_p10, List.forall_mem_cons.mpr ⟨lw_p11, List.forall_mem_cons.mpr ⟨lw_p12, List.forall_mem_cons.mpr ⟨lw_p13, List.forall_mem_cons.mpr ⟨lw_p14, List.forall_mem_cons.mpr ⟨lw_p15, fun _ h => absurd h List.not_mem_nil⟩⟩⟩⟩⟩⟩⟩⟩⟩⟩⟩⟩⟩⟩⟩⟩
theorem lw_p16 : lw_okq (⟨"LabelStacks$Packet", "goesTo", "(LLabelStacks$Network;LLabelStacks$Routes;I)Z"⟩, 12) := ⟨⟨by decide +kernel, by decide +kernel⟩, List.mem_of_getElem? (i := 279) (by decide +kernel), List.mem_of_getElem? (i := 745) (by decide +kernel), List.mem_of_getElem? (i := 746) (by decide +kernel)⟩
theorem lw_p17 : lw_okq (⟨"LabelStacks$Packet", "walk", "(LLabelStacks$Network;LLabelStacks$Routes;I)V"⟩, 12) := ⟨⟨by decide +kernel, by decide +kernel⟩, List.mem_of_getElem? (i := 279) (by decide +kernel), List.mem_of_getElem? (i := 753) (by decide +kernel), List.mem_of_getElem? (i := 754) (by decide +kernel)⟩
theorem lw_p18 : lw_okq (⟨"LabelStacks$Packet", "spread", "(LLabelStacks$Network;LLabelStacks$Routes;I)V"⟩, 12) := ⟨⟨by decide +kernel, by decide +kernel⟩, List.mem_of_getElem? (i := 279) (by decide +kernel), List.mem_of_getElem? (i := 767) (by decide +kernel), List.mem_of_getElem? (i := 768) (by decide +kernel)⟩
theorem lw_p19 : lw_okq (⟨"LabelStacks$Packet", "farthest", "(LLabelStacks$Routes;II)I"⟩, 12) := ⟨⟨by decide +kernel, by decide +kernel⟩, List.mem_of_getElem? (i := 279) (by decide +kernel), List.mem_of_getElem? (i := 774) (by decide +kernel), List.mem_of_getElem? (i := 775) (by decide +kernel)⟩
theorem lw_p20 : lw_okq (⟨"LabelStacks$Packet", "handOn", "(LLabelStacks$Network;II)V"⟩, 12) := ⟨⟨by decide +kernel, by decide +kernel⟩, List.mem_of_getElem? (i := 279) (by decide +kernel), List.mem_of_getElem? (i := 778) (by decide +kernel), List.mem_of_getElem? (i := 779) (by decide +kernel)⟩
theorem lw_p21 : lw_okq (⟨"LabelStacks", "layLoads", "()V"⟩, 17) := ⟨⟨by decide +kernel, by decide +kernel⟩, List.mem_of_getElem? (i := 22) (by decide +kernel), List.mem_of_getElem? (i := 825) (by decide +kernel), List.mem_of_getElem? (i := 826) (by decide +kernel)⟩
theorem lw_p22 : lw_okq (⟨"LabelStacks", "sendDemand", "(I)V"⟩, 17) := ⟨⟨by decide +kernel, by decide +kernel⟩, List.mem_of_getElem? (i := 22) (by decide +kernel), List.mem_of_getElem? (i := 830) (by decide +kernel), List.mem_of_getElem? (i := 831) (by decide +kernel)⟩
theorem lw_p23 : lw_okq (⟨"LabelStacks", "foundRound", "(II)Z"⟩, 17) := ⟨⟨by decide +kernel, by decide +kernel⟩, List.mem_of_getElem? (i := 22) (by decide +kernel), List.mem_of_getElem? (i := 861) (by decide +kernel), List.mem_of_getElem? (i := 862) (by decide +kernel)⟩
theorem lw_p24 : lw_okq (⟨"LabelStacks$Writer", "countBack", "(LLabelStacks$Network;LLabelStacks$Routes;III)I"⟩, 9) := ⟨⟨by decide +kernel, by decide +kernel⟩, List.mem_of_getElem? (i := 244) (by decide +kernel), List.mem_of_getElem? (i := 887) (by decide +kernel), List.mem_of_getElem? (i := 888) (by decide +kernel)⟩
theorem lw_p25 : lw_okq (⟨"LabelStacks", "lastAlike", "(II)I"⟩, 17) := ⟨⟨by decide +kernel, by decide +kernel⟩, List.mem_of_getElem? (i := 22) (by decide +kernel), List.mem_of_getElem? (i := 895) (by decide +kernel), List.mem_of_getElem? (i := 896) (by decide +kernel)⟩
theorem lw_p26 : lw_okq (⟨"LabelStacks", "fewestAt", "(II)I"⟩, 17) := ⟨⟨by decide +kernel, by decide +kernel⟩, List.mem_of_getElem? (i := 22) (by decide +kernel), List.mem_of_getElem? (i := 899) (by decide +kernel), List.mem_of_getElem? (i := 900) (by decide +kernel)⟩
theorem lw_p27 : lw_okq (⟨"LabelStacks$Tape", "readHead", "()Z"⟩, 6) := ⟨⟨by decide +kernel, by decide +kernel⟩, List.mem_of_getElem? (i := 198) (by decide +kernel), List.mem_of_getElem? (i := 940) (by decide +kernel), List.mem_of_getElem? (i := 941) (by decide +kernel)⟩
theorem lw_p28 : lw_okq (⟨"LabelStacks$Tape", "skipBlanks", "()V"⟩, 6) := ⟨⟨by decide +kernel, by decide +kernel⟩, List.mem_of_getElem? (i := 198) (by decide +kernel), List.mem_of_getElem? (i := 944) (by decide +kernel), List.mem_of_getElem? (i := 945) (by decide +kernel)⟩
theorem lw_p29 : lw_okq (⟨"LabelStacks$Tape", "byteAt", "(I)I"⟩, 6) := ⟨⟨by decide +kernel, by decide +kernel⟩, List.mem_of_getElem? (i := 198) (by decide +kernel), List.mem_of_getElem? (i := 948) (by decide +kernel), List.mem_of_getElem? (i := 949) (by decide +kernel)⟩
theorem lw_p30 : lw_okq (⟨"LabelStacks$Tape", "takeWord", "(Ljava/lang/String;)Z"⟩, 6) := ⟨⟨by decide +kernel, by decide +kernel⟩, List.mem_of_getElem? (i := 198) (by decide +kernel), List.mem_of_getElem? (i := 953) (by decide +kernel), List.mem_of_getElem? (i := 954) (by decide +kernel)⟩
theorem lw_p31 : lw_okq (⟨"LabelStacks$Tape", "isWord", "(Ljava/lang/String;)Z"⟩, 6) := ⟨⟨by decide +kernel, by decide +kernel⟩, List.mem_of_getElem? (i := 198) (by decide +kernel), List.mem_of_getElem? (i := 957) (by decide +kernel), List.mem_of_getElem? (i := 958) (by decide +kernel)⟩
def lw_privs_2 : List (MethodName × Nat) := [(⟨"LabelStacks$Packet", "goesTo", "(LLabelStacks$Network;LLabelStacks$Routes;I)Z"⟩, 12), (⟨"LabelStacks$Packet", "walk", "(LLabelStacks$Network;LLabelStacks$Routes;I)V"⟩, 12), (⟨"LabelStacks$Packet", "spread", "(LLabelStacks$Network;LLabelStacks$Routes;I)V"⟩, 12), (⟨"LabelStacks$Packet", "farthest", "(LLabelStacks$Routes;II)I"⟩, 12), (⟨"LabelStacks$Packet", "handOn", "(LLabelStacks$Network;II)V"⟩, 12), (⟨"LabelStacks", "layLoads", "()V"⟩, 17), (⟨"LabelStacks", "sendDemand", "(I)V"⟩, 17), (⟨"LabelStacks", "foundRound", "(II)Z"⟩, 17), (⟨"LabelStacks$Writer", "countBack", "(LLabelStacks$Network;LLabelStacks$Routes;III)I"⟩, 9), (⟨"LabelStacks", "lastAlike", "(II)I"⟩, 17), (⟨"LabelStacks", "fewestAt", "(II)I"⟩, 17), (⟨"LabelStacks$Tape", "readHead", "()Z"⟩, 6), (⟨"LabelStacks$Tape", "skipBlanks", "()V"⟩, 6), (⟨"LabelStacks$Tape", "byteAt", "(I)I"⟩, 6), (⟨"LabelStacks$Tape", "takeWord", "(Ljava/lang/String;)Z"⟩, 6), (⟨"LabelStacks$Tape", "isWord", "(Ljava/lang/String;)Z"⟩, 6)]
theorem lw_r2 : ∀ q ∈ lw_privs_2, lw_okq q := List.forall_mem_cons.mpr ⟨lw_p16, List.forall_mem_cons.mpr ⟨lw_p17, List.forall_mem_cons.mpr ⟨lw_p18, List.forall_mem_cons.mpr ⟨lw_p19, List.forall_mem_cons.mpr ⟨lw_p20, List.forall_mem_cons.mpr ⟨lw_p21, List.forall_mem_cons.mpr ⟨lw_p22, List.forall_mem_cons.mpr ⟨lw_p23, List.forall_mem_cons.mpr ⟨lw_p24, List.forall_mem_cons.mpr ⟨lw_p25, List.forall_mem_cons.mpr ⟨lw_p26, List.forall_mem_cons.mpr ⟨lw_p27, List.forall_mem_cons.mpr ⟨lw_p28, List.forall_mem_cons.mpr ⟨lw_p29, List.forall_mem_cons.mpr ⟨lw_p30, List.forall_mem_cons.mpr ⟨lw_p31, fun _ h => absurd h List.not_mem_nil⟩⟩⟩⟩⟩⟩⟩⟩⟩⟩⟩⟩⟩⟩⟩⟩
theorem lw_p32 : lw_okq (⟨"LabelStacks$Tape", "isLetterAt", "(I)Z"⟩, 6) := ⟨⟨by decide +kernel, by decide +kernel⟩, List.mem_of_getElem? (i := 198) (by decide +kernel), List.mem_of_getElem? (i := 1009) (by decide +kernel), List.mem_of_getElem? (i := 1010) (by decide +kernel)⟩
theorem lw_p33 : lw_okq (⟨"LabelStacks$Tape", "foundFault", "(II)Z"⟩, 6) := ⟨⟨by decide +kernel, by decide +kernel⟩, List.mem_of_getElem? (i := 198) (by decide +kernel), List.mem_of_getElem? (i := 1013) (by decide +kernel), List.mem_of_getElem? (i := 1014) (by decide +kernel)⟩
theorem lw_p34 : lw_okq (⟨"LabelStacks$Tape", "takeNumber", "(II)I"⟩, 6) := ⟨⟨by decide +kernel, by decide +kernel⟩, List.mem_of_getElem? (i := 198) (by decide +kernel), List.mem_of_getElem? (i := 1017) (by decide +kernel), List.mem_of_getElem? (i := 1018) (by decide +kernel)⟩
theorem lw_p35 : lw_okq (⟨"LabelStacks$Tape", "isDigitAt", "(I)Z"⟩, 6) := ⟨⟨by decide +kernel, by decide +kernel⟩, List.mem_of_getElem? (i := 198) (by decide +kernel), List.mem_of_getElem? (i := 1021) (by decide +kernel), List.mem_of_getElem? (i := 1022) (by decide +kernel)⟩
theorem lw_p36 : lw_okq (⟨"LabelStacks$Tape", "takeSign", "(C)Z"⟩, 6) := ⟨⟨by decide +kernel, by decide +kernel⟩, List.mem_of_getElem? (i := 198) (by decide +kernel), List.mem_of_getElem? (i := 1027) (by decide +kernel), List.mem_of_getElem? (i := 1028) (by decide +kernel)⟩
theorem lw_p37 : lw_okq (⟨"LabelStacks$Tape", "readRow", "()Z"⟩, 6) := ⟨⟨by decide +kernel, by decide +kernel⟩, List.mem_of_getElem? (i := 198) (by decide +kernel), List.mem_of_getElem? (i := 1031) (by decide +kernel), List.mem_of_getElem? (i := 1032) (by decide +kernel)⟩
theorem lw_p38 : lw_okq (⟨"LabelStacks$Tape", "readLink", "()Z"⟩, 6) := ⟨⟨by decide +kernel, by decide +kernel⟩, List.mem_of_getElem? (i := 198) (by decide +kernel), List.mem_of_getElem? (i := 1036) (by decide +kernel), List.mem_of_getElem? (i := 1037) (by decide +kernel)⟩
theorem lw_p39 : lw_okq (⟨"LabelStacks$Tape", "readBinding", "()Z"⟩, 6) := ⟨⟨by decide +kernel, by decide +kernel⟩, List.mem_of_getElem? (i := 198) (by decide +kernel), List.mem_of_getElem? (i := 1043) (by decide +kernel), List.mem_of_getElem? (i := 1044) (by decide +kernel)⟩
theorem lw_p40 : lw_okq (⟨"LabelStacks$Tape", "readLabels", "(I)Z"⟩, 6) := ⟨⟨by decide +kernel, by decide +kernel⟩, List.mem_of_getElem? (i := 198) (by decide +kernel), List.mem_of_getElem? (i := 1048) (by decide +kernel), List.mem_of_getElem? (i := 1049) (by decide +kernel)⟩
theorem lw_p41 : lw_okq (⟨"LabelStacks$Tape", "readOneLabel", "(II)Z"⟩, 6) := ⟨⟨by decide +kernel, by decide +kernel⟩, List.mem_of_getElem? (i := 198) (by decide +kernel), List.mem_of_getElem? (i := 1052) (by decide +kernel), List.mem_of_getElem? (i := 1053) (by decide +kernel)⟩
theorem lw_p42 : lw_okq (⟨"LabelStacks", "wayStart", "()I"⟩, 17) := ⟨⟨by decide +kernel, by decide +kernel⟩, List.mem_of_getElem? (i := 22) (by decide +kernel), List.mem_of_getElem? (i := 1102) (by decide +kernel), List.mem_of_getElem? (i := 1103) (by decide +kernel)⟩
theorem lw_p43 : lw_okq (⟨"LabelStacksModel", "isIn", "(JJJ)Z"⟩, 46) := ⟨⟨by decide +kernel, by decide +kernel⟩, List.mem_of_getElem? (i := 1106) (by decide +kernel), List.mem_of_getElem? (i := 1261) (by decide +kernel), List.mem_of_getElem? (i := 1262) (by decide +kernel)⟩
theorem lw_p44 : lw_okq (⟨"LabelStacksModel", "keepsAct", "()V"⟩, 46) := ⟨⟨by decide +kernel, by decide +kernel⟩, List.mem_of_getElem? (i := 1106) (by decide +kernel), List.mem_of_getElem? (i := 1265) (by decide +kernel), List.mem_of_getElem? (i := 1266) (by decide +kernel)⟩
theorem lw_p45 : lw_okq (⟨"LabelStacksModel", "clears", "(I)V"⟩, 46) := ⟨⟨by decide +kernel, by decide +kernel⟩, List.mem_of_getElem? (i := 1106) (by decide +kernel), List.mem_of_getElem? (i := 1269) (by decide +kernel), List.mem_of_getElem? (i := 1270) (by decide +kernel)⟩
theorem lw_p46 : lw_okq (⟨"LabelStacksModel", "isNode", "(I)Z"⟩, 46) := ⟨⟨by decide +kernel, by decide +kernel⟩, List.mem_of_getElem? (i := 1106) (by decide +kernel), List.mem_of_getElem? (i := 1277) (by decide +kernel), List.mem_of_getElem? (i := 1278) (by decide +kernel)⟩
theorem lw_p47 : lw_okq (⟨"LabelStacksModel", "n", "()I"⟩, 46) := ⟨⟨by decide +kernel, by decide +kernel⟩, List.mem_of_getElem? (i := 1106) (by decide +kernel), List.mem_of_getElem? (i := 1281) (by decide +kernel), List.mem_of_getElem? (i := 1282) (by decide +kernel)⟩
def lw_privs_3 : List (MethodName × Nat) := [(⟨"LabelStacks$Tape", "isLetterAt", "(I)Z"⟩, 6), (⟨"LabelStacks$Tape", "foundFault", "(II)Z"⟩, 6), (⟨"LabelStacks$Tape", "takeNumber", "(II)I"⟩, 6), (⟨"LabelStacks$Tape", "isDigitAt", "(I)Z"⟩, 6), (⟨"LabelStacks$Tape", "takeSign", "(C)Z"⟩, 6), (⟨"LabelStacks$Tape", "readRow", "()Z"⟩, 6), (⟨"LabelStacks$Tape", "readLink", "()Z"⟩, 6), (⟨"LabelStacks$Tape", "readBinding", "()Z"⟩, 6), (⟨"LabelStacks$Tape", "readLabels", "(I)Z"⟩, 6), (⟨"LabelStacks$Tape", "readOneLabel", "(II)Z"⟩, 6), (⟨"LabelStacks", "wayStart", "()I"⟩, 17), (⟨"LabelStacksModel", "isIn", "(JJJ)Z"⟩, 46), (⟨"LabelStacksModel", "keepsAct", "()V"⟩, 46), (⟨"LabelStacksModel", "clears", "(I)V"⟩, 46), (⟨"LabelStacksModel", "isNode", "(I)Z"⟩, 46), (⟨"LabelStacksModel", "n", "()I"⟩, 46)]
theorem lw_r3 : ∀ q ∈ lw_privs_3, lw_okq q := List.forall_mem_cons.mpr ⟨lw_p32, List.forall_mem_cons.mpr ⟨lw_p33, List.forall_mem_cons.mpr ⟨lw_p34, List.forall_mem_cons.mpr ⟨lw_p35, List.forall_mem_cons.mpr ⟨lw_p36, List.forall_mem_cons.mpr ⟨lw_p37, List.forall_mem_cons.mpr ⟨lw_p38, List.forall_mem_cons.mpr ⟨lw_p39, List.forall_mem_cons.mpr ⟨lw_p40, List.forall_mem_cons.mpr ⟨lw_p41, List.forall_mem_cons.mpr ⟨lw_p42, List.forall_mem_cons.mpr ⟨lw_p43, List.forall_mem_cons.mpr ⟨lw_p44, List.forall_mem_cons.mpr ⟨lw_p45, List.forall_mem_cons.mpr ⟨lw_p46, List.forall_mem_cons.mpr ⟨lw_p47, fun _ h => absurd h List.not_mem_nil⟩⟩⟩⟩⟩⟩⟩⟩⟩⟩⟩⟩⟩⟩⟩⟩
theorem lw_p48 : lw_okq (⟨"LabelStacksModel", "links", "()I"⟩, 46) := ⟨⟨by decide +kernel, by decide +kernel⟩, List.mem_of_getElem? (i := 1106) (by decide +kernel), List.mem_of_getElem? (i := 1286) (by decide +kernel), List.mem_of_getElem? (i := 1287) (by decide +kernel)⟩
theorem lw_p49 : lw_okq (⟨"LabelStacksModel", "lays", "(IIIZ)V"⟩, 46) := ⟨⟨by decide +kernel, by decide +kernel⟩, List.mem_of_getElem? (i := 1106) (by decide +kernel), List.mem_of_getElem? (i := 1290) (by decide +kernel), List.mem_of_getElem? (i := 1291) (by decide +kernel)⟩
theorem lw_p50 : lw_okq (⟨"LabelStacksModel", "isLink", "(I)Z"⟩, 46) := ⟨⟨by decide +kernel, by decide +kernel⟩, List.mem_of_getElem? (i := 1106) (by decide +kernel), List.mem_of_getElem? (i := 1298) (by decide +kernel), List.mem_of_getElem? (i := 1299) (by decide +kernel)⟩
theorem lw_p51 : lw_okq (⟨"LabelStacksModel", "isUp", "(I)Z"⟩, 46) := ⟨⟨by decide +kernel, by decide +kernel⟩, List.mem_of_getElem? (i := 1106) (by decide +kernel), List.mem_of_getElem? (i := 1302) (by decide +kernel), List.mem_of_getElem? (i := 1303) (by decide +kernel)⟩
theorem lw_p52 : lw_okq (⟨"LabelStacksModel", "costOf", "(I)I"⟩, 46) := ⟨⟨by decide +kernel, by decide +kernel⟩, List.mem_of_getElem? (i := 1106) (by decide +kernel), List.mem_of_getElem? (i := 1310) (by decide +kernel), List.mem_of_getElem? (i := 1311) (by decide +kernel)⟩
theorem lw_p53 : lw_okq (⟨"LabelStacksModel", "isBinding", "(I)Z"⟩, 46) := ⟨⟨by decide +kernel, by decide +kernel⟩, List.mem_of_getElem? (i := 1106) (by decide +kernel), List.mem_of_getElem? (i := 1318) (by decide +kernel), List.mem_of_getElem? (i := 1319) (by decide +kernel)⟩
theorem lw_p54 : lw_okq (⟨"LabelStacksModel", "isPlain", "()Z"⟩, 46) := ⟨⟨by decide +kernel, by decide +kernel⟩, List.mem_of_getElem? (i := 1106) (by decide +kernel), List.mem_of_getElem? (i := 1324) (by decide +kernel), List.mem_of_getElem? (i := 1325) (by decide +kernel)⟩
theorem lw_p55 : lw_okq (⟨"LabelStacksModel", "wayLong", "()I"⟩, 46) := ⟨⟨by decide +kernel, by decide +kernel⟩, List.mem_of_getElem? (i := 1106) (by decide +kernel), List.mem_of_getElem? (i := 1341) (by decide +kernel), List.mem_of_getElem? (i := 1342) (by decide +kernel)⟩
theorem lw_p56 : lw_okq (⟨"LabelStacksModel", "wayLink", "(I)I"⟩, 46) := ⟨⟨by decide +kernel, by decide +kernel⟩, List.mem_of_getElem? (i := 1106) (by decide +kernel), List.mem_of_getElem? (i := 1345) (by decide +kernel), List.mem_of_getElem? (i := 1346) (by decide +kernel)⟩
theorem lw_p57 : lw_okq (⟨"LabelStacksModel", "to", "(I)I"⟩, 46) := ⟨⟨by decide +kernel, by decide +kernel⟩, List.mem_of_getElem? (i := 1106) (by decide +kernel), List.mem_of_getElem? (i := 1349) (by decide +kernel), List.mem_of_getElem? (i := 1350) (by decide +kernel)⟩
theorem lw_p58 : lw_okq (⟨"LabelStacksModel", "from", "(I)I"⟩, 46) := ⟨⟨by decide +kernel, by decide +kernel⟩, List.mem_of_getElem? (i := 1106) (by decide +kernel), List.mem_of_getElem? (i := 1353) (by decide +kernel), List.mem_of_getElem? (i := 1354) (by decide +kernel)⟩
theorem lw_p59 : lw_okq (⟨"LabelStacksModel", "isLabel", "(I)Z"⟩, 46) := ⟨⟨by decide +kernel, by decide +kernel⟩, List.mem_of_getElem? (i := 1106) (by decide +kernel), List.mem_of_getElem? (i := 1365) (by decide +kernel), List.mem_of_getElem? (i := 1366) (by decide +kernel)⟩
theorem lw_p60 : lw_okq (⟨"LabelStacksModel", "laysFar", "()V"⟩, 46) := ⟨⟨by decide +kernel, by decide +kernel⟩, List.mem_of_getElem? (i := 1106) (by decide +kernel), List.mem_of_getElem? (i := 1382) (by decide +kernel), List.mem_of_getElem? (i := 1383) (by decide +kernel)⟩
theorem lw_p61 : lw_okq (⟨"LabelStacksModel", "far2", "(II)I"⟩, 46) := ⟨⟨by decide +kernel, by decide +kernel⟩, List.mem_of_getElem? (i := 1106) (by decide +kernel), List.mem_of_getElem? (i := 1387) (by decide +kernel), List.mem_of_getElem? (i := 1388) (by decide +kernel)⟩
theorem lw_p62 : lw_okq (⟨"LabelStacksModel", "laysPaths", "(I)V"⟩, 46) := ⟨⟨by decide +kernel, by decide +kernel⟩, List.mem_of_getElem? (i := 1106) (by decide +kernel), List.mem_of_getElem? (i := 1391) (by decide +kernel), List.mem_of_getElem? (i := 1392) (by decide +kernel)⟩
theorem lw_p63 : lw_okq (⟨"LabelStacksModel", "isOn", "(III)Z"⟩, 46) := ⟨⟨by decide +kernel, by decide +kernel⟩, List.mem_of_getElem? (i := 1106) (by decide +kernel), List.mem_of_getElem? (i := 1395) (by decide +kernel), List.mem_of_getElem? (i := 1396) (by decide +kernel)⟩
def lw_privs_4 : List (MethodName × Nat) := [(⟨"LabelStacksModel", "links", "()I"⟩, 46), (⟨"LabelStacksModel", "lays", "(IIIZ)V"⟩, 46), (⟨"LabelStacksModel", "isLink", "(I)Z"⟩, 46), (⟨"LabelStacksModel", "isUp", "(I)Z"⟩, 46), (⟨"LabelStacksModel", "costOf", "(I)I"⟩, 46), (⟨"LabelStacksModel", "isBinding", "(I)Z"⟩, 46), (⟨"LabelStacksModel", "isPlain", "()Z"⟩, 46), (⟨"LabelStacksModel", "wayLong", "()I"⟩, 46), (⟨"LabelStacksModel", "wayLink", "(I)I"⟩, 46), (⟨"LabelStacksModel", "to", "(I)I"⟩, 46), (⟨"LabelStacksModel", "from", "(I)I"⟩, 46), (⟨"LabelStacksModel", "isLabel", "(I)Z"⟩, 46), (⟨"LabelStacksModel", "laysFar", "()V"⟩, 46), (⟨"LabelStacksModel", "far2", "(II)I"⟩, 46), (⟨"LabelStacksModel", "laysPaths", "(I)V"⟩, 46), (⟨"LabelStacksModel", "isOn", "(III)Z"⟩, 46)]
theorem lw_r4 : ∀ q ∈ lw_privs_4, lw_okq q := List.forall_mem_cons.mpr ⟨lw_p48, List.forall_mem_cons.mpr ⟨lw_p49, List.forall_mem_cons.mpr ⟨lw_p50, List.forall_mem_cons.mpr ⟨lw_p51, List.forall_mem_cons.mpr ⟨lw_p52, List.forall_mem_cons.mpr ⟨lw_p53, List.forall_mem_cons.mpr ⟨lw_p54, List.forall_mem_cons.mpr ⟨lw_p55, List.forall_mem_cons.mpr ⟨lw_p56, List.forall_mem_cons.mpr ⟨lw_p57, List.forall_mem_cons.mpr ⟨lw_p58, List.forall_mem_cons.mpr ⟨lw_p59, List.forall_mem_cons.mpr ⟨lw_p60, List.forall_mem_cons.mpr ⟨lw_p61, List.forall_mem_cons.mpr ⟨lw_p62, List.forall_mem_cons.mpr ⟨lw_p63, fun _ h => absurd h List.not_mem_nil⟩⟩⟩⟩⟩⟩⟩⟩⟩⟩⟩⟩⟩⟩⟩⟩
theorem lw_p64 : lw_okq (⟨"LabelStacksModel", "goes", "(I[IIIZ)V"⟩, 46) := ⟨⟨by decide +kernel, by decide +kernel⟩, List.mem_of_getElem? (i := 1106) (by decide +kernel), List.mem_of_getElem? (i := 1412) (by decide +kernel), List.mem_of_getElem? (i := 1413) (by decide +kernel)⟩
theorem lw_p65 : lw_okq (⟨"LabelStacksModel", "begins", "(I)V"⟩, 46) := ⟨⟨by decide +kernel, by decide +kernel⟩, List.mem_of_getElem? (i := 1106) (by decide +kernel), List.mem_of_getElem? (i := 1416) (by decide +kernel), List.mem_of_getElem? (i := 1417) (by decide +kernel)⟩
theorem lw_p66 : lw_okq (⟨"LabelStacksModel", "holds", "([III)V"⟩, 46) := ⟨⟨by decide +kernel, by decide +kernel⟩, List.mem_of_getElem? (i := 1106) (by decide +kernel), List.mem_of_getElem? (i := 1420) (by decide +kernel), List.mem_of_getElem? (i := 1421) (by decide +kernel)⟩
theorem lw_p67 : lw_okq (⟨"LabelStacksModel", "goesAll", "()V"⟩, 46) := ⟨⟨by decide +kernel, by decide +kernel⟩, List.mem_of_getElem? (i := 1106) (by decide +kernel), List.mem_of_getElem? (i := 1424) (by decide +kernel), List.mem_of_getElem? (i := 1425) (by decide +kernel)⟩
theorem lw_p68 : lw_okq (⟨"LabelStacksModel", "opens", "(I)V"⟩, 46) := ⟨⟨by decide +kernel, by decide +kernel⟩, List.mem_of_getElem? (i := 1106) (by decide +kernel), List.mem_of_getElem? (i := 1428) (by decide +kernel), List.mem_of_getElem? (i := 1429) (by decide +kernel)⟩
theorem lw_p69 : lw_okq (⟨"LabelStacksModel", "goesBy", "(I)V"⟩, 46) := ⟨⟨by decide +kernel, by decide +kernel⟩, List.mem_of_getElem? (i := 1106) (by decide +kernel), List.mem_of_getElem? (i := 1432) (by decide +kernel), List.mem_of_getElem? (i := 1433) (by decide +kernel)⟩
theorem lw_p70 : lw_okq (⟨"LabelStacksModel", "shares", "(IJJ)V"⟩, 46) := ⟨⟨by decide +kernel, by decide +kernel⟩, List.mem_of_getElem? (i := 1106) (by decide +kernel), List.mem_of_getElem? (i := 1436) (by decide +kernel), List.mem_of_getElem? (i := 1437) (by decide +kernel)⟩
theorem lw_p71 : lw_okq (⟨"LabelStacksModel", "adds", "(JJJJ)V"⟩, 46) := ⟨⟨by decide +kernel, by decide +kernel⟩, List.mem_of_getElem? (i := 1106) (by decide +kernel), List.mem_of_getElem? (i := 1440) (by decide +kernel), List.mem_of_getElem? (i := 1441) (by decide +kernel)⟩
theorem lw_p72 : lw_okq (⟨"LabelStacksModel", "common", "(JJ)J"⟩, 46) := ⟨⟨by decide +kernel, by decide +kernel⟩, List.mem_of_getElem? (i := 1106) (by decide +kernel), List.mem_of_getElem? (i := 1444) (by decide +kernel), List.mem_of_getElem? (i := 1445) (by decide +kernel)⟩
theorem lw_p73 : lw_okq (⟨"LabelStacksModel", "goesAlong", "(I)V"⟩, 46) := ⟨⟨by decide +kernel, by decide +kernel⟩, List.mem_of_getElem? (i := 1106) (by decide +kernel), List.mem_of_getElem? (i := 1448) (by decide +kernel), List.mem_of_getElem? (i := 1449) (by decide +kernel)⟩
theorem lw_p74 : lw_okq (⟨"LabelStacksModel", "goesTo", "(I)V"⟩, 46) := ⟨⟨by decide +kernel, by decide +kernel⟩, List.mem_of_getElem? (i := 1106) (by decide +kernel), List.mem_of_getElem? (i := 1452) (by decide +kernel), List.mem_of_getElem? (i := 1453) (by decide +kernel)⟩
theorem lw_p75 : lw_okq (⟨"LabelStacksModel", "parts", "(I)V"⟩, 46) := ⟨⟨by decide +kernel, by decide +kernel⟩, List.mem_of_getElem? (i := 1106) (by decide +kernel), List.mem_of_getElem? (i := 1456) (by decide +kernel), List.mem_of_getElem? (i := 1457) (by decide +kernel)⟩
theorem lw_p76 : lw_okq (⟨"LabelStacksModel", "partsFrom", "(II)V"⟩, 46) := ⟨⟨by decide +kernel, by decide +kernel⟩, List.mem_of_getElem? (i := 1106) (by decide +kernel), List.mem_of_getElem? (i := 1460) (by decide +kernel), List.mem_of_getElem? (i := 1461) (by decide +kernel)⟩
theorem lw_p77 : lw_okq (⟨"LabelStacksModel", "endOf", "()I"⟩, 46) := ⟨⟨by decide +kernel, by decide +kernel⟩, List.mem_of_getElem? (i := 1106) (by decide +kernel), List.mem_of_getElem? (i := 1464) (by decide +kernel), List.mem_of_getElem? (i := 1465) (by decide +kernel)⟩
theorem lw_p78 : lw_okq (⟨"LabelStacksModel", "takesWay", "()V"⟩, 46) := ⟨⟨by decide +kernel, by decide +kernel⟩, List.mem_of_getElem? (i := 1106) (by decide +kernel), List.mem_of_getElem? (i := 1489) (by decide +kernel), List.mem_of_getElem? (i := 1490) (by decide +kernel)⟩
theorem lw_p79 : lw_okq (⟨"LabelStacksModel", "laysFewest", "()V"⟩, 46) := ⟨⟨by decide +kernel, by decide +kernel⟩, List.mem_of_getElem? (i := 1106) (by decide +kernel), List.mem_of_getElem? (i := 1493) (by decide +kernel), List.mem_of_getElem? (i := 1494) (by decide +kernel)⟩
def lw_privs_5 : List (MethodName × Nat) := [(⟨"LabelStacksModel", "goes", "(I[IIIZ)V"⟩, 46), (⟨"LabelStacksModel", "begins", "(I)V"⟩, 46), (⟨"LabelStacksModel", "holds", "([III)V"⟩, 46), (⟨"LabelStacksModel", "goesAll", "()V"⟩, 46), (⟨"LabelStacksModel", "opens", "(I)V"⟩, 46), (⟨"LabelStacksModel", "goesBy", "(I)V"⟩, 46), (⟨"LabelStacksModel", "shares", "(IJJ)V"⟩, 46), (⟨"LabelStacksModel", "adds", "(JJJJ)V"⟩, 46), (⟨"LabelStacksModel", "common", "(JJ)J"⟩, 46), (⟨"LabelStacksModel", "goesAlong", "(I)V"⟩, 46), (⟨"LabelStacksModel", "goesTo", "(I)V"⟩, 46), (⟨"LabelStacksModel", "parts", "(I)V"⟩, 46), (⟨"LabelStacksModel", "partsFrom", "(II)V"⟩, 46), (⟨"LabelStacksModel", "endOf", "()I"⟩, 46), (⟨"LabelStacksModel", "takesWay", "()V"⟩, 46), (⟨"LabelStacksModel", "laysFewest", "()V"⟩, 46)]
theorem lw_r5 : ∀ q ∈ lw_privs_5, lw_okq q := List.forall_mem_cons.mpr ⟨lw_p64, List.forall_mem_cons.mpr ⟨lw_p65, List.forall_mem_cons.mpr ⟨lw_p66, List.forall_mem_cons.mpr ⟨lw_p67, List.forall_mem_cons.mpr ⟨lw_p68, List.forall_mem_cons.mpr ⟨lw_p69, List.forall_mem_cons.mpr ⟨lw_p70, List.forall_mem_cons.mpr ⟨lw_p71, List.forall_mem_cons.mpr ⟨lw_p72, List.forall_mem_cons.mpr ⟨lw_p73, List.forall_mem_cons.mpr ⟨lw_p74, List.forall_mem_cons.mpr ⟨lw_p75, List.forall_mem_cons.mpr ⟨lw_p76, List.forall_mem_cons.mpr ⟨lw_p77, List.forall_mem_cons.mpr ⟨lw_p78, List.forall_mem_cons.mpr ⟨lw_p79, fun _ h => absurd h List.not_mem_nil⟩⟩⟩⟩⟩⟩⟩⟩⟩⟩⟩⟩⟩⟩⟩⟩
theorem lw_p80 : lw_okq (⟨"LabelStacksModel", "coveredBy", "(II)I"⟩, 46) := ⟨⟨by decide +kernel, by decide +kernel⟩, List.mem_of_getElem? (i := 1106) (by decide +kernel), List.mem_of_getElem? (i := 1497) (by decide +kernel), List.mem_of_getElem? (i := 1498) (by decide +kernel)⟩
theorem lw_p81 : lw_okq (⟨"LabelStacksModel", "nodeAt", "(I)I"⟩, 46) := ⟨⟨by decide +kernel, by decide +kernel⟩, List.mem_of_getElem? (i := 1106) (by decide +kernel), List.mem_of_getElem? (i := 1501) (by decide +kernel), List.mem_of_getElem? (i := 1502) (by decide +kernel)⟩
theorem lw_p82 : lw_okq (⟨"LabelStacksModel", "covered", "(I)I"⟩, 46) := ⟨⟨by decide +kernel, by decide +kernel⟩, List.mem_of_getElem? (i := 1106) (by decide +kernel), List.mem_of_getElem? (i := 1505) (by decide +kernel), List.mem_of_getElem? (i := 1506) (by decide +kernel)⟩
theorem lw_p83 : lw_okq (⟨"LabelStacksModel", "tries", "(IIII)V"⟩, 46) := ⟨⟨by decide +kernel, by decide +kernel⟩, List.mem_of_getElem? (i := 1106) (by decide +kernel), List.mem_of_getElem? (i := 1509) (by decide +kernel), List.mem_of_getElem? (i := 1510) (by decide +kernel)⟩
theorem lw_p84 : lw_okq (⟨"LabelStacksModel", "coveredByBinding", "(II)I"⟩, 46) := ⟨⟨by decide +kernel, by decide +kernel⟩, List.mem_of_getElem? (i := 1106) (by decide +kernel), List.mem_of_getElem? (i := 1513) (by decide +kernel), List.mem_of_getElem? (i := 1514) (by decide +kernel)⟩
theorem lw_p85 : lw_okq (⟨"LabelStacksModel", "writes", "()I"⟩, 46) := ⟨⟨by decide +kernel, by decide +kernel⟩, List.mem_of_getElem? (i := 1106) (by decide +kernel), List.mem_of_getElem? (i := 1517) (by decide +kernel), List.mem_of_getElem? (i := 1518) (by decide +kernel)⟩
theorem lw_p86 : lw_okq (⟨"LabelStacksModel", "coveredByNode", "(I)I"⟩, 46) := ⟨⟨by decide +kernel, by decide +kernel⟩, List.mem_of_getElem? (i := 1106) (by decide +kernel), List.mem_of_getElem? (i := 1529) (by decide +kernel), List.mem_of_getElem? (i := 1530) (by decide +kernel)⟩
theorem lw_p87 : lw_okq (⟨"LabelStacksModel", "isDemand", "(I)Z"⟩, 46) := ⟨⟨by decide +kernel, by decide +kernel⟩, List.mem_of_getElem? (i := 1106) (by decide +kernel), List.mem_of_getElem? (i := 1542) (by decide +kernel), List.mem_of_getElem? (i := 1543) (by decide +kernel)⟩
theorem lw_p88 : lw_okq (⟨"LabelStacksModel", "laysLoads", "()V"⟩, 46) := ⟨⟨by decide +kernel, by decide +kernel⟩, List.mem_of_getElem? (i := 1106) (by decide +kernel), List.mem_of_getElem? (i := 1551) (by decide +kernel), List.mem_of_getElem? (i := 1552) (by decide +kernel)⟩
theorem lw_p89 : lw_okq (⟨"LabelStacksModel", "runsDemand", "(IZ)V"⟩, 46) := ⟨⟨by decide +kernel, by decide +kernel⟩, List.mem_of_getElem? (i := 1106) (by decide +kernel), List.mem_of_getElem? (i := 1555) (by decide +kernel), List.mem_of_getElem? (i := 1556) (by decide +kernel)⟩
theorem lw_p90 : lw_okq (⟨"LabelStacksModel", "isMore", "(JJJJ)Z"⟩, 46) := ⟨⟨by decide +kernel, by decide +kernel⟩, List.mem_of_getElem? (i := 1106) (by decide +kernel), List.mem_of_getElem? (i := 1563) (by decide +kernel), List.mem_of_getElem? (i := 1564) (by decide +kernel)⟩
theorem lw_p91 : lw_okq (⟨"LabelStacksModel", "laysRepair", "(II)Z"⟩, 46) := ⟨⟨by decide +kernel, by decide +kernel⟩, List.mem_of_getElem? (i := 1106) (by decide +kernel), List.mem_of_getElem? (i := 1571) (by decide +kernel), List.mem_of_getElem? (i := 1572) (by decide +kernel)⟩
theorem lw_p92 : lw_okq (⟨"LabelStacksModel", "laysWithout", "(II)V"⟩, 46) := ⟨⟨by decide +kernel, by decide +kernel⟩, List.mem_of_getElem? (i := 1106) (by decide +kernel), List.mem_of_getElem? (i := 1575) (by decide +kernel), List.mem_of_getElem? (i := 1576) (by decide +kernel)⟩
theorem lw_p93 : lw_okq (⟨"LabelStacksModel", "ways", "(IIIII)V"⟩, 46) := ⟨⟨by decide +kernel, by decide +kernel⟩, List.mem_of_getElem? (i := 1106) (by decide +kernel), List.mem_of_getElem? (i := 1587) (by decide +kernel), List.mem_of_getElem? (i := 1588) (by decide +kernel)⟩
theorem lw_p94 : lw_okq (⟨"LabelStacksModel", "fewestBy", "(II)I"⟩, 46) := ⟨⟨by decide +kernel, by decide +kernel⟩, List.mem_of_getElem? (i := 1106) (by decide +kernel), List.mem_of_getElem? (i := 1595) (by decide +kernel), List.mem_of_getElem? (i := 1596) (by decide +kernel)⟩
theorem lw_p95 : lw_okq (⟨"LabelStacksModel", "isKeptAs", "(I)Z"⟩, 46) := ⟨⟨by decide +kernel, by decide +kernel⟩, List.mem_of_getElem? (i := 1106) (by decide +kernel), List.mem_of_getElem? (i := 1603) (by decide +kernel), List.mem_of_getElem? (i := 1604) (by decide +kernel)⟩
def lw_privs_6 : List (MethodName × Nat) := [(⟨"LabelStacksModel", "coveredBy", "(II)I"⟩, 46), (⟨"LabelStacksModel", "nodeAt", "(I)I"⟩, 46), (⟨"LabelStacksModel", "covered", "(I)I"⟩, 46), (⟨"LabelStacksModel", "tries", "(IIII)V"⟩, 46), (⟨"LabelStacksModel", "coveredByBinding", "(II)I"⟩, 46), (⟨"LabelStacksModel", "writes", "()I"⟩, 46), (⟨"LabelStacksModel", "coveredByNode", "(I)I"⟩, 46), (⟨"LabelStacksModel", "isDemand", "(I)Z"⟩, 46), (⟨"LabelStacksModel", "laysLoads", "()V"⟩, 46), (⟨"LabelStacksModel", "runsDemand", "(IZ)V"⟩, 46), (⟨"LabelStacksModel", "isMore", "(JJJJ)Z"⟩, 46), (⟨"LabelStacksModel", "laysRepair", "(II)Z"⟩, 46), (⟨"LabelStacksModel", "laysWithout", "(II)V"⟩, 46), (⟨"LabelStacksModel", "ways", "(IIIII)V"⟩, 46), (⟨"LabelStacksModel", "fewestBy", "(II)I"⟩, 46), (⟨"LabelStacksModel", "isKeptAs", "(I)Z"⟩, 46)]
theorem lw_r6 : ∀ q ∈ lw_privs_6, lw_okq q := List.forall_mem_cons.mpr ⟨lw_p80, List.forall_mem_cons.mpr ⟨lw_p81, List.forall_mem_cons.mpr ⟨lw_p82, List.forall_mem_cons.mpr ⟨lw_p83, List.forall_mem_cons.mpr ⟨lw_p84, List.forall_mem_cons.mpr ⟨lw_p85, List.forall_mem_cons.mpr ⟨lw_p86, List.forall_mem_cons.mpr ⟨lw_p87, List.forall_mem_cons.mpr ⟨lw_p88, List.forall_mem_cons.mpr ⟨lw_p89, List.forall_mem_cons.mpr ⟨lw_p90, List.forall_mem_cons.mpr ⟨lw_p91, List.forall_mem_cons.mpr ⟨lw_p92, List.forall_mem_cons.mpr ⟨lw_p93, List.forall_mem_cons.mpr ⟨lw_p94, List.forall_mem_cons.mpr ⟨lw_p95, fun _ h => absurd h List.not_mem_nil⟩⟩⟩⟩⟩⟩⟩⟩⟩⟩⟩⟩⟩⟩⟩⟩
theorem lw_p96 : lw_okq (⟨"LabelStacksModel", "types", "(I)V"⟩, 46) := ⟨⟨by decide +kernel, by decide +kernel⟩, List.mem_of_getElem? (i := 1106) (by decide +kernel), List.mem_of_getElem? (i := 1615) (by decide +kernel), List.mem_of_getElem? (i := 1616) (by decide +kernel)⟩
theorem lw_p97 : lw_okq (⟨"LabelStacksModel", "takesWord", "(Ljava/lang/String;)Z"⟩, 46) := ⟨⟨by decide +kernel, by decide +kernel⟩, List.mem_of_getElem? (i := 1106) (by decide +kernel), List.mem_of_getElem? (i := 1628) (by decide +kernel), List.mem_of_getElem? (i := 1629) (by decide +kernel)⟩
theorem lw_p98 : lw_okq (⟨"LabelStacksModel", "isWrong", "()Z"⟩, 46) := ⟨⟨by decide +kernel, by decide +kernel⟩, List.mem_of_getElem? (i := 1106) (by decide +kernel), List.mem_of_getElem? (i := 1632) (by decide +kernel), List.mem_of_getElem? (i := 1633) (by decide +kernel)⟩
theorem lw_p99 : lw_okq (⟨"LabelStacksModel", "behindBlanks", "()I"⟩, 46) := ⟨⟨by decide +kernel, by decide +kernel⟩, List.mem_of_getElem? (i := 1106) (by decide +kernel), List.mem_of_getElem? (i := 1636) (by decide +kernel), List.mem_of_getElem? (i := 1637) (by decide +kernel)⟩
theorem lw_p100 : lw_okq (⟨"LabelStacksModel", "here", "()I"⟩, 46) := ⟨⟨by decide +kernel, by decide +kernel⟩, List.mem_of_getElem? (i := 1106) (by decide +kernel), List.mem_of_getElem? (i := 1640) (by decide +kernel), List.mem_of_getElem? (i := 1641) (by decide +kernel)⟩
theorem lw_p101 : lw_okq (⟨"LabelStacksModel", "letters", "()I"⟩, 46) := ⟨⟨by decide +kernel, by decide +kernel⟩, List.mem_of_getElem? (i := 1106) (by decide +kernel), List.mem_of_getElem? (i := 1644) (by decide +kernel), List.mem_of_getElem? (i := 1645) (by decide +kernel)⟩
theorem lw_p102 : lw_okq (⟨"LabelStacksModel", "errs", "(II)I"⟩, 46) := ⟨⟨by decide +kernel, by decide +kernel⟩, List.mem_of_getElem? (i := 1106) (by decide +kernel), List.mem_of_getElem? (i := 1650) (by decide +kernel), List.mem_of_getElem? (i := 1651) (by decide +kernel)⟩
theorem lw_p103 : lw_okq (⟨"LabelStacksModel", "number", "(II)I"⟩, 46) := ⟨⟨by decide +kernel, by decide +kernel⟩, List.mem_of_getElem? (i := 1106) (by decide +kernel), List.mem_of_getElem? (i := 1654) (by decide +kernel), List.mem_of_getElem? (i := 1655) (by decide +kernel)⟩
theorem lw_p104 : lw_okq (⟨"LabelStacksModel", "digits", "(II)I"⟩, 46) := ⟨⟨by decide +kernel, by decide +kernel⟩, List.mem_of_getElem? (i := 1106) (by decide +kernel), List.mem_of_getElem? (i := 1658) (by decide +kernel), List.mem_of_getElem? (i := 1659) (by decide +kernel)⟩
theorem lw_p105 : lw_okq (⟨"LabelStacksModel", "isDigit", "(I)Z"⟩, 46) := ⟨⟨by decide +kernel, by decide +kernel⟩, List.mem_of_getElem? (i := 1106) (by decide +kernel), List.mem_of_getElem? (i := 1662) (by decide +kernel), List.mem_of_getElem? (i := 1663) (by decide +kernel)⟩
theorem lw_p106 : lw_okq (⟨"LabelStacksModel", "must", "(I)V"⟩, 46) := ⟨⟨by decide +kernel, by decide +kernel⟩, List.mem_of_getElem? (i := 1106) (by decide +kernel), List.mem_of_getElem? (i := 1666) (by decide +kernel), List.mem_of_getElem? (i := 1667) (by decide +kernel)⟩
theorem lw_p107 : lw_okq (⟨"LabelStacksModel", "readLink", "(I)V"⟩, 46) := ⟨⟨by decide +kernel, by decide +kernel⟩, List.mem_of_getElem? (i := 1106) (by decide +kernel), List.mem_of_getElem? (i := 1671) (by decide +kernel), List.mem_of_getElem? (i := 1672) (by decide +kernel)⟩
theorem lw_p108 : lw_okq (⟨"LabelStacksModel", "readBinding", "()V"⟩, 46) := ⟨⟨by decide +kernel, by decide +kernel⟩, List.mem_of_getElem? (i := 1106) (by decide +kernel), List.mem_of_getElem? (i := 1677) (by decide +kernel), List.mem_of_getElem? (i := 1678) (by decide +kernel)⟩
theorem lw_p109 : lw_okq (⟨"LabelStacksModel", "readLabel", "()I"⟩, 46) := ⟨⟨by decide +kernel, by decide +kernel⟩, List.mem_of_getElem? (i := 1106) (by decide +kernel), List.mem_of_getElem? (i := 1682) (by decide +kernel), List.mem_of_getElem? (i := 1683) (by decide +kernel)⟩
theorem lw_p110 : lw_okq (⟨"LabelStacksModel", "labels", "(IIII)I"⟩, 46) := ⟨⟨by decide +kernel, by decide +kernel⟩, List.mem_of_getElem? (i := 1106) (by decide +kernel), List.mem_of_getElem? (i := 1688) (by decide +kernel), List.mem_of_getElem? (i := 1689) (by decide +kernel)⟩
theorem lw_p111 : lw_okq (⟨"LabelStacksModel", "setOf", "(II)I"⟩, 46) := ⟨⟨by decide +kernel, by decide +kernel⟩, List.mem_of_getElem? (i := 1106) (by decide +kernel), List.mem_of_getElem? (i := 1720) (by decide +kernel), List.mem_of_getElem? (i := 1721) (by decide +kernel)⟩
def lw_privs_7 : List (MethodName × Nat) := [(⟨"LabelStacksModel", "types", "(I)V"⟩, 46), (⟨"LabelStacksModel", "takesWord", "(Ljava/lang/String;)Z"⟩, 46), (⟨"LabelStacksModel", "isWrong", "()Z"⟩, 46), (⟨"LabelStacksModel", "behindBlanks", "()I"⟩, 46), (⟨"LabelStacksModel", "here", "()I"⟩, 46), (⟨"LabelStacksModel", "letters", "()I"⟩, 46), (⟨"LabelStacksModel", "errs", "(II)I"⟩, 46), (⟨"LabelStacksModel", "number", "(II)I"⟩, 46), (⟨"LabelStacksModel", "digits", "(II)I"⟩, 46), (⟨"LabelStacksModel", "isDigit", "(I)Z"⟩, 46), (⟨"LabelStacksModel", "must", "(I)V"⟩, 46), (⟨"LabelStacksModel", "readLink", "(I)V"⟩, 46), (⟨"LabelStacksModel", "readBinding", "()V"⟩, 46), (⟨"LabelStacksModel", "readLabel", "()I"⟩, 46), (⟨"LabelStacksModel", "labels", "(IIII)I"⟩, 46), (⟨"LabelStacksModel", "setOf", "(II)I"⟩, 46)]
theorem lw_r7 : ∀ q ∈ lw_privs_7, lw_okq q := List.forall_mem_cons.mpr ⟨lw_p96, List.forall_mem_cons.mpr ⟨lw_p97, List.forall_mem_cons.mpr ⟨lw_p98, List.forall_mem_cons.mpr ⟨lw_p99, List.forall_mem_cons.mpr ⟨lw_p100, List.forall_mem_cons.mpr ⟨lw_p101, List.forall_mem_cons.mpr ⟨lw_p102, List.forall_mem_cons.mpr ⟨lw_p103, List.forall_mem_cons.mpr ⟨lw_p104, List.forall_mem_cons.mpr ⟨lw_p105, List.forall_mem_cons.mpr ⟨lw_p106, List.forall_mem_cons.mpr ⟨lw_p107, List.forall_mem_cons.mpr ⟨lw_p108, List.forall_mem_cons.mpr ⟨lw_p109, List.forall_mem_cons.mpr ⟨lw_p110, List.forall_mem_cons.mpr ⟨lw_p111, fun _ h => absurd h List.not_mem_nil⟩⟩⟩⟩⟩⟩⟩⟩⟩⟩⟩⟩⟩⟩⟩⟩
theorem lw_p112 : lw_okq (⟨"LabelStacksModel", "costs", "()I"⟩, 46) := ⟨⟨by decide +kernel, by decide +kernel⟩, List.mem_of_getElem? (i := 1106) (by decide +kernel), List.mem_of_getElem? (i := 1724) (by decide +kernel), List.mem_of_getElem? (i := 1725) (by decide +kernel)⟩
def lw_privs_8 : List (MethodName × Nat) := [(⟨"LabelStacksModel", "costs", "()I"⟩, 46)]
theorem lw_r8 : ∀ q ∈ lw_privs_8, lw_okq q := List.forall_mem_cons.mpr ⟨lw_p112, fun _ h => absurd h List.not_mem_nil⟩
def lw_privs : List (MethodName × Nat) := lw_privs_1 ++ (lw_privs_2 ++ (lw_privs_3 ++ (lw_privs_4 ++ (lw_privs_5 ++ (lw_privs_6 ++ (lw_privs_7 ++ (lw_privs_8)))))))
def lw_tbl : List Cond := k2_sels lw_privs ++ tables_1
theorem lw_privs_ok : ∀ q ∈ lw_privs, lw_okq q := by
  show ∀ q ∈ lw_privs_1 ++ (lw_privs_2 ++ (lw_privs_3 ++ (lw_privs_4 ++ (lw_privs_5 ++ (lw_privs_6 ++ (lw_privs_7 ++ (lw_privs_8))))))), lw_okq q
  exact List.forall_mem_append.mpr ⟨lw_r1, List.forall_mem_append.mpr ⟨lw_r2, List.forall_mem_append.mpr ⟨lw_r3, List.forall_mem_append.mpr ⟨lw_r4, List.forall_mem_append.mpr ⟨lw_r5, List.forall_mem_append.mpr ⟨lw_r6, List.forall_mem_append.mpr ⟨lw_r7, lw_r8⟩⟩⟩⟩⟩⟩⟩
def RX0 : String := "LabelStacks$Acts"
def TX0 : u_T := fun k => match k with
  | 0 => ("LabelStacks$Acts", "saved", "[LLabelStacks$State;", true)
  | _ => ("LabelStacks$Acts", "count", "I", false)
def tyX0 : Nat → FieldType := fun k => match k with
  | 0 => .array (.object "LabelStacks$State")
  | _ => .int
abbrev wsX00 : List Cond := u_ws RX0 TX0 2
theorem nmX0 : ∀ a, a < 2 → ∀ b, b < 2 → a ≠ b → (TX0 a).2.1 ≠ (TX0 b).2.1 := by decide +kernel
theorem tyX0_ok : ∀ k, k < 2 → parseFieldDescriptor (TX0 k).2.2.1 = some (tyX0 k) := by decide +kernel
abbrev cX0_init : ByteArray := prog_2_method_1_code
def yX0_init : MethodName := ⟨RX0, "<init>", "()V"⟩
abbrev cX0_save : ByteArray := prog_2_method_2_code
def yX0_save : MethodName := ⟨RX0, "save", "(LLabelStacks$State;)V"⟩
abbrev cX0_restore : ByteArray := prog_2_method_3_code
def yX0_restore : MethodName := ⟨RX0, "restore", "(LLabelStacks$State;)Z"⟩
def RX1 : String := "LabelStacks$Fractions"
def TX1 : u_T := fun k => match k with
  | 0 => ("LabelStacks$Fractions", "above", "[J", true)
  | _ => ("LabelStacks$Fractions", "below", "[J", true)
def tyX1 : Nat → FieldType := fun k => match k with
  | 0 => .array .long
  | _ => .array .long
abbrev wsX10 : List Cond := u_ws RX1 TX1 2
theorem nmX1 : ∀ a, a < 2 → ∀ b, b < 2 → a ≠ b → (TX1 a).2.1 ≠ (TX1 b).2.1 := by decide +kernel
theorem tyX1_ok : ∀ k, k < 2 → parseFieldDescriptor (TX1 k).2.2.1 = some (tyX1 k) := by decide +kernel
abbrev cX1_init : ByteArray := prog_3_method_1_code
def yX1_init : MethodName := ⟨RX1, "<init>", "(I)V"⟩
abbrev cX1_clear : ByteArray := prog_3_method_2_code
def yX1_clear : MethodName := ⟨RX1, "clear", "()V"⟩
abbrev cX1_get : ByteArray := prog_3_method_3_code
def yX1_get : MethodName := ⟨RX1, "get", "(II)J"⟩
abbrev cX1_add : ByteArray := prog_3_method_4_code
def yX1_add : MethodName := ⟨RX1, "add", "(IJJ)V"⟩
abbrev cX1_addOne : ByteArray := prog_3_method_5_code
def yX1_addOne : MethodName := ⟨RX1, "addOne", "(I)V"⟩
abbrev cX1_addAll : ByteArray := prog_3_method_6_code
def yX1_addAll : MethodName := ⟨RX1, "addAll", "(LLabelStacks$Fractions;I)V"⟩
abbrev cX1_isGreater : ByteArray := prog_3_method_7_code
def yX1_isGreater : MethodName := ⟨RX1, "isGreater", "(II)Z"⟩
abbrev cX1_divisor : ByteArray := prog_3_method_8_code
def yX1_divisor : MethodName := ⟨RX1, "divisor", "(JJ)J"⟩
def RX2 : String := "LabelStacks$Network"
def TX2 : u_T := fun k => match k with
  | 0 => ("LabelStacks$Network", "nodeCount", "I", false)
  | 1 => ("LabelStacks$Network", "linkCount", "I", false)
  | 2 => ("LabelStacks$Network", "upSet", "I", false)
  | 3 => ("LabelStacks$Network", "from", "[I", true)
  | 4 => ("LabelStacks$Network", "to", "[I", true)
  | 5 => ("LabelStacks$Network", "cost", "[I", true)
  | 6 => ("LabelStacks$Network", "holder", "[I", true)
  | _ => ("LabelStacks$Network", "bound", "LLabelStacks$Rows;", true)
def tyX2 : Nat → FieldType := fun k => match k with
  | 0 => .int
  | 1 => .int
  | 2 => .int
  | 3 => .array .int
  | 4 => .array .int
  | 5 => .array .int
  | 6 => .array .int
  | _ => .object "LabelStacks$Rows"
abbrev wsX20 : List Cond := u_ws RX2 TX2 8
theorem nmX2 : ∀ a, a < 8 → ∀ b, b < 8 → a ≠ b → (TX2 a).2.1 ≠ (TX2 b).2.1 := by decide +kernel
theorem tyX2_ok : ∀ k, k < 8 → parseFieldDescriptor (TX2 k).2.2.1 = some (tyX2 k) := by decide +kernel
abbrev cX2_init : ByteArray := prog_4_method_1_code
def yX2_init : MethodName := ⟨RX2, "<init>", "()V"⟩
abbrev cX2_hasNode : ByteArray := prog_4_method_2_code
def yX2_hasNode : MethodName := ⟨RX2, "hasNode", "(I)Z"⟩
abbrev cX2_hasLink : ByteArray := prog_4_method_3_code
def yX2_hasLink : MethodName := ⟨RX2, "hasLink", "(I)Z"⟩
abbrev cX2_isUp : ByteArray := prog_4_method_4_code
def yX2_isUp : MethodName := ⟨RX2, "isUp", "(I)Z"⟩
abbrev cX2_setUp : ByteArray := prog_4_method_5_code
def yX2_setUp : MethodName := ⟨RX2, "setUp", "(IZ)V"⟩
abbrev cX2_fromOf : ByteArray := prog_4_method_6_code
def yX2_fromOf : MethodName := ⟨RX2, "fromOf", "(I)I"⟩
abbrev cX2_toOf : ByteArray := prog_4_method_7_code
def yX2_toOf : MethodName := ⟨RX2, "toOf", "(I)I"⟩
abbrev cX2_priceOf : ByteArray := prog_4_method_8_code
def yX2_priceOf : MethodName := ⟨RX2, "priceOf", "(I)I"⟩
abbrev cX2_costOf : ByteArray := prog_4_method_9_code
def yX2_costOf : MethodName := ⟨RX2, "costOf", "(LLabelStacks$Row;)I"⟩
abbrev cX2_addLink : ByteArray := prog_4_method_10_code
def yX2_addLink : MethodName := ⟨RX2, "addLink", "(IIIZ)I"⟩
abbrev cX2_reset : ByteArray := prog_4_method_11_code
def yX2_reset : MethodName := ⟨RX2, "reset", "(I)V"⟩
abbrev cX2_copyFrom : ByteArray := prog_4_method_12_code
def yX2_copyFrom : MethodName := ⟨RX2, "copyFrom", "(LLabelStacks$Network;)V"⟩
def RX3 : String := "LabelStacks$Packet"
def TX3 : u_T := fun k => match k with
  | 0 => ("LabelStacks$Packet", "stack", "LLabelStacks$Row;", true)
  | 1 => ("LabelStacks$Packet", "trail", "LLabelStacks$Row;", true)
  | 2 => ("LabelStacks$Packet", "shares", "LLabelStacks$Fractions;", true)
  | 3 => ("LabelStacks$Packet", "left", "[I", true)
  | 4 => ("LabelStacks$Packet", "leftCount", "I", false)
  | 5 => ("LabelStacks$Packet", "parts", "[J", true)
  | 6 => ("LabelStacks$Packet", "flows", "[J", true)
  | 7 => ("LabelStacks$Packet", "node", "I", false)
  | 8 => ("LabelStacks$Packet", "hops", "I", false)
  | 9 => ("LabelStacks$Packet", "highest", "I", false)
  | 10 => ("LabelStacks$Packet", "droppedAt", "I", false)
  | _ => ("LabelStacks$Packet", "isExact", "Z", false)
def tyX3 : Nat → FieldType := fun k => match k with
  | 0 => .object "LabelStacks$Row"
  | 1 => .object "LabelStacks$Row"
  | 2 => .object "LabelStacks$Fractions"
  | 3 => .array .int
  | 4 => .int
  | 5 => .array .long
  | 6 => .array .long
  | 7 => .int
  | 8 => .int
  | 9 => .int
  | 10 => .int
  | _ => .boolean
abbrev wsX30 : List Cond := u_ws RX3 TX3 12
theorem nmX3 : ∀ a, a < 12 → ∀ b, b < 12 → a ≠ b → (TX3 a).2.1 ≠ (TX3 b).2.1 := by decide +kernel
theorem tyX3_ok : ∀ k, k < 12 → parseFieldDescriptor (TX3 k).2.2.1 = some (tyX3 k) := by decide +kernel
abbrev cX3_init : ByteArray := prog_5_method_1_code
def yX3_init : MethodName := ⟨RX3, "<init>", "()V"⟩
abbrev cX3_isDropped : ByteArray := prog_5_method_2_code
def yX3_isDropped : MethodName := ⟨RX3, "isDropped", "()Z"⟩
abbrev cX3_outcome : ByteArray := prog_5_method_3_code
def yX3_outcome : MethodName := ⟨RX3, "outcome", "()I"⟩
abbrev cX3_run : ByteArray := prog_5_method_4_code
def yX3_run : MethodName := ⟨RX3, "run", "(LLabelStacks$Network;LLabelStacks$Routes;I)V"⟩
abbrev cX3_begin : ByteArray := prog_5_method_5_code
def yX3_begin : MethodName := ⟨RX3, "begin", "(I)V"⟩
abbrev cX3_unfolds : ByteArray := prog_5_method_6_code
def yX3_unfolds : MethodName := ⟨RX3, "unfolds", "(LLabelStacks$Network;I)Z"⟩
abbrev cX3_goesAlong : ByteArray := prog_5_method_7_code
def yX3_goesAlong : MethodName := ⟨RX3, "goesAlong", "(LLabelStacks$Network;I)Z"⟩
abbrev cX3_goesTo : ByteArray := prog_5_method_8_code
def yX3_goesTo : MethodName := ⟨RX3, "goesTo", "(LLabelStacks$Network;LLabelStacks$Routes;I)Z"⟩
abbrev cX3_pass : ByteArray := prog_5_method_9_code
def yX3_pass : MethodName := ⟨RX3, "pass", "(LLabelStacks$Network;I)V"⟩
abbrev cX3_walk : ByteArray := prog_5_method_10_code
def yX3_walk : MethodName := ⟨RX3, "walk", "(LLabelStacks$Network;LLabelStacks$Routes;I)V"⟩
abbrev cX3_spread : ByteArray := prog_5_method_11_code
def yX3_spread : MethodName := ⟨RX3, "spread", "(LLabelStacks$Network;LLabelStacks$Routes;I)V"⟩
abbrev cX3_farthest : ByteArray := prog_5_method_12_code
def yX3_farthest : MethodName := ⟨RX3, "farthest", "(LLabelStacks$Routes;II)I"⟩
abbrev cX3_handOn : ByteArray := prog_5_method_13_code
def yX3_handOn : MethodName := ⟨RX3, "handOn", "(LLabelStacks$Network;II)V"⟩
def RX4 : String := "LabelStacks$Routes"
def TX4 : u_T := fun k => match k with
  | 0 => ("LabelStacks$Routes", "distances", "[I", true)
  | _ => ("LabelStacks$Routes", "counts", "[J", true)
def tyX4 : Nat → FieldType := fun k => match k with
  | 0 => .array .int
  | _ => .array .long
abbrev wsX40 : List Cond := u_ws RX4 TX4 2
theorem nmX4 : ∀ a, a < 2 → ∀ b, b < 2 → a ≠ b → (TX4 a).2.1 ≠ (TX4 b).2.1 := by decide +kernel
theorem tyX4_ok : ∀ k, k < 2 → parseFieldDescriptor (TX4 k).2.2.1 = some (tyX4 k) := by decide +kernel
abbrev cX4_init : ByteArray := prog_6_method_1_code
def yX4_init : MethodName := ⟨RX4, "<init>", "()V"⟩
abbrev cX4_distance : ByteArray := prog_6_method_2_code
def yX4_distance : MethodName := ⟨RX4, "distance", "(II)I"⟩
abbrev cX4_countOf : ByteArray := prog_6_method_3_code
def yX4_countOf : MethodName := ⟨RX4, "countOf", "(II)J"⟩
abbrev cX4_onSet : ByteArray := prog_6_method_4_code
def yX4_onSet : MethodName := ⟨RX4, "onSet", "(LLabelStacks$Network;II)I"⟩
abbrev cX4_findAll : ByteArray := prog_6_method_5_code
def yX4_findAll : MethodName := ⟨RX4, "findAll", "(LLabelStacks$Network;I)V"⟩
abbrev cX4_findToward : ByteArray := prog_6_method_6_code
def yX4_findToward : MethodName := ⟨RX4, "findToward", "(LLabelStacks$Network;II)V"⟩
abbrev cX4_nearest : ByteArray := prog_6_method_7_code
def yX4_nearest : MethodName := ⟨RX4, "nearest", "(II)I"⟩
abbrev cX4_comeInto : ByteArray := prog_6_method_8_code
def yX4_comeInto : MethodName := ⟨RX4, "comeInto", "(LLabelStacks$Network;III)V"⟩
abbrev cX4_join : ByteArray := prog_6_method_9_code
def yX4_join : MethodName := ⟨RX4, "join", "(LLabelStacks$Routes;LLabelStacks$Network;I)V"⟩
def RX5 : String := "LabelStacks$Row"
def TX5 : u_T := fun k => match k with
  | 0 => ("LabelStacks$Row", "items", "[I", true)
  | _ => ("LabelStacks$Row", "size", "I", false)
def tyX5 : Nat → FieldType := fun k => match k with
  | 0 => .array .int
  | _ => .int
abbrev wsX50 : List Cond := u_ws RX5 TX5 2
theorem nmX5 : ∀ a, a < 2 → ∀ b, b < 2 → a ≠ b → (TX5 a).2.1 ≠ (TX5 b).2.1 := by decide +kernel
theorem tyX5_ok : ∀ k, k < 2 → parseFieldDescriptor (TX5 k).2.2.1 = some (tyX5 k) := by decide +kernel
abbrev cX5_init : ByteArray := prog_7_method_1_code
def yX5_init : MethodName := ⟨RX5, "<init>", "(I)V"⟩
abbrev cX5_isFull : ByteArray := prog_7_method_2_code
def yX5_isFull : MethodName := ⟨RX5, "isFull", "()Z"⟩
abbrev cX5_add : ByteArray := prog_7_method_3_code
def yX5_add : MethodName := ⟨RX5, "add", "(I)V"⟩
abbrev cX5_get : ByteArray := prog_7_method_4_code
def yX5_get : MethodName := ⟨RX5, "get", "(I)I"⟩
abbrev cX5_dropFirst : ByteArray := prog_7_method_5_code
def yX5_dropFirst : MethodName := ⟨RX5, "dropFirst", "(I)V"⟩
abbrev cX5_copyFrom : ByteArray := prog_7_method_6_code
def yX5_copyFrom : MethodName := ⟨RX5, "copyFrom", "(LLabelStacks$Row;)V"⟩
def RX6 : String := "LabelStacks$Rows"
def TX6 : u_T := fun k => match k with
  | 0 => ("LabelStacks$Rows", "width", "I", true)
  | 1 => ("LabelStacks$Rows", "sizes", "[I", true)
  | _ => ("LabelStacks$Rows", "items", "[I", true)
def tyX6 : Nat → FieldType := fun k => match k with
  | 0 => .int
  | 1 => .array .int
  | _ => .array .int
abbrev wsX60 : List Cond := u_ws RX6 TX6 3
theorem nmX6 : ∀ a, a < 3 → ∀ b, b < 3 → a ≠ b → (TX6 a).2.1 ≠ (TX6 b).2.1 := by decide +kernel
theorem tyX6_ok : ∀ k, k < 3 → parseFieldDescriptor (TX6 k).2.2.1 = some (tyX6 k) := by decide +kernel
abbrev cX6_init : ByteArray := prog_8_method_1_code
def yX6_init : MethodName := ⟨RX6, "<init>", "(II)V"⟩
abbrev cX6_sizeOf : ByteArray := prog_8_method_2_code
def yX6_sizeOf : MethodName := ⟨RX6, "sizeOf", "(I)I"⟩
abbrev cX6_get : ByteArray := prog_8_method_3_code
def yX6_get : MethodName := ⟨RX6, "get", "(II)I"⟩
abbrev cX6_empty : ByteArray := prog_8_method_4_code
def yX6_empty : MethodName := ⟨RX6, "empty", "(I)V"⟩
abbrev cX6_add : ByteArray := prog_8_method_5_code
def yX6_add : MethodName := ⟨RX6, "add", "(II)V"⟩
abbrev cX6_put : ByteArray := prog_8_method_6_code
def yX6_put : MethodName := ⟨RX6, "put", "(ILLabelStacks$Row;)V"⟩
abbrev cX6_copyTo : ByteArray := prog_8_method_7_code
def yX6_copyTo : MethodName := ⟨RX6, "copyTo", "(ILLabelStacks$Row;)V"⟩
abbrev cX6_isSame : ByteArray := prog_8_method_8_code
def yX6_isSame : MethodName := ⟨RX6, "isSame", "(ILLabelStacks$Row;)Z"⟩
abbrev cX6_emptyAll : ByteArray := prog_8_method_9_code
def yX6_emptyAll : MethodName := ⟨RX6, "emptyAll", "()V"⟩
abbrev cX6_copyFrom : ByteArray := prog_8_method_10_code
def yX6_copyFrom : MethodName := ⟨RX6, "copyFrom", "(LLabelStacks$Rows;)V"⟩
def RX7 : String := "LabelStacks$State"
def TX7 : u_T := fun k => match k with
  | 0 => ("LabelStacks$State", "net", "LLabelStacks$Network;", true)
  | 1 => ("LabelStacks$State", "demandNode", "[I", true)
  | 2 => ("LabelStacks$State", "demandVolume", "[I", true)
  | 3 => ("LabelStacks$State", "demandStack", "LLabelStacks$Rows;", true)
  | 4 => ("LabelStacks$State", "keptCount", "I", false)
  | 5 => ("LabelStacks$State", "kept", "LLabelStacks$Rows;", true)
  | _ => ("LabelStacks$State", "way", "LLabelStacks$Row;", true)
def tyX7 : Nat → FieldType := fun k => match k with
  | 0 => .object "LabelStacks$Network"
  | 1 => .array .int
  | 2 => .array .int
  | 3 => .object "LabelStacks$Rows"
  | 4 => .int
  | 5 => .object "LabelStacks$Rows"
  | _ => .object "LabelStacks$Row"
abbrev wsX70 : List Cond := u_ws RX7 TX7 7
theorem nmX7 : ∀ a, a < 7 → ∀ b, b < 7 → a ≠ b → (TX7 a).2.1 ≠ (TX7 b).2.1 := by decide +kernel
theorem tyX7_ok : ∀ k, k < 7 → parseFieldDescriptor (TX7 k).2.2.1 = some (tyX7 k) := by decide +kernel
abbrev cX7_init : ByteArray := prog_9_method_1_code
def yX7_init : MethodName := ⟨RX7, "<init>", "()V"⟩
abbrev cX7_forgetRest : ByteArray := prog_9_method_2_code
def yX7_forgetRest : MethodName := ⟨RX7, "forgetRest", "()V"⟩
abbrev cX7_copyFrom : ByteArray := prog_9_method_3_code
def yX7_copyFrom : MethodName := ⟨RX7, "copyFrom", "(LLabelStacks$State;)V"⟩
def RX8 : String := "LabelStacks$Tape"
def TX8 : u_T := fun k => match k with
  | 0 => ("LabelStacks$Tape", "bytes", "[B", true)
  | 1 => ("LabelStacks$Tape", "size", "I", false)
  | 2 => ("LabelStacks$Tape", "place", "I", false)
  | 3 => ("LabelStacks$Tape", "faultKind", "I", false)
  | 4 => ("LabelStacks$Tape", "faultPlace", "I", false)
  | _ => ("LabelStacks$Tape", "told", "LLabelStacks$Network;", true)
def tyX8 : Nat → FieldType := fun k => match k with
  | 0 => .array .byte
  | 1 => .int
  | 2 => .int
  | 3 => .int
  | 4 => .int
  | _ => .object "LabelStacks$Network"
abbrev wsX80 : List Cond := u_ws RX8 TX8 6
theorem nmX8 : ∀ a, a < 6 → ∀ b, b < 6 → a ≠ b → (TX8 a).2.1 ≠ (TX8 b).2.1 := by decide +kernel
theorem tyX8_ok : ∀ k, k < 6 → parseFieldDescriptor (TX8 k).2.2.1 = some (tyX8 k) := by decide +kernel
abbrev cX8_init : ByteArray := prog_10_method_1_code
def yX8_init : MethodName := ⟨RX8, "<init>", "()V"⟩
abbrev cX8_append : ByteArray := prog_10_method_2_code
def yX8_append : MethodName := ⟨RX8, "append", "(I)V"⟩
abbrev cX8_readAll : ByteArray := prog_10_method_3_code
def yX8_readAll : MethodName := ⟨RX8, "readAll", "()Z"⟩
abbrev cX8_readHead : ByteArray := prog_10_method_4_code
def yX8_readHead : MethodName := ⟨RX8, "readHead", "()Z"⟩
abbrev cX8_readRow : ByteArray := prog_10_method_5_code
def yX8_readRow : MethodName := ⟨RX8, "readRow", "()Z"⟩
abbrev cX8_readLink : ByteArray := prog_10_method_6_code
def yX8_readLink : MethodName := ⟨RX8, "readLink", "()Z"⟩
abbrev cX8_readBinding : ByteArray := prog_10_method_7_code
def yX8_readBinding : MethodName := ⟨RX8, "readBinding", "()Z"⟩
abbrev cX8_readLabels : ByteArray := prog_10_method_8_code
def yX8_readLabels : MethodName := ⟨RX8, "readLabels", "(I)Z"⟩
abbrev cX8_readOneLabel : ByteArray := prog_10_method_9_code
def yX8_readOneLabel : MethodName := ⟨RX8, "readOneLabel", "(II)Z"⟩
abbrev cX8_foundFault : ByteArray := prog_10_method_10_code
def yX8_foundFault : MethodName := ⟨RX8, "foundFault", "(II)Z"⟩
abbrev cX8_byteAt : ByteArray := prog_10_method_11_code
def yX8_byteAt : MethodName := ⟨RX8, "byteAt", "(I)I"⟩
abbrev cX8_skipBlanks : ByteArray := prog_10_method_12_code
def yX8_skipBlanks : MethodName := ⟨RX8, "skipBlanks", "()V"⟩
abbrev cX8_isLetterAt : ByteArray := prog_10_method_13_code
def yX8_isLetterAt : MethodName := ⟨RX8, "isLetterAt", "(I)Z"⟩
abbrev cX8_isDigitAt : ByteArray := prog_10_method_14_code
def yX8_isDigitAt : MethodName := ⟨RX8, "isDigitAt", "(I)Z"⟩
abbrev cX8_isWord : ByteArray := prog_10_method_15_code
def yX8_isWord : MethodName := ⟨RX8, "isWord", "(Ljava/lang/String;)Z"⟩
abbrev cX8_takeWord : ByteArray := prog_10_method_16_code
def yX8_takeWord : MethodName := ⟨RX8, "takeWord", "(Ljava/lang/String;)Z"⟩
abbrev cX8_takeSign : ByteArray := prog_10_method_17_code
def yX8_takeSign : MethodName := ⟨RX8, "takeSign", "(C)Z"⟩
abbrev cX8_takeNumber : ByteArray := prog_10_method_18_code
def yX8_takeNumber : MethodName := ⟨RX8, "takeNumber", "(II)I"⟩
def RX9 : String := "LabelStacks$Writer"
def TX9 : u_T := fun k => match k with
  | 0 => ("LabelStacks$Writer", "links", "[I", true)
  | 1 => ("LabelStacks$Writer", "end", "I", false)
  | 2 => ("LabelStacks$Writer", "depth", "I", false)
  | 3 => ("LabelStacks$Writer", "fewest", "[I", true)
  | 4 => ("LabelStacks$Writer", "firstLabel", "[I", true)
  | 5 => ("LabelStacks$Writer", "reach", "[I", true)
  | 6 => ("LabelStacks$Writer", "goal", "I", false)
  | 7 => ("LabelStacks$Writer", "lowest", "I", false)
  | _ => ("LabelStacks$Writer", "labelLimit", "I", false)
def tyX9 : Nat → FieldType := fun k => match k with
  | 0 => .array .int
  | 1 => .int
  | 2 => .int
  | 3 => .array .int
  | 4 => .array .int
  | 5 => .array .int
  | 6 => .int
  | 7 => .int
  | _ => .int
abbrev wsX90 : List Cond := u_ws RX9 TX9 9
theorem nmX9 : ∀ a, a < 9 → ∀ b, b < 9 → a ≠ b → (TX9 a).2.1 ≠ (TX9 b).2.1 := by decide +kernel
theorem tyX9_ok : ∀ k, k < 9 → parseFieldDescriptor (TX9 k).2.2.1 = some (tyX9 k) := by decide +kernel
abbrev cX9_init : ByteArray := prog_11_method_1_code
def yX9_init : MethodName := ⟨RX9, "<init>", "()V"⟩
abbrev cX9_hold : ByteArray := prog_11_method_2_code
def yX9_hold : MethodName := ⟨RX9, "hold", "(LLabelStacks$Row;)V"⟩
abbrev cX9_plan : ByteArray := prog_11_method_3_code
def yX9_plan : MethodName := ⟨RX9, "plan", "(LLabelStacks$Network;LLabelStacks$Routes;LLabelStacks$Row;I)Z"⟩
abbrev cX9_writeFrom : ByteArray := prog_11_method_4_code
def yX9_writeFrom : MethodName := ⟨RX9, "writeFrom", "(LLabelStacks$Network;LLabelStacks$Routes;I)V"⟩
abbrev cX9_offer : ByteArray := prog_11_method_5_code
def yX9_offer : MethodName := ⟨RX9, "offer", "(IIII)V"⟩
abbrev cX9_nodeReach : ByteArray := prog_11_method_6_code
def yX9_nodeReach : MethodName := ⟨RX9, "nodeReach", "(LLabelStacks$Network;LLabelStacks$Routes;I)I"⟩
abbrev cX9_bindingReach : ByteArray := prog_11_method_7_code
def yX9_bindingReach : MethodName := ⟨RX9, "bindingReach", "(LLabelStacks$Network;LLabelStacks$Routes;II)I"⟩
abbrev cX9_follow : ByteArray := prog_11_method_8_code
def yX9_follow : MethodName := ⟨RX9, "follow", "(LLabelStacks$Network;LLabelStacks$Routes;II)I"⟩
abbrev cX9_stackInto : ByteArray := prog_11_method_9_code
def yX9_stackInto : MethodName := ⟨RX9, "stackInto", "(LLabelStacks$Row;)V"⟩
abbrev cX9_lastUnwritten : ByteArray := prog_11_method_10_code
def yX9_lastUnwritten : MethodName := ⟨RX9, "lastUnwritten", "()I"⟩
abbrev cX9_greedyCount : ByteArray := prog_11_method_11_code
def yX9_greedyCount : MethodName := ⟨RX9, "greedyCount", "(LLabelStacks$Network;LLabelStacks$Routes;)I"⟩
abbrev cX9_countWays : ByteArray := prog_11_method_12_code
def yX9_countWays : MethodName := ⟨RX9, "countWays", "(LLabelStacks$Network;LLabelStacks$Routes;IIIII)I"⟩
abbrev cX9_countBack : ByteArray := prog_11_method_13_code
def yX9_countBack : MethodName := ⟨RX9, "countBack", "(LLabelStacks$Network;LLabelStacks$Routes;III)I"⟩
def RX10 : String := "LabelStacks"
def TX10 : u_T := fun k => match k with
  | 0 => ("LabelStacks", "state", "LLabelStacks$State;", true)
  | 1 => ("LabelStacks", "stack", "LLabelStacks$Row;", true)
  | 2 => ("LabelStacks", "depth", "I", false)
  | 3 => ("LabelStacks", "acts", "LLabelStacks$Acts;", true)
  | 4 => ("LabelStacks", "imageState", "LLabelStacks$State;", true)
  | 5 => ("LabelStacks", "imageStack", "LLabelStacks$Row;", true)
  | 6 => ("LabelStacks", "imageDepth", "I", false)
  | 7 => ("LabelStacks", "imageThere", "Z", false)
  | 8 => ("LabelStacks", "tape", "LLabelStacks$Tape;", true)
  | 9 => ("LabelStacks", "routes", "LLabelStacks$Routes;", true)
  | 10 => ("LabelStacks", "without", "LLabelStacks$Routes;", true)
  | 11 => ("LabelStacks", "trial", "LLabelStacks$Routes;", true)
  | 12 => ("LabelStacks", "stale", "Z", false)
  | 13 => ("LabelStacks", "writer", "LLabelStacks$Writer;", true)
  | 14 => ("LabelStacks", "packet", "LLabelStacks$Packet;", true)
  | 15 => ("LabelStacks", "loads", "LLabelStacks$Fractions;", true)
  | _ => ("LabelStacks", "round", "LLabelStacks$Row;", true)
def tyX10 : Nat → FieldType := fun k => match k with
  | 0 => .object "LabelStacks$State"
  | 1 => .object "LabelStacks$Row"
  | 2 => .int
  | 3 => .object "LabelStacks$Acts"
  | 4 => .object "LabelStacks$State"
  | 5 => .object "LabelStacks$Row"
  | 6 => .int
  | 7 => .boolean
  | 8 => .object "LabelStacks$Tape"
  | 9 => .object "LabelStacks$Routes"
  | 10 => .object "LabelStacks$Routes"
  | 11 => .object "LabelStacks$Routes"
  | 12 => .boolean
  | 13 => .object "LabelStacks$Writer"
  | 14 => .object "LabelStacks$Packet"
  | 15 => .object "LabelStacks$Fractions"
  | _ => .object "LabelStacks$Row"
abbrev wsX100 : List Cond := u_ws RX10 TX10 17
theorem nmX10 : ∀ a, a < 17 → ∀ b, b < 17 → a ≠ b → (TX10 a).2.1 ≠ (TX10 b).2.1 := by decide +kernel
theorem tyX10_ok : ∀ k, k < 17 → parseFieldDescriptor (TX10 k).2.2.1 = some (tyX10 k) := by decide +kernel
abbrev cX10_init : ByteArray := prog_1_method_1_code
def yX10_init : MethodName := ⟨RX10, "<init>", "()V"⟩
abbrev cX10_nodes : ByteArray := prog_1_method_2_code
def yX10_nodes : MethodName := ⟨RX10, "nodes", "(I)Z"⟩
abbrev cX10_link : ByteArray := prog_1_method_3_code
def yX10_link : MethodName := ⟨RX10, "link", "(III)I"⟩
abbrev cX10_state : ByteArray := prog_1_method_4_code
def yX10_state : MethodName := ⟨RX10, "state", "(IZ)I"⟩
abbrev cX10_cost : ByteArray := prog_1_method_5_code
def yX10_cost : MethodName := ⟨RX10, "cost", "(II)I"⟩
abbrev cX10_bind : ByteArray := prog_1_method_6_code
def yX10_bind : MethodName := ⟨RX10, "bind", "(II)Z"⟩
abbrev cX10_unbind : ByteArray := prog_1_method_7_code
def yX10_unbind : MethodName := ⟨RX10, "unbind", "(I)Z"⟩
abbrev cX10_depth : ByteArray := prog_1_method_8_code
def yX10_depth : MethodName := ⟨RX10, "depth", "(I)Z"⟩
abbrev cX10_on : ByteArray := prog_1_method_9_code
def yX10_on : MethodName := ⟨RX10, "on", "(I)I"⟩
abbrev cX10_off : ByteArray := prog_1_method_10_code
def yX10_off : MethodName := ⟨RX10, "off", "(I)I"⟩
abbrev cX10_label : ByteArray := prog_1_method_11_code
def yX10_label : MethodName := ⟨RX10, "label", "(I)I"⟩
abbrev cX10_pop : ByteArray := prog_1_method_12_code
def yX10_pop : MethodName := ⟨RX10, "pop", "(I)I"⟩
abbrev cX10_write : ByteArray := prog_1_method_13_code
def yX10_write : MethodName := ⟨RX10, "write", "()I"⟩
abbrev cX10_witness : ByteArray := prog_1_method_14_code
def yX10_witness : MethodName := ⟨RX10, "witness", "()I"⟩
abbrev cX10_greedy : ByteArray := prog_1_method_15_code
def yX10_greedy : MethodName := ⟨RX10, "greedy", "()I"⟩
abbrev cX10_covers : ByteArray := prog_1_method_16_code
def yX10_covers : MethodName := ⟨RX10, "covers", "(I)I"⟩
abbrev cX10_far : ByteArray := prog_1_method_17_code
def yX10_far : MethodName := ⟨RX10, "far", "(II)I"⟩
abbrev cX10_paths : ByteArray := prog_1_method_18_code
def yX10_paths : MethodName := ⟨RX10, "paths", "(II)J"⟩
abbrev cX10_next : ByteArray := prog_1_method_19_code
def yX10_next : MethodName := ⟨RX10, "next", "(II)I"⟩
abbrev cX10_ends : ByteArray := prog_1_method_20_code
def yX10_ends : MethodName := ⟨RX10, "ends", "(I)I"⟩
abbrev cX10_exact : ByteArray := prog_1_method_21_code
def yX10_exact : MethodName := ⟨RX10, "exact", "(I)I"⟩
abbrev cX10_high : ByteArray := prog_1_method_22_code
def yX10_high : MethodName := ⟨RX10, "high", "(I)I"⟩
abbrev cX10_course : ByteArray := prog_1_method_23_code
def yX10_course : MethodName := ⟨RX10, "course", "(I)I"⟩
abbrev cX10_share : ByteArray := prog_1_method_24_code
def yX10_share : MethodName := ⟨RX10, "share", "(III)J"⟩
abbrev cX10_demand : ByteArray := prog_1_method_25_code
def yX10_demand : MethodName := ⟨RX10, "demand", "(III)Z"⟩
abbrev cX10_load : ByteArray := prog_1_method_26_code
def yX10_load : MethodName := ⟨RX10, "load", "(II)J"⟩
abbrev cX10_heaviest : ByteArray := prog_1_method_27_code
def yX10_heaviest : MethodName := ⟨RX10, "heaviest", "()I"⟩
abbrev cX10_repair : ByteArray := prog_1_method_28_code
def yX10_repair : MethodName := ⟨RX10, "repair", "(II)I"⟩
abbrev cX10_guards : ByteArray := prog_1_method_29_code
def yX10_guards : MethodName := ⟨RX10, "guards", "(I)I"⟩
abbrev cX10_writable : ByteArray := prog_1_method_30_code
def yX10_writable : MethodName := ⟨RX10, "writable", "(IIII)I"⟩
abbrev cX10_stays : ByteArray := prog_1_method_31_code
def yX10_stays : MethodName := ⟨RX10, "stays", "(II)I"⟩
abbrev cX10_keep : ByteArray := prog_1_method_32_code
def yX10_keep : MethodName := ⟨RX10, "keep", "()I"⟩
abbrev cX10_take : ByteArray := prog_1_method_33_code
def yX10_take : MethodName := ⟨RX10, "take", "(I)I"⟩
abbrev cX10_feed : ByteArray := prog_1_method_34_code
def yX10_feed : MethodName := ⟨RX10, "feed", "(IIIII)I"⟩
abbrev cX10_end : ByteArray := prog_1_method_35_code
def yX10_end : MethodName := ⟨RX10, "end", "(I)Z"⟩
abbrev cX10_text : ByteArray := prog_1_method_36_code
def yX10_text : MethodName := ⟨RX10, "text", "()I"⟩
abbrev cX10_fault : ByteArray := prog_1_method_37_code
def yX10_fault : MethodName := ⟨RX10, "fault", "(I)I"⟩
abbrev cX10_undo : ByteArray := prog_1_method_38_code
def yX10_undo : MethodName := ⟨RX10, "undo", "()I"⟩
abbrev cX10_at : ByteArray := prog_1_method_39_code
def yX10_at : MethodName := ⟨RX10, "at", "(II)I"⟩
abbrev cX10_linkOf : ByteArray := prog_1_method_40_code
def yX10_linkOf : MethodName := ⟨RX10, "linkOf", "(II)I"⟩
abbrev cX10_binding : ByteArray := prog_1_method_41_code
def yX10_binding : MethodName := ⟨RX10, "binding", "(II)I"⟩
abbrev cX10_demandOf : ByteArray := prog_1_method_42_code
def yX10_demandOf : MethodName := ⟨RX10, "demandOf", "(II)I"⟩
abbrev cX10_image : ByteArray := prog_1_method_43_code
def yX10_image : MethodName := ⟨RX10, "image", "(Z)Z"⟩
abbrev cX10_look : ByteArray := prog_1_method_44_code
def yX10_look : MethodName := ⟨RX10, "look", "(I)I"⟩
abbrev cX10_isAmount : ByteArray := prog_1_method_45_code
def yX10_isAmount : MethodName := ⟨RX10, "isAmount", "(I)Z"⟩
abbrev cX10_isBinding : ByteArray := prog_1_method_46_code
def yX10_isBinding : MethodName := ⟨RX10, "isBinding", "(I)Z"⟩
abbrev cX10_isDemand : ByteArray := prog_1_method_47_code
def yX10_isDemand : MethodName := ⟨RX10, "isDemand", "(I)Z"⟩
abbrev cX10_isLabel : ByteArray := prog_1_method_48_code
def yX10_isLabel : MethodName := ⟨RX10, "isLabel", "(I)Z"⟩
abbrev cX10_setOfThere : ByteArray := prog_1_method_49_code
def yX10_setOfThere : MethodName := ⟨RX10, "setOfThere", "([I)I"⟩
abbrev cX10_rowOfNone : ByteArray := prog_1_method_50_code
def yX10_rowOfNone : MethodName := ⟨RX10, "rowOfNone", "(I)[I"⟩
abbrev cX10_leastOf : ByteArray := prog_1_method_51_code
def yX10_leastOf : MethodName := ⟨RX10, "leastOf", "(I)I"⟩
abbrev cX10_canBeBound : ByteArray := prog_1_method_52_code
def yX10_canBeBound : MethodName := ⟨RX10, "canBeBound", "()Z"⟩
abbrev cX10_beginAct : ByteArray := prog_1_method_53_code
def yX10_beginAct : MethodName := ⟨RX10, "beginAct", "()V"⟩
abbrev cX10_wayStart : ByteArray := prog_1_method_54_code
def yX10_wayStart : MethodName := ⟨RX10, "wayStart", "()I"⟩
abbrev cX10_wayEnd : ByteArray := prog_1_method_55_code
def yX10_wayEnd : MethodName := ⟨RX10, "wayEnd", "()I"⟩
abbrev cX10_freshRoutes : ByteArray := prog_1_method_56_code
def yX10_freshRoutes : MethodName := ⟨RX10, "freshRoutes", "()LLabelStacks$Routes;"⟩
abbrev cX10_planned : ByteArray := prog_1_method_57_code
def yX10_planned : MethodName := ⟨RX10, "planned", "(LLabelStacks$Row;)Z"⟩
abbrev cX10_sent : ByteArray := prog_1_method_58_code
def yX10_sent : MethodName := ⟨RX10, "sent", "(I)Z"⟩
abbrev cX10_sendDemand : ByteArray := prog_1_method_59_code
def yX10_sendDemand : MethodName := ⟨RX10, "sendDemand", "(I)V"⟩
abbrev cX10_layLoads : ByteArray := prog_1_method_60_code
def yX10_layLoads : MethodName := ⟨RX10, "layLoads", "()V"⟩
abbrev cX10_foundRound : ByteArray := prog_1_method_61_code
def yX10_foundRound : MethodName := ⟨RX10, "foundRound", "(II)Z"⟩
abbrev cX10_lastAlike : ByteArray := prog_1_method_62_code
def yX10_lastAlike : MethodName := ⟨RX10, "lastAlike", "(II)I"⟩
abbrev cX10_fewestAt : ByteArray := prog_1_method_63_code
def yX10_fewestAt : MethodName := ⟨RX10, "fewestAt", "(II)I"⟩
def RX11 : String := "LabelStacksModel"
def TX11 : u_T := fun k => match k with
  | 0 => ("LabelStacksModel", "told", "I", false)
  | 1 => ("LabelStacksModel", "now", "[I", true)
  | 2 => ("LabelStacksModel", "acts", "[I", true)
  | 3 => ("LabelStacksModel", "actMany", "I", false)
  | 4 => ("LabelStacksModel", "depth", "I", false)
  | 5 => ("LabelStacksModel", "stack", "[I", true)
  | 6 => ("LabelStacksModel", "stacked", "I", false)
  | 7 => ("LabelStacksModel", "isLaid", "Z", false)
  | 8 => ("LabelStacksModel", "far", "[I", true)
  | 9 => ("LabelStacksModel", "paths", "[J", true)
  | 10 => ("LabelStacksModel", "sumAbove", "J", false)
  | 11 => ("LabelStacksModel", "sumBelow", "J", false)
  | 12 => ("LabelStacksModel", "held", "[I", true)
  | 13 => ("LabelStacksModel", "heldMany", "I", false)
  | 14 => ("LabelStacksModel", "at", "I", false)
  | 15 => ("LabelStacksModel", "came", "I", false)
  | 16 => ("LabelStacksModel", "isDropped", "Z", false)
  | 17 => ("LabelStacksModel", "isExact", "Z", false)
  | 18 => ("LabelStacksModel", "high", "I", false)
  | 19 => ("LabelStacksModel", "course", "[I", true)
  | 20 => ("LabelStacksModel", "courseLong", "I", false)
  | 21 => ("LabelStacksModel", "isShared", "Z", false)
  | 22 => ("LabelStacksModel", "shareAbove", "[J", true)
  | 23 => ("LabelStacksModel", "shareBelow", "[J", true)
  | 24 => ("LabelStacksModel", "partAbove", "[J", true)
  | 25 => ("LabelStacksModel", "partBelow", "[J", true)
  | 26 => ("LabelStacksModel", "way", "[I", true)
  | 27 => ("LabelStacksModel", "long0", "I", false)
  | 28 => ("LabelStacksModel", "fewest", "[I", true)
  | 29 => ("LabelStacksModel", "first", "[I", true)
  | 30 => ("LabelStacksModel", "cover", "[I", true)
  | 31 => ("LabelStacksModel", "one", "[I", true)
  | 32 => ("LabelStacksModel", "loadAbove", "[J", true)
  | 33 => ("LabelStacksModel", "loadBelow", "[J", true)
  | 34 => ("LabelStacksModel", "farWithout", "[I", true)
  | 35 => ("LabelStacksModel", "counted", "I", false)
  | 36 => ("LabelStacksModel", "tape", "[I", true)
  | 37 => ("LabelStacksModel", "taped", "I", false)
  | 38 => ("LabelStacksModel", "faultKind", "I", false)
  | 39 => ("LabelStacksModel", "faultPlace", "I", false)
  | 40 => ("LabelStacksModel", "spot", "I", false)
  | 41 => ("LabelStacksModel", "stop", "I", false)
  | 42 => ("LabelStacksModel", "boundTold", "I", false)
  | 43 => ("LabelStacksModel", "draft", "[I", true)
  | 44 => ("LabelStacksModel", "hasImage", "Z", false)
  | _ => ("LabelStacksModel", "images", "[I", true)
def tyX11 : Nat → FieldType := fun k => match k with
  | 0 => .int
  | 1 => .array .int
  | 2 => .array .int
  | 3 => .int
  | 4 => .int
  | 5 => .array .int
  | 6 => .int
  | 7 => .boolean
  | 8 => .array .int
  | 9 => .array .long
  | 10 => .long
  | 11 => .long
  | 12 => .array .int
  | 13 => .int
  | 14 => .int
  | 15 => .int
  | 16 => .boolean
  | 17 => .boolean
  | 18 => .int
  | 19 => .array .int
  | 20 => .int
  | 21 => .boolean
  | 22 => .array .long
  | 23 => .array .long
  | 24 => .array .long
  | 25 => .array .long
  | 26 => .array .int
  | 27 => .int
  | 28 => .array .int
  | 29 => .array .int
  | 30 => .array .int
  | 31 => .array .int
  | 32 => .array .long
  | 33 => .array .long
  | 34 => .array .int
  | 35 => .int
  | 36 => .array .int
  | 37 => .int
  | 38 => .int
  | 39 => .int
  | 40 => .int
  | 41 => .int
  | 42 => .int
  | 43 => .array .int
  | 44 => .boolean
  | _ => .array .int
abbrev wsX110 : List Cond := u_ws RX11 TX11 46
theorem nmX11 : ∀ a, a < 46 → ∀ b, b < 46 → a ≠ b → (TX11 a).2.1 ≠ (TX11 b).2.1 := by decide +kernel
theorem tyX11_ok : ∀ k, k < 46 → parseFieldDescriptor (TX11 k).2.2.1 = some (tyX11 k) := by decide +kernel
abbrev cX11_init : ByteArray := prog_13_method_1_code
def yX11_init : MethodName := ⟨RX11, "<init>", "()V"⟩
abbrev cX11_isIn : ByteArray := prog_13_method_3_code
def yX11_isIn : MethodName := ⟨RX11, "isIn", "(JJJ)Z"⟩
abbrev cX11_n : ByteArray := prog_13_method_4_code
def yX11_n : MethodName := ⟨RX11, "n", "()I"⟩
abbrev cX11_links : ByteArray := prog_13_method_5_code
def yX11_links : MethodName := ⟨RX11, "links", "()I"⟩
abbrev cX11_from : ByteArray := prog_13_method_6_code
def yX11_from : MethodName := ⟨RX11, "from", "(I)I"⟩
abbrev cX11_to : ByteArray := prog_13_method_7_code
def yX11_to : MethodName := ⟨RX11, "to", "(I)I"⟩
abbrev cX11_costOf : ByteArray := prog_13_method_8_code
def yX11_costOf : MethodName := ⟨RX11, "costOf", "(I)I"⟩
abbrev cX11_isUp : ByteArray := prog_13_method_9_code
def yX11_isUp : MethodName := ⟨RX11, "isUp", "(I)Z"⟩
abbrev cX11_isNode : ByteArray := prog_13_method_10_code
def yX11_isNode : MethodName := ⟨RX11, "isNode", "(I)Z"⟩
abbrev cX11_isLink : ByteArray := prog_13_method_11_code
def yX11_isLink : MethodName := ⟨RX11, "isLink", "(I)Z"⟩
abbrev cX11_keepsAct : ByteArray := prog_13_method_12_code
def yX11_keepsAct : MethodName := ⟨RX11, "keepsAct", "()V"⟩
abbrev cX11_undo : ByteArray := prog_13_method_13_code
def yX11_undo : MethodName := ⟨RX11, "undo", "()I"⟩
abbrev cX11_clears : ByteArray := prog_13_method_14_code
def yX11_clears : MethodName := ⟨RX11, "clears", "(I)V"⟩
abbrev cX11_nodes : ByteArray := prog_13_method_15_code
def yX11_nodes : MethodName := ⟨RX11, "nodes", "(I)Z"⟩
abbrev cX11_lays : ByteArray := prog_13_method_16_code
def yX11_lays : MethodName := ⟨RX11, "lays", "(IIIZ)V"⟩
abbrev cX11_link : ByteArray := prog_13_method_17_code
def yX11_link : MethodName := ⟨RX11, "link", "(III)I"⟩
abbrev cX11_state : ByteArray := prog_13_method_18_code
def yX11_state : MethodName := ⟨RX11, "state", "(IZ)I"⟩
abbrev cX11_cost : ByteArray := prog_13_method_19_code
def yX11_cost : MethodName := ⟨RX11, "cost", "(II)I"⟩
abbrev cX11_isBinding : ByteArray := prog_13_method_20_code
def yX11_isBinding : MethodName := ⟨RX11, "isBinding", "(I)Z"⟩
abbrev cX11_isPlain : ByteArray := prog_13_method_21_code
def yX11_isPlain : MethodName := ⟨RX11, "isPlain", "()Z"⟩
abbrev cX11_bind : ByteArray := prog_13_method_22_code
def yX11_bind : MethodName := ⟨RX11, "bind", "(II)Z"⟩
abbrev cX11_unbind : ByteArray := prog_13_method_23_code
def yX11_unbind : MethodName := ⟨RX11, "unbind", "(I)Z"⟩
abbrev cX11_depth : ByteArray := prog_13_method_24_code
def yX11_depth : MethodName := ⟨RX11, "depth", "(I)Z"⟩
abbrev cX11_wayLong : ByteArray := prog_13_method_25_code
def yX11_wayLong : MethodName := ⟨RX11, "wayLong", "()I"⟩
abbrev cX11_wayLink : ByteArray := prog_13_method_26_code
def yX11_wayLink : MethodName := ⟨RX11, "wayLink", "(I)I"⟩
abbrev cX11_on : ByteArray := prog_13_method_27_code
def yX11_on : MethodName := ⟨RX11, "on", "(I)I"⟩
abbrev cX11_off : ByteArray := prog_13_method_28_code
def yX11_off : MethodName := ⟨RX11, "off", "(I)I"⟩
abbrev cX11_isLabel : ByteArray := prog_13_method_29_code
def yX11_isLabel : MethodName := ⟨RX11, "isLabel", "(I)Z"⟩
abbrev cX11_label : ByteArray := prog_13_method_30_code
def yX11_label : MethodName := ⟨RX11, "label", "(I)I"⟩
abbrev cX11_pop : ByteArray := prog_13_method_31_code
def yX11_pop : MethodName := ⟨RX11, "pop", "(I)I"⟩
abbrev cX11_far2 : ByteArray := prog_13_method_32_code
def yX11_far2 : MethodName := ⟨RX11, "far2", "(II)I"⟩
abbrev cX11_isOn : ByteArray := prog_13_method_33_code
def yX11_isOn : MethodName := ⟨RX11, "isOn", "(III)Z"⟩
abbrev cX11_laysFar : ByteArray := prog_13_method_34_code
def yX11_laysFar : MethodName := ⟨RX11, "laysFar", "()V"⟩
abbrev cX11_laysPaths : ByteArray := prog_13_method_35_code
def yX11_laysPaths : MethodName := ⟨RX11, "laysPaths", "(I)V"⟩
abbrev cX11_far : ByteArray := prog_13_method_36_code
def yX11_far : MethodName := ⟨RX11, "far", "(II)I"⟩
abbrev cX11_paths : ByteArray := prog_13_method_37_code
def yX11_paths : MethodName := ⟨RX11, "paths", "(II)J"⟩
abbrev cX11_next : ByteArray := prog_13_method_38_code
def yX11_next : MethodName := ⟨RX11, "next", "(II)I"⟩
abbrev cX11_common : ByteArray := prog_13_method_39_code
def yX11_common : MethodName := ⟨RX11, "common", "(JJ)J"⟩
abbrev cX11_adds : ByteArray := prog_13_method_40_code
def yX11_adds : MethodName := ⟨RX11, "adds", "(JJJJ)V"⟩
abbrev cX11_begins : ByteArray := prog_13_method_41_code
def yX11_begins : MethodName := ⟨RX11, "begins", "(I)V"⟩
abbrev cX11_holds : ByteArray := prog_13_method_42_code
def yX11_holds : MethodName := ⟨RX11, "holds", "([III)V"⟩
abbrev cX11_goesAlong : ByteArray := prog_13_method_43_code
def yX11_goesAlong : MethodName := ⟨RX11, "goesAlong", "(I)V"⟩
abbrev cX11_shares : ByteArray := prog_13_method_44_code
def yX11_shares : MethodName := ⟨RX11, "shares", "(IJJ)V"⟩
abbrev cX11_parts : ByteArray := prog_13_method_45_code
def yX11_parts : MethodName := ⟨RX11, "parts", "(I)V"⟩
abbrev cX11_partsFrom : ByteArray := prog_13_method_46_code
def yX11_partsFrom : MethodName := ⟨RX11, "partsFrom", "(II)V"⟩
abbrev cX11_goesTo : ByteArray := prog_13_method_47_code
def yX11_goesTo : MethodName := ⟨RX11, "goesTo", "(I)V"⟩
abbrev cX11_goesBy : ByteArray := prog_13_method_48_code
def yX11_goesBy : MethodName := ⟨RX11, "goesBy", "(I)V"⟩
abbrev cX11_opens : ByteArray := prog_13_method_49_code
def yX11_opens : MethodName := ⟨RX11, "opens", "(I)V"⟩
abbrev cX11_goesAll : ByteArray := prog_13_method_50_code
def yX11_goesAll : MethodName := ⟨RX11, "goesAll", "()V"⟩
abbrev cX11_goes : ByteArray := prog_13_method_51_code
def yX11_goes : MethodName := ⟨RX11, "goes", "(I[IIIZ)V"⟩
abbrev cX11_endOf : ByteArray := prog_13_method_52_code
def yX11_endOf : MethodName := ⟨RX11, "endOf", "()I"⟩
abbrev cX11_ends : ByteArray := prog_13_method_53_code
def yX11_ends : MethodName := ⟨RX11, "ends", "(I)I"⟩
abbrev cX11_exact : ByteArray := prog_13_method_54_code
def yX11_exact : MethodName := ⟨RX11, "exact", "(I)I"⟩
abbrev cX11_high : ByteArray := prog_13_method_55_code
def yX11_high : MethodName := ⟨RX11, "high", "(I)I"⟩
abbrev cX11_course : ByteArray := prog_13_method_56_code
def yX11_course : MethodName := ⟨RX11, "course", "(I)I"⟩
abbrev cX11_share : ByteArray := prog_13_method_57_code
def yX11_share : MethodName := ⟨RX11, "share", "(III)J"⟩
abbrev cX11_nodeAt : ByteArray := prog_13_method_58_code
def yX11_nodeAt : MethodName := ⟨RX11, "nodeAt", "(I)I"⟩
abbrev cX11_covered : ByteArray := prog_13_method_59_code
def yX11_covered : MethodName := ⟨RX11, "covered", "(I)I"⟩
abbrev cX11_coveredBy : ByteArray := prog_13_method_60_code
def yX11_coveredBy : MethodName := ⟨RX11, "coveredBy", "(II)I"⟩
abbrev cX11_coveredByBinding : ByteArray := prog_13_method_61_code
def yX11_coveredByBinding : MethodName := ⟨RX11, "coveredByBinding", "(II)I"⟩
abbrev cX11_tries : ByteArray := prog_13_method_62_code
def yX11_tries : MethodName := ⟨RX11, "tries", "(IIII)V"⟩
abbrev cX11_laysFewest : ByteArray := prog_13_method_63_code
def yX11_laysFewest : MethodName := ⟨RX11, "laysFewest", "()V"⟩
abbrev cX11_takesWay : ByteArray := prog_13_method_64_code
def yX11_takesWay : MethodName := ⟨RX11, "takesWay", "()V"⟩
abbrev cX11_writes : ByteArray := prog_13_method_65_code
def yX11_writes : MethodName := ⟨RX11, "writes", "()I"⟩
abbrev cX11_write : ByteArray := prog_13_method_66_code
def yX11_write : MethodName := ⟨RX11, "write", "()I"⟩
abbrev cX11_witness : ByteArray := prog_13_method_67_code
def yX11_witness : MethodName := ⟨RX11, "witness", "()I"⟩
abbrev cX11_coveredByNode : ByteArray := prog_13_method_68_code
def yX11_coveredByNode : MethodName := ⟨RX11, "coveredByNode", "(I)I"⟩
abbrev cX11_greedy : ByteArray := prog_13_method_69_code
def yX11_greedy : MethodName := ⟨RX11, "greedy", "()I"⟩
abbrev cX11_covers : ByteArray := prog_13_method_70_code
def yX11_covers : MethodName := ⟨RX11, "covers", "(I)I"⟩
abbrev cX11_isDemand : ByteArray := prog_13_method_71_code
def yX11_isDemand : MethodName := ⟨RX11, "isDemand", "(I)Z"⟩
abbrev cX11_demand : ByteArray := prog_13_method_72_code
def yX11_demand : MethodName := ⟨RX11, "demand", "(III)Z"⟩
abbrev cX11_runsDemand : ByteArray := prog_13_method_73_code
def yX11_runsDemand : MethodName := ⟨RX11, "runsDemand", "(IZ)V"⟩
abbrev cX11_laysLoads : ByteArray := prog_13_method_74_code
def yX11_laysLoads : MethodName := ⟨RX11, "laysLoads", "()V"⟩
abbrev cX11_load : ByteArray := prog_13_method_75_code
def yX11_load : MethodName := ⟨RX11, "load", "(II)J"⟩
abbrev cX11_isMore : ByteArray := prog_13_method_76_code
def yX11_isMore : MethodName := ⟨RX11, "isMore", "(JJJJ)Z"⟩
abbrev cX11_heaviest : ByteArray := prog_13_method_77_code
def yX11_heaviest : MethodName := ⟨RX11, "heaviest", "()I"⟩
abbrev cX11_laysWithout : ByteArray := prog_13_method_78_code
def yX11_laysWithout : MethodName := ⟨RX11, "laysWithout", "(II)V"⟩
abbrev cX11_laysRepair : ByteArray := prog_13_method_79_code
def yX11_laysRepair : MethodName := ⟨RX11, "laysRepair", "(II)Z"⟩
abbrev cX11_repair : ByteArray := prog_13_method_80_code
def yX11_repair : MethodName := ⟨RX11, "repair", "(II)I"⟩
abbrev cX11_guards : ByteArray := prog_13_method_81_code
def yX11_guards : MethodName := ⟨RX11, "guards", "(I)I"⟩
abbrev cX11_ways : ByteArray := prog_13_method_82_code
def yX11_ways : MethodName := ⟨RX11, "ways", "(IIIII)V"⟩
abbrev cX11_writable : ByteArray := prog_13_method_83_code
def yX11_writable : MethodName := ⟨RX11, "writable", "(IIII)I"⟩
abbrev cX11_fewestBy : ByteArray := prog_13_method_84_code
def yX11_fewestBy : MethodName := ⟨RX11, "fewestBy", "(II)I"⟩
abbrev cX11_stays : ByteArray := prog_13_method_85_code
def yX11_stays : MethodName := ⟨RX11, "stays", "(II)I"⟩
abbrev cX11_isKeptAs : ByteArray := prog_13_method_86_code
def yX11_isKeptAs : MethodName := ⟨RX11, "isKeptAs", "(I)Z"⟩
abbrev cX11_keep : ByteArray := prog_13_method_87_code
def yX11_keep : MethodName := ⟨RX11, "keep", "()I"⟩
abbrev cX11_take : ByteArray := prog_13_method_88_code
def yX11_take : MethodName := ⟨RX11, "take", "(I)I"⟩
abbrev cX11_types : ByteArray := prog_13_method_89_code
def yX11_types : MethodName := ⟨RX11, "types", "(I)V"⟩
abbrev cX11_feed : ByteArray := prog_13_method_90_code
def yX11_feed : MethodName := ⟨RX11, "feed", "(IIIII)I"⟩
abbrev cX11_end : ByteArray := prog_13_method_91_code
def yX11_end : MethodName := ⟨RX11, "end", "(I)Z"⟩
abbrev cX11_here : ByteArray := prog_13_method_92_code
def yX11_here : MethodName := ⟨RX11, "here", "()I"⟩
abbrev cX11_behindBlanks : ByteArray := prog_13_method_93_code
def yX11_behindBlanks : MethodName := ⟨RX11, "behindBlanks", "()I"⟩
abbrev cX11_isDigit : ByteArray := prog_13_method_94_code
def yX11_isDigit : MethodName := ⟨RX11, "isDigit", "(I)Z"⟩
abbrev cX11_isWrong : ByteArray := prog_13_method_95_code
def yX11_isWrong : MethodName := ⟨RX11, "isWrong", "()Z"⟩
abbrev cX11_errs : ByteArray := prog_13_method_96_code
def yX11_errs : MethodName := ⟨RX11, "errs", "(II)I"⟩
abbrev cX11_letters : ByteArray := prog_13_method_97_code
def yX11_letters : MethodName := ⟨RX11, "letters", "()I"⟩
abbrev cX11_takesWord : ByteArray := prog_13_method_98_code
def yX11_takesWord : MethodName := ⟨RX11, "takesWord", "(Ljava/lang/String;)Z"⟩
abbrev cX11_digits : ByteArray := prog_13_method_99_code
def yX11_digits : MethodName := ⟨RX11, "digits", "(II)I"⟩
abbrev cX11_number : ByteArray := prog_13_method_100_code
def yX11_number : MethodName := ⟨RX11, "number", "(II)I"⟩
abbrev cX11_must : ByteArray := prog_13_method_101_code
def yX11_must : MethodName := ⟨RX11, "must", "(I)V"⟩
abbrev cX11_readLink : ByteArray := prog_13_method_102_code
def yX11_readLink : MethodName := ⟨RX11, "readLink", "(I)V"⟩
abbrev cX11_readLabel : ByteArray := prog_13_method_103_code
def yX11_readLabel : MethodName := ⟨RX11, "readLabel", "()I"⟩
abbrev cX11_readBinding : ByteArray := prog_13_method_104_code
def yX11_readBinding : MethodName := ⟨RX11, "readBinding", "()V"⟩
abbrev cX11_labels : ByteArray := prog_13_method_105_code
def yX11_labels : MethodName := ⟨RX11, "labels", "(IIII)I"⟩
abbrev cX11_text : ByteArray := prog_13_method_106_code
def yX11_text : MethodName := ⟨RX11, "text", "()I"⟩
abbrev cX11_fault : ByteArray := prog_13_method_107_code
def yX11_fault : MethodName := ⟨RX11, "fault", "(I)I"⟩
abbrev cX11_at : ByteArray := prog_13_method_108_code
def yX11_at : MethodName := ⟨RX11, "at", "(II)I"⟩
abbrev cX11_linkOf : ByteArray := prog_13_method_109_code
def yX11_linkOf : MethodName := ⟨RX11, "linkOf", "(II)I"⟩
abbrev cX11_binding : ByteArray := prog_13_method_110_code
def yX11_binding : MethodName := ⟨RX11, "binding", "(II)I"⟩
abbrev cX11_demandOf : ByteArray := prog_13_method_111_code
def yX11_demandOf : MethodName := ⟨RX11, "demandOf", "(II)I"⟩
abbrev cX11_image : ByteArray := prog_13_method_112_code
def yX11_image : MethodName := ⟨RX11, "image", "(Z)Z"⟩
abbrev cX11_setOf : ByteArray := prog_13_method_113_code
def yX11_setOf : MethodName := ⟨RX11, "setOf", "(II)I"⟩
abbrev cX11_costs : ByteArray := prog_13_method_114_code
def yX11_costs : MethodName := ⟨RX11, "costs", "()I"⟩
abbrev cX11_look : ByteArray := prog_13_method_115_code
def yX11_look : MethodName := ⟨RX11, "look", "(I)I"⟩
def RJx145de : String := "java/io/Serializable"
def TJx145de : u_T := fun k => match k with
  | _ => ("", "", "", false)
def tyJx145de : Nat → FieldType := fun k => match k with
  | _ => .int
abbrev wsJx145de0 : List Cond := u_ws RJx145de TJx145de 0
theorem nmJx145de : ∀ a, a < 0 → ∀ b, b < 0 → a ≠ b → (TJx145de a).2.1 ≠ (TJx145de b).2.1 := by decide +kernel
theorem tyJx145de_ok : ∀ k, k < 0 → parseFieldDescriptor (TJx145de k).2.2.1 = some (tyJx145de k) := by decide +kernel
def RJx9f9b0 : String := "java/lang/CharSequence"
def TJx9f9b0 : u_T := fun k => match k with
  | _ => ("", "", "", false)
def tyJx9f9b0 : Nat → FieldType := fun k => match k with
  | _ => .int
abbrev wsJx9f9b00 : List Cond := u_ws RJx9f9b0 TJx9f9b0 0
theorem nmJx9f9b0 : ∀ a, a < 0 → ∀ b, b < 0 → a ≠ b → (TJx9f9b0 a).2.1 ≠ (TJx9f9b0 b).2.1 := by decide +kernel
theorem tyJx9f9b0_ok : ∀ k, k < 0 → parseFieldDescriptor (TJx9f9b0 k).2.2.1 = some (tyJx9f9b0 k) := by decide +kernel
def RJxb160c : String := "java/lang/Comparable"
def TJxb160c : u_T := fun k => match k with
  | _ => ("", "", "", false)
def tyJxb160c : Nat → FieldType := fun k => match k with
  | _ => .int
abbrev wsJxb160c0 : List Cond := u_ws RJxb160c TJxb160c 0
theorem nmJxb160c : ∀ a, a < 0 → ∀ b, b < 0 → a ≠ b → (TJxb160c a).2.1 ≠ (TJxb160c b).2.1 := by decide +kernel
theorem tyJxb160c_ok : ∀ k, k < 0 → parseFieldDescriptor (TJxb160c k).2.2.1 = some (tyJxb160c k) := by decide +kernel
def RJ6 : String := "java/lang/Integer"
def TJ6 : u_T := fun k => match k with
  | _ => ("", "", "", false)
def tyJ6 : Nat → FieldType := fun k => match k with
  | _ => .int
abbrev wsJ60 : List Cond := u_ws RJ6 TJ6 0
theorem nmJ6 : ∀ a, a < 0 → ∀ b, b < 0 → a ≠ b → (TJ6 a).2.1 ≠ (TJ6 b).2.1 := by decide +kernel
theorem tyJ6_ok : ∀ k, k < 0 → parseFieldDescriptor (TJ6 k).2.2.1 = some (tyJ6 k) := by decide +kernel
abbrev cJ6_bitCount_0f7a4 : ByteArray := prog_14_method_49_code
def yJ6_bitCount_0f7a4 : MethodName := ⟨RJ6, "bitCount", "(I)I"⟩
def RJ9 : String := "java/lang/Math"
def TJ9 : u_T := fun k => match k with
  | _ => ("", "", "", false)
def tyJ9 : Nat → FieldType := fun k => match k with
  | _ => .int
abbrev wsJ90 : List Cond := u_ws RJ9 TJ9 0
theorem nmJ9 : ∀ a, a < 0 → ∀ b, b < 0 → a ≠ b → (TJ9 a).2.1 ≠ (TJ9 b).2.1 := by decide +kernel
theorem tyJ9_ok : ∀ k, k < 0 → parseFieldDescriptor (TJ9 k).2.2.1 = some (tyJ9 k) := by decide +kernel
abbrev cJ9_max_7cf53 : ByteArray := prog_15_method_65_code
def yJ9_max_7cf53 : MethodName := ⟨RJ9, "max", "(II)I"⟩
abbrev cJ9_min_7cf53 : ByteArray := prog_15_method_69_code
def yJ9_min_7cf53 : MethodName := ⟨RJ9, "min", "(II)I"⟩
def RJ0 : String := "java/lang/String"
def TJ0 : u_T := fun k => match k with
  | _ => ("", "", "", false)
def tyJ0 : Nat → FieldType := fun k => match k with
  | _ => .int
abbrev wsJ00 : List Cond := u_ws RJ0 TJ0 0
theorem nmJ0 : ∀ a, a < 0 → ∀ b, b < 0 → a ≠ b → (TJ0 a).2.1 ≠ (TJ0 b).2.1 := by decide +kernel
theorem tyJ0_ok : ∀ k, k < 0 → parseFieldDescriptor (TJ0 k).2.2.1 = some (tyJ0 k) := by decide +kernel
abbrev cJ0_length_8abf5 : ByteArray := prog_16_method_54_code
def yJ0_length_8abf5 : MethodName := ⟨RJ0, "length", "()I"⟩
abbrev cJ0_charAt_5068e : ByteArray := prog_16_method_56_code
def yJ0_charAt_5068e : MethodName := ⟨RJ0, "charAt", "(I)C"⟩
abbrev cJ0_coder_7d493 : ByteArray := prog_16_method_152_code
def yJ0_coder_7d493 : MethodName := ⟨RJ0, "coder", "()B"⟩
abbrev cJ0_isLatin1_aae02 : ByteArray := prog_16_method_154_code
def yJ0_isLatin1_aae02 : MethodName := ⟨RJ0, "isLatin1", "()Z"⟩
abbrev cJ0_checkIndex_df160 : ByteArray := prog_16_method_155_code
def yJ0_checkIndex_df160 : MethodName := ⟨RJ0, "checkIndex", "(II)V"⟩
def RJ1 : String := "java/lang/StringLatin1"
def TJ1 : u_T := fun k => match k with
  | _ => ("", "", "", false)
def tyJ1 : Nat → FieldType := fun k => match k with
  | _ => .int
abbrev wsJ10 : List Cond := u_ws RJ1 TJ1 0
theorem nmJ1 : ∀ a, a < 0 → ∀ b, b < 0 → a ≠ b → (TJ1 a).2.1 ≠ (TJ1 b).2.1 := by decide +kernel
theorem tyJ1_ok : ∀ k, k < 0 → parseFieldDescriptor (TJ1 k).2.2.1 = some (tyJ1 k) := by decide +kernel
abbrev cJ1_charAt_3b067 : ByteArray := prog_17_method_2_code
def yJ1_charAt_3b067 : MethodName := ⟨RJ1, "charAt", "([BI)C"⟩
def RJ2 : String := "java/lang/StringUTF16"
def TJ2 : u_T := fun k => match k with
  | _ => ("", "", "", false)
def tyJ2 : Nat → FieldType := fun k => match k with
  | _ => .int
abbrev wsJ20 : List Cond := u_ws RJ2 TJ2 0
theorem nmJ2 : ∀ a, a < 0 → ∀ b, b < 0 → a ≠ b → (TJ2 a).2.1 ≠ (TJ2 b).2.1 := by decide +kernel
theorem tyJ2_ok : ∀ k, k < 0 → parseFieldDescriptor (TJ2 k).2.2.1 = some (tyJ2 k) := by decide +kernel
abbrev cJ2_getChar_3b067 : ByteArray := prog_18_method_5_code
def yJ2_getChar_3b067 : MethodName := ⟨RJ2, "getChar", "([BI)C"⟩
abbrev cJ2_length_9d52b : ByteArray := prog_18_method_6_code
def yJ2_length_9d52b : MethodName := ⟨RJ2, "length", "([B)I"⟩
abbrev cJ2_charAt_3b067 : ByteArray := prog_18_method_83_code
def yJ2_charAt_3b067 : MethodName := ⟨RJ2, "charAt", "([BI)C"⟩
abbrev cJ2_checkIndex_2214a : ByteArray := prog_18_method_91_code
def yJ2_checkIndex_2214a : MethodName := ⟨RJ2, "checkIndex", "(I[B)V"⟩
def RJ10 : String := "java/lang/System"
def TJ10 : u_T := fun k => match k with
  | _ => ("", "", "", false)
def tyJ10 : Nat → FieldType := fun k => match k with
  | _ => .int
abbrev wsJ100 : List Cond := u_ws RJ10 TJ10 0
theorem nmJ10 : ∀ a, a < 0 → ∀ b, b < 0 → a ≠ b → (TJ10 a).2.1 ≠ (TJ10 b).2.1 := by decide +kernel
theorem tyJ10_ok : ∀ k, k < 0 → parseFieldDescriptor (TJ10 k).2.2.1 = some (tyJ10 k) := by decide +kernel
def RJxfd54e : String := "java/lang/constant/Constable"
def TJxfd54e : u_T := fun k => match k with
  | _ => ("", "", "", false)
def tyJxfd54e : Nat → FieldType := fun k => match k with
  | _ => .int
abbrev wsJxfd54e0 : List Cond := u_ws RJxfd54e TJxfd54e 0
theorem nmJxfd54e : ∀ a, a < 0 → ∀ b, b < 0 → a ≠ b → (TJxfd54e a).2.1 ≠ (TJxfd54e b).2.1 := by decide +kernel
theorem tyJxfd54e_ok : ∀ k, k < 0 → parseFieldDescriptor (TJxfd54e k).2.2.1 = some (tyJxfd54e k) := by decide +kernel
def RJx3cf43 : String := "java/lang/constant/ConstantDesc"
def TJx3cf43 : u_T := fun k => match k with
  | _ => ("", "", "", false)
def tyJx3cf43 : Nat → FieldType := fun k => match k with
  | _ => .int
abbrev wsJx3cf430 : List Cond := u_ws RJx3cf43 TJx3cf43 0
theorem nmJx3cf43 : ∀ a, a < 0 → ∀ b, b < 0 → a ≠ b → (TJx3cf43 a).2.1 ≠ (TJx3cf43 b).2.1 := by decide +kernel
theorem tyJx3cf43_ok : ∀ k, k < 0 → parseFieldDescriptor (TJx3cf43 k).2.2.1 = some (tyJx3cf43 k) := by decide +kernel
def RJ7 : String := "java/util/Arrays"
def TJ7 : u_T := fun k => match k with
  | _ => ("", "", "", false)
def tyJ7 : Nat → FieldType := fun k => match k with
  | _ => .int
abbrev wsJ70 : List Cond := u_ws RJ7 TJ7 0
theorem nmJ7 : ∀ a, a < 0 → ∀ b, b < 0 → a ≠ b → (TJ7 a).2.1 ≠ (TJ7 b).2.1 := by decide +kernel
theorem tyJ7_ok : ∀ k, k < 0 → parseFieldDescriptor (TJ7 k).2.2.1 = some (tyJ7 k) := by decide +kernel
abbrev cJ7_fill_d0a16 : ByteArray := prog_20_method_101_code
def yJ7_fill_d0a16 : MethodName := ⟨RJ7, "fill", "([JJ)V"⟩
abbrev cJ7_fill_53178 : ByteArray := prog_20_method_103_code
def yJ7_fill_53178 : MethodName := ⟨RJ7, "fill", "([II)V"⟩
def RJ3 : String := "jdk/internal/util/Preconditions"
def TJ3 : u_T := fun k => match k with
  | _ => ("", "", "", false)
def tyJ3 : Nat → FieldType := fun k => match k with
  | _ => .int
abbrev wsJ30 : List Cond := u_ws RJ3 TJ3 0
theorem nmJ3 : ∀ a, a < 0 → ∀ b, b < 0 → a ≠ b → (TJ3 a).2.1 ≠ (TJ3 b).2.1 := by decide +kernel
theorem tyJ3_ok : ∀ k, k < 0 → parseFieldDescriptor (TJ3 k).2.2.1 = some (tyJ3 k) := by decide +kernel
abbrev cJ3_checkIndex_8e157 : ByteArray := prog_21_method_11_code
def yJ3_checkIndex_8e157 : MethodName := ⟨RJ3, "checkIndex", "(IILjava/util/function/BiFunction;)I"⟩
def RL : String := "LabelStacksLaw"
abbrev cL_law : ByteArray := code
def yL_law : MethodName := ⟨RL, "law", "([I)Z"⟩
abbrev vwCl : List vw_C := [(RX0, TX0, 2), (RX1, TX1, 2), (RX2, TX2, 8), (RX3, TX3, 12), (RX4, TX4, 2), (RX5, TX5, 2), (RX6, TX6, 3), (RX7, TX7, 7), (RX8, TX8, 6), (RX9, TX9, 9), (RX10, TX10, 17), (RX11, TX11, 46)]
